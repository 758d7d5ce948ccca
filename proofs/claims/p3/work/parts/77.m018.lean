
def o_Em_joinBlocksAt_at_gp_9 : or_T := (27, 22, [(0, (2, 0, 0, [1])), (1, (0, 0, 24, [])), (2, (0, 0, 72, [])), (3, (2, 0, 0, [149])), (4, (2, 0, 0, [1])), (5, (0, 0, 24, [])), (6, (0, 1, 72, [])), (7, (0, 0, 71, [])), (8, (0, 0, 71, [])), (9, (0, -1, 71, [])), (10, (0, 0, 71, [])), (11, (0, 0, 71, [])), (12, (2, 0, 0, [149])), (13, (0, 72, 72, [])), (14, (0, -1, -1, [])), (15, (0, 72, 72, [])), (16, (2, 0, 0, [36])), (17, (0, 1, 72, [])), (18, (2, 0, 0, [33])), (19, (0, 0, 142, [])), (20, (0, -1, 71, [])), (21, (0, 1, 72, []))], [(9, [16, 4], [19]), (6, [21, 11], [1]), (7, [20, 9], [1]), (10, [20, 18, 19], []), (9, [18, 4], [12]), (6, [17, 7], [1]), (20, [4, 12, 5, 8, 7, 10, 11], [60, 1, 3, 628, 1006, 2, 1007, 1008]), (20, [12, 5], [60, 1, 2, 629, 5, 9, 12]), (24, [3, 12], []), (20, [5, 12], [50, 1, 0, 1005, 2, 6, 0, 2, 0, 0, 1, 0, 0, 6, 4, 2, 1, 0, 0, 1, 2, 1, 5]), (20, [12], [60, 2, 3, 595, 5, 6, 7, 8, 9]), (20, [4, 12, 6], [60, 1, 3, 598, 1006, 2, 1007, 1008]), (24, [0, 4], []), (24, [1, 5], []), (24, [2, 6], []), (100, [16, 7, 10], []), (7, [7, 15], [2]), (7, [10, 14], [1]), (7, [11, 13], [2]), (20, [4, 12, 5, 8, 7, 10, 11], [60, 1, 3, 628, 1006, 2, 1007, 1008]), (20, [12, 5], [60, 1, 2, 629, 5, 9, 12]), (20, [5, 12], [50, 1, 0, 1005, 2, 6, 0, 2, 0, 0, 1, 0, 0, 6, 4, 2, 1, 0, 0, 1, 2, 1, 5]), (20, [12], [60, 2, 3, 595, 5, 6, 7, 8, 9]), (20, [4, 12, 6], [60, 1, 3, 598, 1006, 2, 1007, 1008])], [], [], [(20, [4, 12, 5, 8, 17, 20, 21], [60, 1, 3, 628, 1006, 2, 1007, 1008])], [], [(21, 11, 1, 1), (21, 7, -4294967296, 1), (17, 7, 1, 1), (1, 2, -4294967296, 23), (1, 5, -4294967296, 0), (2, 6, -4294967296, 0), (5, 1, -4294967296, 0), (5, 2, -4294967296, 23), (6, 2, -4294967296, 0), (8, 2, -4294967296, -1), (8, 6, -4294967296, -1), (9, 2, -4294967296, 70), (11, 7, -4294967296, 0)])
theorem oo_Em_joinBlocksAt_at_gp_9 {kA : Nat → ClassId} : or_ok PRD kA GG o_Em_joinBlocksAt_at_gp_9 := by
  refine or_mk fun A ta ws vs hD hth hl => ?_
  intro t0 r0 t1 k1 t2 k2 t3 r3 t4 r4 t5 k5 t6 k6 t7 k7 t8 k8 t9 k9 t10 k10 t11 k11 t12 r12 t13 k13 t14 k14 t15 k15 t16 r16 t17 k17 t18 r18 t19 k19 t20 k20 t21 k21 d0 d1 d2 d3 d4 d5 d6 d7 d8 d9 d10 d11 d12 f0 f1 f2 f3 f4 f5 f6 f7 f8 f9 f10 f11 f12 f13 f14 ta1 w1 le1 s1 f16 f17 f18 f19 f20 f21 f22 f23
  replace f8 := shm_5 f8
  replace f12 := shm_5 f12
  replace f13 := shm_5 f13
  have s1 : (∀ b j, w_el ws b j = if b = v_ad (n_v vs 16) ∧ j = (v_iv (n_v vs 7)).toNat then v_iv (n_v vs 10) else w_el w1 b j) ∧ ∀ b k, w_fd ws b k = w_fd w1 b k := s1.2
  have q12 : n_v vs 12 = n_v vs 3 := f8.symm
  have q4 : n_v vs 4 = n_v vs 0 := f12.symm
  have q5 : n_v vs 5 = n_v vs 1 := f13.symm
  have cr_0_2 := fdq_56 hD hth r0
  have cr_0_12 := fdq_245 hD hth r0
  have cr_3_7 := fdq_60 hD hth r3
  have cr_3_8 := fdq_61 hD hth r3
  have cr_3_9 := fdq_83 hD hth r3
  have cr_3_12 := fdq_246 hD hth r3
  have fe_3_5_1 : w_fi ws (n_v vs 3) 5 = w_fi w1 (n_v vs 3) 5 := congrArg v_iv (s1.2 _ _)
  have fe_3_6_1 : w_fi ws (n_v vs 3) 6 = w_fi w1 (n_v vs 3) 6 := congrArg v_iv (s1.2 _ _)
  have hE_0_2_1 : ∀ j : Int, w_ei ws (w_ar ws (n_v vs 0) 2) j = w_ei w1 (w_ar ws (n_v vs 0) 2) j := el_kp s1.1 r16 cr_0_2 (by decide)
  have hE_0_12_1 : ∀ j : Int, w_ei ws (w_ar ws (n_v vs 0) 12) j = w_ei w1 (w_ar ws (n_v vs 0) 12) j := el_kp s1.1 r16 cr_0_12 (by decide)
  have hE_3_7_1 : ∀ j : Int, w_ei ws (w_ar ws (n_v vs 3) 7) j = w_ei w1 (w_ar ws (n_v vs 3) 7) j := el_kp s1.1 r16 cr_3_7 (by decide)
  have hE_3_8_1 : ∀ j : Int, w_ei ws (w_ar ws (n_v vs 3) 8) j = w_ei w1 (w_ar ws (n_v vs 3) 8) j := el_kp s1.1 r16 cr_3_8 (by decide)
  have hE_3_9_1 : ∀ j : Int, w_ei ws (w_ar ws (n_v vs 3) 9) j = w_ei w1 (w_ar ws (n_v vs 3) 9) j := el_kp s1.1 r16 cr_3_9 (by decide)
  have hE_3_12_1 : ∀ j : Int, w_ei ws (w_ar ws (n_v vs 3) 12) j = w_ei w1 (w_ar ws (n_v vs 3) 12) j := el_kp s1.1 r16 cr_3_12 (by decide)
  have kz_3_5 := fdq_85 hD hth r3
  have kz_3_6 := fdq_62 hD hth r3
  have nf0 : fc_1 PRD (20, [4, 12, 5, 8, 17, 20, 21], [60, 1, 3, 628, 1006, 2, 1007, 1008]) ws (vs) := by
    refine ⟨nf_in hl rfl, sgq_1082 ?_⟩
    · show JB7 (w_fi ws (n_v vs 12) 6) (w_ei ws (w_ar ws (n_v vs 4) 2)) (w_ei ws (w_ar ws (n_v vs 12) 7)) (w_ei ws (w_ar ws (n_v vs 12) 8)) (v_iv (n_v vs 5)) (v_iv (n_v vs 8)) (v_iv (n_v vs 17)) (v_iv (n_v vs 20)) (v_iv (n_v vs 21))
      simp only [q12, q4, q5]
      exact vc_Em_joinBlocksAt_at_gp_9_0 (v_iv (n_v vs 1)) (v_iv (n_v vs 7)) (v_iv (n_v vs 8)) (v_iv (n_v vs 17)) (v_iv (n_v vs 20)) (v_iv (n_v vs 21)) (w_ei ws (w_ar ws (n_v vs 0) 12)) (w_ei ws (w_ar ws (n_v vs 0) 2)) (w_ei ws (w_ar ws (n_v vs 3) 7)) (w_ei ws (w_ar ws (n_v vs 3) 8)) (w_fi ws (n_v vs 3) 6) (w_ei ws (w_ar ws (n_v vs 3) 9)) (w_ei ws (w_ar ws (n_v vs 3) 12)) (w_fi ws (n_v vs 3) 5) (w_ei w1 (w_ar ws (n_v vs 0) 2)) (w_ei w1 (w_ar ws (n_v vs 3) 7)) (w_ei w1 (w_ar ws (n_v vs 3) 8)) (w_fi w1 (n_v vs 3) 6) (w_ei w1 (w_ar ws (n_v vs 3) 9)) (w_ei w1 (w_ar ws (n_v vs 3) 12)) (w_fi w1 (n_v vs 3) 5) (w_ei w1 (w_ar ws (n_v vs 0) 12)) k1 k7 k8 k17 k20 k21 d2 fe_3_5_1 fe_3_6_1 hE_0_2_1 hE_0_12_1 hE_3_7_1 hE_3_8_1 hE_3_9_1 hE_3_12_1 kz_3_5 kz_3_6
  refine ⟨(fun _ h => (by cases h)), [], trivial, ?_, (fun _ h => (by cases h))⟩
  rw [List.append_nil]
  exact List.forall_mem_cons.mpr ⟨⟨show (20 : Nat) < 100 from by decide, nf0⟩, (fun _ h => (by cases h))⟩
set_option maxHeartbeats 4000000 in
theorem vc_Em_joinBlocksAt_at_gp_10_0 (x1 : Int) (near_0o3 : Int → Int) (first_0o3 : Int → Int) (nodes_0o3 : Int) (k1 : 0 ≤ x1 ∧ x1 ≤ 24) (f0 : FIL1 (nodes_0o3) (near_0o3) (first_0o3) (x1)) (hK_3_9 : ∀ j : Int, 0 ≤ j → j < 25 → 0 ≤ near_0o3 j ∧ near_0o3 j ≤ 33554431) (kz_3_5 : 0 ≤ nodes_0o3 ∧ nodes_0o3 ≤ 25) : FIL1 (nodes_0o3) (near_0o3) (first_0o3) (x1) := by
  first
    | assumption
    | exact fil_some ‹FIL _ _ _ _› (by omega) hE_3_12_1 (by omega) rfl
    | exact fil_none ‹FIL _ _ _ _› ‹JB5 _ _ _ _ _ _ _› (by omega) ‹NOK _ _ _ _ _› ‹LBE _ _ _ _ _› (by omega) (by omega) (by omega) (by have q := hK_3_9 x1 (by omega) (by omega); omega) hE_3_12_1 (by omega) rfl
  
set_option maxHeartbeats 4000000 in
theorem vc_Em_joinBlocksAt_at_gp_10_1 (near_0o3 : Int → Int) (nodes_0o3 : Int) (tail_0o3 : Int → Int) (head_0o3 : Int → Int) (edges_0o3 : Int) (f2 : NOK (nodes_0o3) (edges_0o3) (tail_0o3) (head_0o3) (near_0o3)) (kz_3_5 : 0 ≤ nodes_0o3 ∧ nodes_0o3 ≤ 25) (kz_3_6 : 0 ≤ edges_0o3 ∧ edges_0o3 ≤ 72) : NOK (nodes_0o3) (edges_0o3) (tail_0o3) (head_0o3) (near_0o3) := by
  assumption
set_option maxHeartbeats 4000000 in
theorem vc_Em_joinBlocksAt_at_gp_10_2 (x2 : Int) (tail_0o3 : Int → Int) (head_0o3 : Int → Int) (edges_0o3 : Int) (block_0 : Int → Int) (k2 : 0 ≤ x2 ∧ x2 ≤ 72) (f3 : LBE (edges_0o3) (block_0) (tail_0o3) (head_0o3) (x2)) (kz_3_6 : 0 ≤ edges_0o3 ∧ edges_0o3 ≤ 72) : LBE (edges_0o3) (block_0) (tail_0o3) (head_0o3) (x2) := by
  assumption
def o_Em_joinBlocksAt_at_gp_10 : or_T := (168, 10, [(1, (0, 0, 24, [])), (2, (0, 0, 72, [])), (3, (2, 0, 0, [149]))], [(20, [9, 5], [60, 1, 2, 630, 5, 9, 12]), (24, [3, 9], []), (20, [9], [60, 2, 3, 595, 5, 6, 7, 8, 9]), (20, [4, 9, 6], [60, 1, 3, 598, 1006, 2, 1007, 1008]), (24, [0, 4], []), (24, [1, 5], []), (24, [2, 6], [])], [], [], [(20, [3, 1], [60, 1, 2, 630, 5, 9, 12]), (20, [3], [60, 2, 3, 595, 5, 6, 7, 8, 9]), (20, [0, 3, 2], [60, 1, 3, 598, 1006, 2, 1007, 1008])], [], [])
theorem oo_Em_joinBlocksAt_at_gp_10 {kA : Nat → ClassId} : or_ok PRD kA GG o_Em_joinBlocksAt_at_gp_10 := by
  refine or_mk fun A ta ws vs hD hth hl => ?_
  intro t1 k1 t2 k2 t3 r3 f0 f1 f2 f3 f4 f5 f6
  replace f0 := shm_1081 f0
  replace f1 := shm_5 f1
  replace f2 := shm_408 f2
  replace f3 := shm_1078 f3
  replace f4 := shm_5 f4
  replace f5 := shm_5 f5
  replace f6 := shm_5 f6
  have q9 : n_v vs 9 = n_v vs 3 := f1.symm
  have q4 : n_v vs 4 = n_v vs 0 := f4.symm
  have q5 : n_v vs 5 = n_v vs 1 := f5.symm
  have q6 : n_v vs 6 = n_v vs 2 := f6.symm
  simp only [q9, q5, q4, q6] at f0 f2 f3
  have cr_3_9 := fdq_83 hD hth r3
  have hK_3_9 := elq_27 hD hth cr_3_9
  have kz_3_5 := fdq_85 hD hth r3
  have kz_3_6 := fdq_62 hD hth r3
  have nf0 : fc_1 PRD (20, [3, 1], [60, 1, 2, 630, 5, 9, 12]) ws (vs) := ⟨nf_in hl rfl, sgq_1081 (vc_Em_joinBlocksAt_at_gp_10_0 (v_iv (n_v vs 1)) (w_ei ws (w_ar ws (n_v vs 3) 9)) (w_ei ws (w_ar ws (n_v vs 3) 12)) (w_fi ws (n_v vs 3) 5) k1 f0 hK_3_9 kz_3_5)⟩
  have nf1 : fc_1 PRD (20, [3], [60, 2, 3, 595, 5, 6, 7, 8, 9]) ws (vs) := ⟨nf_in hl rfl, sgq_408 (vc_Em_joinBlocksAt_at_gp_10_1 (w_ei ws (w_ar ws (n_v vs 3) 9)) (w_fi ws (n_v vs 3) 5) (w_ei ws (w_ar ws (n_v vs 3) 7)) (w_ei ws (w_ar ws (n_v vs 3) 8)) (w_fi ws (n_v vs 3) 6) f2 kz_3_5 kz_3_6)⟩
  have nf2 : fc_1 PRD (20, [0, 3, 2], [60, 1, 3, 598, 1006, 2, 1007, 1008]) ws (vs) := ⟨nf_in hl rfl, sgq_1078 (vc_Em_joinBlocksAt_at_gp_10_2 (v_iv (n_v vs 2)) (w_ei ws (w_ar ws (n_v vs 3) 7)) (w_ei ws (w_ar ws (n_v vs 3) 8)) (w_fi ws (n_v vs 3) 6) (w_ei ws (w_ar ws (n_v vs 0) 2)) k2 f3 kz_3_6)⟩
  refine ⟨(fun _ h => (by cases h)), [], trivial, ?_, (fun _ h => (by cases h))⟩
  rw [List.append_nil]
  exact List.forall_mem_cons.mpr ⟨⟨show (20 : Nat) < 100 from by decide, nf0⟩, List.forall_mem_cons.mpr ⟨⟨show (20 : Nat) < 100 from by decide, nf1⟩, List.forall_mem_cons.mpr ⟨⟨show (20 : Nat) < 100 from by decide, nf2⟩, (fun _ h => (by cases h))⟩⟩⟩
def n_Em_joinBlocksAt_at_gp_an : List an_T := [(5, [(0, (2, 0, 0, [1])), (1, (0, 0, 24, [])), (2, (0, 0, 72, [])), (3, (0, 0, 72, [])), (4, (0, 0, 72, []))], [], (0, 0), [(0, 0, 99995), (1, 8, 72), (0, 0, 100000), (0, 0, 0), (0, 0, 0)], [(1, 5, (Int.negSucc 999999999999), 0), (2, 6, (Int.negSucc 999999999999), 0), (5, 1, (Int.negSucc 999999999999), 0), (6, 2, (Int.negSucc 999999999999), 0), (8, 2, (Int.negSucc 999999999999), 0), (8, 6, (Int.negSucc 999999999999), 0)], [((0, 0), (2, 0, 0, [149]))], [(2, 0, 0, [1]), (0, 0, 24, []), (0, 0, 72, []), (2, 0, 0, [149])], 0, [], [(20, [4, 9, 5, 8, 7], [60, 1, 3, 627, 1006, 2, 1007, 1008]), (20, [9, 5], [60, 1, 2, 629, 5, 9, 12]), (24, [3, 9], []), (20, [5, 9], [50, 1, 0, 1005, 2, 6, 0, 2, 0, 0, 1, 0, 0, 6, 4, 2, 1, 0, 0, 1, 2, 1, 5]), (20, [9], [60, 2, 3, 595, 5, 6, 7, 8, 9]), (20, [4, 9, 6], [60, 1, 3, 598, 1006, 2, 1007, 1008]), (24, [0, 4], []), (24, [1, 5], []), (24, [2, 6], [])]), (27, [(0, (2, 0, 0, [1])), (1, (0, 0, 24, [])), (2, (0, 1, 72, [])), (3, (0, 0, 72, [])), (4, (0, 0, 71, [])), (5, (0, (Int.negSucc 0), 71, [])), (6, (0, (Int.negSucc 0), 71, [])), (7, (0, 0, 72, []))], [], (0, 0), [(0, 0, 99995), (1, 8, 72), (0, 0, 99973), (1, 7, 72), (0, 0, 100000)], [(1, 2, (Int.negSucc 999999999999), 23), (1, 5, (Int.negSucc 999999999999), 0), (2, 6, (Int.negSucc 999999999999), 0), (5, 1, (Int.negSucc 999999999999), 0), (5, 2, (Int.negSucc 999999999999), 23), (6, 2, (Int.negSucc 999999999999), 0), (8, 2, (Int.negSucc 999999999999), (Int.negSucc 0)), (8, 6, (Int.negSucc 999999999999), (Int.negSucc 0)), (9, 2, (Int.negSucc 999999999999), 70), (11, 7, (Int.negSucc 999999999999), 0)], [((0, 0), (2, 0, 0, [149]))], [(2, 0, 0, [1]), (0, 0, 24, []), (0, 0, 72, []), (2, 0, 0, [149])], 0, [], [(20, [4, 12, 5, 8, 7, 10, 11], [60, 1, 3, 628, 1006, 2, 1007, 1008]), (20, [12, 5], [60, 1, 2, 629, 5, 9, 12]), (24, [3, 12], []), (20, [5, 12], [50, 1, 0, 1005, 2, 6, 0, 2, 0, 0, 1, 0, 0, 6, 4, 2, 1, 0, 0, 1, 2, 1, 5]), (20, [12], [60, 2, 3, 595, 5, 6, 7, 8, 9]), (20, [4, 12, 6], [60, 1, 3, 598, 1006, 2, 1007, 1008]), (24, [0, 4], []), (24, [1, 5], []), (24, [2, 6], [])]), (122, [(0, (2, 0, 0, [1])), (1, (0, 0, 24, [])), (2, (0, 0, 72, [])), (3, (0, 0, 72, [])), (4, (0, 0, 72, []))], [], (0, 0), [(0, 0, 99878), (1, 8, 72), (0, 0, 100000), (0, 0, 0), (0, 0, 0)], [(1, 5, (Int.negSucc 999999999999), 0), (2, 6, (Int.negSucc 999999999999), 0), (5, 1, (Int.negSucc 999999999999), 0), (6, 2, (Int.negSucc 999999999999), 0), (8, 7, (Int.negSucc 999999999999), 0)], [((0, 0), (2, 0, 0, [149]))], [(2, 0, 0, [1]), (0, 0, 24, []), (0, 0, 72, []), (2, 0, 0, [149])], 0, [], [(20, [9, 5], [60, 1, 2, 630, 5, 9, 12]), (24, [3, 9], []), (20, [9], [60, 2, 3, 595, 5, 6, 7, 8, 9]), (20, [4, 9, 6], [60, 1, 3, 598, 1006, 2, 1007, 1008]), (24, [0, 4], []), (24, [1, 5], []), (24, [2, 6], [])])]
def t_Em_joinBlocksAt_at_gp_ct : ct_L := [(1, 217, e_Ne_endAt), (49, 220, e_Em_leastEdgeAt_at_gp)]
set_option maxRecDepth 100000 in
theorem c_Em_joinBlocksAt_at_gp {l : Launch} {D : va_G} {kA : Nat → ClassId} (h_Em_leastEdgeAt_at_gp : ct_ok PRD l D kA GG y_Em_leastEdgeAt_at_gp z_Em_leastEdgeAt_at_gp e_Em_leastEdgeAt_at_gp) (h_Ne_endAt : ct_ok PRD l D kA GG y_Ne_endAt z_Ne_endAt e_Ne_endAt) : ct_ok PRD l D kA GG y_Em_joinBlocksAt_at_gp z_Em_joinBlocksAt_at_gp e_Em_joinBlocksAt_at_gp := chk_all_ok (FT := [(9, 1, 0), (54, 1, 12), (75, 1, 19), (223, 5, 12), (226, 5, 11)]) (PT := []) (CT := t_Em_joinBlocksAt_at_gp_ct) (KT := []) (NT := []) (AN := n_Em_joinBlocksAt_at_gp_an) (OT := [o_Em_joinBlocksAt_at_gp_0, o_Em_joinBlocksAt_at_gp_1, o_Em_joinBlocksAt_at_gp_2, o_Em_joinBlocksAt_at_gp_3, o_Em_joinBlocksAt_at_gp_4, o_Em_joinBlocksAt_at_gp_5, o_Em_joinBlocksAt_at_gp_6, o_Em_joinBlocksAt_at_gp_7, o_Em_joinBlocksAt_at_gp_8, o_Em_joinBlocksAt_at_gp_9, o_Em_joinBlocksAt_at_gp_10]) 5 476 (List.forall_mem_cons.mpr ⟨oo_Em_joinBlocksAt_at_gp_0, List.forall_mem_cons.mpr ⟨oo_Em_joinBlocksAt_at_gp_1, List.forall_mem_cons.mpr ⟨oo_Em_joinBlocksAt_at_gp_2, List.forall_mem_cons.mpr ⟨oo_Em_joinBlocksAt_at_gp_3, List.forall_mem_cons.mpr ⟨oo_Em_joinBlocksAt_at_gp_4, List.forall_mem_cons.mpr ⟨oo_Em_joinBlocksAt_at_gp_5, List.forall_mem_cons.mpr ⟨oo_Em_joinBlocksAt_at_gp_6, List.forall_mem_cons.mpr ⟨oo_Em_joinBlocksAt_at_gp_7, List.forall_mem_cons.mpr ⟨oo_Em_joinBlocksAt_at_gp_8, List.forall_mem_cons.mpr ⟨oo_Em_joinBlocksAt_at_gp_9, List.forall_mem_cons.mpr ⟨oo_Em_joinBlocksAt_at_gp_10, List.forall_mem_nil _⟩⟩⟩⟩⟩⟩⟩⟩⟩⟩⟩) (by decide +kernel) ⟨List.forall_mem_cons.mpr ⟨gf_Em_9, List.forall_mem_cons.mpr ⟨gf_Em_54, List.forall_mem_cons.mpr ⟨gf_Em_75, List.forall_mem_cons.mpr ⟨gf_Em_223, List.forall_mem_cons.mpr ⟨gf_Em_226, List.forall_mem_nil _⟩⟩⟩⟩⟩, List.forall_mem_nil _, List.forall_mem_cons.mpr ⟨cl_virtual (y := y_Ne_endAt) (ci := 5) rfl rfl ⟨_, _, rfl⟩ (by decide +kernel) h_Ne_endAt wm_1138 wm_6 wm_1135 wm_1136 wm_1137 ⟨by decide, by decide, by decide +kernel⟩ (by decide), List.forall_mem_cons.mpr ⟨cl_virtual (y := y_Em_leastEdgeAt_at_gp) (ci := 1) rfl rfl ⟨_, _, rfl⟩ (by decide +kernel) h_Em_leastEdgeAt_at_gp wm_1146 wm_5 wm_1143 wm_1145 wv_4_5 ⟨by decide, by decide, by decide +kernel⟩ (by decide), List.forall_mem_nil _⟩⟩, List.forall_mem_nil _, List.forall_mem_nil _, GG_pl⟩ (by decide +kernel)

set_option maxHeartbeats 4000000 in
theorem vc_Fa_costAhead_0_0 (x2 : Int) (x3 : Int) (x6 : Int) (x7 : Int) (x8 : Int) (x9 : Int) (x10 : Int) (x11 : Int) (x12 : Int) (least_0 : Int → Int) (member_0 : Int → Int) (tail_0o1 : Int → Int) (weight_0o1 : Int → Int) (link_0o1 : Int → Int) (k2 : 0 ≤ x2 ∧ x2 ≤ 127) (k3 : 0 ≤ x3 ∧ x3 ≤ 6) (k6 : 1 ≤ x6 ∧ x6 ≤ 1) (k7 : 1 ≤ x7 ∧ x7 ≤ 64) (k8 : (-1) ≤ x8 ∧ x8 ≤ (-1)) (k9 : (-2147483648) ≤ x9 ∧ x9 ≤ 2147483647) (k10 : 0 ≤ x10 ∧ x10 ≤ 127) (k11 : 0 ≤ x11 ∧ x11 ≤ 1000000) (k12 : 0 ≤ x12 ∧ x12 ≤ 0) (h0 : x11 = least_0 (x10)) (f1 : bvp (x10) = bvp (x2) &&& bvp (x9)) (f2 : bvp (x9) = bvp (x7) ^^^ bvp (x8)) (f3 : bvp (x7) = bvp (x6) <<< (x3).toNat) (f5 : BBT (x2) (x3)) : CAI (least_0) (member_0) (tail_0o1) (weight_0o1) (link_0o1) (x2) (x3) (x12) (x11) := by
  first
    | exact cai_start (x := x10) (del_bit1 (q := x7) (r := x9) (m1 := x8) (one := x6) (by omega) (by omega) (by omega) (by omega) ‹BBT _ _› (by assumption) (by omega) (by assumption) (by omega) (by assumption) (by omega) (by omega)) (by assumption) (by omega)
    | exact cai_skip ‹CAI _ _ _ _ _ _ _ _ _› (fun q => q.1 (by omega)) (by omega)
    | exact cai_skip ‹CAI _ _ _ _ _ _ _ _ _› (fun q => by have b := (bit_one (s := x2) (t := x12) (c := x14) (v := x11) (one := x13) (by assumption) (by assumption) (by omega) (by omega) (by omega) (by omega)).1 q.2; omega) (by omega)
    | exact cai_step (a := x16) (b := x17) (w := x18) ‹CAI _ _ _ _ _ _ _ _ _› (by omega) ((bit_one (s := x2) (t := x12) (c := x14) (v := x11) (one := x13) (by assumption) (by assumption) (by omega) (by omega) (by omega) (by omega)).2 (by omega)) (by assumption) (by assumption) ‹WOX _ _ _ _ _ _› (by omega) (by omega)
  
set_option maxHeartbeats 4000000 in
theorem vc_Fa_costAhead_0_1 (x4 : Int) (x12 : Int) (k4 : 2 ≤ x4 ∧ x4 ≤ 7) (k12 : 0 ≤ x12 ∧ x12 ≤ 0) : x12 ≤ x4 := by
  first
    | omega
    | (have q := cai_rng ‹CAI _ _ _ _ _ _ _ _ _› (by assumption) (by assumption) (by assumption) (by assumption) (by omega) (by omega) (by omega) (by omega) (by omega) ‹BBT _ _›; omega)
  
def o_Fa_costAhead_0 : or_T := (17, 13, [(0, (2, 0, 0, [2])), (1, (2, 0, 0, [3])), (2, (0, 0, 127, [])), (3, (0, 0, 6, [])), (4, (0, 2, 7, [])), (5, (2, 0, 0, [47])), (6, (0, 1, 1, [])), (7, (0, 1, 64, [])), (8, (0, -1, -1, [])), (9, (0, -2147483648, 2147483647, [])), (10, (0, 0, 127, [])), (11, (0, 0, 1000000, [])), (12, (0, 0, 0, []))], [(10, [11, 5, 10], []), (16, [10, 2, 9], [0]), (16, [9, 7, 8], [2]), (16, [7, 6, 3], [3]), (9, [5, 0], [14]), (20, [2, 3], [61, 0, 705]), (20, [2, 3, 4], [50, 0, 0, 2, 6, 0, 2, 1, 0, 0, 127, 2, 10, 0, 6, 4, 2, 1, 1, 0, 1, 1, 2, 0, 2, 1, 2, 0, 7])], [], [], [(20, [0, 1, 2, 3, 12, 11], [60, 0, 5, 710, 14, 13, 1007, 1009, 1015]), (20, [12, 4], [50, 0, 0, 0, 2, 1, 0, 1, 1]), (24, [0, 0], []), (24, [1, 1], []), (24, [2, 2], []), (24, [3, 3], []), (24, [4, 4], [])], [], [])
theorem oo_Fa_costAhead_0 {kA : Nat → ClassId} : or_ok PRD kA GG o_Fa_costAhead_0 := by
  refine or_mk fun A ta ws vs hD hth hl => ?_
  intro t0 r0 t1 r1 t2 k2 t3 k3 t4 k4 t5 r5 t6 k6 t7 k7 t8 k8 t9 k9 t10 k10 t11 k11 t12 k12 f0 f1 f2 f3 f4 f5 f6
  replace f0 := shm_107 f0
  replace f4 := shm_115 f4
  have ad_5 : v_ad (n_v vs 5) = w_ar ws (n_v vs 0) 14 := congrArg v_ad f4
  simp only [ad_5] at f0
  have h0 : v_iv (n_v vs 11) = w_ei ws (w_ar ws (n_v vs 0) 14) (v_iv (n_v vs 10)) := f0
  have nf0 : fc_1 PRD (20, [0, 1, 2, 3, 12, 11], [60, 0, 5, 710, 14, 13, 1007, 1009, 1015]) ws (vs) := ⟨nf_in hl rfl, sgq_1085 (vc_Fa_costAhead_0_0 (v_iv (n_v vs 2)) (v_iv (n_v vs 3)) (v_iv (n_v vs 6)) (v_iv (n_v vs 7)) (v_iv (n_v vs 8)) (v_iv (n_v vs 9)) (v_iv (n_v vs 10)) (v_iv (n_v vs 11)) (v_iv (n_v vs 12)) (w_ei ws (w_ar ws (n_v vs 0) 14)) (w_ei ws (w_ar ws (n_v vs 0) 13)) (w_ei ws (w_ar ws (n_v vs 1) 7)) (w_ei ws (w_ar ws (n_v vs 1) 9)) (w_ei ws (w_ar ws (n_v vs 1) 15)) k2 k3 k6 k7 k8 k9 k10 k11 k12 h0 (shm_11 f1) (shm_33 f2) (shm_349 f3) (shm_1083 f5))⟩
  have nf1 : fc_1 PRD (20, [12, 4], [50, 0, 0, 0, 2, 1, 0, 1, 1]) ws (vs) := ⟨nf_in hl rfl, sgq_360 (vc_Fa_costAhead_0_1 (v_iv (n_v vs 4)) (v_iv (n_v vs 12)) k4 k12)⟩
  have nf2 : fc_1 PRD (24, [0, 0], []) ws (vs) := by
    refine ⟨nf_in hl rfl, sgq_1 ?_⟩
    · show n_v vs 0 = n_v vs 0
      first | rfl | simp only [true_and]
  have nf3 : fc_1 PRD (24, [1, 1], []) ws (vs) := by
    refine ⟨nf_in hl rfl, sgq_1 ?_⟩
    · show n_v vs 1 = n_v vs 1
      first | rfl | simp only [true_and]
  have nf4 : fc_1 PRD (24, [2, 2], []) ws (vs) := by
    refine ⟨nf_in hl rfl, sgq_1 ?_⟩
    · show n_v vs 2 = n_v vs 2
      first | rfl | simp only [true_and]
  have nf5 : fc_1 PRD (24, [3, 3], []) ws (vs) := by
    refine ⟨nf_in hl rfl, sgq_1 ?_⟩
    · show n_v vs 3 = n_v vs 3
      first | rfl | simp only [true_and]
  have nf6 : fc_1 PRD (24, [4, 4], []) ws (vs) := by
    refine ⟨nf_in hl rfl, sgq_1 ?_⟩
    · show n_v vs 4 = n_v vs 4
      first | rfl | simp only [true_and]
  refine ⟨(fun _ h => (by cases h)), [], trivial, ?_, (fun _ h => (by cases h))⟩
  rw [List.append_nil]
  exact List.forall_mem_cons.mpr ⟨⟨show (20 : Nat) < 100 from by decide, nf0⟩, List.forall_mem_cons.mpr ⟨⟨show (20 : Nat) < 100 from by decide, nf1⟩, List.forall_mem_cons.mpr ⟨⟨show (24 : Nat) < 100 from by decide, nf2⟩, List.forall_mem_cons.mpr ⟨⟨show (24 : Nat) < 100 from by decide, nf3⟩, List.forall_mem_cons.mpr ⟨⟨show (24 : Nat) < 100 from by decide, nf4⟩, List.forall_mem_cons.mpr ⟨⟨show (24 : Nat) < 100 from by decide, nf5⟩, List.forall_mem_cons.mpr ⟨⟨show (24 : Nat) < 100 from by decide, nf6⟩, (fun _ h => (by cases h))⟩⟩⟩⟩⟩⟩⟩
set_option maxHeartbeats 4000000 in
theorem vc_Fa_costAhead_1_0 (x2 : Int) (x3 : Int) (x4 : Int) (x10 : Int) (x11 : Int) (least_0 : Int → Int) (member_0 : Int → Int) (tail_0o1 : Int → Int) (weight_0o1 : Int → Int) (link_0o1 : Int → Int) (k2 : 0 ≤ x2 ∧ x2 ≤ 127) (k3 : 0 ≤ x3 ∧ x3 ≤ 6) (k4 : 2 ≤ x4 ∧ x4 ≤ 7) (k10 : 0 ≤ x10 ∧ x10 ≤ 1000072) (k11 : 2 ≤ x11 ∧ x11 ≤ 7) (f0 : x4 ≤ x11) (f1 : CAI (least_0) (member_0) (tail_0o1) (weight_0o1) (link_0o1) (x2) (x3) (x11) (x10)) (f3 : x11 ≤ x4) : CAP (least_0) (member_0) (tail_0o1) (weight_0o1) (link_0o1) (x2) (x3) (x4) (x10) := by
  exact cap_of ‹CAI _ _ _ _ _ _ _ _ _› (by omega) (by omega) rfl
def o_Fa_costAhead_1 : or_T := (69, 12, [(2, (0, 0, 127, [])), (3, (0, 0, 6, [])), (4, (0, 2, 7, [])), (10, (0, 0, 1000072, [])), (11, (0, 2, 7, []))], [(7, [11, 9], [3]), (20, [5, 6, 7, 8, 11, 10], [60, 0, 5, 710, 14, 13, 1007, 1009, 1015]), (20, [11, 9], [50, 0, 0, 0, 2, 1, 0, 1, 1]), (24, [0, 5], []), (24, [1, 6], []), (24, [2, 7], []), (24, [3, 8], []), (24, [4, 9], [])], [], [], [(20, [0, 1, 2, 3, 4, 10], [60, 0, 5, 711, 14, 13, 1007, 1009, 1015])], [], [])
theorem oo_Fa_costAhead_1 {kA : Nat → ClassId} : or_ok PRD kA GG o_Fa_costAhead_1 := by
  refine or_mk fun A ta ws vs hD hth hl => ?_
  intro t2 k2 t3 k3 t4 k4 t10 k10 t11 k11 f0 f1 f3 f4 f5 f6 f7 f8
  replace f0 := shm_2 f0
  replace f1 := shm_1085 f1
  replace f3 := shm_360 f3
  replace f4 := shm_5 f4
  replace f5 := shm_5 f5
  replace f6 := shm_5 f6
  replace f7 := shm_5 f7
  replace f8 := shm_5 f8
  have q5 : n_v vs 5 = n_v vs 0 := f4.symm
  have q6 : n_v vs 6 = n_v vs 1 := f5.symm
  have q7 : n_v vs 7 = n_v vs 2 := f6.symm
  have q8 : n_v vs 8 = n_v vs 3 := f7.symm
  have q9 : n_v vs 9 = n_v vs 4 := f8.symm
  simp only [q9, q5, q6, q7, q8] at f0 f1 f3
  have nf0 : fc_1 PRD (20, [0, 1, 2, 3, 4, 10], [60, 0, 5, 711, 14, 13, 1007, 1009, 1015]) ws (vs) := ⟨nf_in hl rfl, sgq_1086 (vc_Fa_costAhead_1_0 (v_iv (n_v vs 2)) (v_iv (n_v vs 3)) (v_iv (n_v vs 4)) (v_iv (n_v vs 10)) (v_iv (n_v vs 11)) (w_ei ws (w_ar ws (n_v vs 0) 14)) (w_ei ws (w_ar ws (n_v vs 0) 13)) (w_ei ws (w_ar ws (n_v vs 1) 7)) (w_ei ws (w_ar ws (n_v vs 1) 9)) (w_ei ws (w_ar ws (n_v vs 1) 15)) k2 k3 k4 k10 k11 f0 f1 f3)⟩
  refine ⟨(fun _ h => (by cases h)), [], trivial, ?_, (fun _ h => (by cases h))⟩
  rw [List.append_nil]
  exact List.forall_mem_cons.mpr ⟨⟨show (20 : Nat) < 100 from by decide, nf0⟩, (fun _ h => (by cases h))⟩
set_option maxHeartbeats 4000000 in
theorem vc_Fa_costAhead_2_0 (x2 : Int) (x3 : Int) (x7 : Int) (x8 : Int) (x9 : Int) (x10 : Int) (x11 : Int) (x12 : Int) (least_0 : Int → Int) (member_0 : Int → Int) (tail_0o1 : Int → Int) (weight_0o1 : Int → Int) (link_0o1 : Int → Int) (k2 : 0 ≤ x2 ∧ x2 ≤ 127) (k3 : 0 ≤ x3 ∧ x3 ≤ 6) (k10 : 0 ≤ x10 ∧ x10 ≤ 1000072) (k11 : 0 ≤ x11 ∧ x11 ≤ 6) (k12 : 1 ≤ x12 ∧ x12 ≤ 7) (f0 : x12 = x11 + 1) (f1 : x11 = x3) (f3 : CAI (least_0) (member_0) (tail_0o1) (weight_0o1) (link_0o1) (x2) (x3) (x11) (x10)) : CAI (least_0) (member_0) (tail_0o1) (weight_0o1) (link_0o1) (x2) (x3) (x12) (x10) := by
  first
    | exact cai_start (x := x10) (del_bit1 (q := x7) (r := x9) (m1 := x8) (one := x6) (by omega) (by omega) (by omega) (by omega) ‹BBT _ _› (by assumption) (by omega) (by assumption) (by omega) (by assumption) (by omega) (by omega)) (by assumption) (by omega)
    | exact cai_skip ‹CAI _ _ _ _ _ _ _ _ _› (fun q => q.1 (by omega)) (by omega)
    | exact cai_skip ‹CAI _ _ _ _ _ _ _ _ _› (fun q => by have b := (bit_one (s := x2) (t := x12) (c := x14) (v := x11) (one := x13) (by assumption) (by assumption) (by omega) (by omega) (by omega) (by omega)).1 q.2; omega) (by omega)
    | exact cai_step (a := x16) (b := x17) (w := x18) ‹CAI _ _ _ _ _ _ _ _ _› (by omega) ((bit_one (s := x2) (t := x12) (c := x14) (v := x11) (one := x13) (by assumption) (by assumption) (by omega) (by omega) (by omega) (by omega)).2 (by omega)) (by assumption) (by assumption) ‹WOX _ _ _ _ _ _› (by omega) (by omega)
  
set_option maxHeartbeats 4000000 in
theorem vc_Fa_costAhead_2_1 (x4 : Int) (x9 : Int) (x11 : Int) (x12 : Int) (k4 : 2 ≤ x4 ∧ x4 ≤ 7) (k9 : 2 ≤ x9 ∧ x9 ≤ 7) (k11 : 0 ≤ x11 ∧ x11 ≤ 6) (k12 : 1 ≤ x12 ∧ x12 ≤ 7) (d0 : x11 + 1 ≤ x12 ∧ x12 ≤ x11 + 1) (d2 : x9 + (-4294967296) ≤ x12 ∧ x12 ≤ x9 + 0) (d6 : x9 + (-4294967296) ≤ x11 ∧ x11 ≤ x9 + (-1)) (d9 : x9 + (-4294967296) ≤ x4 ∧ x4 ≤ x9 + 0) (d12 : x4 + (-4294967296) ≤ x9 ∧ x9 ≤ x4 + 0) : x12 ≤ x4 := by
  first
    | omega
    | (have q := cai_rng ‹CAI _ _ _ _ _ _ _ _ _› (by assumption) (by assumption) (by assumption) (by assumption) (by omega) (by omega) (by omega) (by omega) (by omega) ‹BBT _ _›; omega)
  
def o_Fa_costAhead_2 : or_T := (17, 13, [(0, (2, 0, 0, [2])), (1, (2, 0, 0, [3])), (2, (0, 0, 127, [])), (3, (0, 0, 6, [])), (4, (0, 2, 7, [])), (5, (2, 0, 0, [2])), (6, (2, 0, 0, [3])), (7, (0, 0, 127, [])), (8, (0, 0, 6, [])), (9, (0, 2, 7, [])), (10, (0, 0, 1000072, [])), (11, (0, 0, 6, [])), (12, (0, 1, 7, []))], [(6, [12, 11], [1]), (7, [11, 8], [0]), (7, [11, 9], [2]), (20, [5, 6, 7, 8, 11, 10], [60, 0, 5, 710, 14, 13, 1007, 1009, 1015]), (20, [7, 8], [61, 0, 705]), (20, [11, 9], [50, 0, 0, 0, 2, 1, 0, 1, 1]), (24, [0, 5], []), (24, [1, 6], []), (24, [2, 7], []), (24, [3, 8], []), (24, [4, 9], [])], [], [], [(20, [5, 6, 7, 8, 12, 10], [60, 0, 5, 710, 14, 13, 1007, 1009, 1015]), (20, [12, 9], [50, 0, 0, 0, 2, 1, 0, 1, 1])], [], [(12, 11, 1, 1), (12, 8, 1, 1), (12, 9, -4294967296, 0), (12, 4, -4294967296, 1), (12, 9, -4294967296, 1), (11, 8, 0, 0), (11, 9, -4294967296, -1), (2, 7, -4294967296, 0), (3, 8, -4294967296, 0), (4, 9, -4294967296, 0), (7, 2, -4294967296, 0), (8, 3, -4294967296, 0), (9, 4, -4294967296, 0), (11, 4, -4294967296, 0), (11, 9, -4294967296, 0)])
theorem oo_Fa_costAhead_2 {kA : Nat → ClassId} : or_ok PRD kA GG o_Fa_costAhead_2 := by
  refine or_mk fun A ta ws vs hD hth hl => ?_
  intro t0 r0 t1 r1 t2 k2 t3 k3 t4 k4 t5 r5 t6 r6 t7 k7 t8 k8 t9 k9 t10 k10 t11 k11 t12 k12 d0 d1 d2 d3 d4 d5 d6 d7 d8 d9 d10 d11 d12 d13 d14 f0 f1 f2 f3 f4 f5 f6 f7 f8 f9 f10
  replace f0 := shm_4 f0
  replace f1 := shm_37 f1
  replace f3 := shm_1085 f3
  replace f6 := shm_5 f6
  replace f7 := shm_5 f7
  replace f8 := shm_5 f8
  replace f9 := shm_5 f9
  replace f10 := shm_5 f10
  have q5 : n_v vs 5 = n_v vs 0 := f6.symm
  have q6 : n_v vs 6 = n_v vs 1 := f7.symm
  have q7 : n_v vs 7 = n_v vs 2 := f8.symm
  have q8 : n_v vs 8 = n_v vs 3 := f9.symm
  have q9 : n_v vs 9 = n_v vs 4 := f10.symm
  simp only [q8, q5, q6, q7] at f1 f3
  have nf0 : fc_1 PRD (20, [5, 6, 7, 8, 12, 10], [60, 0, 5, 710, 14, 13, 1007, 1009, 1015]) ws (vs) := by
    refine ⟨nf_in hl rfl, sgq_1085 ?_⟩
    · show CAI (w_ei ws (w_ar ws (n_v vs 5) 14)) (w_ei ws (w_ar ws (n_v vs 5) 13)) (w_ei ws (w_ar ws (n_v vs 6) 7)) (w_ei ws (w_ar ws (n_v vs 6) 9)) (w_ei ws (w_ar ws (n_v vs 6) 15)) (v_iv (n_v vs 7)) (v_iv (n_v vs 8)) (v_iv (n_v vs 12)) (v_iv (n_v vs 10))
      simp only [q5, q6, q7, q8]
      exact vc_Fa_costAhead_2_0 (v_iv (n_v vs 2)) (v_iv (n_v vs 3)) (v_iv (n_v vs 7)) (v_iv (n_v vs 8)) (v_iv (n_v vs 9)) (v_iv (n_v vs 10)) (v_iv (n_v vs 11)) (v_iv (n_v vs 12)) (w_ei ws (w_ar ws (n_v vs 0) 14)) (w_ei ws (w_ar ws (n_v vs 0) 13)) (w_ei ws (w_ar ws (n_v vs 1) 7)) (w_ei ws (w_ar ws (n_v vs 1) 9)) (w_ei ws (w_ar ws (n_v vs 1) 15)) k2 k3 k10 k11 k12 f0 f1 f3
  have nf1 : fc_1 PRD (20, [12, 9], [50, 0, 0, 0, 2, 1, 0, 1, 1]) ws (vs) := by
    refine ⟨nf_in hl rfl, sgq_360 ?_⟩
    · show v_iv (n_v vs 12) ≤ v_iv (n_v vs 9)
      rw [q9]
      exact vc_Fa_costAhead_2_1 (v_iv (n_v vs 4)) (v_iv (n_v vs 9)) (v_iv (n_v vs 11)) (v_iv (n_v vs 12)) k4 k9 k11 k12 d0 d2 d6 d9 d12
  refine ⟨(fun _ h => (by cases h)), [], trivial, ?_, (fun _ h => (by cases h))⟩
  rw [List.append_nil]
  exact List.forall_mem_cons.mpr ⟨⟨show (20 : Nat) < 100 from by decide, nf0⟩, List.forall_mem_cons.mpr ⟨⟨show (20 : Nat) < 100 from by decide, nf1⟩, (fun _ h => (by cases h))⟩⟩
set_option maxHeartbeats 4000000 in
theorem vc_Fa_costAhead_3_0 (x2 : Int) (x3 : Int) (x7 : Int) (x8 : Int) (x9 : Int) (x10 : Int) (x11 : Int) (x12 : Int) (x13 : Int) (x14 : Int) (x15 : Int) (least_0 : Int → Int) (member_0 : Int → Int) (tail_0o1 : Int → Int) (weight_0o1 : Int → Int) (link_0o1 : Int → Int) (k2 : 0 ≤ x2 ∧ x2 ≤ 127) (k3 : 0 ≤ x3 ∧ x3 ≤ 6) (k10 : 0 ≤ x10 ∧ x10 ≤ 1000072) (k11 : 0 ≤ x11 ∧ x11 ≤ 6) (k12 : 0 ≤ x12 ∧ x12 ≤ 127) (k13 : 1 ≤ x13 ∧ x13 ≤ 1) (k14 : 0 ≤ x14 ∧ x14 ≤ 0) (k15 : 1 ≤ x15 ∧ x15 ≤ 7) (d0 : x11 + 1 ≤ x15 ∧ x15 ≤ x11 + 1) (f0 : x15 = x11 + 1) (f3 : bvp (x14) = bvp (x12) &&& bvp (x13)) (f4 : bvp (x12) = bvp (x2) >>> (x11).toNat) (f7 : CAI (least_0) (member_0) (tail_0o1) (weight_0o1) (link_0o1) (x2) (x3) (x11) (x10)) : CAI (least_0) (member_0) (tail_0o1) (weight_0o1) (link_0o1) (x2) (x3) (x15) (x10) := by
  first
    | exact cai_start (x := x10) (del_bit1 (q := x7) (r := x9) (m1 := x8) (one := x6) (by omega) (by omega) (by omega) (by omega) ‹BBT _ _› (by assumption) (by omega) (by assumption) (by omega) (by assumption) (by omega) (by omega)) (by assumption) (by omega)
    | exact cai_skip ‹CAI _ _ _ _ _ _ _ _ _› (fun q => q.1 (by omega)) (by omega)
    | exact cai_skip ‹CAI _ _ _ _ _ _ _ _ _› (fun q => by have b := (bit_one (s := x2) (t := x12) (c := x14) (v := x11) (one := x13) (by assumption) (by assumption) (by omega) (by omega) (by omega) (by omega)).1 q.2; omega) (by omega)
    | exact cai_step (a := x16) (b := x17) (w := x18) ‹CAI _ _ _ _ _ _ _ _ _› (by omega) ((bit_one (s := x2) (t := x12) (c := x14) (v := x11) (one := x13) (by assumption) (by assumption) (by omega) (by omega) (by omega) (by omega)).2 (by omega)) (by assumption) (by assumption) ‹WOX _ _ _ _ _ _› (by omega) (by omega)
  
set_option maxHeartbeats 4000000 in
theorem vc_Fa_costAhead_3_1 (x4 : Int) (x9 : Int) (x11 : Int) (x15 : Int) (k4 : 2 ≤ x4 ∧ x4 ≤ 7) (k9 : 2 ≤ x9 ∧ x9 ≤ 7) (k11 : 0 ≤ x11 ∧ x11 ≤ 6) (k15 : 1 ≤ x15 ∧ x15 ≤ 7) (d0 : x11 + 1 ≤ x15 ∧ x15 ≤ x11 + 1) (d1 : x9 + (-4294967296) ≤ x15 ∧ x15 ≤ x9 + 0) (d4 : x9 + (-4294967296) ≤ x11 ∧ x11 ≤ x9 + (-1)) (d7 : x9 + (-4294967296) ≤ x4 ∧ x4 ≤ x9 + 0) (d10 : x4 + (-4294967296) ≤ x9 ∧ x9 ≤ x4 + 0) : x15 ≤ x4 := by
  first
    | omega
    | (have q := cai_rng ‹CAI _ _ _ _ _ _ _ _ _› (by assumption) (by assumption) (by assumption) (by assumption) (by omega) (by omega) (by omega) (by omega) (by omega) ‹BBT _ _›; omega)
  
def o_Fa_costAhead_3 : or_T := (17, 16, [(2, (0, 0, 127, [])), (3, (0, 0, 6, [])), (4, (0, 2, 7, [])), (9, (0, 2, 7, [])), (10, (0, 0, 1000072, [])), (11, (0, 0, 6, [])), (12, (0, 0, 127, [])), (13, (0, 1, 1, [])), (14, (0, 0, 0, [])), (15, (0, 1, 7, []))], [(6, [15, 11], [1]), (16, [14, 12, 13], [0]), (16, [12, 7, 11], [4]), (20, [5, 6, 7, 8, 11, 10], [60, 0, 5, 710, 14, 13, 1007, 1009, 1015]), (24, [0, 5], []), (24, [1, 6], []), (24, [2, 7], []), (24, [3, 8], []), (24, [4, 9], [])], [], [], [(20, [5, 6, 7, 8, 15, 10], [60, 0, 5, 710, 14, 13, 1007, 1009, 1015]), (20, [15, 9], [50, 0, 0, 0, 2, 1, 0, 1, 1])], [], [(15, 11, 1, 1), (15, 9, -4294967296, 0), (11, 9, -4294967296, -1), (4, 9, -4294967296, 0), (9, 4, -4294967296, 0)])
theorem oo_Fa_costAhead_3 {kA : Nat → ClassId} : or_ok PRD kA GG o_Fa_costAhead_3 := by
  refine or_mk fun A ta ws vs hD hth hl => ?_
  intro t2 k2 t3 k3 t4 k4 t9 k9 t10 k10 t11 k11 t12 k12 t13 k13 t14 k14 t15 k15 d0 d1 d4 d7 d10 f0 f3 f4 f7 f10 f11 f12 f13 f14
  replace f0 := shm_4 f0
  replace f3 := shm_11 f3
  replace f4 := shm_13 f4
  replace f7 := shm_1085 f7
  replace f10 := shm_5 f10
  replace f11 := shm_5 f11
  replace f12 := shm_5 f12
  replace f13 := shm_5 f13
  replace f14 := shm_5 f14
  have q5 : n_v vs 5 = n_v vs 0 := f10.symm
  have q6 : n_v vs 6 = n_v vs 1 := f11.symm
  have q7 : n_v vs 7 = n_v vs 2 := f12.symm
  have q8 : n_v vs 8 = n_v vs 3 := f13.symm
  have q9 : n_v vs 9 = n_v vs 4 := f14.symm
  simp only [q7, q8, q5, q6] at f4 f7
  have nf0 : fc_1 PRD (20, [5, 6, 7, 8, 15, 10], [60, 0, 5, 710, 14, 13, 1007, 1009, 1015]) ws (vs) := by
    refine ⟨nf_in hl rfl, sgq_1085 ?_⟩
    · show CAI (w_ei ws (w_ar ws (n_v vs 5) 14)) (w_ei ws (w_ar ws (n_v vs 5) 13)) (w_ei ws (w_ar ws (n_v vs 6) 7)) (w_ei ws (w_ar ws (n_v vs 6) 9)) (w_ei ws (w_ar ws (n_v vs 6) 15)) (v_iv (n_v vs 7)) (v_iv (n_v vs 8)) (v_iv (n_v vs 15)) (v_iv (n_v vs 10))
      simp only [q5, q6, q7, q8]
      exact vc_Fa_costAhead_3_0 (v_iv (n_v vs 2)) (v_iv (n_v vs 3)) (v_iv (n_v vs 7)) (v_iv (n_v vs 8)) (v_iv (n_v vs 9)) (v_iv (n_v vs 10)) (v_iv (n_v vs 11)) (v_iv (n_v vs 12)) (v_iv (n_v vs 13)) (v_iv (n_v vs 14)) (v_iv (n_v vs 15)) (w_ei ws (w_ar ws (n_v vs 0) 14)) (w_ei ws (w_ar ws (n_v vs 0) 13)) (w_ei ws (w_ar ws (n_v vs 1) 7)) (w_ei ws (w_ar ws (n_v vs 1) 9)) (w_ei ws (w_ar ws (n_v vs 1) 15)) k2 k3 k10 k11 k12 k13 k14 k15 d0 f0 f3 f4 f7
  have nf1 : fc_1 PRD (20, [15, 9], [50, 0, 0, 0, 2, 1, 0, 1, 1]) ws (vs) := by
    refine ⟨nf_in hl rfl, sgq_360 ?_⟩
    · show v_iv (n_v vs 15) ≤ v_iv (n_v vs 9)
      rw [q9]
      exact vc_Fa_costAhead_3_1 (v_iv (n_v vs 4)) (v_iv (n_v vs 9)) (v_iv (n_v vs 11)) (v_iv (n_v vs 15)) k4 k9 k11 k15 d0 d1 d4 d7 d10
  refine ⟨(fun _ h => (by cases h)), [], trivial, ?_, (fun _ h => (by cases h))⟩
  rw [List.append_nil]
  exact List.forall_mem_cons.mpr ⟨⟨show (20 : Nat) < 100 from by decide, nf0⟩, List.forall_mem_cons.mpr ⟨⟨show (20 : Nat) < 100 from by decide, nf1⟩, (fun _ h => (by cases h))⟩⟩
set_option maxHeartbeats 4000000 in
theorem vc_Fa_costAhead_4_r0 (x2 : Int) (x3 : Int) (x7 : Int) (x8 : Int) (x10 : Int) (x11 : Int) (tail_0o1 : Int → Int) (weight_0o1 : Int → Int) (link_0o1 : Int → Int) (member_0 : Int → Int) (least_0 : Int → Int) (k2 : 0 ≤ x2 ∧ x2 ≤ 127) (k3 : 0 ≤ x3 ∧ x3 ≤ 6) (k7 : 0 ≤ x7 ∧ x7 ≤ 127) (k8 : 0 ≤ x8 ∧ x8 ≤ 6) (k10 : 0 ≤ x10 ∧ x10 ≤ 1000072) (k11 : 0 ≤ x11 ∧ x11 ≤ 6) (d1 : x7 + (-4294967296) ≤ x2 ∧ x2 ≤ x7 + 0) (d2 : x8 + (-4294967296) ≤ x3 ∧ x3 ≤ x8 + 0) (d4 : x2 + (-4294967296) ≤ x7 ∧ x7 ≤ x2 + 0) (d5 : x3 + (-4294967296) ≤ x8 ∧ x8 ≤ x3 + 0) (f10 : CAI (least_0) (member_0) (tail_0o1) (weight_0o1) (link_0o1) (x2) (x3) (x11) (x10)) (f11 : BBT (x2) (x3)) (hK_0_13 : ∀ j : Int, 0 ≤ j → j < 24 → 0 ≤ member_0 j ∧ member_0 j ≤ 23) (hK_0_14 : ∀ j : Int, 0 ≤ j → j < 128 → 0 ≤ least_0 j ∧ least_0 j ≤ 1000000) (hK_1_9 : ∀ j : Int, 0 ≤ j → j < 48 → 0 ≤ weight_0o1 j ∧ weight_0o1 j ≤ 9) (hK_1_15 : ∀ j : Int, 0 ≤ j → j < 576 → (-1) ≤ link_0o1 j ∧ link_0o1 j ≤ 47) : 0 ≤ x10 ∧ x10 ≤ 1000063 := by
  first
    | omega
    | (have q := cai_rng ‹CAI _ _ _ _ _ _ _ _ _› (by assumption) (by assumption) (by assumption) (by assumption) (by omega) (by omega) (by omega) (by omega) (by omega) ‹BBT _ _›; omega)
  
def o_Fa_costAhead_4 : or_T := (58, 19, [(0, (2, 0, 0, [2])), (1, (2, 0, 0, [3])), (2, (0, 0, 127, [])), (3, (0, 0, 6, [])), (4, (0, 2, 7, [])), (5, (2, 0, 0, [2])), (6, (2, 0, 0, [3])), (7, (0, 0, 127, [])), (8, (0, 0, 6, [])), (9, (0, 2, 7, [])), (10, (0, 0, 1000072, [])), (11, (0, 0, 6, [])), (12, (0, 0, 127, [])), (13, (0, 1, 1, [])), (14, (0, 1, 1, [])), (15, (2, 0, 0, [46])), (16, (0, 0, 23, [])), (17, (0, 0, 23, [])), (18, (0, 0, 0, []))], [(20, [6, 16, 17, 18], [60, 0, 3, 709, 7, 9, 15]), (10, [17, 15, 8], []), (9, [15, 5], [13]), (10, [16, 15, 11], []), (8, [14], [1]), (12, [14, 12], [2]), (16, [14, 12, 13], [0]), (16, [12, 7, 11], [4]), (7, [11, 8], [1]), (7, [11, 9], [2]), (20, [5, 6, 7, 8, 11, 10], [60, 0, 5, 710, 14, 13, 1007, 1009, 1015]), (20, [7, 8], [61, 0, 705]), (20, [11, 9], [50, 0, 0, 0, 2, 1, 0, 1, 1]), (24, [0, 5], []), (24, [1, 6], []), (24, [2, 7], []), (24, [3, 8], []), (24, [4, 9], [])], [(10, (0, 0, 1000063, []))], [], [], [], [(11, 9, -4294967296, -1), (2, 7, -4294967296, 0), (3, 8, -4294967296, 0), (4, 9, -4294967296, 0), (7, 2, -4294967296, 0), (8, 3, -4294967296, 0), (9, 4, -4294967296, 0), (11, 4, -4294967296, 0), (11, 9, -4294967296, 0)])
theorem oo_Fa_costAhead_4 {kA : Nat → ClassId} : or_ok PRD kA GG o_Fa_costAhead_4 := by
  refine or_mk fun A ta ws vs hD hth hl => ?_
  intro t0 r0 t1 r1 t2 k2 t3 k3 t4 k4 t5 r5 t6 r6 t7 k7 t8 k8 t9 k9 t10 k10 t11 k11 t12 k12 t13 k13 t14 k14 t15 r15 t16 k16 t17 k17 t18 k18 d0 d1 d2 d3 d4 d5 d6 d7 d8 f0 f1 f2 f3 f4 f5 f6 f7 f8 f9 f10 f11 f12 f13 f14 f15 f16 f17
  replace f10 := shm_1085 f10
  replace f11 := shm_1083 f11
  replace f13 := shm_5 f13
  replace f14 := shm_5 f14
  replace f15 := shm_5 f15
  replace f16 := shm_5 f16
  have q5 : n_v vs 5 = n_v vs 0 := f13.symm
  have q6 : n_v vs 6 = n_v vs 1 := f14.symm
  have q7 : n_v vs 7 = n_v vs 2 := f15.symm
  have q8 : n_v vs 8 = n_v vs 3 := f16.symm
  simp only [q6, q8, q5, q7] at f10 f11
  have cr_0_13 := fdq_64 hD hth r0
  have cr_0_14 := fdq_247 hD hth r0
  have cr_1_9 := fdq_112 hD hth r1
  have cr_1_15 := fdq_66 hD hth r1
  have hK_0_13 := elq_24 hD hth cr_0_13
  have hK_0_14 := elq_154 hD hth cr_0_14
  have hK_1_9 := elq_57 hD hth cr_1_9
  have hK_1_15 := elq_31 hD hth cr_1_15
  have hrf0 : 0 ≤ v_iv (n_v vs 10) ∧ v_iv (n_v vs 10) ≤ 1000063 := vc_Fa_costAhead_4_r0 (v_iv (n_v vs 2)) (v_iv (n_v vs 3)) (v_iv (n_v vs 7)) (v_iv (n_v vs 8)) (v_iv (n_v vs 10)) (v_iv (n_v vs 11)) (w_ei ws (w_ar ws (n_v vs 1) 7)) (w_ei ws (w_ar ws (n_v vs 1) 9)) (w_ei ws (w_ar ws (n_v vs 1) 15)) (w_ei ws (w_ar ws (n_v vs 0) 13)) (w_ei ws (w_ar ws (n_v vs 0) 14)) k2 k3 k7 k8 k10 k11 d1 d2 d4 d5 f10 f11 hK_0_13 hK_0_14 hK_1_9 hK_1_15
  have rf10 : tv_ok ta (0, 0, 1000063, []) (n_v vs 10) := tv_in t10 (by first | omega | grind) (by first | omega | grind)
  refine ⟨List.forall_mem_cons.mpr ⟨rf10, (fun _ h => (by cases h))⟩, [], trivial, ?_, (fun _ h => (by cases h))⟩
  rw [List.append_nil]
  exact (fun _ h => (by cases h))
set_option maxHeartbeats 4000000 in
theorem vc_Fa_costAhead_5_0 (x2 : Int) (x3 : Int) (x7 : Int) (x8 : Int) (x9 : Int) (x10 : Int) (x11 : Int) (x12 : Int) (x13 : Int) (x14 : Int) (x16 : Int) (x17 : Int) (x18 : Int) (x19 : Int) (x20 : Int) (tail_0o1 : Int → Int) (weight_0o1 : Int → Int) (link_0o1 : Int → Int) (member_0 : Int → Int) (least_0 : Int → Int) (k2 : 0 ≤ x2 ∧ x2 ≤ 127) (k3 : 0 ≤ x3 ∧ x3 ≤ 6) (k10 : 0 ≤ x10 ∧ x10 ≤ 1000063) (k11 : 0 ≤ x11 ∧ x11 ≤ 6) (k12 : 0 ≤ x12 ∧ x12 ≤ 127) (k13 : 1 ≤ x13 ∧ x13 ≤ 1) (k14 : 1 ≤ x14 ∧ x14 ≤ 1) (k16 : 0 ≤ x16 ∧ x16 ≤ 23) (k17 : 0 ≤ x17 ∧ x17 ≤ 23) (k18 : 0 ≤ x18 ∧ x18 ≤ 0) (k19 : 0 ≤ x19 ∧ x19 ≤ 1000063) (k20 : 1 ≤ x20 ∧ x20 ≤ 7) (d0 : x11 + 1 ≤ x20 ∧ x20 ≤ x11 + 1) (f0 : x20 = x11 + 1) (f1 : x19 = x10 + x18) (f2 : WOX (tail_0o1) (weight_0o1) (link_0o1) (x16) (x17) (x18)) (h3 : x17 = member_0 (x3)) (h5 : x16 = member_0 (x11)) (f8 : bvp (x14) = bvp (x12) &&& bvp (x13)) (f9 : bvp (x12) = bvp (x2) >>> (x11).toNat) (f10 : x11 ≠ x3) (f12 : CAI (least_0) (member_0) (tail_0o1) (weight_0o1) (link_0o1) (x2) (x3) (x11) (x10)) : CAI (least_0) (member_0) (tail_0o1) (weight_0o1) (link_0o1) (x2) (x3) (x20) (x19) := by
  first
    | exact cai_start (x := x10) (del_bit1 (q := x7) (r := x9) (m1 := x8) (one := x6) (by omega) (by omega) (by omega) (by omega) ‹BBT _ _› (by assumption) (by omega) (by assumption) (by omega) (by assumption) (by omega) (by omega)) (by assumption) (by omega)
    | exact cai_skip ‹CAI _ _ _ _ _ _ _ _ _› (fun q => q.1 (by omega)) (by omega)
    | exact cai_skip ‹CAI _ _ _ _ _ _ _ _ _› (fun q => by have b := (bit_one (s := x2) (t := x12) (c := x14) (v := x11) (one := x13) (by assumption) (by assumption) (by omega) (by omega) (by omega) (by omega)).1 q.2; omega) (by omega)
    | exact cai_step (a := x16) (b := x17) (w := x18) ‹CAI _ _ _ _ _ _ _ _ _› (by omega) ((bit_one (s := x2) (t := x12) (c := x14) (v := x11) (one := x13) (by assumption) (by assumption) (by omega) (by omega) (by omega) (by omega)).2 (by omega)) (by assumption) (by assumption) ‹WOX _ _ _ _ _ _› (by omega) (by omega)
  
set_option maxHeartbeats 4000000 in
theorem vc_Fa_costAhead_5_1 (x4 : Int) (x9 : Int) (x11 : Int) (x20 : Int) (k4 : 2 ≤ x4 ∧ x4 ≤ 7) (k9 : 2 ≤ x9 ∧ x9 ≤ 7) (k11 : 0 ≤ x11 ∧ x11 ≤ 6) (k20 : 1 ≤ x20 ∧ x20 ≤ 7) (d0 : x11 + 1 ≤ x20 ∧ x20 ≤ x11 + 1) (d1 : x9 + (-4294967296) ≤ x20 ∧ x20 ≤ x9 + 0) (d5 : x9 + (-4294967296) ≤ x11 ∧ x11 ≤ x9 + (-1)) (d8 : x9 + (-4294967296) ≤ x4 ∧ x4 ≤ x9 + 0) (d11 : x4 + (-4294967296) ≤ x9 ∧ x9 ≤ x4 + 0) : x20 ≤ x4 := by
  first
    | omega
    | (have q := cai_rng ‹CAI _ _ _ _ _ _ _ _ _› (by assumption) (by assumption) (by assumption) (by assumption) (by omega) (by omega) (by omega) (by omega) (by omega) ‹BBT _ _›; omega)
  
def o_Fa_costAhead_5 : or_T := (17, 21, [(0, (2, 0, 0, [2])), (1, (2, 0, 0, [3])), (2, (0, 0, 127, [])), (3, (0, 0, 6, [])), (4, (0, 2, 7, [])), (5, (2, 0, 0, [2])), (6, (2, 0, 0, [3])), (7, (0, 0, 127, [])), (8, (0, 0, 6, [])), (9, (0, 2, 7, [])), (10, (0, 0, 1000063, [])), (11, (0, 0, 6, [])), (12, (0, 0, 127, [])), (13, (0, 1, 1, [])), (14, (0, 1, 1, [])), (15, (2, 0, 0, [46])), (16, (0, 0, 23, [])), (17, (0, 0, 23, [])), (18, (0, 0, 0, [])), (19, (0, 0, 1000063, [])), (20, (0, 1, 7, []))], [(6, [20, 11], [1]), (1, [19, 10, 18], []), (20, [6, 16, 17, 18], [60, 0, 3, 709, 7, 9, 15]), (10, [17, 15, 8], []), (9, [15, 5], [13]), (10, [16, 15, 11], []), (8, [14], [1]), (12, [14, 12], [2]), (16, [14, 12, 13], [0]), (16, [12, 7, 11], [4]), (7, [11, 8], [1]), (7, [11, 9], [2]), (20, [5, 6, 7, 8, 11, 10], [60, 0, 5, 710, 14, 13, 1007, 1009, 1015]), (20, [7, 8], [61, 0, 705]), (20, [11, 9], [50, 0, 0, 0, 2, 1, 0, 1, 1]), (24, [0, 5], []), (24, [1, 6], []), (24, [2, 7], []), (24, [3, 8], []), (24, [4, 9], [])], [], [], [(20, [5, 6, 7, 8, 20, 19], [60, 0, 5, 710, 14, 13, 1007, 1009, 1015]), (20, [20, 9], [50, 0, 0, 0, 2, 1, 0, 1, 1])], [], [(20, 11, 1, 1), (20, 9, -4294967296, 0), (20, 4, -4294967296, 1), (20, 9, -4294967296, 1), (19, 10, 0, 0), (11, 9, -4294967296, -1), (2, 7, -4294967296, 0), (3, 8, -4294967296, 0), (4, 9, -4294967296, 0), (7, 2, -4294967296, 0), (8, 3, -4294967296, 0), (9, 4, -4294967296, 0), (11, 4, -4294967296, 0), (11, 9, -4294967296, 0)])
theorem oo_Fa_costAhead_5 {kA : Nat → ClassId} : or_ok PRD kA GG o_Fa_costAhead_5 := by
  refine or_mk fun A ta ws vs hD hth hl => ?_
  intro t0 r0 t1 r1 t2 k2 t3 k3 t4 k4 t5 r5 t6 r6 t7 k7 t8 k8 t9 k9 t10 k10 t11 k11 t12 k12 t13 k13 t14 k14 t15 r15 t16 k16 t17 k17 t18 k18 t19 k19 t20 k20 d0 d1 d2 d3 d4 d5 d6 d7 d8 d9 d10 d11 d12 d13 f0 f1 f2 f3 f4 f5 f6 f7 f8 f9 f10 f11 f12 f13 f14 f15 f16 f17 f18 f19
  replace f0 := shm_4 f0
  replace f1 := shm_12 f1
  replace f2 := shm_823 f2
  replace f3 := shm_107 f3
  replace f4 := shm_361 f4
  replace f5 := shm_107 f5
  replace f8 := shm_11 f8
  replace f9 := shm_13 f9
  replace f10 := shm_40 f10
  replace f12 := shm_1085 f12
  replace f15 := shm_5 f15
  replace f16 := shm_5 f16
  replace f17 := shm_5 f17
  replace f18 := shm_5 f18
  replace f19 := shm_5 f19
  have q5 : n_v vs 5 = n_v vs 0 := f15.symm
  have q6 : n_v vs 6 = n_v vs 1 := f16.symm
  have q7 : n_v vs 7 = n_v vs 2 := f17.symm
  have q8 : n_v vs 8 = n_v vs 3 := f18.symm
  have q9 : n_v vs 9 = n_v vs 4 := f19.symm
  simp only [q6, q8, q5, q7] at f2 f3 f4 f9 f10 f12
  have ad_15 : v_ad (n_v vs 15) = w_ar ws (n_v vs 0) 13 := congrArg v_ad f4
  simp only [ad_15] at f3
  have h3 : v_iv (n_v vs 17) = w_ei ws (w_ar ws (n_v vs 0) 13) (v_iv (n_v vs 3)) := f3
  simp only [ad_15] at f5
  have h5 : v_iv (n_v vs 16) = w_ei ws (w_ar ws (n_v vs 0) 13) (v_iv (n_v vs 11)) := f5
  have nf0 : fc_1 PRD (20, [5, 6, 7, 8, 20, 19], [60, 0, 5, 710, 14, 13, 1007, 1009, 1015]) ws (vs) := by
    refine ⟨nf_in hl rfl, sgq_1085 ?_⟩
    · show CAI (w_ei ws (w_ar ws (n_v vs 5) 14)) (w_ei ws (w_ar ws (n_v vs 5) 13)) (w_ei ws (w_ar ws (n_v vs 6) 7)) (w_ei ws (w_ar ws (n_v vs 6) 9)) (w_ei ws (w_ar ws (n_v vs 6) 15)) (v_iv (n_v vs 7)) (v_iv (n_v vs 8)) (v_iv (n_v vs 20)) (v_iv (n_v vs 19))
      simp only [q5, q6, q7, q8]
      exact vc_Fa_costAhead_5_0 (v_iv (n_v vs 2)) (v_iv (n_v vs 3)) (v_iv (n_v vs 7)) (v_iv (n_v vs 8)) (v_iv (n_v vs 9)) (v_iv (n_v vs 10)) (v_iv (n_v vs 11)) (v_iv (n_v vs 12)) (v_iv (n_v vs 13)) (v_iv (n_v vs 14)) (v_iv (n_v vs 16)) (v_iv (n_v vs 17)) (v_iv (n_v vs 18)) (v_iv (n_v vs 19)) (v_iv (n_v vs 20)) (w_ei ws (w_ar ws (n_v vs 1) 7)) (w_ei ws (w_ar ws (n_v vs 1) 9)) (w_ei ws (w_ar ws (n_v vs 1) 15)) (w_ei ws (w_ar ws (n_v vs 0) 13)) (w_ei ws (w_ar ws (n_v vs 0) 14)) k2 k3 k10 k11 k12 k13 k14 k16 k17 k18 k19 k20 d0 f0 f1 f2 h3 h5 f8 f9 f10 f12
  have nf1 : fc_1 PRD (20, [20, 9], [50, 0, 0, 0, 2, 1, 0, 1, 1]) ws (vs) := by
    refine ⟨nf_in hl rfl, sgq_360 ?_⟩
    · show v_iv (n_v vs 20) ≤ v_iv (n_v vs 9)
      rw [q9]
      exact vc_Fa_costAhead_5_1 (v_iv (n_v vs 4)) (v_iv (n_v vs 9)) (v_iv (n_v vs 11)) (v_iv (n_v vs 20)) k4 k9 k11 k20 d0 d1 d5 d8 d11
  refine ⟨(fun _ h => (by cases h)), [], trivial, ?_, (fun _ h => (by cases h))⟩
  rw [List.append_nil]
  exact List.forall_mem_cons.mpr ⟨⟨show (20 : Nat) < 100 from by decide, nf0⟩, List.forall_mem_cons.mpr ⟨⟨show (20 : Nat) < 100 from by decide, nf1⟩, (fun _ h => (by cases h))⟩⟩
set_option maxHeartbeats 4000000 in
theorem vc_Fa_costAhead_6_r0 (x2 : Int) (x3 : Int) (x7 : Int) (x8 : Int) (x10 : Int) (x11 : Int) (tail_0o1 : Int → Int) (weight_0o1 : Int → Int) (link_0o1 : Int → Int) (member_0 : Int → Int) (least_0 : Int → Int) (k2 : 0 ≤ x2 ∧ x2 ≤ 127) (k3 : 0 ≤ x3 ∧ x3 ≤ 6) (k7 : 0 ≤ x7 ∧ x7 ≤ 127) (k8 : 0 ≤ x8 ∧ x8 ≤ 6) (k10 : 0 ≤ x10 ∧ x10 ≤ 1000072) (k11 : 0 ≤ x11 ∧ x11 ≤ 6) (d1 : x7 + (-4294967296) ≤ x2 ∧ x2 ≤ x7 + 0) (d2 : x8 + (-4294967296) ≤ x3 ∧ x3 ≤ x8 + 0) (d4 : x2 + (-4294967296) ≤ x7 ∧ x7 ≤ x2 + 0) (d5 : x3 + (-4294967296) ≤ x8 ∧ x8 ≤ x3 + 0) (f10 : CAI (least_0) (member_0) (tail_0o1) (weight_0o1) (link_0o1) (x2) (x3) (x11) (x10)) (f11 : BBT (x2) (x3)) (hK_0_13 : ∀ j : Int, 0 ≤ j → j < 24 → 0 ≤ member_0 j ∧ member_0 j ≤ 23) (hK_0_14 : ∀ j : Int, 0 ≤ j → j < 128 → 0 ≤ least_0 j ∧ least_0 j ≤ 1000000) (hK_1_9 : ∀ j : Int, 0 ≤ j → j < 48 → 0 ≤ weight_0o1 j ∧ weight_0o1 j ≤ 9) (hK_1_15 : ∀ j : Int, 0 ≤ j → j < 576 → (-1) ≤ link_0o1 j ∧ link_0o1 j ≤ 47) : 0 ≤ x10 ∧ x10 ≤ 1000063 := by
  first
    | omega
    | (have q := cai_rng ‹CAI _ _ _ _ _ _ _ _ _› (by assumption) (by assumption) (by assumption) (by assumption) (by omega) (by omega) (by omega) (by omega) (by omega) ‹BBT _ _›; omega)
  
def o_Fa_costAhead_6 : or_T := (58, 19, [(0, (2, 0, 0, [2])), (1, (2, 0, 0, [3])), (2, (0, 0, 127, [])), (3, (0, 0, 6, [])), (4, (0, 2, 7, [])), (5, (2, 0, 0, [2])), (6, (2, 0, 0, [3])), (7, (0, 0, 127, [])), (8, (0, 0, 6, [])), (9, (0, 2, 7, [])), (10, (0, 0, 1000072, [])), (11, (0, 0, 6, [])), (12, (0, 0, 127, [])), (13, (0, 1, 1, [])), (14, (0, 1, 1, [])), (15, (2, 0, 0, [46])), (16, (0, 0, 23, [])), (17, (0, 0, 23, [])), (18, (0, 0, 9, []))], [(20, [6, 16, 17, 18], [60, 0, 3, 709, 7, 9, 15]), (10, [17, 15, 8], []), (9, [15, 5], [13]), (10, [16, 15, 11], []), (8, [14], [1]), (12, [14, 12], [2]), (16, [14, 12, 13], [0]), (16, [12, 7, 11], [4]), (7, [11, 8], [1]), (7, [11, 9], [2]), (20, [5, 6, 7, 8, 11, 10], [60, 0, 5, 710, 14, 13, 1007, 1009, 1015]), (20, [7, 8], [61, 0, 705]), (20, [11, 9], [50, 0, 0, 0, 2, 1, 0, 1, 1]), (24, [0, 5], []), (24, [1, 6], []), (24, [2, 7], []), (24, [3, 8], []), (24, [4, 9], [])], [(10, (0, 0, 1000063, []))], [], [], [], [(11, 9, -4294967296, -1), (2, 7, -4294967296, 0), (3, 8, -4294967296, 0), (4, 9, -4294967296, 0), (7, 2, -4294967296, 0), (8, 3, -4294967296, 0), (9, 4, -4294967296, 0), (11, 4, -4294967296, 0), (11, 9, -4294967296, 0)])
theorem oo_Fa_costAhead_6 {kA : Nat → ClassId} : or_ok PRD kA GG o_Fa_costAhead_6 := by
  refine or_mk fun A ta ws vs hD hth hl => ?_
  intro t0 r0 t1 r1 t2 k2 t3 k3 t4 k4 t5 r5 t6 r6 t7 k7 t8 k8 t9 k9 t10 k10 t11 k11 t12 k12 t13 k13 t14 k14 t15 r15 t16 k16 t17 k17 t18 k18 d0 d1 d2 d3 d4 d5 d6 d7 d8 f0 f1 f2 f3 f4 f5 f6 f7 f8 f9 f10 f11 f12 f13 f14 f15 f16 f17
  replace f10 := shm_1085 f10
  replace f11 := shm_1083 f11
  replace f13 := shm_5 f13
  replace f14 := shm_5 f14
  replace f15 := shm_5 f15
  replace f16 := shm_5 f16
  have q5 : n_v vs 5 = n_v vs 0 := f13.symm
  have q6 : n_v vs 6 = n_v vs 1 := f14.symm
  have q7 : n_v vs 7 = n_v vs 2 := f15.symm
  have q8 : n_v vs 8 = n_v vs 3 := f16.symm
  simp only [q6, q8, q5, q7] at f10 f11
  have cr_0_13 := fdq_64 hD hth r0
  have cr_0_14 := fdq_247 hD hth r0
  have cr_1_9 := fdq_112 hD hth r1
  have cr_1_15 := fdq_66 hD hth r1
  have hK_0_13 := elq_24 hD hth cr_0_13
  have hK_0_14 := elq_154 hD hth cr_0_14
  have hK_1_9 := elq_57 hD hth cr_1_9
  have hK_1_15 := elq_31 hD hth cr_1_15
  have hrf0 : 0 ≤ v_iv (n_v vs 10) ∧ v_iv (n_v vs 10) ≤ 1000063 := vc_Fa_costAhead_6_r0 (v_iv (n_v vs 2)) (v_iv (n_v vs 3)) (v_iv (n_v vs 7)) (v_iv (n_v vs 8)) (v_iv (n_v vs 10)) (v_iv (n_v vs 11)) (w_ei ws (w_ar ws (n_v vs 1) 7)) (w_ei ws (w_ar ws (n_v vs 1) 9)) (w_ei ws (w_ar ws (n_v vs 1) 15)) (w_ei ws (w_ar ws (n_v vs 0) 13)) (w_ei ws (w_ar ws (n_v vs 0) 14)) k2 k3 k7 k8 k10 k11 d1 d2 d4 d5 f10 f11 hK_0_13 hK_0_14 hK_1_9 hK_1_15
  have rf10 : tv_ok ta (0, 0, 1000063, []) (n_v vs 10) := tv_in t10 (by first | omega | grind) (by first | omega | grind)
  refine ⟨List.forall_mem_cons.mpr ⟨rf10, (fun _ h => (by cases h))⟩, [], trivial, ?_, (fun _ h => (by cases h))⟩
  rw [List.append_nil]
  exact (fun _ h => (by cases h))
set_option maxHeartbeats 4000000 in
theorem vc_Fa_costAhead_7_0 (x2 : Int) (x3 : Int) (x7 : Int) (x8 : Int) (x9 : Int) (x10 : Int) (x11 : Int) (x12 : Int) (x13 : Int) (x14 : Int) (x16 : Int) (x17 : Int) (x18 : Int) (x19 : Int) (x20 : Int) (tail_0o1 : Int → Int) (weight_0o1 : Int → Int) (link_0o1 : Int → Int) (member_0 : Int → Int) (least_0 : Int → Int) (k2 : 0 ≤ x2 ∧ x2 ≤ 127) (k3 : 0 ≤ x3 ∧ x3 ≤ 6) (k10 : 0 ≤ x10 ∧ x10 ≤ 1000063) (k11 : 0 ≤ x11 ∧ x11 ≤ 6) (k12 : 0 ≤ x12 ∧ x12 ≤ 127) (k13 : 1 ≤ x13 ∧ x13 ≤ 1) (k14 : 1 ≤ x14 ∧ x14 ≤ 1) (k16 : 0 ≤ x16 ∧ x16 ≤ 23) (k17 : 0 ≤ x17 ∧ x17 ≤ 23) (k18 : 0 ≤ x18 ∧ x18 ≤ 9) (k19 : 0 ≤ x19 ∧ x19 ≤ 1000072) (k20 : 1 ≤ x20 ∧ x20 ≤ 7) (d0 : x11 + 1 ≤ x20 ∧ x20 ≤ x11 + 1) (f0 : x20 = x11 + 1) (f1 : x19 = x10 + x18) (f2 : WOX (tail_0o1) (weight_0o1) (link_0o1) (x16) (x17) (x18)) (h3 : x17 = member_0 (x3)) (h5 : x16 = member_0 (x11)) (f8 : bvp (x14) = bvp (x12) &&& bvp (x13)) (f9 : bvp (x12) = bvp (x2) >>> (x11).toNat) (f10 : x11 ≠ x3) (f12 : CAI (least_0) (member_0) (tail_0o1) (weight_0o1) (link_0o1) (x2) (x3) (x11) (x10)) : CAI (least_0) (member_0) (tail_0o1) (weight_0o1) (link_0o1) (x2) (x3) (x20) (x19) := by
  first
    | exact cai_start (x := x10) (del_bit1 (q := x7) (r := x9) (m1 := x8) (one := x6) (by omega) (by omega) (by omega) (by omega) ‹BBT _ _› (by assumption) (by omega) (by assumption) (by omega) (by assumption) (by omega) (by omega)) (by assumption) (by omega)
    | exact cai_skip ‹CAI _ _ _ _ _ _ _ _ _› (fun q => q.1 (by omega)) (by omega)
    | exact cai_skip ‹CAI _ _ _ _ _ _ _ _ _› (fun q => by have b := (bit_one (s := x2) (t := x12) (c := x14) (v := x11) (one := x13) (by assumption) (by assumption) (by omega) (by omega) (by omega) (by omega)).1 q.2; omega) (by omega)
    | exact cai_step (a := x16) (b := x17) (w := x18) ‹CAI _ _ _ _ _ _ _ _ _› (by omega) ((bit_one (s := x2) (t := x12) (c := x14) (v := x11) (one := x13) (by assumption) (by assumption) (by omega) (by omega) (by omega) (by omega)).2 (by omega)) (by assumption) (by assumption) ‹WOX _ _ _ _ _ _› (by omega) (by omega)
  
set_option maxHeartbeats 4000000 in
theorem vc_Fa_costAhead_7_1 (x4 : Int) (x9 : Int) (x11 : Int) (x20 : Int) (k4 : 2 ≤ x4 ∧ x4 ≤ 7) (k9 : 2 ≤ x9 ∧ x9 ≤ 7) (k11 : 0 ≤ x11 ∧ x11 ≤ 6) (k20 : 1 ≤ x20 ∧ x20 ≤ 7) (d0 : x11 + 1 ≤ x20 ∧ x20 ≤ x11 + 1) (d1 : x9 + (-4294967296) ≤ x20 ∧ x20 ≤ x9 + 0) (d6 : x9 + (-4294967296) ≤ x11 ∧ x11 ≤ x9 + (-1)) (d9 : x9 + (-4294967296) ≤ x4 ∧ x4 ≤ x9 + 0) (d12 : x4 + (-4294967296) ≤ x9 ∧ x9 ≤ x4 + 0) : x20 ≤ x4 := by
  first
    | omega
    | (have q := cai_rng ‹CAI _ _ _ _ _ _ _ _ _› (by assumption) (by assumption) (by assumption) (by assumption) (by omega) (by omega) (by omega) (by omega) (by omega) ‹BBT _ _›; omega)
  
def o_Fa_costAhead_7 : or_T := (17, 21, [(0, (2, 0, 0, [2])), (1, (2, 0, 0, [3])), (2, (0, 0, 127, [])), (3, (0, 0, 6, [])), (4, (0, 2, 7, [])), (5, (2, 0, 0, [2])), (6, (2, 0, 0, [3])), (7, (0, 0, 127, [])), (8, (0, 0, 6, [])), (9, (0, 2, 7, [])), (10, (0, 0, 1000063, [])), (11, (0, 0, 6, [])), (12, (0, 0, 127, [])), (13, (0, 1, 1, [])), (14, (0, 1, 1, [])), (15, (2, 0, 0, [46])), (16, (0, 0, 23, [])), (17, (0, 0, 23, [])), (18, (0, 0, 9, [])), (19, (0, 0, 1000072, [])), (20, (0, 1, 7, []))], [(6, [20, 11], [1]), (1, [19, 10, 18], []), (20, [6, 16, 17, 18], [60, 0, 3, 709, 7, 9, 15]), (10, [17, 15, 8], []), (9, [15, 5], [13]), (10, [16, 15, 11], []), (8, [14], [1]), (12, [14, 12], [2]), (16, [14, 12, 13], [0]), (16, [12, 7, 11], [4]), (7, [11, 8], [1]), (7, [11, 9], [2]), (20, [5, 6, 7, 8, 11, 10], [60, 0, 5, 710, 14, 13, 1007, 1009, 1015]), (20, [7, 8], [61, 0, 705]), (20, [11, 9], [50, 0, 0, 0, 2, 1, 0, 1, 1]), (24, [0, 5], []), (24, [1, 6], []), (24, [2, 7], []), (24, [3, 8], []), (24, [4, 9], [])], [], [], [(20, [5, 6, 7, 8, 20, 19], [60, 0, 5, 710, 14, 13, 1007, 1009, 1015]), (20, [20, 9], [50, 0, 0, 0, 2, 1, 0, 1, 1])], [], [(20, 11, 1, 1), (20, 9, -4294967296, 0), (20, 4, -4294967296, 1), (20, 9, -4294967296, 1), (19, 18, 0, 1000063), (19, 10, 0, 9), (11, 9, -4294967296, -1), (2, 7, -4294967296, 0), (3, 8, -4294967296, 0), (4, 9, -4294967296, 0), (7, 2, -4294967296, 0), (8, 3, -4294967296, 0), (9, 4, -4294967296, 0), (11, 4, -4294967296, 0), (11, 9, -4294967296, 0)])
theorem oo_Fa_costAhead_7 {kA : Nat → ClassId} : or_ok PRD kA GG o_Fa_costAhead_7 := by
  refine or_mk fun A ta ws vs hD hth hl => ?_
  intro t0 r0 t1 r1 t2 k2 t3 k3 t4 k4 t5 r5 t6 r6 t7 k7 t8 k8 t9 k9 t10 k10 t11 k11 t12 k12 t13 k13 t14 k14 t15 r15 t16 k16 t17 k17 t18 k18 t19 k19 t20 k20 d0 d1 d2 d3 d4 d5 d6 d7 d8 d9 d10 d11 d12 d13 d14 f0 f1 f2 f3 f4 f5 f6 f7 f8 f9 f10 f11 f12 f13 f14 f15 f16 f17 f18 f19
  replace f0 := shm_4 f0
  replace f1 := shm_12 f1
  replace f2 := shm_823 f2
  replace f3 := shm_107 f3
  replace f4 := shm_361 f4
  replace f5 := shm_107 f5
  replace f8 := shm_11 f8
  replace f9 := shm_13 f9
  replace f10 := shm_40 f10
  replace f12 := shm_1085 f12
  replace f15 := shm_5 f15
  replace f16 := shm_5 f16
  replace f17 := shm_5 f17
  replace f18 := shm_5 f18
  replace f19 := shm_5 f19
  have q5 : n_v vs 5 = n_v vs 0 := f15.symm
  have q6 : n_v vs 6 = n_v vs 1 := f16.symm
  have q7 : n_v vs 7 = n_v vs 2 := f17.symm
  have q8 : n_v vs 8 = n_v vs 3 := f18.symm
  have q9 : n_v vs 9 = n_v vs 4 := f19.symm
  simp only [q6, q8, q5, q7] at f2 f3 f4 f9 f10 f12
  have ad_15 : v_ad (n_v vs 15) = w_ar ws (n_v vs 0) 13 := congrArg v_ad f4
  simp only [ad_15] at f3
  have h3 : v_iv (n_v vs 17) = w_ei ws (w_ar ws (n_v vs 0) 13) (v_iv (n_v vs 3)) := f3
  simp only [ad_15] at f5
  have h5 : v_iv (n_v vs 16) = w_ei ws (w_ar ws (n_v vs 0) 13) (v_iv (n_v vs 11)) := f5
  have nf0 : fc_1 PRD (20, [5, 6, 7, 8, 20, 19], [60, 0, 5, 710, 14, 13, 1007, 1009, 1015]) ws (vs) := by
    refine ⟨nf_in hl rfl, sgq_1085 ?_⟩
    · show CAI (w_ei ws (w_ar ws (n_v vs 5) 14)) (w_ei ws (w_ar ws (n_v vs 5) 13)) (w_ei ws (w_ar ws (n_v vs 6) 7)) (w_ei ws (w_ar ws (n_v vs 6) 9)) (w_ei ws (w_ar ws (n_v vs 6) 15)) (v_iv (n_v vs 7)) (v_iv (n_v vs 8)) (v_iv (n_v vs 20)) (v_iv (n_v vs 19))
      simp only [q5, q6, q7, q8]
      exact vc_Fa_costAhead_7_0 (v_iv (n_v vs 2)) (v_iv (n_v vs 3)) (v_iv (n_v vs 7)) (v_iv (n_v vs 8)) (v_iv (n_v vs 9)) (v_iv (n_v vs 10)) (v_iv (n_v vs 11)) (v_iv (n_v vs 12)) (v_iv (n_v vs 13)) (v_iv (n_v vs 14)) (v_iv (n_v vs 16)) (v_iv (n_v vs 17)) (v_iv (n_v vs 18)) (v_iv (n_v vs 19)) (v_iv (n_v vs 20)) (w_ei ws (w_ar ws (n_v vs 1) 7)) (w_ei ws (w_ar ws (n_v vs 1) 9)) (w_ei ws (w_ar ws (n_v vs 1) 15)) (w_ei ws (w_ar ws (n_v vs 0) 13)) (w_ei ws (w_ar ws (n_v vs 0) 14)) k2 k3 k10 k11 k12 k13 k14 k16 k17 k18 k19 k20 d0 f0 f1 f2 h3 h5 f8 f9 f10 f12
  have nf1 : fc_1 PRD (20, [20, 9], [50, 0, 0, 0, 2, 1, 0, 1, 1]) ws (vs) := by
    refine ⟨nf_in hl rfl, sgq_360 ?_⟩
    · show v_iv (n_v vs 20) ≤ v_iv (n_v vs 9)
      rw [q9]
      exact vc_Fa_costAhead_7_1 (v_iv (n_v vs 4)) (v_iv (n_v vs 9)) (v_iv (n_v vs 11)) (v_iv (n_v vs 20)) k4 k9 k11 k20 d0 d1 d6 d9 d12
  refine ⟨(fun _ h => (by cases h)), [], trivial, ?_, (fun _ h => (by cases h))⟩
  rw [List.append_nil]
  exact List.forall_mem_cons.mpr ⟨⟨show (20 : Nat) < 100 from by decide, nf0⟩, List.forall_mem_cons.mpr ⟨⟨show (20 : Nat) < 100 from by decide, nf1⟩, (fun _ h => (by cases h))⟩⟩
def n_Fa_costAhead_an : List an_T := [(17, [(0, (2, 0, 0, [2])), (1, (2, 0, 0, [3])), (2, (0, 0, 127, [])), (3, (0, 0, 6, [])), (4, (0, 2, 7, [])), (5, (0, 0, 1000072, [])), (6, (0, 0, 7, []))], [], (0, 0), [(0, 0, 99983), (1, 11, 7), (0, 0, 100000)], [(2, 7, (Int.negSucc 999999999999), 0), (3, 8, (Int.negSucc 999999999999), 0), (4, 9, (Int.negSucc 999999999999), 0), (7, 2, (Int.negSucc 999999999999), 0), (8, 3, (Int.negSucc 999999999999), 0), (9, 4, (Int.negSucc 999999999999), 0), (11, 4, (Int.negSucc 999999999999), 0), (11, 9, (Int.negSucc 999999999999), 0)], [], [(2, 0, 0, [2]), (2, 0, 0, [3]), (0, 0, 127, []), (0, 0, 6, []), (0, 2, 7, [])], 0, [], [(20, [5, 6, 7, 8, 11, 10], [60, 0, 5, 710, 14, 13, 1007, 1009, 1015]), (20, [7, 8], [61, 0, 705]), (20, [11, 9], [50, 0, 0, 0, 2, 1, 0, 1, 1]), (24, [0, 5], []), (24, [1, 6], []), (24, [2, 7], []), (24, [3, 8], []), (24, [4, 9], [])])]
def t_Fa_costAhead_ct : ct_L := [(0, 177, e_Fa_weightOf)]
set_option maxRecDepth 100000 in
theorem c_Fa_costAhead {l : Launch} {D : va_G} {kA : Nat → ClassId} (h_Fa_weightOf : ct_ok PRD l D kA GG y_Fa_weightOf z_Fa_weightOf e_Fa_weightOf) : ct_ok PRD l D kA GG y_Fa_costAhead z_Fa_costAhead e_Fa_costAhead := chk_all_ok (FT := [(54, 2, 13), (57, 2, 14)]) (PT := []) (CT := t_Fa_costAhead_ct) (KT := []) (NT := []) (AN := n_Fa_costAhead_an) (OT := [o_Fa_costAhead_0, o_Fa_costAhead_1, o_Fa_costAhead_2, o_Fa_costAhead_3, o_Fa_costAhead_4, o_Fa_costAhead_5, o_Fa_costAhead_6, o_Fa_costAhead_7]) 3 200 (List.forall_mem_cons.mpr ⟨oo_Fa_costAhead_0, List.forall_mem_cons.mpr ⟨oo_Fa_costAhead_1, List.forall_mem_cons.mpr ⟨oo_Fa_costAhead_2, List.forall_mem_cons.mpr ⟨oo_Fa_costAhead_3, List.forall_mem_cons.mpr ⟨oo_Fa_costAhead_4, List.forall_mem_cons.mpr ⟨oo_Fa_costAhead_5, List.forall_mem_cons.mpr ⟨oo_Fa_costAhead_6, List.forall_mem_cons.mpr ⟨oo_Fa_costAhead_7, List.forall_mem_nil _⟩⟩⟩⟩⟩⟩⟩⟩) (by decide +kernel) ⟨List.forall_mem_cons.mpr ⟨gf_Fa_54, List.forall_mem_cons.mpr ⟨gf_Fa_57, List.forall_mem_nil _⟩⟩, List.forall_mem_nil _, List.forall_mem_cons.mpr ⟨cl_static (y := y_Fa_weightOf) h_Fa_weightOf wm_912 wm_7 wm_910 wm_911 ⟨by decide, by decide, by decide +kernel⟩ (by decide), List.forall_mem_nil _⟩, List.forall_mem_nil _, List.forall_mem_nil _, GG_pl⟩ (by decide +kernel)
set_option maxHeartbeats 4000000 in
theorem vc_Gr_relink_0_0 (x2 : Int) (x5 : Int) (tail_0 : Int → Int) (head_0 : Int → Int) (nodes_0 : Int) (near_0 : Int → Int) (k2 : 0 ≤ x2 ∧ x2 ≤ 0) (k5 : 0 ≤ x5 ∧ x5 ≤ 0) (hT2 : ∀ j : Int, 0 ≤ j → j < x2 + 24 → 0 ≤ near_0 j ∧ near_0 j ≤ 0) (kz_0_0 : 0 ≤ nodes_0 ∧ nodes_0 ≤ 24) : GNK (nodes_0) (near_0) (tail_0) (head_0) (x5) := by
  first
    | assumption
    | exact gnk_zero (by omega) (fun j a b => by have q := hT2 j a (by omega); omega) (by omega)
    | exact gnk_ofl ‹GNL _ _ _ _ _› (by omega)
  
set_option maxHeartbeats 4000000 in
theorem vc_Gr_relink_0_1 (x5 : Int) (edges_0 : Int) (k5 : 0 ≤ x5 ∧ x5 ≤ 0) (kz_0_1 : 0 ≤ edges_0 ∧ edges_0 ≤ 48) : x5 ≤ edges_0 := by
  first
    | omega
  
def o_Gr_relink_0 : or_T := (18, 6, [(0, (2, 0, 0, [3])), (2, (0, 0, 0, [])), (5, (0, 0, 0, []))], [(9, [1, 0], [14]), (20, [1, 2], [8, 0, 0, 24])], [], [], [(20, [0, 5], [60, 1, 3, 747, 0, 14, 7, 8]), (20, [5, 0], [50, 1, 0, 1001, 0, 2, 1, 0, 2, 1, 1]), (24, [0, 0], [])], [], [])
theorem oo_Gr_relink_0 {kA : Nat → ClassId} : or_ok PRD kA GG o_Gr_relink_0 := by
  refine or_mk fun A ta ws vs hD hth hl => ?_
  intro t0 r0 t2 k2 t5 k5 f0 f2
  replace f0 := shm_115 f0
  replace f2 := shm_18 f2
  have ad_1 : v_ad (n_v vs 1) = w_ar ws (n_v vs 0) 14 := congrArg v_ad f0
  have hT2 : ∀ j : Int, 0 ≤ j → j < v_iv (n_v vs 2) + 24 → 0 ≤ w_ei ws (w_ar ws (n_v vs 0) 14) j ∧ w_ei ws (w_ar ws (n_v vs 0) 14) j ≤ 0 := fun j h0 h1 => by have h2 := f2 j.toNat (by omega); rw [ad_1] at h2; exact h2
  have kz_0_0 := fdq_21 hD hth r0
  have kz_0_1 := fdq_30 hD hth r0
  have nf0 : fc_1 PRD (20, [0, 5], [60, 1, 3, 747, 0, 14, 7, 8]) ws (vs) := ⟨nf_in hl rfl, sgq_388 (vc_Gr_relink_0_0 (v_iv (n_v vs 2)) (v_iv (n_v vs 5)) (w_ei ws (w_ar ws (n_v vs 0) 7)) (w_ei ws (w_ar ws (n_v vs 0) 8)) (w_fi ws (n_v vs 0) 0) (w_ei ws (w_ar ws (n_v vs 0) 14)) k2 k5 hT2 kz_0_0)⟩
  have nf1 : fc_1 PRD (20, [5, 0], [50, 1, 0, 1001, 0, 2, 1, 0, 2, 1, 1]) ws (vs) := ⟨nf_in hl rfl, sgq_483 (vc_Gr_relink_0_1 (v_iv (n_v vs 5)) (w_fi ws (n_v vs 0) 1) k5 kz_0_1)⟩
  have nf2 : fc_1 PRD (24, [0, 0], []) ws (vs) := by
    refine ⟨nf_in hl rfl, sgq_1 ?_⟩
    · show n_v vs 0 = n_v vs 0
      first | rfl | simp only [true_and]
  refine ⟨(fun _ h => (by cases h)), [], trivial, ?_, (fun _ h => (by cases h))⟩
  rw [List.append_nil]
  exact List.forall_mem_cons.mpr ⟨⟨show (20 : Nat) < 100 from by decide, nf0⟩, List.forall_mem_cons.mpr ⟨⟨show (20 : Nat) < 100 from by decide, nf1⟩, List.forall_mem_cons.mpr ⟨⟨show (24 : Nat) < 100 from by decide, nf2⟩, (fun _ h => (by cases h))⟩⟩⟩
set_option maxHeartbeats 4000000 in
theorem vc_Gr_relink_1_0 (x2 : Int) (x3 : Int) (edges_0 : Int) (near_0 : Int → Int) (tail_0 : Int → Int) (head_0 : Int → Int) (nodes_0 : Int) (k2 : 0 ≤ x2 ∧ x2 ≤ 48) (k3 : 0 ≤ x3 ∧ x3 ≤ 48) (d0 : x3 + 0 ≤ x2 ∧ x2 ≤ x3 + 4294967296) (g1 : x3 = edges_0) (f2 : GNK (nodes_0) (near_0) (tail_0) (head_0) (x2)) (f4 : x2 ≤ edges_0) (kz_0_0 : 0 ≤ nodes_0 ∧ nodes_0 ≤ 24) (kz_0_1 : 0 ≤ edges_0 ∧ edges_0 ≤ 48) : GNB (nodes_0) (edges_0) (near_0) (tail_0) (head_0) := by
  first
    | exact gnb_ofk ‹GNK _ _ _ _ _› (by omega)
  
set_option maxHeartbeats 4000000 in
theorem vc_Gr_relink_1_1 (edges_0 : Int) (tail_0 : Int → Int) (head_0 : Int → Int) (nodes_0 : Int) (f3 : GKE (nodes_0) (edges_0) (tail_0) (head_0)) (kz_0_0 : 0 ≤ nodes_0 ∧ nodes_0 ≤ 24) (kz_0_1 : 0 ≤ edges_0 ∧ edges_0 ≤ 48) : GKE (nodes_0) (edges_0) (tail_0) (head_0) := by
  assumption
def o_Gr_relink_1 : or_T := (37, 4, [(0, (2, 0, 0, [3])), (2, (0, 0, 48, [])), (3, (0, 0, 48, []))], [(9, [3, 1], [1]), (20, [1, 2], [60, 1, 3, 747, 0, 14, 7, 8]), (20, [1], [60, 2, 2, 596, 0, 1, 7, 8]), (20, [2, 1], [50, 1, 0, 1001, 0, 2, 1, 0, 2, 1, 1]), (24, [0, 1], [])], [], [], [(20, [0], [60, 2, 3, 670, 0, 1, 14, 7, 8]), (20, [0], [60, 2, 2, 596, 0, 1, 7, 8])], [], [(2, 3, 0, 4294967296)])
theorem oo_Gr_relink_1 {kA : Nat → ClassId} : or_ok PRD kA GG o_Gr_relink_1 := by
  refine or_mk fun A ta ws vs hD hth hl => ?_
  intro t0 r0 t2 k2 t3 k3 d0 f1 f2 f3 f4 f5
  replace f1 := shm_215 f1
  replace f2 := shm_388 f2
  replace f3 := shm_386 f3
  replace f4 := shm_483 f4
  replace f5 := shm_5 f5
  have q1 : n_v vs 1 = n_v vs 0 := f5.symm
  simp only [q1] at f1 f2 f3 f4
  have g1 : v_iv (n_v vs 3) = w_fi ws (n_v vs 0) 1 := congrArg v_iv f1
  have kz_0_0 := fdq_21 hD hth r0
  have kz_0_1 := fdq_30 hD hth r0
  have nf0 : fc_1 PRD (20, [0], [60, 2, 3, 670, 0, 1, 14, 7, 8]) ws (vs) := ⟨nf_in hl rfl, sgq_825 (vc_Gr_relink_1_0 (v_iv (n_v vs 2)) (v_iv (n_v vs 3)) (w_fi ws (n_v vs 0) 1) (w_ei ws (w_ar ws (n_v vs 0) 14)) (w_ei ws (w_ar ws (n_v vs 0) 7)) (w_ei ws (w_ar ws (n_v vs 0) 8)) (w_fi ws (n_v vs 0) 0) k2 k3 d0 g1 f2 f4 kz_0_0 kz_0_1)⟩
  have nf1 : fc_1 PRD (20, [0], [60, 2, 2, 596, 0, 1, 7, 8]) ws (vs) := ⟨nf_in hl rfl, sgq_386 (vc_Gr_relink_1_1 (w_fi ws (n_v vs 0) 1) (w_ei ws (w_ar ws (n_v vs 0) 7)) (w_ei ws (w_ar ws (n_v vs 0) 8)) (w_fi ws (n_v vs 0) 0) f3 kz_0_0 kz_0_1)⟩
  refine ⟨(fun _ h => (by cases h)), [], trivial, ?_, (fun _ h => (by cases h))⟩
  rw [List.append_nil]
  exact List.forall_mem_cons.mpr ⟨⟨show (20 : Nat) < 100 from by decide, nf0⟩, List.forall_mem_cons.mpr ⟨⟨show (20 : Nat) < 100 from by decide, nf1⟩, (fun _ h => (by cases h))⟩⟩
set_option maxHeartbeats 4000000 in
theorem vc_Gr_relink_2_0 (x2 : Int) (x3 : Int) (edges_0 : Int) (k2 : 0 ≤ x2 ∧ x2 ≤ 47) (k3 : 1 ≤ x3 ∧ x3 ≤ 48) (d0 : x3 + (-4294967296) ≤ x2 ∧ x2 ≤ x3 + (-1)) (g1 : x3 = edges_0) (kz_0_1 : 0 ≤ edges_0 ∧ edges_0 ≤ 48) : (0 ≤ x2) ∧ ((x2 + 1) ≤ edges_0) := by
  first
    | omega
  
def o_Gr_relink_2 : or_T := (28, 4, [(0, (2, 0, 0, [3])), (2, (0, 0, 47, [])), (3, (0, 1, 48, []))], [(9, [3, 1], [1]), (24, [0, 1], [])], [], [], [(20, [2, 1], [50, 1, 0, 1001, 2, 6, 0, 2, 0, 0, 1, 0, 0, 6, 4, 2, 1, 0, 0, 1, 2, 1, 1])], [], [(2, 3, -4294967296, -1)])
theorem oo_Gr_relink_2 {kA : Nat → ClassId} : or_ok PRD kA GG o_Gr_relink_2 := by
  refine or_mk fun A ta ws vs hD hth hl => ?_
  intro t0 r0 t2 k2 t3 k3 d0 f1 f5
  replace f1 := shm_215 f1
  replace f5 := shm_5 f5
  have q1 : n_v vs 1 = n_v vs 0 := f5.symm
  simp only [q1] at f1
  have g1 : v_iv (n_v vs 3) = w_fi ws (n_v vs 0) 1 := congrArg v_iv f1
  have kz_0_1 := fdq_30 hD hth r0
  have nf0 : fc_1 PRD (20, [2, 1], [50, 1, 0, 1001, 2, 6, 0, 2, 0, 0, 1, 0, 0, 6, 4, 2, 1, 0, 0, 1, 2, 1, 1]) ws (vs) := by
    refine ⟨nf_in hl rfl, sgq_387 ?_⟩
    · show (0 ≤ v_iv (n_v vs 2)) ∧ ((v_iv (n_v vs 2) + 1) ≤ w_fi ws (n_v vs 1) 1)
      rw [q1]
      exact vc_Gr_relink_2_0 (v_iv (n_v vs 2)) (v_iv (n_v vs 3)) (w_fi ws (n_v vs 0) 1) k2 k3 d0 g1 kz_0_1
  refine ⟨(fun _ h => (by cases h)), [], trivial, ?_, (fun _ h => (by cases h))⟩
  rw [List.append_nil]
  exact List.forall_mem_cons.mpr ⟨⟨show (20 : Nat) < 100 from by decide, nf0⟩, (fun _ h => (by cases h))⟩
set_option maxHeartbeats 4000000 in
theorem vc_Gr_relink_3_0 (x2 : Int) (x4 : Int) (near_0 : Int → Int) (tail_0 : Int → Int) (head_0 : Int → Int) (nodes_0 : Int) (k2 : 0 ≤ x2 ∧ x2 ≤ 47) (k4 : 1 ≤ x4 ∧ x4 ≤ 48) (f1 : x4 = x2 + 1) (f5 : GNL (nodes_0) (near_0) (tail_0) (head_0) (x2)) (kz_0_0 : 0 ≤ nodes_0 ∧ nodes_0 ≤ 24) : GNK (nodes_0) (near_0) (tail_0) (head_0) (x4) := by
  first
    | assumption
    | exact gnk_zero (by omega) (fun j a b => by have q := hT2 j a (by omega); omega) (by omega)
    | exact gnk_ofl ‹GNL _ _ _ _ _› (by omega)
  
set_option maxHeartbeats 4000000 in
theorem vc_Gr_relink_3_1 (x2 : Int) (x3 : Int) (x4 : Int) (edges_0 : Int) (k2 : 0 ≤ x2 ∧ x2 ≤ 47) (k3 : 1 ≤ x3 ∧ x3 ≤ 48) (k4 : 1 ≤ x4 ∧ x4 ≤ 48) (d0 : x2 + 1 ≤ x4 ∧ x4 ≤ x2 + 1) (d1 : x3 + (-4294967296) ≤ x4 ∧ x4 ≤ x3 + 0) (d2 : x3 + (-4294967296) ≤ x2 ∧ x2 ≤ x3 + (-1)) (g0 : x3 = edges_0) (kz_0_1 : 0 ≤ edges_0 ∧ edges_0 ≤ 48) : x4 ≤ edges_0 := by
  first
    | omega
  
def o_Gr_relink_3 : or_T := (18, 5, [(0, (2, 0, 0, [3])), (2, (0, 0, 47, [])), (3, (0, 1, 48, [])), (4, (0, 1, 48, []))], [(9, [3, 1], [1]), (6, [4, 2], [1]), (24, [0, 1], []), (20, [1, 2], [60, 1, 3, 748, 0, 14, 7, 8])], [], [], [(20, [1, 4], [60, 1, 3, 747, 0, 14, 7, 8]), (20, [4, 1], [50, 1, 0, 1001, 0, 2, 1, 0, 2, 1, 1])], [], [(4, 2, 1, 1), (4, 3, -4294967296, 0), (2, 3, -4294967296, -1)])
theorem oo_Gr_relink_3 {kA : Nat → ClassId} : or_ok PRD kA GG o_Gr_relink_3 := by
  refine or_mk fun A ta ws vs hD hth hl => ?_
  intro t0 r0 t2 k2 t3 k3 t4 k4 d0 d1 d2 f0 f1 f4 f5
  replace f0 := shm_215 f0
  replace f1 := shm_4 f1
  replace f4 := shm_5 f4
  replace f5 := shm_390 f5
  have q1 : n_v vs 1 = n_v vs 0 := f4.symm
  simp only [q1] at f0 f5
  have g0 : v_iv (n_v vs 3) = w_fi ws (n_v vs 0) 1 := congrArg v_iv f0
  have kz_0_0 := fdq_21 hD hth r0
  have kz_0_1 := fdq_30 hD hth r0
  have nf0 : fc_1 PRD (20, [1, 4], [60, 1, 3, 747, 0, 14, 7, 8]) ws (vs) := by
    refine ⟨nf_in hl rfl, sgq_388 ?_⟩
    · show GNK (w_fi ws (n_v vs 1) 0) (w_ei ws (w_ar ws (n_v vs 1) 14)) (w_ei ws (w_ar ws (n_v vs 1) 7)) (w_ei ws (w_ar ws (n_v vs 1) 8)) (v_iv (n_v vs 4))
      rw [q1]
      exact vc_Gr_relink_3_0 (v_iv (n_v vs 2)) (v_iv (n_v vs 4)) (w_ei ws (w_ar ws (n_v vs 0) 14)) (w_ei ws (w_ar ws (n_v vs 0) 7)) (w_ei ws (w_ar ws (n_v vs 0) 8)) (w_fi ws (n_v vs 0) 0) k2 k4 f1 f5 kz_0_0
  have nf1 : fc_1 PRD (20, [4, 1], [50, 1, 0, 1001, 0, 2, 1, 0, 2, 1, 1]) ws (vs) := by
    refine ⟨nf_in hl rfl, sgq_483 ?_⟩
    · show v_iv (n_v vs 4) ≤ w_fi ws (n_v vs 1) 1
      rw [q1]
      exact vc_Gr_relink_3_1 (v_iv (n_v vs 2)) (v_iv (n_v vs 3)) (v_iv (n_v vs 4)) (w_fi ws (n_v vs 0) 1) k2 k3 k4 d0 d1 d2 g0 kz_0_1
  refine ⟨(fun _ h => (by cases h)), [], trivial, ?_, (fun _ h => (by cases h))⟩
  rw [List.append_nil]
  exact List.forall_mem_cons.mpr ⟨⟨show (20 : Nat) < 100 from by decide, nf0⟩, List.forall_mem_cons.mpr ⟨⟨show (20 : Nat) < 100 from by decide, nf1⟩, (fun _ h => (by cases h))⟩⟩
def n_Gr_relink_an : List an_T := [(18, [(0, (2, 0, 0, [3])), (1, (0, 0, 48, []))], [], (0, 0), [(0, 0, 99982), (1, 2, 48), (0, 0, 100000)], [], [], [(2, 0, 0, [3])], 0, [], [(20, [1, 2], [60, 1, 3, 747, 0, 14, 7, 8]), (20, [1], [60, 2, 2, 596, 0, 1, 7, 8]), (20, [2, 1], [50, 1, 0, 1001, 0, 2, 1, 0, 2, 1, 1]), (24, [0, 1], [])])]
def t_Gr_relink_ct : ct_L := [(18, 71, e_jArr_fill1_v62), (42, 71, e_jArr_fill1_v63), (88, 100, e_Gr_tie_at_Gr)]
set_option maxRecDepth 100000 in
theorem c_Gr_relink {l : Launch} {D : va_G} {kA : Nat → ClassId} (h_Gr_tie_at_Gr : ct_ok PRD l D kA GG y_Gr_tie_at_Gr z_Gr_tie_at_Gr e_Gr_tie_at_Gr) : ct_ok PRD l D kA GG y_Gr_relink z_Gr_relink e_Gr_relink := chk_all_ok (FT := [(15, 3, 1), (56, 3, 14), (59, 3, 15)]) (PT := []) (CT := t_Gr_relink_ct) (KT := []) (NT := []) (AN := n_Gr_relink_an) (OT := [o_Gr_relink_0, o_Gr_relink_1, o_Gr_relink_2, o_Gr_relink_3]) 3 200 (List.forall_mem_cons.mpr ⟨oo_Gr_relink_0, List.forall_mem_cons.mpr ⟨oo_Gr_relink_1, List.forall_mem_cons.mpr ⟨oo_Gr_relink_2, List.forall_mem_cons.mpr ⟨oo_Gr_relink_3, List.forall_mem_nil _⟩⟩⟩⟩) (by decide +kernel) ⟨List.forall_mem_cons.mpr ⟨gf_Gr_15, List.forall_mem_cons.mpr ⟨gf_Gr_56, List.forall_mem_cons.mpr ⟨gf_Gr_59, List.forall_mem_nil _⟩⟩⟩, List.forall_mem_nil _, List.forall_mem_cons.mpr ⟨cl_static (y := y_jArr_fill1) c_jArr_fill1_v62 wm_55 wm_4 wm_53 wm_54 ⟨by decide, by decide, by decide +kernel⟩ (by decide), List.forall_mem_cons.mpr ⟨cl_static (y := y_jArr_fill1) c_jArr_fill1_v63 wm_55 wm_4 wm_53 wm_54 ⟨by decide, by decide, by decide +kernel⟩ (by decide), List.forall_mem_cons.mpr ⟨cl_virtual (y := y_Gr_tie_at_Gr) (ci := 3) rfl rfl ⟨_, _, rfl⟩ (by decide +kernel) h_Gr_tie_at_Gr wm_776 wm_3 wm_773 wm_775 wv_1_11 ⟨by decide, by decide, by decide +kernel⟩ (by decide), List.forall_mem_nil _⟩⟩⟩, List.forall_mem_nil _, List.forall_mem_nil _, GG_pl⟩ (by decide +kernel)
set_option maxHeartbeats 4000000 in
theorem vc_La_makeItems_0_0 (x3 : Int) (x4 : Int) (items_0 : Int) (nodes_0o2 : Int) (layerOf_0 : Int → Int) (tail_0o2 : Int → Int) (head_0o2 : Int → Int) (turned_0o1 : Int → Int) (layerCount_0 : Int) (edges_0o2 : Int) (layerOf_1 : Int → Int) (tail_1o2 : Int → Int) (head_1o2 : Int → Int) (turned_1o1 : Int → Int) (layerCount_1 : Int) (nodes_1o2 : Int) (edges_1o2 : Int) (firstJoint_0 : Int → Int) (firstJoint_1 : Int → Int) (k3 : 0 ≤ x3 ∧ x3 ≤ 24) (k4 : 0 ≤ x4 ∧ x4 ≤ 0) (g0 : x3 = items_0) (g1 : x3 = nodes_0o2) (f4 : LYG (layerCount_1) (nodes_1o2) (edges_1o2) (layerOf_1) (tail_1o2) (head_1o2) (turned_1o1)) (fe_0_2_1 : layerCount_0 = layerCount_1) (fe_2_0_1 : nodes_0o2 = nodes_1o2) (fe_2_1_1 : edges_0o2 = edges_1o2) (hE_0_4_1 : ∀ j : Int, layerOf_0 j = layerOf_1 j) (hE_0_5_1 : ∀ j : Int, firstJoint_0 j = firstJoint_1 j) (hE_1_9_1 : ∀ j : Int, turned_0o1 j = turned_1o1 j) (hE_2_7_1 : ∀ j : Int, tail_0o2 j = tail_1o2 j) (hE_2_8_1 : ∀ j : Int, head_0o2 j = head_1o2 j) (kz_0_2 : 0 ≤ layerCount_0 ∧ layerCount_0 ≤ 24) (kz_0_3 : 0 ≤ items_0 ∧ items_0 ≤ 72) (kz_2_0 : 0 ≤ nodes_0o2 ∧ nodes_0o2 ≤ 24) (kz_2_1 : 0 ≤ edges_0o2 ∧ edges_0o2 ≤ 48) : MI1 (items_0) (layerCount_0) (nodes_0o2) (edges_0o2) (layerOf_0) (firstJoint_0) (tail_0o2) (head_0o2) (turned_0o1) (x4) := by
  subst fe_0_2_1
  subst fe_2_0_1
  subst fe_2_1_1
  have e_hE_0_4_1 := funext hE_0_4_1; subst e_hE_0_4_1
  have e_hE_0_5_1 := funext hE_0_5_1; subst e_hE_0_5_1
  have e_hE_1_9_1 := funext hE_1_9_1; subst e_hE_1_9_1
  have e_hE_2_7_1 := funext hE_2_7_1; subst e_hE_2_7_1
  have e_hE_2_8_1 := funext hE_2_8_1; subst e_hE_2_8_1
  first
    | exact mi1_start ‹LYG _ _ _ _ _ _ _› (by omega) (by omega)
    | exact mi1_next ‹MI2 _ _ _ _ _ _ _ _ _ _ _ _ _› (by omega) (by omega)
  
set_option maxHeartbeats 4000000 in
theorem vc_La_makeItems_0_2 (x4 : Int) (nodes_0o2 : Int) (layerOf_0 : Int → Int) (tail_0o2 : Int → Int) (head_0o2 : Int → Int) (turned_0o1 : Int → Int) (layerCount_0 : Int) (edges_0o2 : Int) (layerOf_1 : Int → Int) (tail_1o2 : Int → Int) (head_1o2 : Int → Int) (turned_1o1 : Int → Int) (layerCount_1 : Int) (nodes_1o2 : Int) (edges_1o2 : Int) (firstJoint_0 : Int → Int) (firstJoint_1 : Int → Int) (k4 : 0 ≤ x4 ∧ x4 ≤ 0) (fe_0_2_1 : layerCount_0 = layerCount_1) (fe_2_0_1 : nodes_0o2 = nodes_1o2) (fe_2_1_1 : edges_0o2 = edges_1o2) (hE_0_4_1 : ∀ j : Int, layerOf_0 j = layerOf_1 j) (hE_0_5_1 : ∀ j : Int, firstJoint_0 j = firstJoint_1 j) (hE_1_9_1 : ∀ j : Int, turned_0o1 j = turned_1o1 j) (hE_2_7_1 : ∀ j : Int, tail_0o2 j = tail_1o2 j) (hE_2_8_1 : ∀ j : Int, head_0o2 j = head_1o2 j) (kz_0_2 : 0 ≤ layerCount_0 ∧ layerCount_0 ≤ 24) (kz_2_0 : 0 ≤ nodes_0o2 ∧ nodes_0o2 ≤ 24) (kz_2_1 : 0 ≤ edges_0o2 ∧ edges_0o2 ≤ 48) : x4 ≤ edges_0o2 := by
  subst fe_0_2_1
  subst fe_2_0_1
  subst fe_2_1_1
  have e_hE_0_4_1 := funext hE_0_4_1; subst e_hE_0_4_1
  have e_hE_0_5_1 := funext hE_0_5_1; subst e_hE_0_5_1
  have e_hE_1_9_1 := funext hE_1_9_1; subst e_hE_1_9_1
  have e_hE_2_7_1 := funext hE_2_7_1; subst e_hE_2_7_1
  have e_hE_2_8_1 := funext hE_2_8_1; subst e_hE_2_8_1
  first
    | omega
    | (have q := (‹MI2 _ _ _ _ _ _ _ _ _ _ _ _ _›).2.2.1; omega)
    | (have q := mi2_room ‹MI2 _ _ _ _ _ _ _ _ _ _ _ _ _› (by omega) (by omega); omega)
  
def o_La_makeItems_0 : or_T := (13, 5, [(0, (2, 0, 0, [4])), (2, (2, 0, 0, [3])), (3, (0, 0, 24, [])), (4, (0, 0, 0, []))], [(9, [3, 0], [3]), (9, [3, 2], [0]), (101, [0, 3], [3]), (20, [0, 2, 1], [60, 3, 4, 660, 2, 1000, 1001, 4, 1007, 1008, 2009])], [], [], [(20, [0, 2, 1, 4], [60, 4, 5, 662, 3, 2, 1000, 1001, 4, 5, 1007, 1008, 2009]), (24, [2, 2], []), (20, [4, 2], [50, 1, 0, 1001, 0, 2, 1, 0, 2, 1, 1]), (24, [1, 1], []), (24, [0, 0], []), (24, [1, 1], [])], [], [])
theorem oo_La_makeItems_0 {kA : Nat → ClassId} : or_ok PRD kA GG o_La_makeItems_0 := by
  refine or_mk fun A ta ws vs hD hth hl => ?_
  intro t0 r0 t2 r2 t3 k3 t4 k4 f0 f1 ta1 w1 le1 s1 f4
  replace f0 := shm_137 f0
  replace f1 := shm_163 f1
  have s1 : (∀ b j, w_el ws b j = w_el w1 b j) ∧ ∀ b j, w_fd ws b j = if b = v_ad (n_v vs 0) ∧ j = 3 then n_v vs 3 else w_fd w1 b j := s1.2
  replace f4 := shm_1087 f4
  have ar_0_4_1 : w_ar w1 (n_v vs 0) 4 = w_ar ws (n_v vs 0) 4 := by show v_ad (w_fd w1 _ _) = v_ad (w_fd ws _ _); rw [s1.2, if_neg (fun e => absurd e.2 (by decide))]
  have ar_1_9_1 : w_ar w1 (n_v vs 1) 9 = w_ar ws (n_v vs 1) 9 := by show v_ad (w_fd w1 _ _) = v_ad (w_fd ws _ _); rw [s1.2, if_neg (fun e => absurd e.2 (by decide))]
  have ar_2_7_1 : w_ar w1 (n_v vs 2) 7 = w_ar ws (n_v vs 2) 7 := by show v_ad (w_fd w1 _ _) = v_ad (w_fd ws _ _); rw [s1.2, if_neg (fun e => absurd e.2 (by decide))]
  have ar_2_8_1 : w_ar w1 (n_v vs 2) 8 = w_ar ws (n_v vs 2) 8 := by show v_ad (w_fd w1 _ _) = v_ad (w_fd ws _ _); rw [s1.2, if_neg (fun e => absurd e.2 (by decide))]
  have g0 : v_iv (n_v vs 3) = w_fi ws (n_v vs 0) 3 := congrArg v_iv f0
  have g1 : v_iv (n_v vs 3) = w_fi ws (n_v vs 2) 0 := congrArg v_iv f1
  simp only [ar_0_4_1, ar_1_9_1, ar_2_7_1, ar_2_8_1] at f4
  have fe_0_2_1 : w_fi ws (n_v vs 0) 2 = w_fi w1 (n_v vs 0) 2 := by show v_iv (w_fd _ _ _) = v_iv (w_fd _ _ _); rw [s1.2, if_neg (fun e => absurd e.2 (by decide))]
  have fe_2_0_1 : w_fi ws (n_v vs 2) 0 = w_fi w1 (n_v vs 2) 0 := by show v_iv (w_fd _ _ _) = v_iv (w_fd _ _ _); rw [s1.2, if_neg (fun e => absurd e.2 (by decide))]
  have fe_2_1_1 : w_fi ws (n_v vs 2) 1 = w_fi w1 (n_v vs 2) 1 := by show v_iv (w_fd _ _ _) = v_iv (w_fd _ _ _); rw [s1.2, if_neg (fun e => absurd e.2 (by decide))]
  have hE_0_4_1 : ∀ j : Int, w_ei ws (w_ar ws (n_v vs 0) 4) j = w_ei w1 (w_ar ws (n_v vs 0) 4) j := fun j => s1.1 _ _
  have hE_0_5_1 : ∀ j : Int, w_ei ws (w_ar ws (n_v vs 0) 5) j = w_ei w1 (w_ar ws (n_v vs 0) 5) j := fun j => s1.1 _ _
  have hE_1_9_1 : ∀ j : Int, w_ei ws (w_ar ws (n_v vs 1) 9) j = w_ei w1 (w_ar ws (n_v vs 1) 9) j := fun j => s1.1 _ _
  have hE_2_7_1 : ∀ j : Int, w_ei ws (w_ar ws (n_v vs 2) 7) j = w_ei w1 (w_ar ws (n_v vs 2) 7) j := fun j => s1.1 _ _
  have hE_2_8_1 : ∀ j : Int, w_ei ws (w_ar ws (n_v vs 2) 8) j = w_ei w1 (w_ar ws (n_v vs 2) 8) j := fun j => s1.1 _ _
  have kz_0_2 := fdq_77 hD hth r0
  have kz_0_3 := fdq_218 hD hth r0
  have kz_2_0 := fdq_21 hD hth r2
  have kz_2_1 := fdq_30 hD hth r2
  have nf0 : fc_1 PRD (20, [0, 2, 1, 4], [60, 4, 5, 662, 3, 2, 1000, 1001, 4, 5, 1007, 1008, 2009]) ws (vs) := ⟨nf_in hl rfl, sgq_1088 (vc_La_makeItems_0_0 (v_iv (n_v vs 3)) (v_iv (n_v vs 4)) (w_fi ws (n_v vs 0) 3) (w_fi ws (n_v vs 2) 0) (w_ei ws (w_ar ws (n_v vs 0) 4)) (w_ei ws (w_ar ws (n_v vs 2) 7)) (w_ei ws (w_ar ws (n_v vs 2) 8)) (w_ei ws (w_ar ws (n_v vs 1) 9)) (w_fi ws (n_v vs 0) 2) (w_fi ws (n_v vs 2) 1) (w_ei w1 (w_ar ws (n_v vs 0) 4)) (w_ei w1 (w_ar ws (n_v vs 2) 7)) (w_ei w1 (w_ar ws (n_v vs 2) 8)) (w_ei w1 (w_ar ws (n_v vs 1) 9)) (w_fi w1 (n_v vs 0) 2) (w_fi w1 (n_v vs 2) 0) (w_fi w1 (n_v vs 2) 1) (w_ei ws (w_ar ws (n_v vs 0) 5)) (w_ei w1 (w_ar ws (n_v vs 0) 5)) k3 k4 g0 g1 f4 fe_0_2_1 fe_2_0_1 fe_2_1_1 hE_0_4_1 hE_0_5_1 hE_1_9_1 hE_2_7_1 hE_2_8_1 kz_0_2 kz_0_3 kz_2_0 kz_2_1)⟩
  have nf1 : fc_1 PRD (24, [2, 2], []) ws (vs) := by
    refine ⟨nf_in hl rfl, sgq_1 ?_⟩
    · show n_v vs 2 = n_v vs 2
      first | rfl | simp only [true_and]
  have nf2 : fc_1 PRD (20, [4, 2], [50, 1, 0, 1001, 0, 2, 1, 0, 2, 1, 1]) ws (vs) := ⟨nf_in hl rfl, sgq_483 (vc_La_makeItems_0_2 (v_iv (n_v vs 4)) (w_fi ws (n_v vs 2) 0) (w_ei ws (w_ar ws (n_v vs 0) 4)) (w_ei ws (w_ar ws (n_v vs 2) 7)) (w_ei ws (w_ar ws (n_v vs 2) 8)) (w_ei ws (w_ar ws (n_v vs 1) 9)) (w_fi ws (n_v vs 0) 2) (w_fi ws (n_v vs 2) 1) (w_ei w1 (w_ar ws (n_v vs 0) 4)) (w_ei w1 (w_ar ws (n_v vs 2) 7)) (w_ei w1 (w_ar ws (n_v vs 2) 8)) (w_ei w1 (w_ar ws (n_v vs 1) 9)) (w_fi w1 (n_v vs 0) 2) (w_fi w1 (n_v vs 2) 0) (w_fi w1 (n_v vs 2) 1) (w_ei ws (w_ar ws (n_v vs 0) 5)) (w_ei w1 (w_ar ws (n_v vs 0) 5)) k4 fe_0_2_1 fe_2_0_1 fe_2_1_1 hE_0_4_1 hE_0_5_1 hE_1_9_1 hE_2_7_1 hE_2_8_1 kz_0_2 kz_2_0 kz_2_1)⟩
  have nf3 : fc_1 PRD (24, [1, 1], []) ws (vs) := by
    refine ⟨nf_in hl rfl, sgq_1 ?_⟩
    · show n_v vs 1 = n_v vs 1
      first | rfl | simp only [true_and]
  have nf4 : fc_1 PRD (24, [0, 0], []) ws (vs) := by
    refine ⟨nf_in hl rfl, sgq_1 ?_⟩
    · show n_v vs 0 = n_v vs 0
      first | rfl | simp only [true_and]
  have nf5 : fc_1 PRD (24, [1, 1], []) ws (vs) := by
    refine ⟨nf_in hl rfl, sgq_1 ?_⟩
    · show n_v vs 1 = n_v vs 1
      first | rfl | simp only [true_and]
  refine ⟨(fun _ h => (by cases h)), [], trivial, ?_, (fun _ h => (by cases h))⟩
  rw [List.append_nil]
  exact List.forall_mem_cons.mpr ⟨⟨show (20 : Nat) < 100 from by decide, nf0⟩, List.forall_mem_cons.mpr ⟨⟨show (24 : Nat) < 100 from by decide, nf1⟩, List.forall_mem_cons.mpr ⟨⟨show (20 : Nat) < 100 from by decide, nf2⟩, List.forall_mem_cons.mpr ⟨⟨show (24 : Nat) < 100 from by decide, nf3⟩, List.forall_mem_cons.mpr ⟨⟨show (24 : Nat) < 100 from by decide, nf4⟩, List.forall_mem_cons.mpr ⟨⟨show (24 : Nat) < 100 from by decide, nf5⟩, (fun _ h => (by cases h))⟩⟩⟩⟩⟩⟩
set_option maxHeartbeats 4000000 in
theorem vc_La_makeItems_1_0 (x5 : Int) (x8 : Int) (x9 : Int) (items_0 : Int) (edges_0o2 : Int) (layerOf_0 : Int → Int) (firstJoint_0 : Int → Int) (tail_0o2 : Int → Int) (head_0o2 : Int → Int) (turned_0o1 : Int → Int) (layerCount_0 : Int) (nodes_0o2 : Int) (k5 : 0 ≤ x5 ∧ x5 ≤ 48) (k8 : 0 ≤ x8 ∧ x8 ≤ 48) (k9 : 1 ≤ x9 ∧ x9 ≤ 1) (d0 : x8 + 0 ≤ x5 ∧ x5 ≤ x8 + 4294967296) (g2 : x8 = edges_0o2) (f3 : MI1 (items_0) (layerCount_0) (nodes_0o2) (edges_0o2) (layerOf_0) (firstJoint_0) (tail_0o2) (head_0o2) (turned_0o1) (x5)) (f5 : x5 ≤ edges_0o2) (kz_0_2 : 0 ≤ layerCount_0 ∧ layerCount_0 ≤ 24) (kz_0_3 : 0 ≤ items_0 ∧ items_0 ≤ 72) (kz_2_0 : 0 ≤ nodes_0o2 ∧ nodes_0o2 ≤ 24) (kz_2_1 : 0 ≤ edges_0o2 ∧ edges_0o2 ≤ 48) : MIA (items_0) (layerCount_0) (nodes_0o2) (edges_0o2) (layerOf_0) (firstJoint_0) (tail_0o2) (head_0o2) (turned_0o1) (x9) := by
  first
    | exact Or.inl (by omega)
    | exact Or.inr (mit_of ‹MI1 _ _ _ _ _ _ _ _ _ _› (by omega))
  
def o_La_makeItems_1 : or_T := (125, 10, [(0, (2, 0, 0, [4])), (2, (2, 0, 0, [3])), (5, (0, 0, 48, [])), (8, (0, 0, 48, [])), (9, (0, 1, 1, []))], [(9, [8, 7], [1]), (20, [3, 7, 4, 5], [60, 4, 5, 662, 3, 2, 1000, 1001, 4, 5, 1007, 1008, 2009]), (24, [2, 7], []), (20, [5, 7], [50, 1, 0, 1001, 0, 2, 1, 0, 2, 1, 1]), (24, [1, 4], []), (24, [0, 3], [])], [], [], [(20, [0, 2, 1, 9], [60, 4, 5, 665, 3, 2, 1000, 1001, 4, 5, 1007, 1008, 2009])], [], [(5, 8, 0, 4294967296)])
theorem oo_La_makeItems_1 {kA : Nat → ClassId} : or_ok PRD kA GG o_La_makeItems_1 := by
  refine or_mk fun A ta ws vs hD hth hl => ?_
  intro t0 r0 t2 r2 t5 k5 t8 k8 t9 k9 d0 f2 f3 f4 f5 f6 f7
  replace f2 := shm_215 f2
  replace f3 := shm_1088 f3
  replace f4 := shm_5 f4
  replace f5 := shm_483 f5
  replace f6 := shm_5 f6
  replace f7 := shm_5 f7
  have q7 : n_v vs 7 = n_v vs 2 := f4.symm
  have q4 : n_v vs 4 = n_v vs 1 := f6.symm
  have q3 : n_v vs 3 = n_v vs 0 := f7.symm
  simp only [q3, q7, q4] at f2 f3 f5
  have g2 : v_iv (n_v vs 8) = w_fi ws (n_v vs 2) 1 := congrArg v_iv f2
  have kz_0_2 := fdq_77 hD hth r0
  have kz_0_3 := fdq_218 hD hth r0
  have kz_2_0 := fdq_21 hD hth r2
  have kz_2_1 := fdq_30 hD hth r2
  have nf0 : fc_1 PRD (20, [0, 2, 1, 9], [60, 4, 5, 665, 3, 2, 1000, 1001, 4, 5, 1007, 1008, 2009]) ws (vs) := ⟨nf_in hl rfl, sgq_1089 (vc_La_makeItems_1_0 (v_iv (n_v vs 5)) (v_iv (n_v vs 8)) (v_iv (n_v vs 9)) (w_fi ws (n_v vs 0) 3) (w_fi ws (n_v vs 2) 1) (w_ei ws (w_ar ws (n_v vs 0) 4)) (w_ei ws (w_ar ws (n_v vs 0) 5)) (w_ei ws (w_ar ws (n_v vs 2) 7)) (w_ei ws (w_ar ws (n_v vs 2) 8)) (w_ei ws (w_ar ws (n_v vs 1) 9)) (w_fi ws (n_v vs 0) 2) (w_fi ws (n_v vs 2) 0) k5 k8 k9 d0 g2 f3 f5 kz_0_2 kz_0_3 kz_2_0 kz_2_1)⟩
  refine ⟨(fun _ h => (by cases h)), [], trivial, ?_, (fun _ h => (by cases h))⟩
  rw [List.append_nil]
  exact List.forall_mem_cons.mpr ⟨⟨show (20 : Nat) < 100 from by decide, nf0⟩, (fun _ h => (by cases h))⟩
set_option maxHeartbeats 4000000 in
theorem vc_La_makeItems_2_0 (x5 : Int) (x6 : Int) (x8 : Int) (x11 : Int) (x12 : Int) (x13 : Int) (x14 : Int) (x15 : Int) (x16 : Int) (x17 : Int) (x18 : Int) (x19 : Int) (x20 : Int) (edges_0o2 : Int) (items_0 : Int) (layerOf_0 : Int → Int) (tail_0o2 : Int → Int) (head_0o2 : Int → Int) (turned_0o1 : Int → Int) (layerOf_1 : Int → Int) (firstJoint_1 : Int → Int) (tail_1o2 : Int → Int) (head_1o2 : Int → Int) (turned_1o1 : Int → Int) (items_1 : Int) (layerCount_1 : Int) (nodes_1o2 : Int) (edges_1o2 : Int) (layerCount_0 : Int) (nodes_0o2 : Int) (firstJoint_0 : Int → Int) (k5 : 0 ≤ x5 ∧ x5 ≤ 47) (k6 : 0 ≤ x6 ∧ x6 ≤ 72) (k8 : 1 ≤ x8 ∧ x8 ≤ 48) (k11 : 0 ≤ x11 ∧ x11 ≤ 23) (k12 : 0 ≤ x12 ∧ x12 ≤ 23) (k13 : 0 ≤ x13 ∧ x13 ≤ 23) (k14 : 0 ≤ x14 ∧ x14 ≤ 23) (k15 : (-23) ≤ x15 ∧ x15 ≤ 23) (k16 : 1 ≤ x16 ∧ x16 ≤ 1) (k17 : (-24) ≤ x17 ∧ x17 ≤ 22) (k18 : (-24) ≤ x18 ∧ x18 ≤ 72) (k19 : 72 ≤ x19 ∧ x19 ≤ 72) (k20 : 0 ≤ x20 ∧ x20 ≤ 0) (d7 : x8 + (-4294967296) ≤ x5 ∧ x5 ≤ x8 + (-1)) (g1 : x8 = edges_0o2) (f2 : x18 ≤ x19) (f3 : x18 = x6 + x17) (g4 : x6 = items_0) (f5 : x17 = x15 - x16) (f6 : x15 = x14 - x12) (h7 : x14 = layerOf_0 (x13)) (f8 : LOX (tail_0o2) (head_0o2) (turned_0o1) (x5) (x13)) (h10 : x12 = layerOf_0 (x11)) (f11 : UPX (tail_0o2) (head_0o2) (turned_0o1) (x5) (x11)) (f18 : MI1 (items_1) (layerCount_1) (nodes_1o2) (edges_1o2) (layerOf_1) (firstJoint_1) (tail_1o2) (head_1o2) (turned_1o1) (x5)) (fe_0_2_1 : layerCount_0 = layerCount_1) (fe_0_3_1 : items_0 = items_1) (fe_2_0_1 : nodes_0o2 = nodes_1o2) (fe_2_1_1 : edges_0o2 = edges_1o2) (hE_0_4_1 : ∀ j : Int, layerOf_0 j = layerOf_1 j) (hE_0_5_1 : ∀ j : Int, 0 ≤ j → (j = x5 → firstJoint_0 j = x6) ∧ (j ≠ x5 → firstJoint_0 j = firstJoint_1 j)) (hE_1_9_1 : ∀ j : Int, turned_0o1 j = turned_1o1 j) (hE_2_7_1 : ∀ j : Int, tail_0o2 j = tail_1o2 j) (hE_2_8_1 : ∀ j : Int, head_0o2 j = head_1o2 j) (kz_0_2 : 0 ≤ layerCount_0 ∧ layerCount_0 ≤ 24) (kz_0_3 : 0 ≤ items_0 ∧ items_0 ≤ 72) (kz_2_0 : 0 ≤ nodes_0o2 ∧ nodes_0o2 ≤ 24) (kz_2_1 : 0 ≤ edges_0o2 ∧ edges_0o2 ≤ 48) : MI2 (items_0) (layerCount_0) (nodes_0o2) (edges_0o2) (layerOf_0) (firstJoint_0) (tail_0o2) (head_0o2) (turned_0o1) (x5) (x12) (x17) (x20) := by
  subst fe_0_2_1
  subst fe_0_3_1
  subst fe_2_0_1
  subst fe_2_1_1
  have e_hE_0_4_1 := funext hE_0_4_1; subst e_hE_0_4_1
  have e_hE_1_9_1 := funext hE_1_9_1; subst e_hE_1_9_1
  have e_hE_2_7_1 := funext hE_2_7_1; subst e_hE_2_7_1
  have e_hE_2_8_1 := funext hE_2_8_1; subst e_hE_2_8_1
  first
    | exact mi2_start (a := x11) (b := x13) (d := x14) (s1 := x15) (q1 := x16) (s2 := x18) (q2 := x19) (p := x5) (v := x6) ‹MI1 _ _ _ _ _ _ _ _ _ _› (by omega) (by assumption) rfl (by omega) ‹UPX _ _ _ _ _› (by assumption) ‹LOX _ _ _ _ _› (by assumption) (by omega) (by omega) (by omega) (by omega) (by omega) (by omega) (by omega)
    | exact mi2_step (p := x9) (v := x14) ‹MI2 _ _ _ _ _ _ _ _ _ _ _ _ _› (by omega) (by omega) (by assumption) (by omega) (by omega) (by omega) (by omega)
  
def o_La_makeItems_2 : or_T := (80, 21, [(0, (2, 0, 0, [4])), (1, (2, 0, 0, [2])), (2, (2, 0, 0, [3])), (5, (0, 0, 47, [])), (6, (0, 0, 72, [])), (8, (0, 1, 48, [])), (9, (2, 0, 0, [63])), (11, (0, 0, 23, [])), (12, (0, 0, 23, [])), (13, (0, 0, 23, [])), (14, (0, 0, 23, [])), (15, (0, -23, 23, [])), (16, (0, 1, 1, [])), (17, (0, -24, 22, [])), (18, (0, -24, 72, [])), (19, (0, 72, 72, [])), (20, (0, 0, 0, []))], [(9, [9, 3], [5]), (9, [8, 7], [1]), (7, [18, 19], [5]), (1, [18, 6, 17], []), (9, [6, 3], [3]), (2, [17, 15, 16], []), (2, [15, 14, 12], []), (10, [14, 10, 13], []), (20, [7, 4, 5, 13], [60, 0, 3, 650, 7, 8, 1009]), (9, [10, 3], [4]), (10, [12, 10, 11], []), (20, [7, 4, 5, 11], [60, 0, 3, 649, 7, 8, 1009]), (24, [2, 7], []), (24, [1, 4], []), (24, [0, 3], []), (100, [9, 5, 6], []), (20, [3, 7, 4, 5], [60, 4, 5, 662, 3, 2, 1000, 1001, 4, 5, 1007, 1008, 2009])], [], [], [(20, [3, 7, 4, 5, 12, 17, 20], [60, 4, 5, 663, 3, 2, 1000, 1001, 4, 5, 1007, 1008, 2009])], [], [(18, 6, -24, 22), (5, 8, -4294967296, -1)])
theorem oo_La_makeItems_2 {kA : Nat → ClassId} : or_ok PRD kA GG o_La_makeItems_2 := by
  refine or_mk fun A ta ws vs hD hth hl => ?_
  intro t0 r0 t1 r1 t2 r2 t5 k5 t6 k6 t8 k8 t9 r9 t11 k11 t12 k12 t13 k13 t14 k14 t15 k15 t16 k16 t17 k17 t18 k18 t19 k19 t20 k20 d3 d7 f0 f1 f2 f3 f4 f5 f6 f7 f8 f9 f10 f11 f12 f14 f15 ta1 w1 le1 s1 f18
  replace f0 := shm_110 f0
  replace f1 := shm_215 f1
  replace f2 := shm_24 f2
  replace f3 := shm_12 f3
  replace f4 := shm_137 f4
  replace f5 := shm_14 f5
  replace f6 := shm_14 f6
  replace f7 := shm_107 f7
  replace f8 := shm_392 f8
  replace f9 := shm_108 f9
  replace f10 := shm_107 f10
  replace f11 := shm_402 f11
  replace f12 := shm_5 f12
  replace f14 := shm_5 f14
  replace f15 := shm_5 f15
  have s1 : (∀ b j, w_el ws b j = if b = v_ad (n_v vs 9) ∧ j = (v_iv (n_v vs 5)).toNat then v_iv (n_v vs 6) else w_el w1 b j) ∧ ∀ b k, w_fd ws b k = w_fd w1 b k := s1.2
  replace f18 := shm_1088 f18
  have q7 : n_v vs 7 = n_v vs 2 := f12.symm
  have q4 : n_v vs 4 = n_v vs 1 := f14.symm
  have q3 : n_v vs 3 = n_v vs 0 := f15.symm
  simp only [q3, q7, q4] at f0 f1 f4 f8 f9 f11 f18
  have ar_0_4_1 : w_ar w1 (n_v vs 0) 4 = w_ar ws (n_v vs 0) 4 := congrArg v_ad (s1.2 _ _).symm
  have cr_0_4 := fdq_219 hD hth r0
  have ar_0_5_1 : w_ar w1 (n_v vs 0) 5 = w_ar ws (n_v vs 0) 5 := congrArg v_ad (s1.2 _ _).symm
  have ar_1_9_1 : w_ar w1 (n_v vs 1) 9 = w_ar ws (n_v vs 1) 9 := congrArg v_ad (s1.2 _ _).symm
  have cr_1_9 := fdq_76 hD hth r1
  have ar_2_7_1 : w_ar w1 (n_v vs 2) 7 = w_ar ws (n_v vs 2) 7 := congrArg v_ad (s1.2 _ _).symm
  have cr_2_7 := fdq_46 hD hth r2
  have ar_2_8_1 : w_ar w1 (n_v vs 2) 8 = w_ar ws (n_v vs 2) 8 := congrArg v_ad (s1.2 _ _).symm
  have cr_2_8 := fdq_47 hD hth r2
  have ad_9 : v_ad (n_v vs 9) = w_ar ws (n_v vs 0) 5 := congrArg v_ad f0
  have ad_10 : v_ad (n_v vs 10) = w_ar ws (n_v vs 0) 4 := congrArg v_ad f9
  have g1 : v_iv (n_v vs 8) = w_fi ws (n_v vs 2) 1 := congrArg v_iv f1
  have g4 : v_iv (n_v vs 6) = w_fi ws (n_v vs 0) 3 := congrArg v_iv f4
  simp only [ad_10] at f7
  have h7 : v_iv (n_v vs 14) = w_ei ws (w_ar ws (n_v vs 0) 4) (v_iv (n_v vs 13)) := f7
  simp only [ad_10] at f10
  have h10 : v_iv (n_v vs 12) = w_ei ws (w_ar ws (n_v vs 0) 4) (v_iv (n_v vs 11)) := f10
  simp only [ar_0_4_1, ar_0_5_1, ar_1_9_1, ar_2_7_1, ar_2_8_1] at f18
  have fe_0_2_1 : w_fi ws (n_v vs 0) 2 = w_fi w1 (n_v vs 0) 2 := congrArg v_iv (s1.2 _ _)
  have fe_0_3_1 : w_fi ws (n_v vs 0) 3 = w_fi w1 (n_v vs 0) 3 := congrArg v_iv (s1.2 _ _)
  have fe_2_0_1 : w_fi ws (n_v vs 2) 0 = w_fi w1 (n_v vs 2) 0 := congrArg v_iv (s1.2 _ _)
  have fe_2_1_1 : w_fi ws (n_v vs 2) 1 = w_fi w1 (n_v vs 2) 1 := congrArg v_iv (s1.2 _ _)
  have hE_0_4_1 : ∀ j : Int, w_ei ws (w_ar ws (n_v vs 0) 4) j = w_ei w1 (w_ar ws (n_v vs 0) 4) j := el_kp s1.1 r9 cr_0_4 (by decide)
  have hE_0_5_1 : ∀ j : Int, 0 ≤ j → (j = v_iv (n_v vs 5) → w_ei ws (w_ar ws (n_v vs 0) 5) j = v_iv (n_v vs 6)) ∧ (j ≠ v_iv (n_v vs 5) → w_ei ws (w_ar ws (n_v vs 0) 5) j = w_ei w1 (w_ar ws (n_v vs 0) 5) j) := fun j hj => ⟨fun h => by unfold w_ei; rw [s1.1, if_pos ⟨ad_9.symm, by rw [h]⟩], fun h => by unfold w_ei; rw [s1.1, if_neg (fun e => h (by have := e.2; omega))]⟩
  have hE_1_9_1 : ∀ j : Int, w_ei ws (w_ar ws (n_v vs 1) 9) j = w_ei w1 (w_ar ws (n_v vs 1) 9) j := el_kp s1.1 r9 cr_1_9 (by decide)
  have hE_2_7_1 : ∀ j : Int, w_ei ws (w_ar ws (n_v vs 2) 7) j = w_ei w1 (w_ar ws (n_v vs 2) 7) j := el_kp s1.1 r9 cr_2_7 (by decide)
  have hE_2_8_1 : ∀ j : Int, w_ei ws (w_ar ws (n_v vs 2) 8) j = w_ei w1 (w_ar ws (n_v vs 2) 8) j := el_kp s1.1 r9 cr_2_8 (by decide)
  have kz_0_2 := fdq_77 hD hth r0
  have kz_0_3 := fdq_218 hD hth r0
  have kz_2_0 := fdq_21 hD hth r2
  have kz_2_1 := fdq_30 hD hth r2
  have nf0 : fc_1 PRD (20, [3, 7, 4, 5, 12, 17, 20], [60, 4, 5, 663, 3, 2, 1000, 1001, 4, 5, 1007, 1008, 2009]) ws (vs) := by
    refine ⟨nf_in hl rfl, sgq_1090 ?_⟩
    · show MI2 (w_fi ws (n_v vs 3) 3) (w_fi ws (n_v vs 3) 2) (w_fi ws (n_v vs 7) 0) (w_fi ws (n_v vs 7) 1) (w_ei ws (w_ar ws (n_v vs 3) 4)) (w_ei ws (w_ar ws (n_v vs 3) 5)) (w_ei ws (w_ar ws (n_v vs 7) 7)) (w_ei ws (w_ar ws (n_v vs 7) 8)) (w_ei ws (w_ar ws (n_v vs 4) 9)) (v_iv (n_v vs 5)) (v_iv (n_v vs 12)) (v_iv (n_v vs 17)) (v_iv (n_v vs 20))
      simp only [q7, q4, q3]
      exact vc_La_makeItems_2_0 (v_iv (n_v vs 5)) (v_iv (n_v vs 6)) (v_iv (n_v vs 8)) (v_iv (n_v vs 11)) (v_iv (n_v vs 12)) (v_iv (n_v vs 13)) (v_iv (n_v vs 14)) (v_iv (n_v vs 15)) (v_iv (n_v vs 16)) (v_iv (n_v vs 17)) (v_iv (n_v vs 18)) (v_iv (n_v vs 19)) (v_iv (n_v vs 20)) (w_fi ws (n_v vs 2) 1) (w_fi ws (n_v vs 0) 3) (w_ei ws (w_ar ws (n_v vs 0) 4)) (w_ei ws (w_ar ws (n_v vs 2) 7)) (w_ei ws (w_ar ws (n_v vs 2) 8)) (w_ei ws (w_ar ws (n_v vs 1) 9)) (w_ei w1 (w_ar ws (n_v vs 0) 4)) (w_ei w1 (w_ar ws (n_v vs 0) 5)) (w_ei w1 (w_ar ws (n_v vs 2) 7)) (w_ei w1 (w_ar ws (n_v vs 2) 8)) (w_ei w1 (w_ar ws (n_v vs 1) 9)) (w_fi w1 (n_v vs 0) 3) (w_fi w1 (n_v vs 0) 2) (w_fi w1 (n_v vs 2) 0) (w_fi w1 (n_v vs 2) 1) (w_fi ws (n_v vs 0) 2) (w_fi ws (n_v vs 2) 0) (w_ei ws (w_ar ws (n_v vs 0) 5)) k5 k6 k8 k11 k12 k13 k14 k15 k16 k17 k18 k19 k20 d7 g1 f2 f3 g4 f5 f6 h7 f8 h10 f11 f18 fe_0_2_1 fe_0_3_1 fe_2_0_1 fe_2_1_1 hE_0_4_1 hE_0_5_1 hE_1_9_1 hE_2_7_1 hE_2_8_1 kz_0_2 kz_0_3 kz_2_0 kz_2_1
  refine ⟨(fun _ h => (by cases h)), [], trivial, ?_, (fun _ h => (by cases h))⟩
  rw [List.append_nil]
  exact List.forall_mem_cons.mpr ⟨⟨show (20 : Nat) < 100 from by decide, nf0⟩, (fun _ h => (by cases h))⟩
set_option maxHeartbeats 4000000 in
theorem vc_La_makeItems_3_0 (x20 : Int) (edges_0o2 : Int) (items_0 : Int) (layerOf_0 : Int → Int) (tail_0o2 : Int → Int) (head_0o2 : Int → Int) (turned_0o1 : Int → Int) (layerOf_1 : Int → Int) (tail_1o2 : Int → Int) (head_1o2 : Int → Int) (turned_1o1 : Int → Int) (items_1 : Int) (layerCount_1 : Int) (nodes_1o2 : Int) (edges_1o2 : Int) (layerCount_0 : Int) (nodes_0o2 : Int) (firstJoint_0 : Int → Int) (k20 : 0 ≤ x20 ∧ x20 ≤ 0) (fe_0_2_1 : layerCount_0 = layerCount_1) (fe_0_3_1 : items_0 = items_1) (fe_2_0_1 : nodes_0o2 = nodes_1o2) (fe_2_1_1 : edges_0o2 = edges_1o2) (hE_0_4_1 : ∀ j : Int, layerOf_0 j = layerOf_1 j) (hE_1_9_1 : ∀ j : Int, turned_0o1 j = turned_1o1 j) (hE_2_7_1 : ∀ j : Int, tail_0o2 j = tail_1o2 j) (hE_2_8_1 : ∀ j : Int, head_0o2 j = head_1o2 j) (kz_0_2 : 0 ≤ layerCount_0 ∧ layerCount_0 ≤ 24) (kz_0_3 : 0 ≤ items_0 ∧ items_0 ≤ 72) (kz_2_0 : 0 ≤ nodes_0o2 ∧ nodes_0o2 ≤ 24) (kz_2_1 : 0 ≤ edges_0o2 ∧ edges_0o2 ≤ 48) : MIA (items_0) (layerCount_0) (nodes_0o2) (edges_0o2) (layerOf_0) (firstJoint_0) (tail_0o2) (head_0o2) (turned_0o1) (x20) := by
  subst fe_0_2_1
  subst fe_0_3_1
  subst fe_2_0_1
  subst fe_2_1_1
  have e_hE_0_4_1 := funext hE_0_4_1; subst e_hE_0_4_1
  have e_hE_1_9_1 := funext hE_1_9_1; subst e_hE_1_9_1
  have e_hE_2_7_1 := funext hE_2_7_1; subst e_hE_2_7_1
  have e_hE_2_8_1 := funext hE_2_8_1; subst e_hE_2_8_1
  first
    | exact Or.inl (by omega)
    | exact Or.inr (mit_of ‹MI1 _ _ _ _ _ _ _ _ _ _› (by omega))
  
def o_La_makeItems_3 : or_T := (76, 21, [(0, (2, 0, 0, [4])), (1, (2, 0, 0, [2])), (2, (2, 0, 0, [3])), (9, (2, 0, 0, [63])), (20, (0, 0, 0, []))], [(100, [9, 5, 6], [])], [], [], [(20, [0, 2, 1, 20], [60, 4, 5, 665, 3, 2, 1000, 1001, 4, 5, 1007, 1008, 2009])], [], [])
theorem oo_La_makeItems_3 {kA : Nat → ClassId} : or_ok PRD kA GG o_La_makeItems_3 := by
  refine or_mk fun A ta ws vs hD hth hl => ?_
  intro t0 r0 t1 r1 t2 r2 t9 r9 t20 k20 ta1 w1 le1 s1
  have s1 : (∀ b j, w_el ws b j = if b = v_ad (n_v vs 9) ∧ j = (v_iv (n_v vs 5)).toNat then v_iv (n_v vs 6) else w_el w1 b j) ∧ ∀ b k, w_fd ws b k = w_fd w1 b k := s1.2
  have cr_0_4 := fdq_219 hD hth r0
  have cr_1_9 := fdq_76 hD hth r1
  have cr_2_7 := fdq_46 hD hth r2
  have cr_2_8 := fdq_47 hD hth r2
  have fe_0_2_1 : w_fi ws (n_v vs 0) 2 = w_fi w1 (n_v vs 0) 2 := congrArg v_iv (s1.2 _ _)
  have fe_0_3_1 : w_fi ws (n_v vs 0) 3 = w_fi w1 (n_v vs 0) 3 := congrArg v_iv (s1.2 _ _)
  have fe_2_0_1 : w_fi ws (n_v vs 2) 0 = w_fi w1 (n_v vs 2) 0 := congrArg v_iv (s1.2 _ _)
  have fe_2_1_1 : w_fi ws (n_v vs 2) 1 = w_fi w1 (n_v vs 2) 1 := congrArg v_iv (s1.2 _ _)
  have hE_0_4_1 : ∀ j : Int, w_ei ws (w_ar ws (n_v vs 0) 4) j = w_ei w1 (w_ar ws (n_v vs 0) 4) j := el_kp s1.1 r9 cr_0_4 (by decide)
  have hE_1_9_1 : ∀ j : Int, w_ei ws (w_ar ws (n_v vs 1) 9) j = w_ei w1 (w_ar ws (n_v vs 1) 9) j := el_kp s1.1 r9 cr_1_9 (by decide)
  have hE_2_7_1 : ∀ j : Int, w_ei ws (w_ar ws (n_v vs 2) 7) j = w_ei w1 (w_ar ws (n_v vs 2) 7) j := el_kp s1.1 r9 cr_2_7 (by decide)
  have hE_2_8_1 : ∀ j : Int, w_ei ws (w_ar ws (n_v vs 2) 8) j = w_ei w1 (w_ar ws (n_v vs 2) 8) j := el_kp s1.1 r9 cr_2_8 (by decide)
  have kz_0_2 := fdq_77 hD hth r0
  have kz_0_3 := fdq_218 hD hth r0
  have kz_2_0 := fdq_21 hD hth r2
  have kz_2_1 := fdq_30 hD hth r2
  have nf0 : fc_1 PRD (20, [0, 2, 1, 20], [60, 4, 5, 665, 3, 2, 1000, 1001, 4, 5, 1007, 1008, 2009]) ws (vs) := ⟨nf_in hl rfl, sgq_1089 (vc_La_makeItems_3_0 (v_iv (n_v vs 20)) (w_fi ws (n_v vs 2) 1) (w_fi ws (n_v vs 0) 3) (w_ei ws (w_ar ws (n_v vs 0) 4)) (w_ei ws (w_ar ws (n_v vs 2) 7)) (w_ei ws (w_ar ws (n_v vs 2) 8)) (w_ei ws (w_ar ws (n_v vs 1) 9)) (w_ei w1 (w_ar ws (n_v vs 0) 4)) (w_ei w1 (w_ar ws (n_v vs 2) 7)) (w_ei w1 (w_ar ws (n_v vs 2) 8)) (w_ei w1 (w_ar ws (n_v vs 1) 9)) (w_fi w1 (n_v vs 0) 3) (w_fi w1 (n_v vs 0) 2) (w_fi w1 (n_v vs 2) 0) (w_fi w1 (n_v vs 2) 1) (w_fi ws (n_v vs 0) 2) (w_fi ws (n_v vs 2) 0) (w_ei ws (w_ar ws (n_v vs 0) 5)) k20 fe_0_2_1 fe_0_3_1 fe_2_0_1 fe_2_1_1 hE_0_4_1 hE_1_9_1 hE_2_7_1 hE_2_8_1 kz_0_2 kz_0_3 kz_2_0 kz_2_1)⟩
  refine ⟨(fun _ h => (by cases h)), [], trivial, ?_, (fun _ h => (by cases h))⟩
  rw [List.append_nil]
  exact List.forall_mem_cons.mpr ⟨⟨show (20 : Nat) < 100 from by decide, nf0⟩, (fun _ h => (by cases h))⟩
set_option maxHeartbeats 4000000 in
theorem vc_La_makeItems_4_0 (x5 : Int) (x6 : Int) (x7 : Int) (x8 : Int) (x11 : Int) (items_0 : Int) (layerOf_0 : Int → Int) (firstJoint_0 : Int → Int) (tail_0o2 : Int → Int) (head_0o2 : Int → Int) (turned_0o1 : Int → Int) (layerCount_0 : Int) (nodes_0o2 : Int) (edges_0o2 : Int) (k5 : 0 ≤ x5 ∧ x5 ≤ 47) (k6 : 0 ≤ x6 ∧ x6 ≤ 23) (k7 : (-24) ≤ x7 ∧ x7 ≤ 22) (k8 : 0 ≤ x8 ∧ x8 ≤ 22) (k11 : 1 ≤ x11 ∧ x11 ≤ 48) (f1 : x11 = x5 + 1) (f2 : x7 ≤ x8) (f3 : MI2 (items_0) (layerCount_0) (nodes_0o2) (edges_0o2) (layerOf_0) (firstJoint_0) (tail_0o2) (head_0o2) (turned_0o1) (x5) (x6) (x7) (x8)) (kz_0_2 : 0 ≤ layerCount_0 ∧ layerCount_0 ≤ 24) (kz_0_3 : 0 ≤ items_0 ∧ items_0 ≤ 72) (kz_2_0 : 0 ≤ nodes_0o2 ∧ nodes_0o2 ≤ 24) (kz_2_1 : 0 ≤ edges_0o2 ∧ edges_0o2 ≤ 48) : MI1 (items_0) (layerCount_0) (nodes_0o2) (edges_0o2) (layerOf_0) (firstJoint_0) (tail_0o2) (head_0o2) (turned_0o1) (x11) := by
  first
    | exact mi1_start ‹LYG _ _ _ _ _ _ _› (by omega) (by omega)
    | exact mi1_next ‹MI2 _ _ _ _ _ _ _ _ _ _ _ _ _› (by omega) (by omega)
  
set_option maxHeartbeats 4000000 in
theorem vc_La_makeItems_4_1 (x5 : Int) (x6 : Int) (x7 : Int) (x8 : Int) (x11 : Int) (items_0 : Int) (layerOf_0 : Int → Int) (firstJoint_0 : Int → Int) (tail_0o2 : Int → Int) (head_0o2 : Int → Int) (turned_0o1 : Int → Int) (layerCount_0 : Int) (nodes_0o2 : Int) (edges_0o2 : Int) (k5 : 0 ≤ x5 ∧ x5 ≤ 47) (k6 : 0 ≤ x6 ∧ x6 ≤ 23) (k7 : (-24) ≤ x7 ∧ x7 ≤ 22) (k8 : 0 ≤ x8 ∧ x8 ≤ 22) (k11 : 1 ≤ x11 ∧ x11 ≤ 48) (d0 : x5 + 1 ≤ x11 ∧ x11 ≤ x5 + 1) (f3 : MI2 (items_0) (layerCount_0) (nodes_0o2) (edges_0o2) (layerOf_0) (firstJoint_0) (tail_0o2) (head_0o2) (turned_0o1) (x5) (x6) (x7) (x8)) (kz_0_2 : 0 ≤ layerCount_0 ∧ layerCount_0 ≤ 24) (kz_0_3 : 0 ≤ items_0 ∧ items_0 ≤ 72) (kz_2_0 : 0 ≤ nodes_0o2 ∧ nodes_0o2 ≤ 24) (kz_2_1 : 0 ≤ edges_0o2 ∧ edges_0o2 ≤ 48) : x11 ≤ edges_0o2 := by
  first
    | omega
    | (have q := (‹MI2 _ _ _ _ _ _ _ _ _ _ _ _ _›).2.2.1; omega)
    | (have q := mi2_room ‹MI2 _ _ _ _ _ _ _ _ _ _ _ _ _› (by omega) (by omega); omega)
  
def o_La_makeItems_4 : or_T := (13, 12, [(0, (2, 0, 0, [4])), (2, (2, 0, 0, [3])), (5, (0, 0, 47, [])), (6, (0, 0, 23, [])), (7, (0, -24, 22, [])), (8, (0, 0, 22, [])), (11, (0, 1, 48, []))], [(6, [11, 5], [1]), (7, [8, 7], [3]), (20, [3, 10, 4, 5, 6, 7, 8], [60, 4, 5, 663, 3, 2, 1000, 1001, 4, 5, 1007, 1008, 2009]), (24, [2, 10], []), (24, [1, 4], []), (24, [0, 3], [])], [], [], [(20, [3, 10, 4, 11], [60, 4, 5, 662, 3, 2, 1000, 1001, 4, 5, 1007, 1008, 2009]), (20, [11, 10], [50, 1, 0, 1001, 0, 2, 1, 0, 2, 1, 1])], [], [(11, 5, 1, 1)])
theorem oo_La_makeItems_4 {kA : Nat → ClassId} : or_ok PRD kA GG o_La_makeItems_4 := by
  refine or_mk fun A ta ws vs hD hth hl => ?_
  intro t0 r0 t2 r2 t5 k5 t6 k6 t7 k7 t8 k8 t11 k11 d0 f1 f2 f3 f4 f5 f6
  replace f1 := shm_4 f1
  replace f2 := shm_2 f2
  replace f3 := shm_1090 f3
  replace f4 := shm_5 f4
  replace f5 := shm_5 f5
  replace f6 := shm_5 f6
  have q10 : n_v vs 10 = n_v vs 2 := f4.symm
  have q4 : n_v vs 4 = n_v vs 1 := f5.symm
  have q3 : n_v vs 3 = n_v vs 0 := f6.symm
  simp only [q3, q10, q4] at f3
  have kz_0_2 := fdq_77 hD hth r0
  have kz_0_3 := fdq_218 hD hth r0
  have kz_2_0 := fdq_21 hD hth r2
  have kz_2_1 := fdq_30 hD hth r2
  have nf0 : fc_1 PRD (20, [3, 10, 4, 11], [60, 4, 5, 662, 3, 2, 1000, 1001, 4, 5, 1007, 1008, 2009]) ws (vs) := by
    refine ⟨nf_in hl rfl, sgq_1088 ?_⟩
    · show MI1 (w_fi ws (n_v vs 3) 3) (w_fi ws (n_v vs 3) 2) (w_fi ws (n_v vs 10) 0) (w_fi ws (n_v vs 10) 1) (w_ei ws (w_ar ws (n_v vs 3) 4)) (w_ei ws (w_ar ws (n_v vs 3) 5)) (w_ei ws (w_ar ws (n_v vs 10) 7)) (w_ei ws (w_ar ws (n_v vs 10) 8)) (w_ei ws (w_ar ws (n_v vs 4) 9)) (v_iv (n_v vs 11))
      simp only [q10, q4, q3]
      exact vc_La_makeItems_4_0 (v_iv (n_v vs 5)) (v_iv (n_v vs 6)) (v_iv (n_v vs 7)) (v_iv (n_v vs 8)) (v_iv (n_v vs 11)) (w_fi ws (n_v vs 0) 3) (w_ei ws (w_ar ws (n_v vs 0) 4)) (w_ei ws (w_ar ws (n_v vs 0) 5)) (w_ei ws (w_ar ws (n_v vs 2) 7)) (w_ei ws (w_ar ws (n_v vs 2) 8)) (w_ei ws (w_ar ws (n_v vs 1) 9)) (w_fi ws (n_v vs 0) 2) (w_fi ws (n_v vs 2) 0) (w_fi ws (n_v vs 2) 1) k5 k6 k7 k8 k11 f1 f2 f3 kz_0_2 kz_0_3 kz_2_0 kz_2_1
  have nf1 : fc_1 PRD (20, [11, 10], [50, 1, 0, 1001, 0, 2, 1, 0, 2, 1, 1]) ws (vs) := by
    refine ⟨nf_in hl rfl, sgq_483 ?_⟩
    · show v_iv (n_v vs 11) ≤ w_fi ws (n_v vs 10) 1
      rw [q10]
      exact vc_La_makeItems_4_1 (v_iv (n_v vs 5)) (v_iv (n_v vs 6)) (v_iv (n_v vs 7)) (v_iv (n_v vs 8)) (v_iv (n_v vs 11)) (w_fi ws (n_v vs 0) 3) (w_ei ws (w_ar ws (n_v vs 0) 4)) (w_ei ws (w_ar ws (n_v vs 0) 5)) (w_ei ws (w_ar ws (n_v vs 2) 7)) (w_ei ws (w_ar ws (n_v vs 2) 8)) (w_ei ws (w_ar ws (n_v vs 1) 9)) (w_fi ws (n_v vs 0) 2) (w_fi ws (n_v vs 2) 0) (w_fi ws (n_v vs 2) 1) k5 k6 k7 k8 k11 d0 f3 kz_0_2 kz_0_3 kz_2_0 kz_2_1
  refine ⟨(fun _ h => (by cases h)), [], trivial, ?_, (fun _ h => (by cases h))⟩
  rw [List.append_nil]
  exact List.forall_mem_cons.mpr ⟨⟨show (20 : Nat) < 100 from by decide, nf0⟩, List.forall_mem_cons.mpr ⟨⟨show (20 : Nat) < 100 from by decide, nf1⟩, (fun _ h => (by cases h))⟩⟩
set_option maxHeartbeats 4000000 in
theorem vc_La_makeItems_5_r0 (x5 : Int) (x6 : Int) (x7 : Int) (x8 : Int) (x13 : Int) (x14 : Int) (items_0 : Int) (layerOf_0 : Int → Int) (firstJoint_0 : Int → Int) (tail_0o2 : Int → Int) (head_0o2 : Int → Int) (turned_0o1 : Int → Int) (layerCount_0 : Int) (nodes_0o2 : Int) (edges_0o2 : Int) (k5 : 0 ≤ x5 ∧ x5 ≤ 47) (k6 : 0 ≤ x6 ∧ x6 ≤ 23) (k7 : 1 ≤ x7 ∧ x7 ≤ 22) (k8 : 0 ≤ x8 ∧ x8 ≤ 21) (k13 : 1 ≤ x13 ∧ x13 ≤ 24) (k14 : 1 ≤ x14 ∧ x14 ≤ 45) (d5 : x6 + 1 ≤ x13 ∧ x13 ≤ x6 + 1) (f0 : x14 = x13 + x8) (f4 : x8 < x7) (f5 : MI2 (items_0) (layerCount_0) (nodes_0o2) (edges_0o2) (layerOf_0) (firstJoint_0) (tail_0o2) (head_0o2) (turned_0o1) (x5) (x6) (x7) (x8)) (kz_0_2 : 0 ≤ layerCount_0 ∧ layerCount_0 ≤ 24) (kz_0_3 : 0 ≤ items_0 ∧ items_0 ≤ 72) (kz_2_0 : 0 ≤ nodes_0o2 ∧ nodes_0o2 ≤ 24) (kz_2_1 : 0 ≤ edges_0o2 ∧ edges_0o2 ≤ 48) : 1 ≤ x14 ∧ x14 ≤ 23 := by
  first
    | omega
    | (have q := (‹MI2 _ _ _ _ _ _ _ _ _ _ _ _ _›).2.2.1; omega)
    | (have q := mi2_room ‹MI2 _ _ _ _ _ _ _ _ _ _ _ _ _› (by omega) (by omega); omega)
  
set_option maxHeartbeats 4000000 in
theorem vc_La_makeItems_5_r1 (x5 : Int) (x6 : Int) (x7 : Int) (x8 : Int) (x9 : Int) (items_0 : Int) (layerOf_0 : Int → Int) (firstJoint_0 : Int → Int) (tail_0o2 : Int → Int) (head_0o2 : Int → Int) (turned_0o1 : Int → Int) (layerCount_0 : Int) (nodes_0o2 : Int) (edges_0o2 : Int) (k5 : 0 ≤ x5 ∧ x5 ≤ 47) (k6 : 0 ≤ x6 ∧ x6 ≤ 23) (k7 : 1 ≤ x7 ∧ x7 ≤ 22) (k8 : 0 ≤ x8 ∧ x8 ≤ 21) (k9 : 0 ≤ x9 ∧ x9 ≤ 72) (g2 : x9 = items_0) (f4 : x8 < x7) (f5 : MI2 (items_0) (layerCount_0) (nodes_0o2) (edges_0o2) (layerOf_0) (firstJoint_0) (tail_0o2) (head_0o2) (turned_0o1) (x5) (x6) (x7) (x8)) (kz_0_2 : 0 ≤ layerCount_0 ∧ layerCount_0 ≤ 24) (kz_0_3 : 0 ≤ items_0 ∧ items_0 ≤ 72) (kz_2_0 : 0 ≤ nodes_0o2 ∧ nodes_0o2 ≤ 24) (kz_2_1 : 0 ≤ edges_0o2 ∧ edges_0o2 ≤ 48) : 0 ≤ x9 ∧ x9 ≤ 71 := by
  first
    | omega
    | (have q := (‹MI2 _ _ _ _ _ _ _ _ _ _ _ _ _›).2.2.1; omega)
    | (have q := mi2_room ‹MI2 _ _ _ _ _ _ _ _ _ _ _ _ _› (by omega) (by omega); omega)
  
def o_La_makeItems_5 : or_T := (101, 15, [(0, (2, 0, 0, [4])), (1, (2, 0, 0, [2])), (2, (2, 0, 0, [3])), (3, (2, 0, 0, [4])), (4, (2, 0, 0, [2])), (5, (0, 0, 47, [])), (6, (0, 0, 23, [])), (7, (0, 1, 22, [])), (8, (0, 0, 21, [])), (9, (0, 0, 72, [])), (10, (2, 0, 0, [3])), (11, (2, 0, 0, [62])), (12, (0, 1, 1, [])), (13, (0, 1, 24, [])), (14, (0, 1, 45, []))], [(1, [14, 13, 8], []), (1, [13, 6, 12], []), (9, [9, 3], [3]), (9, [11, 3], [4]), (7, [8, 7], [2]), (20, [3, 10, 4, 5, 6, 7, 8], [60, 4, 5, 663, 3, 2, 1000, 1001, 4, 5, 1007, 1008, 2009]), (24, [2, 10], []), (24, [1, 4], []), (24, [0, 3], [])], [(14, (0, 1, 23, [])), (9, (0, 0, 71, []))], [], [], [], [(14, 8, 1, 24), (14, 7, -4294967296, 23), (14, 9, -4294967296, 24), (14, 13, 0, 21), (14, 6, 1, 22), (13, 6, 1, 1), (8, 7, -4294967296, -1), (8, 9, -4294967296, 0)])
theorem oo_La_makeItems_5 {kA : Nat → ClassId} : or_ok PRD kA GG o_La_makeItems_5 := by
  refine or_mk fun A ta ws vs hD hth hl => ?_
  intro t0 r0 t1 r1 t2 r2 t3 r3 t4 r4 t5 k5 t6 k6 t7 k7 t8 k8 t9 k9 t10 r10 t11 r11 t12 k12 t13 k13 t14 k14 d0 d1 d2 d3 d4 d5 d6 d7 f0 f1 f2 f3 f4 f5 f6 f7 f8
  replace f2 := shm_137 f2
  replace f5 := shm_1090 f5
  replace f6 := shm_5 f6
  replace f7 := shm_5 f7
  replace f8 := shm_5 f8
  have q10 : n_v vs 10 = n_v vs 2 := f6.symm
  have q4 : n_v vs 4 = n_v vs 1 := f7.symm
  have q3 : n_v vs 3 = n_v vs 0 := f8.symm
  simp only [q3, q10, q4] at f2 f5
  have g2 : v_iv (n_v vs 9) = w_fi ws (n_v vs 0) 3 := congrArg v_iv f2
  have kz_0_2 := fdq_77 hD hth r0
  have kz_0_3 := fdq_218 hD hth r0
  have kz_2_0 := fdq_21 hD hth r2
  have kz_2_1 := fdq_30 hD hth r2
  have hrf0 : 1 ≤ v_iv (n_v vs 14) ∧ v_iv (n_v vs 14) ≤ 23 := vc_La_makeItems_5_r0 (v_iv (n_v vs 5)) (v_iv (n_v vs 6)) (v_iv (n_v vs 7)) (v_iv (n_v vs 8)) (v_iv (n_v vs 13)) (v_iv (n_v vs 14)) (w_fi ws (n_v vs 0) 3) (w_ei ws (w_ar ws (n_v vs 0) 4)) (w_ei ws (w_ar ws (n_v vs 0) 5)) (w_ei ws (w_ar ws (n_v vs 2) 7)) (w_ei ws (w_ar ws (n_v vs 2) 8)) (w_ei ws (w_ar ws (n_v vs 1) 9)) (w_fi ws (n_v vs 0) 2) (w_fi ws (n_v vs 2) 0) (w_fi ws (n_v vs 2) 1) k5 k6 k7 k8 k13 k14 d5 (shm_12 f0) (shm_6 f4) f5 kz_0_2 kz_0_3 kz_2_0 kz_2_1
  have hrf1 : 0 ≤ v_iv (n_v vs 9) ∧ v_iv (n_v vs 9) ≤ 71 := vc_La_makeItems_5_r1 (v_iv (n_v vs 5)) (v_iv (n_v vs 6)) (v_iv (n_v vs 7)) (v_iv (n_v vs 8)) (v_iv (n_v vs 9)) (w_fi ws (n_v vs 0) 3) (w_ei ws (w_ar ws (n_v vs 0) 4)) (w_ei ws (w_ar ws (n_v vs 0) 5)) (w_ei ws (w_ar ws (n_v vs 2) 7)) (w_ei ws (w_ar ws (n_v vs 2) 8)) (w_ei ws (w_ar ws (n_v vs 1) 9)) (w_fi ws (n_v vs 0) 2) (w_fi ws (n_v vs 2) 0) (w_fi ws (n_v vs 2) 1) k5 k6 k7 k8 k9 g2 (shm_6 f4) f5 kz_0_2 kz_0_3 kz_2_0 kz_2_1
  have rf14 : tv_ok ta (0, 1, 23, []) (n_v vs 14) := tv_in t14 (by first | omega | grind) (by first | omega | grind)
  have rf9 : tv_ok ta (0, 0, 71, []) (n_v vs 9) := tv_in t9 (by first | omega | grind) (by first | omega | grind)
  refine ⟨List.forall_mem_cons.mpr ⟨rf14, List.forall_mem_cons.mpr ⟨rf9, (fun _ h => (by cases h))⟩⟩, [], trivial, ?_, (fun _ h => (by cases h))⟩
  rw [List.append_nil]
  exact (fun _ h => (by cases h))
set_option maxHeartbeats 4000000 in
theorem vc_La_makeItems_6_0 (x5 : Int) (x6 : Int) (x7 : Int) (x8 : Int) (x9 : Int) (x13 : Int) (x14 : Int) (x15 : Int) (x16 : Int) (x17 : Int) (items_0 : Int) (items_1 : Int) (layerOf_2 : Int → Int) (firstJoint_2 : Int → Int) (tail_2o2 : Int → Int) (head_2o2 : Int → Int) (turned_2o1 : Int → Int) (items_2 : Int) (layerCount_2 : Int) (nodes_2o2 : Int) (edges_2o2 : Int) (layerCount_0 : Int) (layerCount_1 : Int) (nodes_0o2 : Int) (nodes_1o2 : Int) (edges_0o2 : Int) (edges_1o2 : Int) (layerOf_0 : Int → Int) (layerOf_1 : Int → Int) (firstJoint_0 : Int → Int) (firstJoint_1 : Int → Int) (turned_0o1 : Int → Int) (turned_1o1 : Int → Int) (tail_0o2 : Int → Int) (tail_1o2 : Int → Int) (head_0o2 : Int → Int) (head_1o2 : Int → Int) (k5 : 0 ≤ x5 ∧ x5 ≤ 47) (k6 : 0 ≤ x6 ∧ x6 ≤ 23) (k7 : 1 ≤ x7 ∧ x7 ≤ 22) (k8 : 0 ≤ x8 ∧ x8 ≤ 21) (k9 : 0 ≤ x9 ∧ x9 ≤ 71) (k13 : 1 ≤ x13 ∧ x13 ≤ 24) (k14 : 1 ≤ x14 ∧ x14 ≤ 23) (k16 : 1 ≤ x16 ∧ x16 ≤ 72) (k17 : 1 ≤ x17 ∧ x17 ≤ 22) (d0 : x8 + 1 ≤ x17 ∧ x17 ≤ x8 + 1) (d3 : x9 + 1 ≤ x16 ∧ x16 ≤ x9 + 1) (d7 : x6 + 1 ≤ x13 ∧ x13 ≤ x6 + 1) (g0 : x16 = items_0) (f2 : x17 = x8 + 1) (g8 : x9 = items_1) (f10 : x14 = x13 + x8) (f12 : x8 < x7) (f13 : MI2 (items_2) (layerCount_2) (nodes_2o2) (edges_2o2) (layerOf_2) (firstJoint_2) (tail_2o2) (head_2o2) (turned_2o1) (x5) (x6) (x7) (x8)) (fe_0_2_1 : layerCount_0 = layerCount_1) (fe_2_0_1 : nodes_0o2 = nodes_1o2) (fe_2_1_1 : edges_0o2 = edges_1o2) (fe_0_2_2 : layerCount_1 = layerCount_2) (fe_0_3_2 : items_1 = items_2) (fe_2_0_2 : nodes_1o2 = nodes_2o2) (fe_2_1_2 : edges_1o2 = edges_2o2) (hE_0_4_1 : ∀ j : Int, layerOf_0 j = layerOf_1 j) (hE_0_4_2 : ∀ j : Int, 0 ≤ j → (j = x9 → layerOf_1 j = x14) ∧ (j ≠ x9 → layerOf_1 j = layerOf_2 j)) (hE_0_5_1 : ∀ j : Int, firstJoint_0 j = firstJoint_1 j) (hE_0_5_2 : ∀ j : Int, firstJoint_1 j = firstJoint_2 j) (hE_1_9_1 : ∀ j : Int, turned_0o1 j = turned_1o1 j) (hE_1_9_2 : ∀ j : Int, turned_1o1 j = turned_2o1 j) (hE_2_7_1 : ∀ j : Int, tail_0o2 j = tail_1o2 j) (hE_2_7_2 : ∀ j : Int, tail_1o2 j = tail_2o2 j) (hE_2_8_1 : ∀ j : Int, head_0o2 j = head_1o2 j) (hE_2_8_2 : ∀ j : Int, head_1o2 j = head_2o2 j) (kz_0_2 : 0 ≤ layerCount_0 ∧ layerCount_0 ≤ 24) (kz_0_3 : 0 ≤ items_0 ∧ items_0 ≤ 72) (kz_2_0 : 0 ≤ nodes_0o2 ∧ nodes_0o2 ≤ 24) (kz_2_1 : 0 ≤ edges_0o2 ∧ edges_0o2 ≤ 48) : MI2 (items_0) (layerCount_0) (nodes_0o2) (edges_0o2) (layerOf_0) (firstJoint_0) (tail_0o2) (head_0o2) (turned_0o1) (x5) (x6) (x7) (x17) := by
  subst fe_0_2_1
  subst fe_2_0_1
  subst fe_2_1_1
  subst fe_0_2_2
  subst fe_0_3_2
  subst fe_2_0_2
  subst fe_2_1_2
  have e_hE_0_4_1 := funext hE_0_4_1; subst e_hE_0_4_1
  have e_hE_0_5_1 := funext hE_0_5_1; subst e_hE_0_5_1
  have e_hE_0_5_2 := funext hE_0_5_2; subst e_hE_0_5_2
  have e_hE_1_9_1 := funext hE_1_9_1; subst e_hE_1_9_1
  have e_hE_1_9_2 := funext hE_1_9_2; subst e_hE_1_9_2
  have e_hE_2_7_1 := funext hE_2_7_1; subst e_hE_2_7_1
  have e_hE_2_7_2 := funext hE_2_7_2; subst e_hE_2_7_2
  have e_hE_2_8_1 := funext hE_2_8_1; subst e_hE_2_8_1
  have e_hE_2_8_2 := funext hE_2_8_2; subst e_hE_2_8_2
  first
    | exact mi2_start (a := x11) (b := x13) (d := x14) (s1 := x15) (q1 := x16) (s2 := x18) (q2 := x19) (p := x5) (v := x6) ‹MI1 _ _ _ _ _ _ _ _ _ _› (by omega) (by assumption) rfl (by omega) ‹UPX _ _ _ _ _› (by assumption) ‹LOX _ _ _ _ _› (by assumption) (by omega) (by omega) (by omega) (by omega) (by omega) (by omega) (by omega)
    | exact mi2_step (p := x9) (v := x14) ‹MI2 _ _ _ _ _ _ _ _ _ _ _ _ _› (by omega) (by omega) (by assumption) (by omega) (by omega) (by omega) (by omega)
  
def o_La_makeItems_6 : or_T := (80, 18, [(0, (2, 0, 0, [4])), (1, (2, 0, 0, [2])), (2, (2, 0, 0, [3])), (5, (0, 0, 47, [])), (6, (0, 0, 23, [])), (7, (0, 1, 22, [])), (8, (0, 0, 21, [])), (9, (0, 0, 71, [])), (11, (2, 0, 0, [62])), (13, (0, 1, 24, [])), (14, (0, 1, 23, [])), (16, (0, 1, 72, [])), (17, (0, 1, 22, []))], [(9, [16, 3], [3]), (9, [11, 3], [4]), (6, [17, 8], [1]), (24, [2, 10], []), (24, [1, 4], []), (24, [0, 3], []), (101, [3, 16], [3]), (9, [9, 3], [3]), (100, [11, 9, 14], []), (1, [14, 13, 8], []), (7, [8, 7], [2]), (20, [3, 10, 4, 5, 6, 7, 8], [60, 4, 5, 663, 3, 2, 1000, 1001, 4, 5, 1007, 1008, 2009])], [], [], [(20, [3, 10, 4, 5, 6, 7, 17], [60, 4, 5, 663, 3, 2, 1000, 1001, 4, 5, 1007, 1008, 2009])], [], [(17, 8, 1, 1), (17, 9, -4294967296, 1), (16, 9, 1, 1), (14, 8, 1, 24), (14, 13, 0, 21), (14, 6, 1, 22), (13, 6, 1, 1), (8, 9, -4294967296, 0)])
theorem oo_La_makeItems_6 {kA : Nat → ClassId} : or_ok PRD kA GG o_La_makeItems_6 := by
  refine or_mk fun A ta ws vs hD hth hl => ?_
  intro t0 r0 t1 r1 t2 r2 t5 k5 t6 k6 t7 k7 t8 k8 t9 k9 t11 r11 t13 k13 t14 k14 t16 k16 t17 k17 d0 d2 d3 d4 d5 d6 d7 d9 f0 f1 f2 f3 f4 f5 ta1 w1 le1 s1 f8 ta2 w2 le2 s2 f10 f12 f13
  replace f0 := shm_137 f0
  replace f1 := shm_108 f1
  replace f2 := shm_4 f2
  replace f3 := shm_5 f3
  replace f4 := shm_5 f4
  replace f5 := shm_5 f5
  have s1 : (∀ b j, w_el ws b j = w_el w1 b j) ∧ ∀ b j, w_fd ws b j = if b = v_ad (n_v vs 3) ∧ j = 3 then n_v vs 16 else w_fd w1 b j := s1.2
  replace f8 := shm_137 f8
  have s2 : (∀ b j, w_el w1 b j = if b = v_ad (n_v vs 11) ∧ j = (v_iv (n_v vs 9)).toNat then v_iv (n_v vs 14) else w_el w2 b j) ∧ ∀ b k, w_fd w1 b k = w_fd w2 b k := s2.2
  replace f10 := shm_12 f10
  replace f12 := shm_6 f12
  replace f13 := shm_1090 f13
  have q10 : n_v vs 10 = n_v vs 2 := f3.symm
  have q4 : n_v vs 4 = n_v vs 1 := f4.symm
  have q3 : n_v vs 3 = n_v vs 0 := f5.symm
  simp only [q3] at f0 f1
  rw [q3] at s1
  simp only [q3, q10, q4] at f8 f13
  have ar_0_4_1 : w_ar w1 (n_v vs 0) 4 = w_ar ws (n_v vs 0) 4 := by show v_ad (w_fd w1 _ _) = v_ad (w_fd ws _ _); rw [s1.2, if_neg (fun e => absurd e.2 (by decide))]
  have ar_0_4_2 : w_ar w2 (n_v vs 0) 4 = w_ar ws (n_v vs 0) 4 := by rw [← ar_0_4_1]; show v_ad (w_fd w2 _ _) = v_ad (w_fd w1 _ _); rw [s2.2]
  have ar_0_5_1 : w_ar w1 (n_v vs 0) 5 = w_ar ws (n_v vs 0) 5 := by show v_ad (w_fd w1 _ _) = v_ad (w_fd ws _ _); rw [s1.2, if_neg (fun e => absurd e.2 (by decide))]
  have ar_0_5_2 : w_ar w2 (n_v vs 0) 5 = w_ar ws (n_v vs 0) 5 := by rw [← ar_0_5_1]; show v_ad (w_fd w2 _ _) = v_ad (w_fd w1 _ _); rw [s2.2]
  have cr_0_5 := fdq_248 hD hth r0
  have ar_1_9_1 : w_ar w1 (n_v vs 1) 9 = w_ar ws (n_v vs 1) 9 := by show v_ad (w_fd w1 _ _) = v_ad (w_fd ws _ _); rw [s1.2, if_neg (fun e => absurd e.2 (by decide))]
  have ar_1_9_2 : w_ar w2 (n_v vs 1) 9 = w_ar ws (n_v vs 1) 9 := by rw [← ar_1_9_1]; show v_ad (w_fd w2 _ _) = v_ad (w_fd w1 _ _); rw [s2.2]
  have cr_1_9 := fdq_76 hD hth r1
  have ar_2_7_1 : w_ar w1 (n_v vs 2) 7 = w_ar ws (n_v vs 2) 7 := by show v_ad (w_fd w1 _ _) = v_ad (w_fd ws _ _); rw [s1.2, if_neg (fun e => absurd e.2 (by decide))]
  have ar_2_7_2 : w_ar w2 (n_v vs 2) 7 = w_ar ws (n_v vs 2) 7 := by rw [← ar_2_7_1]; show v_ad (w_fd w2 _ _) = v_ad (w_fd w1 _ _); rw [s2.2]
  have cr_2_7 := fdq_46 hD hth r2
  have ar_2_8_1 : w_ar w1 (n_v vs 2) 8 = w_ar ws (n_v vs 2) 8 := by show v_ad (w_fd w1 _ _) = v_ad (w_fd ws _ _); rw [s1.2, if_neg (fun e => absurd e.2 (by decide))]
  have ar_2_8_2 : w_ar w2 (n_v vs 2) 8 = w_ar ws (n_v vs 2) 8 := by rw [← ar_2_8_1]; show v_ad (w_fd w2 _ _) = v_ad (w_fd w1 _ _); rw [s2.2]
  have cr_2_8 := fdq_47 hD hth r2
  have ad_11 : v_ad (n_v vs 11) = w_ar ws (n_v vs 0) 4 := congrArg v_ad f1
  have g0 : v_iv (n_v vs 16) = w_fi ws (n_v vs 0) 3 := congrArg v_iv f0
  have g8 : v_iv (n_v vs 9) = w_fi w1 (n_v vs 0) 3 := congrArg v_iv f8
  simp only [ar_0_4_2, ar_0_5_2, ar_1_9_2, ar_2_7_2, ar_2_8_2] at f13
  have fe_0_2_1 : w_fi ws (n_v vs 0) 2 = w_fi w1 (n_v vs 0) 2 := by show v_iv (w_fd _ _ _) = v_iv (w_fd _ _ _); rw [s1.2, if_neg (fun e => absurd e.2 (by decide))]
  have fe_2_0_1 : w_fi ws (n_v vs 2) 0 = w_fi w1 (n_v vs 2) 0 := by show v_iv (w_fd _ _ _) = v_iv (w_fd _ _ _); rw [s1.2, if_neg (fun e => absurd e.2 (by decide))]
  have fe_2_1_1 : w_fi ws (n_v vs 2) 1 = w_fi w1 (n_v vs 2) 1 := by show v_iv (w_fd _ _ _) = v_iv (w_fd _ _ _); rw [s1.2, if_neg (fun e => absurd e.2 (by decide))]
  have fe_0_2_2 : w_fi w1 (n_v vs 0) 2 = w_fi w2 (n_v vs 0) 2 := congrArg v_iv (s2.2 _ _)
  have fe_0_3_2 : w_fi w1 (n_v vs 0) 3 = w_fi w2 (n_v vs 0) 3 := congrArg v_iv (s2.2 _ _)
  have fe_2_0_2 : w_fi w1 (n_v vs 2) 0 = w_fi w2 (n_v vs 2) 0 := congrArg v_iv (s2.2 _ _)
  have fe_2_1_2 : w_fi w1 (n_v vs 2) 1 = w_fi w2 (n_v vs 2) 1 := congrArg v_iv (s2.2 _ _)
  have hE_0_4_1 : ∀ j : Int, w_ei ws (w_ar ws (n_v vs 0) 4) j = w_ei w1 (w_ar ws (n_v vs 0) 4) j := fun j => s1.1 _ _
  have hE_0_4_2 : ∀ j : Int, 0 ≤ j → (j = v_iv (n_v vs 9) → w_ei w1 (w_ar ws (n_v vs 0) 4) j = v_iv (n_v vs 14)) ∧ (j ≠ v_iv (n_v vs 9) → w_ei w1 (w_ar ws (n_v vs 0) 4) j = w_ei w2 (w_ar ws (n_v vs 0) 4) j) := fun j hj => ⟨fun h => by unfold w_ei; rw [s2.1, if_pos ⟨ad_11.symm, by rw [h]⟩], fun h => by unfold w_ei; rw [s2.1, if_neg (fun e => h (by have := e.2; omega))]⟩
  have hE_0_5_1 : ∀ j : Int, w_ei ws (w_ar ws (n_v vs 0) 5) j = w_ei w1 (w_ar ws (n_v vs 0) 5) j := fun j => s1.1 _ _
  have hE_0_5_2 : ∀ j : Int, w_ei w1 (w_ar ws (n_v vs 0) 5) j = w_ei w2 (w_ar ws (n_v vs 0) 5) j := el_kp s2.1 r11 cr_0_5 (by decide)
  have hE_1_9_1 : ∀ j : Int, w_ei ws (w_ar ws (n_v vs 1) 9) j = w_ei w1 (w_ar ws (n_v vs 1) 9) j := fun j => s1.1 _ _
  have hE_1_9_2 : ∀ j : Int, w_ei w1 (w_ar ws (n_v vs 1) 9) j = w_ei w2 (w_ar ws (n_v vs 1) 9) j := el_kp s2.1 r11 cr_1_9 (by decide)
  have hE_2_7_1 : ∀ j : Int, w_ei ws (w_ar ws (n_v vs 2) 7) j = w_ei w1 (w_ar ws (n_v vs 2) 7) j := fun j => s1.1 _ _
  have hE_2_7_2 : ∀ j : Int, w_ei w1 (w_ar ws (n_v vs 2) 7) j = w_ei w2 (w_ar ws (n_v vs 2) 7) j := el_kp s2.1 r11 cr_2_7 (by decide)
  have hE_2_8_1 : ∀ j : Int, w_ei ws (w_ar ws (n_v vs 2) 8) j = w_ei w1 (w_ar ws (n_v vs 2) 8) j := fun j => s1.1 _ _
  have hE_2_8_2 : ∀ j : Int, w_ei w1 (w_ar ws (n_v vs 2) 8) j = w_ei w2 (w_ar ws (n_v vs 2) 8) j := el_kp s2.1 r11 cr_2_8 (by decide)
  have kz_0_2 := fdq_77 hD hth r0
  have kz_0_3 := fdq_218 hD hth r0
  have kz_2_0 := fdq_21 hD hth r2
  have kz_2_1 := fdq_30 hD hth r2
  have nf0 : fc_1 PRD (20, [3, 10, 4, 5, 6, 7, 17], [60, 4, 5, 663, 3, 2, 1000, 1001, 4, 5, 1007, 1008, 2009]) ws (vs) := by
    refine ⟨nf_in hl rfl, sgq_1090 ?_⟩
    · show MI2 (w_fi ws (n_v vs 3) 3) (w_fi ws (n_v vs 3) 2) (w_fi ws (n_v vs 10) 0) (w_fi ws (n_v vs 10) 1) (w_ei ws (w_ar ws (n_v vs 3) 4)) (w_ei ws (w_ar ws (n_v vs 3) 5)) (w_ei ws (w_ar ws (n_v vs 10) 7)) (w_ei ws (w_ar ws (n_v vs 10) 8)) (w_ei ws (w_ar ws (n_v vs 4) 9)) (v_iv (n_v vs 5)) (v_iv (n_v vs 6)) (v_iv (n_v vs 7)) (v_iv (n_v vs 17))
      simp only [q10, q4, q3]
      exact vc_La_makeItems_6_0 (v_iv (n_v vs 5)) (v_iv (n_v vs 6)) (v_iv (n_v vs 7)) (v_iv (n_v vs 8)) (v_iv (n_v vs 9)) (v_iv (n_v vs 13)) (v_iv (n_v vs 14)) (v_iv (n_v vs 15)) (v_iv (n_v vs 16)) (v_iv (n_v vs 17)) (w_fi ws (n_v vs 0) 3) (w_fi w1 (n_v vs 0) 3) (w_ei w2 (w_ar ws (n_v vs 0) 4)) (w_ei w2 (w_ar ws (n_v vs 0) 5)) (w_ei w2 (w_ar ws (n_v vs 2) 7)) (w_ei w2 (w_ar ws (n_v vs 2) 8)) (w_ei w2 (w_ar ws (n_v vs 1) 9)) (w_fi w2 (n_v vs 0) 3) (w_fi w2 (n_v vs 0) 2) (w_fi w2 (n_v vs 2) 0) (w_fi w2 (n_v vs 2) 1) (w_fi ws (n_v vs 0) 2) (w_fi w1 (n_v vs 0) 2) (w_fi ws (n_v vs 2) 0) (w_fi w1 (n_v vs 2) 0) (w_fi ws (n_v vs 2) 1) (w_fi w1 (n_v vs 2) 1) (w_ei ws (w_ar ws (n_v vs 0) 4)) (w_ei w1 (w_ar ws (n_v vs 0) 4)) (w_ei ws (w_ar ws (n_v vs 0) 5)) (w_ei w1 (w_ar ws (n_v vs 0) 5)) (w_ei ws (w_ar ws (n_v vs 1) 9)) (w_ei w1 (w_ar ws (n_v vs 1) 9)) (w_ei ws (w_ar ws (n_v vs 2) 7)) (w_ei w1 (w_ar ws (n_v vs 2) 7)) (w_ei ws (w_ar ws (n_v vs 2) 8)) (w_ei w1 (w_ar ws (n_v vs 2) 8)) k5 k6 k7 k8 k9 k13 k14 k16 k17 d0 d3 d7 g0 f2 g8 f10 f12 f13 fe_0_2_1 fe_2_0_1 fe_2_1_1 fe_0_2_2 fe_0_3_2 fe_2_0_2 fe_2_1_2 hE_0_4_1 hE_0_4_2 hE_0_5_1 hE_0_5_2 hE_1_9_1 hE_1_9_2 hE_2_7_1 hE_2_7_2 hE_2_8_1 hE_2_8_2 kz_0_2 kz_0_3 kz_2_0 kz_2_1
  refine ⟨(fun _ h => (by cases h)), [], trivial, ?_, (fun _ h => (by cases h))⟩
  rw [List.append_nil]
  exact List.forall_mem_cons.mpr ⟨⟨show (20 : Nat) < 100 from by decide, nf0⟩, (fun _ h => (by cases h))⟩
def n_La_makeItems_an : List an_T := [(13, [(0, (2, 0, 0, [4])), (1, (2, 0, 0, [2])), (2, (0, 0, 48, []))], [], (0, 0), [(0, 0, 99987), (1, 5, 48), (0, 0, 100000), (0, 0, 0), (0, 0, 0)], [], [((0, 3), (0, 0, 72, [])), ((0, 1), (2, 0, 0, [3]))], [(2, 0, 0, [4]), (2, 0, 0, [2]), (2, 0, 0, [3])], 0, [], [(20, [3, 7, 4, 5], [60, 4, 5, 662, 3, 2, 1000, 1001, 4, 5, 1007, 1008, 2009]), (24, [2, 7], []), (20, [5, 7], [50, 1, 0, 1001, 0, 2, 1, 0, 2, 1, 1]), (24, [1, 4], []), (24, [0, 3], []), (24, [1, 4], [])]), (80, [(0, (2, 0, 0, [4])), (1, (2, 0, 0, [2])), (2, (0, 0, 47, [])), (3, (0, 0, 23, [])), (4, (0, (Int.negSucc 23), 22, [])), (5, (0, 0, 22, []))], [], (0, 0), [(0, 0, 99987), (1, 5, 48), (0, 0, 99920), (1, 8, 22), (0, 0, 100000)], [(8, 7, (Int.negSucc 999999999999), 24), (8, 9, (Int.negSucc 999999999999), 0)], [((0, 3), (0, 0, 72, [])), ((0, 1), (2, 0, 0, [3]))], [(2, 0, 0, [4]), (2, 0, 0, [2]), (2, 0, 0, [3])], 0, [], [(20, [3, 10, 4, 5, 6, 7, 8], [60, 4, 5, 663, 3, 2, 1000, 1001, 4, 5, 1007, 1008, 2009]), (24, [2, 10], []), (24, [1, 4], []), (24, [0, 3], []), (24, [1, 4], [])])]
def t_La_makeItems_ct : ct_L := [(1, 149, e_La_upperEnd), (1, 153, e_La_lowerEnd)]
set_option maxRecDepth 100000 in
theorem c_La_makeItems {l : Launch} {D : va_G} {kA : Nat → ClassId} (h_La_lowerEnd : ct_ok PRD l D kA GG y_La_lowerEnd z_La_lowerEnd e_La_lowerEnd) (h_La_upperEnd : ct_ok PRD l D kA GG y_La_upperEnd z_La_upperEnd e_La_upperEnd) : ct_ok PRD l D kA GG y_La_makeItems z_La_makeItems e_La_makeItems := chk_all_ok (FT := [(18, 4, 1), (26, 4, 3), (29, 4, 4), (33, 4, 5), (139, 3, 0), (146, 3, 1)]) (PT := [(26, 4, 3, .int)]) (CT := t_La_makeItems_ct) (KT := []) (NT := []) (AN := n_La_makeItems_an) (OT := [o_La_makeItems_0, o_La_makeItems_1, o_La_makeItems_2, o_La_makeItems_3, o_La_makeItems_4, o_La_makeItems_5, o_La_makeItems_6]) 5 292 (List.forall_mem_cons.mpr ⟨oo_La_makeItems_0, List.forall_mem_cons.mpr ⟨oo_La_makeItems_1, List.forall_mem_cons.mpr ⟨oo_La_makeItems_2, List.forall_mem_cons.mpr ⟨oo_La_makeItems_3, List.forall_mem_cons.mpr ⟨oo_La_makeItems_4, List.forall_mem_cons.mpr ⟨oo_La_makeItems_5, List.forall_mem_cons.mpr ⟨oo_La_makeItems_6, List.forall_mem_nil _⟩⟩⟩⟩⟩⟩⟩) (by decide +kernel) ⟨List.forall_mem_cons.mpr ⟨gf_La_18, List.forall_mem_cons.mpr ⟨gf_La_26, List.forall_mem_cons.mpr ⟨gf_La_29, List.forall_mem_cons.mpr ⟨gf_La_33, List.forall_mem_cons.mpr ⟨gf_La_139, List.forall_mem_cons.mpr ⟨gf_La_146, List.forall_mem_nil _⟩⟩⟩⟩⟩⟩, List.forall_mem_cons.mpr ⟨pf_La_26, List.forall_mem_nil _⟩, List.forall_mem_cons.mpr ⟨cl_virtual (y := y_La_upperEnd) (ci := 4) rfl rfl ⟨_, _, rfl⟩ (by decide +kernel) h_La_upperEnd wm_1321 wm_18 wm_1318 wm_1320 wv_4_9 ⟨by decide, by decide, by decide +kernel⟩ (by decide), List.forall_mem_cons.mpr ⟨cl_virtual (y := y_La_lowerEnd) (ci := 4) rfl rfl ⟨_, _, rfl⟩ (by decide +kernel) h_La_lowerEnd wm_1325 wm_18 wm_1322 wm_1324 wv_4_10 ⟨by decide, by decide, by decide +kernel⟩ (by decide), List.forall_mem_nil _⟩⟩, List.forall_mem_nil _, List.forall_mem_nil _, GG_pl⟩ (by decide +kernel)

set_option maxHeartbeats 4000000 in
theorem vc_La_makePieces_0_0 (x3 : Int) (x4 : Int) (layerOf_0 : Int → Int) (firstJoint_0 : Int → Int) (tail_0o2 : Int → Int) (head_0o2 : Int → Int) (turned_0o1 : Int → Int) (items_0 : Int) (layerCount_0 : Int) (nodes_0o2 : Int) (edges_0o2 : Int) (pieceLower_0 : Int → Int) (pieceStart_0 : Int → Int) (k3 : 0 ≤ x3 ∧ x3 ≤ 0) (k4 : 0 ≤ x4 ∧ x4 ≤ 0) (f0 : MIT (items_0) (layerCount_0) (nodes_0o2) (edges_0o2) (layerOf_0) (firstJoint_0) (tail_0o2) (head_0o2) (turned_0o1)) (kz_0_2 : 0 ≤ layerCount_0 ∧ layerCount_0 ≤ 24) (kz_0_3 : 0 ≤ items_0 ∧ items_0 ≤ 72) (kz_2_0 : 0 ≤ nodes_0o2 ∧ nodes_0o2 ≤ 24) (kz_2_1 : 0 ≤ edges_0o2 ∧ edges_0o2 ≤ 48) : MPL (items_0) (layerCount_0) (nodes_0o2) (edges_0o2) (layerOf_0) (firstJoint_0) (pieceLower_0) (pieceStart_0) (tail_0o2) (head_0o2) (turned_0o1) (x4) (x3) := by
  first
    | exact mpl_start ‹MIT _ _ _ _ _ _ _ _ _› (by omega) (by omega) (by omega)
    | exact mpl_next ‹MPM _ _ _ _ _ _ _ _ _ _ _ _ _ _› (by omega) (by omega)
  
def o_La_makePieces_0 : or_T := (4, 5, [(0, (2, 0, 0, [4])), (2, (2, 0, 0, [3])), (3, (0, 0, 0, [])), (4, (0, 0, 0, []))], [(20, [0, 2, 1], [60, 4, 5, 664, 3, 2, 1000, 1001, 4, 5, 1007, 1008, 2009])], [], [], [(20, [0, 2, 1, 4, 3], [60, 4, 7, 666, 3, 2, 1000, 1001, 4, 5, 7, 9, 1007, 1008, 2009]), (24, [2, 2], []), (24, [1, 1], []), (24, [0, 0], []), (24, [1, 1], [])], [], [])
theorem oo_La_makePieces_0 {kA : Nat → ClassId} : or_ok PRD kA GG o_La_makePieces_0 := by
  refine or_mk fun A ta ws vs hD hth hl => ?_
  intro t0 r0 t2 r2 t3 k3 t4 k4 f0
  have kz_0_2 := fdq_77 hD hth r0
  have kz_0_3 := fdq_218 hD hth r0
  have kz_2_0 := fdq_21 hD hth r2
  have kz_2_1 := fdq_30 hD hth r2
  have nf0 : fc_1 PRD (20, [0, 2, 1, 4, 3], [60, 4, 7, 666, 3, 2, 1000, 1001, 4, 5, 7, 9, 1007, 1008, 2009]) ws (vs) := ⟨nf_in hl rfl, sgq_1093 (vc_La_makePieces_0_0 (v_iv (n_v vs 3)) (v_iv (n_v vs 4)) (w_ei ws (w_ar ws (n_v vs 0) 4)) (w_ei ws (w_ar ws (n_v vs 0) 5)) (w_ei ws (w_ar ws (n_v vs 2) 7)) (w_ei ws (w_ar ws (n_v vs 2) 8)) (w_ei ws (w_ar ws (n_v vs 1) 9)) (w_fi ws (n_v vs 0) 3) (w_fi ws (n_v vs 0) 2) (w_fi ws (n_v vs 2) 0) (w_fi ws (n_v vs 2) 1) (w_ei ws (w_ar ws (n_v vs 0) 7)) (w_ei ws (w_ar ws (n_v vs 0) 9)) k3 k4 (shm_1091 f0) kz_0_2 kz_0_3 kz_2_0 kz_2_1)⟩
  have nf1 : fc_1 PRD (24, [2, 2], []) ws (vs) := by
    refine ⟨nf_in hl rfl, sgq_1 ?_⟩
    · show n_v vs 2 = n_v vs 2
      first | rfl | simp only [true_and]
  have nf2 : fc_1 PRD (24, [1, 1], []) ws (vs) := by
    refine ⟨nf_in hl rfl, sgq_1 ?_⟩
    · show n_v vs 1 = n_v vs 1
      first | rfl | simp only [true_and]
  have nf3 : fc_1 PRD (24, [0, 0], []) ws (vs) := by
    refine ⟨nf_in hl rfl, sgq_1 ?_⟩
    · show n_v vs 0 = n_v vs 0
      first | rfl | simp only [true_and]
  have nf4 : fc_1 PRD (24, [1, 1], []) ws (vs) := by
    refine ⟨nf_in hl rfl, sgq_1 ?_⟩
    · show n_v vs 1 = n_v vs 1
      first | rfl | simp only [true_and]
  refine ⟨(fun _ h => (by cases h)), [], trivial, ?_, (fun _ h => (by cases h))⟩
  rw [List.append_nil]
  exact List.forall_mem_cons.mpr ⟨⟨show (20 : Nat) < 100 from by decide, nf0⟩, List.forall_mem_cons.mpr ⟨⟨show (24 : Nat) < 100 from by decide, nf1⟩, List.forall_mem_cons.mpr ⟨⟨show (24 : Nat) < 100 from by decide, nf2⟩, List.forall_mem_cons.mpr ⟨⟨show (24 : Nat) < 100 from by decide, nf3⟩, List.forall_mem_cons.mpr ⟨⟨show (24 : Nat) < 100 from by decide, nf4⟩, (fun _ h => (by cases h))⟩⟩⟩⟩⟩
set_option maxHeartbeats 4000000 in
theorem vc_La_makePieces_1_r0 (x10 : Int) (x12 : Int) (x13 : Int) (layerCount_0 : Int) (k10 : 0 ≤ x10 ∧ x10 ≤ 24) (k13 : (-1) ≤ x13 ∧ x13 ≤ 23) (d0 : x10 + (-1) ≤ x13 ∧ x13 ≤ x10 + (-1)) (g1 : x10 = layerCount_0) (f7 : 1 ≤ layerCount_0) (kz_0_2 : 0 ≤ layerCount_0 ∧ layerCount_0 ≤ 24) : 0 ≤ x13 ∧ x13 ≤ 23 := by
  first
    | omega
    | (have q := mpi_room (a := x11) (b := x13) (tp := x12) (bt := x14) (‹MPM _ _ _ _ _ _ _ _ _ _ _ _ _ _›).1 (by omega) (by omega) (by assumption) (by assumption) (by assumption) (by assumption) (by omega) (by omega); omega)
    | (have q := mpi_fj (a := x11) (b := x13) (tp := x12) (bt := x14) (f := x17) (‹MPM _ _ _ _ _ _ _ _ _ _ _ _ _ _›).1 (by omega) (by assumption) (by assumption) (by assumption) (by assumption) (by assumption); omega)
    | (have q := mpi_fj (a := x11) (b := x13) (tp := x12) (bt := x14) (f := x25) (‹MPM _ _ _ _ _ _ _ _ _ _ _ _ _ _›).1 (by omega) (by assumption) (by assumption) (by assumption) (by assumption) (by assumption); omega)
    | (have q := mpi_fj (a := x11) (b := x13) (tp := x12) (bt := x14) (f := x21) (‹MPM _ _ _ _ _ _ _ _ _ _ _ _ _ _›).1 (by omega) (by assumption) (by assumption) (by assumption) (by assumption) (by assumption); omega)
    | (have q := mpi_end (‹MPL _ _ _ _ _ _ _ _ _ _ _ _ _›).1 (by omega); omega)
  
def o_La_makePieces_1 : or_T := (193, 14, [(0, (2, 0, 0, [4])), (1, (2, 0, 0, [2])), (2, (2, 0, 0, [3])), (3, (2, 0, 0, [4])), (4, (2, 0, 0, [2])), (5, (0, 0, 120, [])), (6, (0, 0, 23, [])), (7, (2, 0, 0, [3])), (8, (0, 1, 1, [])), (9, (0, 1, 24, [])), (10, (0, 0, 24, [])), (11, (2, 0, 0, [67])), (12, (0, 1, 1, [])), (13, (0, -1, 23, []))], [(2, [13, 10, 12], []), (9, [10, 3], [2]), (9, [11, 3], [9]), (7, [9, 10], [3]), (1, [9, 6, 8], []), (20, [3, 7, 4, 6, 5], [60, 4, 7, 666, 3, 2, 1000, 1001, 4, 5, 7, 9, 1007, 1008, 2009]), (24, [2, 7], []), (20, [3], [50, 1, 0, 2, 0, 2, 0, 1, 2, 0, 2]), (24, [1, 4], []), (24, [0, 3], [])], [(13, (0, 0, 23, []))], [], [], [], [(13, 10, -1, -1), (9, 10, 0, 4294967296), (9, 6, 1, 1)])
theorem oo_La_makePieces_1 {kA : Nat → ClassId} : or_ok PRD kA GG o_La_makePieces_1 := by
  refine or_mk fun A ta ws vs hD hth hl => ?_
  intro t0 r0 t1 r1 t2 r2 t3 r3 t4 r4 t5 k5 t6 k6 t7 r7 t8 k8 t9 k9 t10 k10 t11 r11 t12 k12 t13 k13 d0 d1 d2 f0 f1 f2 f3 f4 f5 f6 f7 f8 f9
  replace f1 := shm_120 f1
  replace f7 := shm_1092 f7
  replace f9 := shm_5 f9
  have q3 : n_v vs 3 = n_v vs 0 := f9.symm
  simp only [q3] at f1 f7
  have g1 : v_iv (n_v vs 10) = w_fi ws (n_v vs 0) 2 := congrArg v_iv f1
  have kz_0_2 := fdq_77 hD hth r0
  have hrf0 : 0 ≤ v_iv (n_v vs 13) ∧ v_iv (n_v vs 13) ≤ 23 := vc_La_makePieces_1_r0 (v_iv (n_v vs 10)) (v_iv (n_v vs 12)) (v_iv (n_v vs 13)) (w_fi ws (n_v vs 0) 2) k10 k13 d0 g1 f7 kz_0_2
  have rf13 : tv_ok ta (0, 0, 23, []) (n_v vs 13) := tv_in t13 (by first | omega | grind) (by first | omega | grind)
  refine ⟨List.forall_mem_cons.mpr ⟨rf13, (fun _ h => (by cases h))⟩, [], trivial, ?_, (fun _ h => (by cases h))⟩
  rw [List.append_nil]
  exact (fun _ h => (by cases h))
set_option maxHeartbeats 4000000 in
theorem vc_La_makePieces_2_0 (x5 : Int) (x6 : Int) (x9 : Int) (x10 : Int) (x13 : Int) (layerCount_0 : Int) (layerOf_1 : Int → Int) (firstJoint_1 : Int → Int) (pieceLower_1 : Int → Int) (pieceStart_1 : Int → Int) (tail_1o2 : Int → Int) (head_1o2 : Int → Int) (turned_1o1 : Int → Int) (items_1 : Int) (layerCount_1 : Int) (nodes_1o2 : Int) (edges_1o2 : Int) (items_0 : Int) (nodes_0o2 : Int) (edges_0o2 : Int) (layerOf_0 : Int → Int) (firstJoint_0 : Int → Int) (pieceLower_0 : Int → Int) (pieceStart_0 : Int → Int) (turned_0o1 : Int → Int) (tail_0o2 : Int → Int) (head_0o2 : Int → Int) (k5 : 0 ≤ x5 ∧ x5 ≤ 120) (k6 : 0 ≤ x6 ∧ x6 ≤ 23) (k9 : 1 ≤ x9 ∧ x9 ≤ 24) (k10 : 0 ≤ x10 ∧ x10 ≤ 24) (k13 : 0 ≤ x13 ∧ x13 ≤ 23) (d0 : x10 + (-1) ≤ x13 ∧ x13 ≤ x10 + (-1)) (d1 : x10 + 0 ≤ x9 ∧ x9 ≤ x10 + 4294967296) (d2 : x6 + 1 ≤ x9 ∧ x9 ≤ x6 + 1) (g1 : x10 = layerCount_0) (f10 : MPL (items_1) (layerCount_1) (nodes_1o2) (edges_1o2) (layerOf_1) (firstJoint_1) (pieceLower_1) (pieceStart_1) (tail_1o2) (head_1o2) (turned_1o1) (x6) (x5)) (fe_0_2_1 : layerCount_0 = layerCount_1) (fe_0_3_1 : items_0 = items_1) (fe_2_0_1 : nodes_0o2 = nodes_1o2) (fe_2_1_1 : edges_0o2 = edges_1o2) (hE_0_4_1 : ∀ j : Int, layerOf_0 j = layerOf_1 j) (hE_0_5_1 : ∀ j : Int, firstJoint_0 j = firstJoint_1 j) (hE_0_7_1 : ∀ j : Int, pieceLower_0 j = pieceLower_1 j) (hE_0_9_1 : ∀ j : Int, 0 ≤ j → (j = x13 → pieceStart_0 j = x5) ∧ (j ≠ x13 → pieceStart_0 j = pieceStart_1 j)) (hE_1_9_1 : ∀ j : Int, turned_0o1 j = turned_1o1 j) (hE_2_7_1 : ∀ j : Int, tail_0o2 j = tail_1o2 j) (hE_2_8_1 : ∀ j : Int, head_0o2 j = head_1o2 j) (kz_0_2 : 0 ≤ layerCount_0 ∧ layerCount_0 ≤ 24) (kz_0_3 : 0 ≤ items_0 ∧ items_0 ≤ 72) (kz_2_0 : 0 ≤ nodes_0o2 ∧ nodes_0o2 ≤ 24) (kz_2_1 : 0 ≤ edges_0o2 ∧ edges_0o2 ≤ 48) : PCL (items_0) (layerCount_0) (pieceLower_0) (pieceStart_0) := by
  subst fe_0_2_1
  subst fe_0_3_1
  subst fe_2_0_1
  subst fe_2_1_1
  have e_hE_0_4_1 := funext hE_0_4_1; subst e_hE_0_4_1
  have e_hE_0_5_1 := funext hE_0_5_1; subst e_hE_0_5_1
  have e_hE_0_7_1 := funext hE_0_7_1; subst e_hE_0_7_1
  have e_hE_1_9_1 := funext hE_1_9_1; subst e_hE_1_9_1
  have e_hE_2_7_1 := funext hE_2_7_1; subst e_hE_2_7_1
  have e_hE_2_8_1 := funext hE_2_8_1; subst e_hE_2_8_1
  first
    | (have q := mpi_end (‹MPL _ _ _ _ _ _ _ _ _ _ _ _ _›).1 (by omega); exact pcl_of (p := x13) (v := x5) ‹MPL _ _ _ _ _ _ _ _ _ _ _ _ _› (by omega) (by assumption) (by omega) rfl (by omega))
  
def o_La_makePieces_2 : or_T := (194, 14, [(0, (2, 0, 0, [4])), (1, (2, 0, 0, [2])), (2, (2, 0, 0, [3])), (5, (0, 0, 120, [])), (6, (0, 0, 23, [])), (9, (0, 1, 24, [])), (10, (0, 0, 24, [])), (11, (2, 0, 0, [67])), (13, (0, 0, 23, []))], [(9, [11, 3], [9]), (9, [10, 3], [2]), (24, [2, 7], []), (24, [1, 4], []), (24, [0, 3], []), (100, [11, 13, 5], []), (20, [3, 7, 4, 6, 5], [60, 4, 7, 666, 3, 2, 1000, 1001, 4, 5, 7, 9, 1007, 1008, 2009])], [], [], [(20, [0], [60, 2, 2, 668, 3, 2, 7, 9])], [], [(13, 10, -1, -1), (9, 10, 0, 4294967296), (9, 6, 1, 1)])
theorem oo_La_makePieces_2 {kA : Nat → ClassId} : or_ok PRD kA GG o_La_makePieces_2 := by
  refine or_mk fun A ta ws vs hD hth hl => ?_
  intro t0 r0 t1 r1 t2 r2 t5 k5 t6 k6 t9 k9 t10 k10 t11 r11 t13 k13 d0 d1 d2 f0 f1 f2 f4 f5 ta1 w1 le1 s1 f10
  replace f0 := shm_119 f0
  replace f1 := shm_120 f1
  replace f2 := shm_5 f2
  replace f4 := shm_5 f4
  replace f5 := shm_5 f5
  have s1 : (∀ b j, w_el ws b j = if b = v_ad (n_v vs 11) ∧ j = (v_iv (n_v vs 13)).toNat then v_iv (n_v vs 5) else w_el w1 b j) ∧ ∀ b k, w_fd ws b k = w_fd w1 b k := s1.2
  replace f10 := shm_1093 f10
  have q7 : n_v vs 7 = n_v vs 2 := f2.symm
  have q4 : n_v vs 4 = n_v vs 1 := f4.symm
  have q3 : n_v vs 3 = n_v vs 0 := f5.symm
  simp only [q3, q7, q4] at f0 f1 f10
  have ar_0_4_1 : w_ar w1 (n_v vs 0) 4 = w_ar ws (n_v vs 0) 4 := congrArg v_ad (s1.2 _ _).symm
  have cr_0_4 := fdq_219 hD hth r0
  have ar_0_5_1 : w_ar w1 (n_v vs 0) 5 = w_ar ws (n_v vs 0) 5 := congrArg v_ad (s1.2 _ _).symm
  have cr_0_5 := fdq_248 hD hth r0
  have ar_0_7_1 : w_ar w1 (n_v vs 0) 7 = w_ar ws (n_v vs 0) 7 := congrArg v_ad (s1.2 _ _).symm
  have cr_0_7 := fdq_215 hD hth r0
  have ar_0_9_1 : w_ar w1 (n_v vs 0) 9 = w_ar ws (n_v vs 0) 9 := congrArg v_ad (s1.2 _ _).symm
  have ar_1_9_1 : w_ar w1 (n_v vs 1) 9 = w_ar ws (n_v vs 1) 9 := congrArg v_ad (s1.2 _ _).symm
  have cr_1_9 := fdq_76 hD hth r1
  have ar_2_7_1 : w_ar w1 (n_v vs 2) 7 = w_ar ws (n_v vs 2) 7 := congrArg v_ad (s1.2 _ _).symm
  have cr_2_7 := fdq_46 hD hth r2
  have ar_2_8_1 : w_ar w1 (n_v vs 2) 8 = w_ar ws (n_v vs 2) 8 := congrArg v_ad (s1.2 _ _).symm
  have cr_2_8 := fdq_47 hD hth r2
  have ad_11 : v_ad (n_v vs 11) = w_ar ws (n_v vs 0) 9 := congrArg v_ad f0
  have g1 : v_iv (n_v vs 10) = w_fi ws (n_v vs 0) 2 := congrArg v_iv f1
  simp only [ar_0_4_1, ar_0_5_1, ar_0_7_1, ar_0_9_1, ar_1_9_1, ar_2_7_1, ar_2_8_1] at f10
  have fe_0_2_1 : w_fi ws (n_v vs 0) 2 = w_fi w1 (n_v vs 0) 2 := congrArg v_iv (s1.2 _ _)
  have fe_0_3_1 : w_fi ws (n_v vs 0) 3 = w_fi w1 (n_v vs 0) 3 := congrArg v_iv (s1.2 _ _)
  have fe_2_0_1 : w_fi ws (n_v vs 2) 0 = w_fi w1 (n_v vs 2) 0 := congrArg v_iv (s1.2 _ _)
  have fe_2_1_1 : w_fi ws (n_v vs 2) 1 = w_fi w1 (n_v vs 2) 1 := congrArg v_iv (s1.2 _ _)
  have hE_0_4_1 : ∀ j : Int, w_ei ws (w_ar ws (n_v vs 0) 4) j = w_ei w1 (w_ar ws (n_v vs 0) 4) j := el_kp s1.1 r11 cr_0_4 (by decide)
  have hE_0_5_1 : ∀ j : Int, w_ei ws (w_ar ws (n_v vs 0) 5) j = w_ei w1 (w_ar ws (n_v vs 0) 5) j := el_kp s1.1 r11 cr_0_5 (by decide)
  have hE_0_7_1 : ∀ j : Int, w_ei ws (w_ar ws (n_v vs 0) 7) j = w_ei w1 (w_ar ws (n_v vs 0) 7) j := el_kp s1.1 r11 cr_0_7 (by decide)
  have hE_0_9_1 : ∀ j : Int, 0 ≤ j → (j = v_iv (n_v vs 13) → w_ei ws (w_ar ws (n_v vs 0) 9) j = v_iv (n_v vs 5)) ∧ (j ≠ v_iv (n_v vs 13) → w_ei ws (w_ar ws (n_v vs 0) 9) j = w_ei w1 (w_ar ws (n_v vs 0) 9) j) := fun j hj => ⟨fun h => by unfold w_ei; rw [s1.1, if_pos ⟨ad_11.symm, by rw [h]⟩], fun h => by unfold w_ei; rw [s1.1, if_neg (fun e => h (by have := e.2; omega))]⟩
  have hE_1_9_1 : ∀ j : Int, w_ei ws (w_ar ws (n_v vs 1) 9) j = w_ei w1 (w_ar ws (n_v vs 1) 9) j := el_kp s1.1 r11 cr_1_9 (by decide)
  have hE_2_7_1 : ∀ j : Int, w_ei ws (w_ar ws (n_v vs 2) 7) j = w_ei w1 (w_ar ws (n_v vs 2) 7) j := el_kp s1.1 r11 cr_2_7 (by decide)
  have hE_2_8_1 : ∀ j : Int, w_ei ws (w_ar ws (n_v vs 2) 8) j = w_ei w1 (w_ar ws (n_v vs 2) 8) j := el_kp s1.1 r11 cr_2_8 (by decide)
  have kz_0_2 := fdq_77 hD hth r0
  have kz_0_3 := fdq_218 hD hth r0
  have kz_2_0 := fdq_21 hD hth r2
  have kz_2_1 := fdq_30 hD hth r2
  have nf0 : fc_1 PRD (20, [0], [60, 2, 2, 668, 3, 2, 7, 9]) ws (vs) := ⟨nf_in hl rfl, sgq_869 (vc_La_makePieces_2_0 (v_iv (n_v vs 5)) (v_iv (n_v vs 6)) (v_iv (n_v vs 9)) (v_iv (n_v vs 10)) (v_iv (n_v vs 13)) (w_fi ws (n_v vs 0) 2) (w_ei w1 (w_ar ws (n_v vs 0) 4)) (w_ei w1 (w_ar ws (n_v vs 0) 5)) (w_ei w1 (w_ar ws (n_v vs 0) 7)) (w_ei w1 (w_ar ws (n_v vs 0) 9)) (w_ei w1 (w_ar ws (n_v vs 2) 7)) (w_ei w1 (w_ar ws (n_v vs 2) 8)) (w_ei w1 (w_ar ws (n_v vs 1) 9)) (w_fi w1 (n_v vs 0) 3) (w_fi w1 (n_v vs 0) 2) (w_fi w1 (n_v vs 2) 0) (w_fi w1 (n_v vs 2) 1) (w_fi ws (n_v vs 0) 3) (w_fi ws (n_v vs 2) 0) (w_fi ws (n_v vs 2) 1) (w_ei ws (w_ar ws (n_v vs 0) 4)) (w_ei ws (w_ar ws (n_v vs 0) 5)) (w_ei ws (w_ar ws (n_v vs 0) 7)) (w_ei ws (w_ar ws (n_v vs 0) 9)) (w_ei ws (w_ar ws (n_v vs 1) 9)) (w_ei ws (w_ar ws (n_v vs 2) 7)) (w_ei ws (w_ar ws (n_v vs 2) 8)) k5 k6 k9 k10 k13 d0 d1 d2 g1 f10 fe_0_2_1 fe_0_3_1 fe_2_0_1 fe_2_1_1 hE_0_4_1 hE_0_5_1 hE_0_7_1 hE_0_9_1 hE_1_9_1 hE_2_7_1 hE_2_8_1 kz_0_2 kz_0_3 kz_2_0 kz_2_1)⟩
  refine ⟨(fun _ h => (by cases h)), [], trivial, ?_, (fun _ h => (by cases h))⟩
  rw [List.append_nil]
  exact List.forall_mem_cons.mpr ⟨⟨show (20 : Nat) < 100 from by decide, nf0⟩, (fun _ h => (by cases h))⟩
set_option maxHeartbeats 4000000 in
theorem vc_La_makePieces_3_0 (x5 : Int) (x6 : Int) (x12 : Int) (layerCount_0 : Int) (layerOf_1 : Int → Int) (firstJoint_1 : Int → Int) (pieceLower_1 : Int → Int) (pieceStart_1 : Int → Int) (tail_1o2 : Int → Int) (head_1o2 : Int → Int) (turned_1o1 : Int → Int) (items_1 : Int) (layerCount_1 : Int) (nodes_1o2 : Int) (edges_1o2 : Int) (items_0 : Int) (nodes_0o2 : Int) (edges_0o2 : Int) (layerOf_0 : Int → Int) (firstJoint_0 : Int → Int) (pieceLower_0 : Int → Int) (pieceStart_0 : Int → Int) (turned_0o1 : Int → Int) (tail_0o2 : Int → Int) (head_0o2 : Int → Int) (k5 : 0 ≤ x5 ∧ x5 ≤ 120) (k6 : 0 ≤ x6 ∧ x6 ≤ 22) (k12 : 0 ≤ x12 ∧ x12 ≤ 0) (f9 : MPL (items_1) (layerCount_1) (nodes_1o2) (edges_1o2) (layerOf_1) (firstJoint_1) (pieceLower_1) (pieceStart_1) (tail_1o2) (head_1o2) (turned_1o1) (x6) (x5)) (fe_0_2_1 : layerCount_0 = layerCount_1) (fe_0_3_1 : items_0 = items_1) (fe_2_0_1 : nodes_0o2 = nodes_1o2) (fe_2_1_1 : edges_0o2 = edges_1o2) (hE_0_4_1 : ∀ j : Int, layerOf_0 j = layerOf_1 j) (hE_0_5_1 : ∀ j : Int, firstJoint_0 j = firstJoint_1 j) (hE_0_7_1 : ∀ j : Int, pieceLower_0 j = pieceLower_1 j) (hE_0_9_1 : ∀ j : Int, 0 ≤ j → (j = x6 → pieceStart_0 j = x5) ∧ (j ≠ x6 → pieceStart_0 j = pieceStart_1 j)) (hE_1_9_1 : ∀ j : Int, turned_0o1 j = turned_1o1 j) (hE_2_7_1 : ∀ j : Int, tail_0o2 j = tail_1o2 j) (hE_2_8_1 : ∀ j : Int, head_0o2 j = head_1o2 j) (kz_0_2 : 0 ≤ layerCount_0 ∧ layerCount_0 ≤ 24) (kz_0_3 : 0 ≤ items_0 ∧ items_0 ≤ 72) (kz_2_0 : 0 ≤ nodes_0o2 ∧ nodes_0o2 ≤ 24) (kz_2_1 : 0 ≤ edges_0o2 ∧ edges_0o2 ≤ 48) : MPM (items_0) (layerCount_0) (nodes_0o2) (edges_0o2) (layerOf_0) (firstJoint_0) (pieceLower_0) (pieceStart_0) (tail_0o2) (head_0o2) (turned_0o1) (x6) (x12) (x5) := by
  subst fe_0_2_1
  subst fe_0_3_1
  subst fe_2_0_1
  subst fe_2_1_1
  have e_hE_0_4_1 := funext hE_0_4_1; subst e_hE_0_4_1
  have e_hE_0_5_1 := funext hE_0_5_1; subst e_hE_0_5_1
  have e_hE_0_7_1 := funext hE_0_7_1; subst e_hE_0_7_1
  have e_hE_1_9_1 := funext hE_1_9_1; subst e_hE_1_9_1
  have e_hE_2_7_1 := funext hE_2_7_1; subst e_hE_2_7_1
  have e_hE_2_8_1 := funext hE_2_8_1; subst e_hE_2_8_1
  first
    | (have q := mpi_end (‹MPL _ _ _ _ _ _ _ _ _ _ _ _ _›).1 (by omega); exact mpm_start (p := x6) (v := x5) ‹MPL _ _ _ _ _ _ _ _ _ _ _ _ _› (by assumption) rfl rfl (by omega) (by omega))
    | exact ⟨mpi_skip (a := x11) (b := x13) (tp := x12) (bt := x14) (‹MPM _ _ _ _ _ _ _ _ _ _ _ _ _ _›).1 (by omega) ‹UPX _ _ _ _ _› (by assumption) ‹LOX _ _ _ _ _› (by assumption) (by omega) (by omega), (‹MPM _ _ _ _ _ _ _ _ _ _ _ _ _ _›).2⟩
    | exact mpm_take (a := x11) (b := x13) (tp := x12) (bt := x14) (p := x5) (v := x27) ‹MPM _ _ _ _ _ _ _ _ _ _ _ _ _ _› (by omega) (by assumption) (by assumption) (by assumption) (by assumption) (by omega) (by omega) (by assumption) rfl (by have q := mpi_fj (a := x11) (b := x13) (tp := x12) (bt := x14) (f := x25) (‹MPM _ _ _ _ _ _ _ _ _ _ _ _ _ _›).1 (by omega) (by assumption) (by assumption) (by assumption) (by assumption) (by assumption); omega) (by omega) (by omega)
    | exact mpm_take (a := x11) (b := x13) (tp := x12) (bt := x14) (p := x5) (v := x25) ‹MPM _ _ _ _ _ _ _ _ _ _ _ _ _ _› (by omega) (by assumption) (by assumption) (by assumption) (by assumption) (by omega) (by omega) (by assumption) rfl (by exact mpm_lo ‹MPM _ _ _ _ _ _ _ _ _ _ _ _ _ _› (by omega) (by assumption)) (by omega) (by omega)
    | exact mpm_take (a := x11) (b := x13) (tp := x12) (bt := x14) (p := x5) (v := x23) ‹MPM _ _ _ _ _ _ _ _ _ _ _ _ _ _› (by omega) (by assumption) (by assumption) (by assumption) (by assumption) (by omega) (by omega) (by assumption) rfl (by have q := mpi_fj (a := x11) (b := x13) (tp := x12) (bt := x14) (f := x21) (‹MPM _ _ _ _ _ _ _ _ _ _ _ _ _ _›).1 (by omega) (by assumption) (by assumption) (by assumption) (by assumption) (by assumption); omega) (by omega) (by omega)
    | exact mpm_take (a := x11) (b := x13) (tp := x12) (bt := x14) (p := x5) (v := x20) ‹MPM _ _ _ _ _ _ _ _ _ _ _ _ _ _› (by omega) (by assumption) (by assumption) (by assumption) (by assumption) (by omega) (by omega) (by assumption) rfl (by exact mpm_lo ‹MPM _ _ _ _ _ _ _ _ _ _ _ _ _ _› (by omega) (by assumption)) (by omega) (by omega)
  
def o_La_makePieces_3 : or_T := (24, 13, [(0, (2, 0, 0, [4])), (1, (2, 0, 0, [2])), (2, (2, 0, 0, [3])), (5, (0, 0, 120, [])), (6, (0, 0, 22, [])), (11, (2, 0, 0, [67])), (12, (0, 0, 0, []))], [(9, [11, 3], [9]), (24, [2, 7], []), (24, [1, 4], []), (24, [0, 3], []), (100, [11, 6, 5], []), (20, [3, 7, 4, 6, 5], [60, 4, 7, 666, 3, 2, 1000, 1001, 4, 5, 7, 9, 1007, 1008, 2009])], [], [], [(20, [3, 7, 4, 6, 12, 5], [60, 4, 7, 667, 3, 2, 1000, 1001, 4, 5, 7, 9, 1007, 1008, 2009])], [], [(9, 6, 1, 1)])
theorem oo_La_makePieces_3 {kA : Nat → ClassId} : or_ok PRD kA GG o_La_makePieces_3 := by
  refine or_mk fun A ta ws vs hD hth hl => ?_
  intro t0 r0 t1 r1 t2 r2 t5 k5 t6 k6 t11 r11 t12 k12 d1 f0 f2 f4 f5 ta1 w1 le1 s1 f9
  replace f0 := shm_119 f0
  replace f2 := shm_5 f2
  replace f4 := shm_5 f4
  replace f5 := shm_5 f5
  have s1 : (∀ b j, w_el ws b j = if b = v_ad (n_v vs 11) ∧ j = (v_iv (n_v vs 6)).toNat then v_iv (n_v vs 5) else w_el w1 b j) ∧ ∀ b k, w_fd ws b k = w_fd w1 b k := s1.2
  replace f9 := shm_1093 f9
  have q7 : n_v vs 7 = n_v vs 2 := f2.symm
  have q4 : n_v vs 4 = n_v vs 1 := f4.symm
  have q3 : n_v vs 3 = n_v vs 0 := f5.symm
  simp only [q3, q7, q4] at f0 f9
  have ar_0_4_1 : w_ar w1 (n_v vs 0) 4 = w_ar ws (n_v vs 0) 4 := congrArg v_ad (s1.2 _ _).symm
  have cr_0_4 := fdq_219 hD hth r0
  have ar_0_5_1 : w_ar w1 (n_v vs 0) 5 = w_ar ws (n_v vs 0) 5 := congrArg v_ad (s1.2 _ _).symm
  have cr_0_5 := fdq_248 hD hth r0
  have ar_0_7_1 : w_ar w1 (n_v vs 0) 7 = w_ar ws (n_v vs 0) 7 := congrArg v_ad (s1.2 _ _).symm
  have cr_0_7 := fdq_215 hD hth r0
  have ar_0_9_1 : w_ar w1 (n_v vs 0) 9 = w_ar ws (n_v vs 0) 9 := congrArg v_ad (s1.2 _ _).symm
  have ar_1_9_1 : w_ar w1 (n_v vs 1) 9 = w_ar ws (n_v vs 1) 9 := congrArg v_ad (s1.2 _ _).symm
  have cr_1_9 := fdq_76 hD hth r1
  have ar_2_7_1 : w_ar w1 (n_v vs 2) 7 = w_ar ws (n_v vs 2) 7 := congrArg v_ad (s1.2 _ _).symm
  have cr_2_7 := fdq_46 hD hth r2
  have ar_2_8_1 : w_ar w1 (n_v vs 2) 8 = w_ar ws (n_v vs 2) 8 := congrArg v_ad (s1.2 _ _).symm
  have cr_2_8 := fdq_47 hD hth r2
  have ad_11 : v_ad (n_v vs 11) = w_ar ws (n_v vs 0) 9 := congrArg v_ad f0
  simp only [ar_0_4_1, ar_0_5_1, ar_0_7_1, ar_0_9_1, ar_1_9_1, ar_2_7_1, ar_2_8_1] at f9
  have fe_0_2_1 : w_fi ws (n_v vs 0) 2 = w_fi w1 (n_v vs 0) 2 := congrArg v_iv (s1.2 _ _)
  have fe_0_3_1 : w_fi ws (n_v vs 0) 3 = w_fi w1 (n_v vs 0) 3 := congrArg v_iv (s1.2 _ _)
  have fe_2_0_1 : w_fi ws (n_v vs 2) 0 = w_fi w1 (n_v vs 2) 0 := congrArg v_iv (s1.2 _ _)
  have fe_2_1_1 : w_fi ws (n_v vs 2) 1 = w_fi w1 (n_v vs 2) 1 := congrArg v_iv (s1.2 _ _)
  have hE_0_4_1 : ∀ j : Int, w_ei ws (w_ar ws (n_v vs 0) 4) j = w_ei w1 (w_ar ws (n_v vs 0) 4) j := el_kp s1.1 r11 cr_0_4 (by decide)
  have hE_0_5_1 : ∀ j : Int, w_ei ws (w_ar ws (n_v vs 0) 5) j = w_ei w1 (w_ar ws (n_v vs 0) 5) j := el_kp s1.1 r11 cr_0_5 (by decide)
  have hE_0_7_1 : ∀ j : Int, w_ei ws (w_ar ws (n_v vs 0) 7) j = w_ei w1 (w_ar ws (n_v vs 0) 7) j := el_kp s1.1 r11 cr_0_7 (by decide)
  have hE_0_9_1 : ∀ j : Int, 0 ≤ j → (j = v_iv (n_v vs 6) → w_ei ws (w_ar ws (n_v vs 0) 9) j = v_iv (n_v vs 5)) ∧ (j ≠ v_iv (n_v vs 6) → w_ei ws (w_ar ws (n_v vs 0) 9) j = w_ei w1 (w_ar ws (n_v vs 0) 9) j) := fun j hj => ⟨fun h => by unfold w_ei; rw [s1.1, if_pos ⟨ad_11.symm, by rw [h]⟩], fun h => by unfold w_ei; rw [s1.1, if_neg (fun e => h (by have := e.2; omega))]⟩
  have hE_1_9_1 : ∀ j : Int, w_ei ws (w_ar ws (n_v vs 1) 9) j = w_ei w1 (w_ar ws (n_v vs 1) 9) j := el_kp s1.1 r11 cr_1_9 (by decide)
  have hE_2_7_1 : ∀ j : Int, w_ei ws (w_ar ws (n_v vs 2) 7) j = w_ei w1 (w_ar ws (n_v vs 2) 7) j := el_kp s1.1 r11 cr_2_7 (by decide)
  have hE_2_8_1 : ∀ j : Int, w_ei ws (w_ar ws (n_v vs 2) 8) j = w_ei w1 (w_ar ws (n_v vs 2) 8) j := el_kp s1.1 r11 cr_2_8 (by decide)
  have kz_0_2 := fdq_77 hD hth r0
  have kz_0_3 := fdq_218 hD hth r0
  have kz_2_0 := fdq_21 hD hth r2
  have kz_2_1 := fdq_30 hD hth r2
  have nf0 : fc_1 PRD (20, [3, 7, 4, 6, 12, 5], [60, 4, 7, 667, 3, 2, 1000, 1001, 4, 5, 7, 9, 1007, 1008, 2009]) ws (vs) := by
    refine ⟨nf_in hl rfl, sgq_1094 ?_⟩
    · show MPM (w_fi ws (n_v vs 3) 3) (w_fi ws (n_v vs 3) 2) (w_fi ws (n_v vs 7) 0) (w_fi ws (n_v vs 7) 1) (w_ei ws (w_ar ws (n_v vs 3) 4)) (w_ei ws (w_ar ws (n_v vs 3) 5)) (w_ei ws (w_ar ws (n_v vs 3) 7)) (w_ei ws (w_ar ws (n_v vs 3) 9)) (w_ei ws (w_ar ws (n_v vs 7) 7)) (w_ei ws (w_ar ws (n_v vs 7) 8)) (w_ei ws (w_ar ws (n_v vs 4) 9)) (v_iv (n_v vs 6)) (v_iv (n_v vs 12)) (v_iv (n_v vs 5))
      simp only [q7, q4, q3]
      exact vc_La_makePieces_3_0 (v_iv (n_v vs 5)) (v_iv (n_v vs 6)) (v_iv (n_v vs 12)) (w_fi ws (n_v vs 0) 2) (w_ei w1 (w_ar ws (n_v vs 0) 4)) (w_ei w1 (w_ar ws (n_v vs 0) 5)) (w_ei w1 (w_ar ws (n_v vs 0) 7)) (w_ei w1 (w_ar ws (n_v vs 0) 9)) (w_ei w1 (w_ar ws (n_v vs 2) 7)) (w_ei w1 (w_ar ws (n_v vs 2) 8)) (w_ei w1 (w_ar ws (n_v vs 1) 9)) (w_fi w1 (n_v vs 0) 3) (w_fi w1 (n_v vs 0) 2) (w_fi w1 (n_v vs 2) 0) (w_fi w1 (n_v vs 2) 1) (w_fi ws (n_v vs 0) 3) (w_fi ws (n_v vs 2) 0) (w_fi ws (n_v vs 2) 1) (w_ei ws (w_ar ws (n_v vs 0) 4)) (w_ei ws (w_ar ws (n_v vs 0) 5)) (w_ei ws (w_ar ws (n_v vs 0) 7)) (w_ei ws (w_ar ws (n_v vs 0) 9)) (w_ei ws (w_ar ws (n_v vs 1) 9)) (w_ei ws (w_ar ws (n_v vs 2) 7)) (w_ei ws (w_ar ws (n_v vs 2) 8)) k5 k6 k12 f9 fe_0_2_1 fe_0_3_1 fe_2_0_1 fe_2_1_1 hE_0_4_1 hE_0_5_1 hE_0_7_1 hE_0_9_1 hE_1_9_1 hE_2_7_1 hE_2_8_1 kz_0_2 kz_0_3 kz_2_0 kz_2_1
  refine ⟨(fun _ h => (by cases h)), [], trivial, ?_, (fun _ h => (by cases h))⟩
  rw [List.append_nil]
  exact List.forall_mem_cons.mpr ⟨⟨show (20 : Nat) < 100 from by decide, nf0⟩, (fun _ h => (by cases h))⟩
set_option maxHeartbeats 4000000 in
theorem vc_La_makePieces_4_0 (x5 : Int) (x6 : Int) (x7 : Int) (x9 : Int) (x10 : Int) (edges_0o2 : Int) (layerOf_0 : Int → Int) (firstJoint_0 : Int → Int) (pieceLower_0 : Int → Int) (pieceStart_0 : Int → Int) (tail_0o2 : Int → Int) (head_0o2 : Int → Int) (turned_0o1 : Int → Int) (items_0 : Int) (layerCount_0 : Int) (nodes_0o2 : Int) (k5 : 0 ≤ x5 ∧ x5 ≤ 120) (k6 : 0 ≤ x6 ∧ x6 ≤ 22) (k7 : 0 ≤ x7 ∧ x7 ≤ 48) (k9 : 0 ≤ x9 ∧ x9 ≤ 48) (k10 : 1 ≤ x10 ∧ x10 ≤ 23) (d1 : x9 + 0 ≤ x7 ∧ x7 ≤ x9 + 4294967296) (f0 : x10 = x6 + 1) (g2 : x9 = edges_0o2) (f3 : MPM (items_0) (layerCount_0) (nodes_0o2) (edges_0o2) (layerOf_0) (firstJoint_0) (pieceLower_0) (pieceStart_0) (tail_0o2) (head_0o2) (turned_0o1) (x6) (x7) (x5)) (kz_0_2 : 0 ≤ layerCount_0 ∧ layerCount_0 ≤ 24) (kz_0_3 : 0 ≤ items_0 ∧ items_0 ≤ 72) (kz_2_0 : 0 ≤ nodes_0o2 ∧ nodes_0o2 ≤ 24) (kz_2_1 : 0 ≤ edges_0o2 ∧ edges_0o2 ≤ 48) : MPL (items_0) (layerCount_0) (nodes_0o2) (edges_0o2) (layerOf_0) (firstJoint_0) (pieceLower_0) (pieceStart_0) (tail_0o2) (head_0o2) (turned_0o1) (x10) (x5) := by
  first
    | exact mpl_start ‹MIT _ _ _ _ _ _ _ _ _› (by omega) (by omega) (by omega)
    | exact mpl_next ‹MPM _ _ _ _ _ _ _ _ _ _ _ _ _ _› (by omega) (by omega)
  
def o_La_makePieces_4 : or_T := (4, 11, [(0, (2, 0, 0, [4])), (2, (2, 0, 0, [3])), (5, (0, 0, 120, [])), (6, (0, 0, 22, [])), (7, (0, 0, 48, [])), (9, (0, 0, 48, [])), (10, (0, 1, 23, []))], [(6, [10, 6], [1]), (9, [9, 8], [1]), (20, [3, 8, 4, 6, 7, 5], [60, 4, 7, 667, 3, 2, 1000, 1001, 4, 5, 7, 9, 1007, 1008, 2009]), (24, [2, 8], []), (24, [1, 4], []), (24, [0, 3], [])], [], [], [(20, [3, 8, 4, 10, 5], [60, 4, 7, 666, 3, 2, 1000, 1001, 4, 5, 7, 9, 1007, 1008, 2009])], [], [(7, 9, 0, 4294967296)])
theorem oo_La_makePieces_4 {kA : Nat → ClassId} : or_ok PRD kA GG o_La_makePieces_4 := by
  refine or_mk fun A ta ws vs hD hth hl => ?_
  intro t0 r0 t2 r2 t5 k5 t6 k6 t7 k7 t9 k9 t10 k10 d1 f0 f2 f3 f4 f6 f7
  replace f0 := shm_4 f0
  replace f2 := shm_215 f2
  replace f3 := shm_1094 f3
  replace f4 := shm_5 f4
  replace f6 := shm_5 f6
  replace f7 := shm_5 f7
  have q8 : n_v vs 8 = n_v vs 2 := f4.symm
  have q4 : n_v vs 4 = n_v vs 1 := f6.symm
  have q3 : n_v vs 3 = n_v vs 0 := f7.symm
  simp only [q8, q4, q3] at f2 f3
  have g2 : v_iv (n_v vs 9) = w_fi ws (n_v vs 2) 1 := congrArg v_iv f2
  have kz_0_2 := fdq_77 hD hth r0
  have kz_0_3 := fdq_218 hD hth r0
  have kz_2_0 := fdq_21 hD hth r2
  have kz_2_1 := fdq_30 hD hth r2
  have nf0 : fc_1 PRD (20, [3, 8, 4, 10, 5], [60, 4, 7, 666, 3, 2, 1000, 1001, 4, 5, 7, 9, 1007, 1008, 2009]) ws (vs) := by
    refine ⟨nf_in hl rfl, sgq_1093 ?_⟩
    · show MPL (w_fi ws (n_v vs 3) 3) (w_fi ws (n_v vs 3) 2) (w_fi ws (n_v vs 8) 0) (w_fi ws (n_v vs 8) 1) (w_ei ws (w_ar ws (n_v vs 3) 4)) (w_ei ws (w_ar ws (n_v vs 3) 5)) (w_ei ws (w_ar ws (n_v vs 3) 7)) (w_ei ws (w_ar ws (n_v vs 3) 9)) (w_ei ws (w_ar ws (n_v vs 8) 7)) (w_ei ws (w_ar ws (n_v vs 8) 8)) (w_ei ws (w_ar ws (n_v vs 4) 9)) (v_iv (n_v vs 10)) (v_iv (n_v vs 5))
      simp only [q8, q4, q3]
      exact vc_La_makePieces_4_0 (v_iv (n_v vs 5)) (v_iv (n_v vs 6)) (v_iv (n_v vs 7)) (v_iv (n_v vs 9)) (v_iv (n_v vs 10)) (w_fi ws (n_v vs 2) 1) (w_ei ws (w_ar ws (n_v vs 0) 4)) (w_ei ws (w_ar ws (n_v vs 0) 5)) (w_ei ws (w_ar ws (n_v vs 0) 7)) (w_ei ws (w_ar ws (n_v vs 0) 9)) (w_ei ws (w_ar ws (n_v vs 2) 7)) (w_ei ws (w_ar ws (n_v vs 2) 8)) (w_ei ws (w_ar ws (n_v vs 1) 9)) (w_fi ws (n_v vs 0) 3) (w_fi ws (n_v vs 0) 2) (w_fi ws (n_v vs 2) 0) k5 k6 k7 k9 k10 d1 f0 g2 f3 kz_0_2 kz_0_3 kz_2_0 kz_2_1
  refine ⟨(fun _ h => (by cases h)), [], trivial, ?_, (fun _ h => (by cases h))⟩
  rw [List.append_nil]
  exact List.forall_mem_cons.mpr ⟨⟨show (20 : Nat) < 100 from by decide, nf0⟩, (fun _ h => (by cases h))⟩
set_option maxHeartbeats 4000000 in
theorem vc_La_makePieces_5_0 (x5 : Int) (x6 : Int) (x7 : Int) (x9 : Int) (x11 : Int) (x12 : Int) (x13 : Int) (x14 : Int) (x15 : Int) (layerOf_0 : Int → Int) (tail_0o2 : Int → Int) (head_0o2 : Int → Int) (turned_0o1 : Int → Int) (edges_0o2 : Int) (firstJoint_0 : Int → Int) (pieceLower_0 : Int → Int) (pieceStart_0 : Int → Int) (items_0 : Int) (layerCount_0 : Int) (nodes_0o2 : Int) (k5 : 0 ≤ x5 ∧ x5 ≤ 120) (k6 : 0 ≤ x6 ∧ x6 ≤ 22) (k7 : 0 ≤ x7 ∧ x7 ≤ 47) (k9 : 1 ≤ x9 ∧ x9 ≤ 48) (k11 : 0 ≤ x11 ∧ x11 ≤ 23) (k12 : 1 ≤ x12 ∧ x12 ≤ 23) (k13 : 0 ≤ x13 ∧ x13 ≤ 23) (k14 : 0 ≤ x14 ∧ x14 ≤ 23) (k15 : 1 ≤ x15 ∧ x15 ≤ 48) (d0 : x7 + 1 ≤ x15 ∧ x15 ≤ x7 + 1) (d1 : x9 + (-4294967296) ≤ x15 ∧ x15 ≤ x9 + 0) (d2 : x12 + (-4294967296) ≤ x6 ∧ x6 ≤ x12 + (-1)) (d3 : x9 + (-4294967296) ≤ x7 ∧ x7 ≤ x9 + (-1)) (f0 : x15 = x7 + 1) (h2 : x14 = layerOf_0 (x13)) (f3 : LOX (tail_0o2) (head_0o2) (turned_0o1) (x7) (x13)) (h5 : x12 = layerOf_0 (x11)) (f6 : UPX (tail_0o2) (head_0o2) (turned_0o1) (x7) (x11)) (g8 : x9 = edges_0o2) (f9 : MPM (items_0) (layerCount_0) (nodes_0o2) (edges_0o2) (layerOf_0) (firstJoint_0) (pieceLower_0) (pieceStart_0) (tail_0o2) (head_0o2) (turned_0o1) (x6) (x7) (x5)) (kz_0_2 : 0 ≤ layerCount_0 ∧ layerCount_0 ≤ 24) (kz_0_3 : 0 ≤ items_0 ∧ items_0 ≤ 72) (kz_2_0 : 0 ≤ nodes_0o2 ∧ nodes_0o2 ≤ 24) (kz_2_1 : 0 ≤ edges_0o2 ∧ edges_0o2 ≤ 48) : MPM (items_0) (layerCount_0) (nodes_0o2) (edges_0o2) (layerOf_0) (firstJoint_0) (pieceLower_0) (pieceStart_0) (tail_0o2) (head_0o2) (turned_0o1) (x6) (x15) (x5) := by
  first
    | (have q := mpi_end (‹MPL _ _ _ _ _ _ _ _ _ _ _ _ _›).1 (by omega); exact mpm_start (p := x6) (v := x5) ‹MPL _ _ _ _ _ _ _ _ _ _ _ _ _› (by assumption) rfl rfl (by omega) (by omega))
    | exact ⟨mpi_skip (a := x11) (b := x13) (tp := x12) (bt := x14) (‹MPM _ _ _ _ _ _ _ _ _ _ _ _ _ _›).1 (by omega) ‹UPX _ _ _ _ _› (by assumption) ‹LOX _ _ _ _ _› (by assumption) (by omega) (by omega), (‹MPM _ _ _ _ _ _ _ _ _ _ _ _ _ _›).2⟩
    | exact mpm_take (a := x11) (b := x13) (tp := x12) (bt := x14) (p := x5) (v := x27) ‹MPM _ _ _ _ _ _ _ _ _ _ _ _ _ _› (by omega) (by assumption) (by assumption) (by assumption) (by assumption) (by omega) (by omega) (by assumption) rfl (by have q := mpi_fj (a := x11) (b := x13) (tp := x12) (bt := x14) (f := x25) (‹MPM _ _ _ _ _ _ _ _ _ _ _ _ _ _›).1 (by omega) (by assumption) (by assumption) (by assumption) (by assumption) (by assumption); omega) (by omega) (by omega)
    | exact mpm_take (a := x11) (b := x13) (tp := x12) (bt := x14) (p := x5) (v := x25) ‹MPM _ _ _ _ _ _ _ _ _ _ _ _ _ _› (by omega) (by assumption) (by assumption) (by assumption) (by assumption) (by omega) (by omega) (by assumption) rfl (by exact mpm_lo ‹MPM _ _ _ _ _ _ _ _ _ _ _ _ _ _› (by omega) (by assumption)) (by omega) (by omega)
    | exact mpm_take (a := x11) (b := x13) (tp := x12) (bt := x14) (p := x5) (v := x23) ‹MPM _ _ _ _ _ _ _ _ _ _ _ _ _ _› (by omega) (by assumption) (by assumption) (by assumption) (by assumption) (by omega) (by omega) (by assumption) rfl (by have q := mpi_fj (a := x11) (b := x13) (tp := x12) (bt := x14) (f := x21) (‹MPM _ _ _ _ _ _ _ _ _ _ _ _ _ _›).1 (by omega) (by assumption) (by assumption) (by assumption) (by assumption) (by assumption); omega) (by omega) (by omega)
    | exact mpm_take (a := x11) (b := x13) (tp := x12) (bt := x14) (p := x5) (v := x20) ‹MPM _ _ _ _ _ _ _ _ _ _ _ _ _ _› (by omega) (by assumption) (by assumption) (by assumption) (by assumption) (by omega) (by omega) (by assumption) rfl (by exact mpm_lo ‹MPM _ _ _ _ _ _ _ _ _ _ _ _ _ _› (by omega) (by assumption)) (by omega) (by omega)
  
def o_La_makePieces_5 : or_T := (24, 16, [(0, (2, 0, 0, [4])), (1, (2, 0, 0, [2])), (2, (2, 0, 0, [3])), (3, (2, 0, 0, [4])), (4, (2, 0, 0, [2])), (5, (0, 0, 120, [])), (6, (0, 0, 22, [])), (7, (0, 0, 47, [])), (8, (2, 0, 0, [3])), (9, (0, 1, 48, [])), (10, (2, 0, 0, [62])), (11, (0, 0, 23, [])), (12, (0, 1, 23, [])), (13, (0, 0, 23, [])), (14, (0, 0, 23, [])), (15, (0, 1, 48, []))], [(6, [15, 7], [1]), (7, [6, 12], [2]), (10, [14, 10, 13], []), (20, [8, 4, 7, 13], [60, 0, 3, 650, 7, 8, 1009]), (9, [10, 3], [4]), (10, [12, 10, 11], []), (20, [8, 4, 7, 11], [60, 0, 3, 649, 7, 8, 1009]), (7, [7, 9], [2]), (9, [9, 8], [1]), (20, [3, 8, 4, 6, 7, 5], [60, 4, 7, 667, 3, 2, 1000, 1001, 4, 5, 7, 9, 1007, 1008, 2009]), (24, [2, 8], []), (20, [3], [50, 1, 0, 2, 0, 2, 0, 1, 2, 0, 2]), (24, [1, 4], []), (24, [0, 3], [])], [], [], [(20, [3, 8, 4, 6, 15, 5], [60, 4, 7, 667, 3, 2, 1000, 1001, 4, 5, 7, 9, 1007, 1008, 2009])], [], [(15, 7, 1, 1), (15, 9, -4294967296, 0), (6, 12, -4294967296, -1), (7, 9, -4294967296, -1)])
theorem oo_La_makePieces_5 {kA : Nat → ClassId} : or_ok PRD kA GG o_La_makePieces_5 := by
  refine or_mk fun A ta ws vs hD hth hl => ?_
  intro t0 r0 t1 r1 t2 r2 t3 r3 t4 r4 t5 k5 t6 k6 t7 k7 t8 r8 t9 k9 t10 r10 t11 k11 t12 k12 t13 k13 t14 k14 t15 k15 d0 d1 d2 d3 f0 f1 f2 f3 f4 f5 f6 f7 f8 f9 f10 f11 f12 f13
  replace f0 := shm_4 f0
  replace f2 := shm_107 f2
  replace f3 := shm_392 f3
  replace f4 := shm_108 f4
  replace f5 := shm_107 f5
  replace f6 := shm_402 f6
  replace f8 := shm_215 f8
  replace f9 := shm_1094 f9
  replace f10 := shm_5 f10
  replace f12 := shm_5 f12
  replace f13 := shm_5 f13
  have q8 : n_v vs 8 = n_v vs 2 := f10.symm
  have q4 : n_v vs 4 = n_v vs 1 := f12.symm
  have q3 : n_v vs 3 = n_v vs 0 := f13.symm
  simp only [q8, q4, q3] at f3 f4 f6 f8 f9
  have ad_10 : v_ad (n_v vs 10) = w_ar ws (n_v vs 0) 4 := congrArg v_ad f4
  simp only [ad_10] at f2
  have h2 : v_iv (n_v vs 14) = w_ei ws (w_ar ws (n_v vs 0) 4) (v_iv (n_v vs 13)) := f2
  simp only [ad_10] at f5
  have h5 : v_iv (n_v vs 12) = w_ei ws (w_ar ws (n_v vs 0) 4) (v_iv (n_v vs 11)) := f5
  have g8 : v_iv (n_v vs 9) = w_fi ws (n_v vs 2) 1 := congrArg v_iv f8
  have kz_0_2 := fdq_77 hD hth r0
  have kz_0_3 := fdq_218 hD hth r0
  have kz_2_0 := fdq_21 hD hth r2
  have kz_2_1 := fdq_30 hD hth r2
  have nf0 : fc_1 PRD (20, [3, 8, 4, 6, 15, 5], [60, 4, 7, 667, 3, 2, 1000, 1001, 4, 5, 7, 9, 1007, 1008, 2009]) ws (vs) := by
    refine ⟨nf_in hl rfl, sgq_1094 ?_⟩
    · show MPM (w_fi ws (n_v vs 3) 3) (w_fi ws (n_v vs 3) 2) (w_fi ws (n_v vs 8) 0) (w_fi ws (n_v vs 8) 1) (w_ei ws (w_ar ws (n_v vs 3) 4)) (w_ei ws (w_ar ws (n_v vs 3) 5)) (w_ei ws (w_ar ws (n_v vs 3) 7)) (w_ei ws (w_ar ws (n_v vs 3) 9)) (w_ei ws (w_ar ws (n_v vs 8) 7)) (w_ei ws (w_ar ws (n_v vs 8) 8)) (w_ei ws (w_ar ws (n_v vs 4) 9)) (v_iv (n_v vs 6)) (v_iv (n_v vs 15)) (v_iv (n_v vs 5))
      simp only [q8, q4, q3]
      exact vc_La_makePieces_5_0 (v_iv (n_v vs 5)) (v_iv (n_v vs 6)) (v_iv (n_v vs 7)) (v_iv (n_v vs 9)) (v_iv (n_v vs 11)) (v_iv (n_v vs 12)) (v_iv (n_v vs 13)) (v_iv (n_v vs 14)) (v_iv (n_v vs 15)) (w_ei ws (w_ar ws (n_v vs 0) 4)) (w_ei ws (w_ar ws (n_v vs 2) 7)) (w_ei ws (w_ar ws (n_v vs 2) 8)) (w_ei ws (w_ar ws (n_v vs 1) 9)) (w_fi ws (n_v vs 2) 1) (w_ei ws (w_ar ws (n_v vs 0) 5)) (w_ei ws (w_ar ws (n_v vs 0) 7)) (w_ei ws (w_ar ws (n_v vs 0) 9)) (w_fi ws (n_v vs 0) 3) (w_fi ws (n_v vs 0) 2) (w_fi ws (n_v vs 2) 0) k5 k6 k7 k9 k11 k12 k13 k14 k15 d0 d1 d2 d3 f0 h2 f3 h5 f6 g8 f9 kz_0_2 kz_0_3 kz_2_0 kz_2_1
  refine ⟨(fun _ h => (by cases h)), [], trivial, ?_, (fun _ h => (by cases h))⟩
  rw [List.append_nil]
  exact List.forall_mem_cons.mpr ⟨⟨show (20 : Nat) < 100 from by decide, nf0⟩, (fun _ h => (by cases h))⟩
set_option maxHeartbeats 4000000 in
theorem vc_La_makePieces_6_r0 (x5 : Int) (x6 : Int) (x7 : Int) (x9 : Int) (x11 : Int) (x12 : Int) (x13 : Int) (x14 : Int) (x17 : Int) (x18 : Int) (x19 : Int) (x21 : Int) (firstJoint_0 : Int → Int) (layerOf_0 : Int → Int) (tail_0o2 : Int → Int) (head_0o2 : Int → Int) (turned_0o1 : Int → Int) (edges_0o2 : Int) (pieceLower_0 : Int → Int) (pieceStart_0 : Int → Int) (items_0 : Int) (layerCount_0 : Int) (nodes_0o2 : Int) (k5 : 0 ≤ x5 ∧ x5 ≤ 120) (k6 : 0 ≤ x6 ∧ x6 ≤ 22) (k7 : 0 ≤ x7 ∧ x7 ≤ 47) (k9 : 1 ≤ x9 ∧ x9 ≤ 48) (k11 : 0 ≤ x11 ∧ x11 ≤ 23) (k12 : 0 ≤ x12 ∧ x12 ≤ 22) (k13 : 0 ≤ x13 ∧ x13 ≤ 23) (k14 : 1 ≤ x14 ∧ x14 ≤ 23) (k17 : 0 ≤ x17 ∧ x17 ≤ 72) (k18 : 0 ≤ x18 ∧ x18 ≤ 94) (k19 : 0 ≤ x19 ∧ x19 ≤ 94) (k21 : (-1) ≤ x21 ∧ x21 ≤ 93) (d0 : x19 + (-1) ≤ x21 ∧ x21 ≤ x19 + (-1)) (d1 : x18 + (-23) ≤ x21 ∧ x21 ≤ x18 + (-1)) (d2 : x6 + (-23) ≤ x21 ∧ x21 ≤ x6 + 71) (d4 : x17 + (-23) ≤ x21 ∧ x21 ≤ x17 + 21) (d9 : x6 + 0 ≤ x18 ∧ x18 ≤ x6 + 72) (d13 : x14 + (-4294967296) ≤ x6 ∧ x6 ≤ x14 + (-1)) (d14 : x12 + 0 ≤ x6 ∧ x6 ≤ x12 + 4294967296) (d15 : x9 + (-4294967296) ≤ x7 ∧ x7 ≤ x9 + (-1)) (f1 : x19 = x18 - x12) (f2 : x18 = x17 + x6) (h3 : x17 = firstJoint_0 (x7)) (f5 : x6 ≠ x12) (h8 : x14 = layerOf_0 (x13)) (f9 : LOX (tail_0o2) (head_0o2) (turned_0o1) (x7) (x13)) (h11 : x12 = layerOf_0 (x11)) (f12 : UPX (tail_0o2) (head_0o2) (turned_0o1) (x7) (x11)) (g14 : x9 = edges_0o2) (f15 : MPM (items_0) (layerCount_0) (nodes_0o2) (edges_0o2) (layerOf_0) (firstJoint_0) (pieceLower_0) (pieceStart_0) (tail_0o2) (head_0o2) (turned_0o1) (x6) (x7) (x5)) (kz_0_2 : 0 ≤ layerCount_0 ∧ layerCount_0 ≤ 24) (kz_0_3 : 0 ≤ items_0 ∧ items_0 ≤ 72) (kz_2_0 : 0 ≤ nodes_0o2 ∧ nodes_0o2 ≤ 24) (kz_2_1 : 0 ≤ edges_0o2 ∧ edges_0o2 ≤ 48) : 0 ≤ x21 ∧ x21 ≤ 71 := by
  first
    | omega
    | (have q := mpi_room (a := x11) (b := x13) (tp := x12) (bt := x14) (‹MPM _ _ _ _ _ _ _ _ _ _ _ _ _ _›).1 (by omega) (by omega) (by assumption) (by assumption) (by assumption) (by assumption) (by omega) (by omega); omega)
    | (have q := mpi_fj (a := x11) (b := x13) (tp := x12) (bt := x14) (f := x17) (‹MPM _ _ _ _ _ _ _ _ _ _ _ _ _ _›).1 (by omega) (by assumption) (by assumption) (by assumption) (by assumption) (by assumption); omega)
    | (have q := mpi_fj (a := x11) (b := x13) (tp := x12) (bt := x14) (f := x25) (‹MPM _ _ _ _ _ _ _ _ _ _ _ _ _ _›).1 (by omega) (by assumption) (by assumption) (by assumption) (by assumption) (by assumption); omega)
    | (have q := mpi_fj (a := x11) (b := x13) (tp := x12) (bt := x14) (f := x21) (‹MPM _ _ _ _ _ _ _ _ _ _ _ _ _ _›).1 (by omega) (by assumption) (by assumption) (by assumption) (by assumption) (by assumption); omega)
    | (have q := mpi_end (‹MPL _ _ _ _ _ _ _ _ _ _ _ _ _›).1 (by omega); omega)
  
set_option maxHeartbeats 4000000 in
theorem vc_La_makePieces_6_r1 (x5 : Int) (x6 : Int) (x7 : Int) (x9 : Int) (x11 : Int) (x12 : Int) (x13 : Int) (x14 : Int) (x17 : Int) (x21 : Int) (firstJoint_0 : Int → Int) (layerOf_0 : Int → Int) (tail_0o2 : Int → Int) (head_0o2 : Int → Int) (turned_0o1 : Int → Int) (edges_0o2 : Int) (pieceLower_0 : Int → Int) (pieceStart_0 : Int → Int) (items_0 : Int) (layerCount_0 : Int) (nodes_0o2 : Int) (k5 : 0 ≤ x5 ∧ x5 ≤ 120) (k6 : 0 ≤ x6 ∧ x6 ≤ 22) (k7 : 0 ≤ x7 ∧ x7 ≤ 47) (k9 : 1 ≤ x9 ∧ x9 ≤ 48) (k11 : 0 ≤ x11 ∧ x11 ≤ 23) (k12 : 0 ≤ x12 ∧ x12 ≤ 22) (k13 : 0 ≤ x13 ∧ x13 ≤ 23) (k14 : 1 ≤ x14 ∧ x14 ≤ 23) (d15 : x9 + (-4294967296) ≤ x7 ∧ x7 ≤ x9 + (-1)) (f6 : x6 < x14) (f7 : x12 ≤ x6) (h8 : x14 = layerOf_0 (x13)) (f9 : LOX (tail_0o2) (head_0o2) (turned_0o1) (x7) (x13)) (h11 : x12 = layerOf_0 (x11)) (f12 : UPX (tail_0o2) (head_0o2) (turned_0o1) (x7) (x11)) (g14 : x9 = edges_0o2) (f15 : MPM (items_0) (layerCount_0) (nodes_0o2) (edges_0o2) (layerOf_0) (firstJoint_0) (pieceLower_0) (pieceStart_0) (tail_0o2) (head_0o2) (turned_0o1) (x6) (x7) (x5)) (kz_0_2 : 0 ≤ layerCount_0 ∧ layerCount_0 ≤ 24) (kz_0_3 : 0 ≤ items_0 ∧ items_0 ≤ 72) (kz_2_0 : 0 ≤ nodes_0o2 ∧ nodes_0o2 ≤ 24) (kz_2_1 : 0 ≤ edges_0o2 ∧ edges_0o2 ≤ 48) : 0 ≤ x5 ∧ x5 ≤ 119 := by
  first
    | omega
    | (have q := mpi_room (a := x11) (b := x13) (tp := x12) (bt := x14) (‹MPM _ _ _ _ _ _ _ _ _ _ _ _ _ _›).1 (by omega) (by omega) (by assumption) (by assumption) (by assumption) (by assumption) (by omega) (by omega); omega)
    | (have q := mpi_fj (a := x11) (b := x13) (tp := x12) (bt := x14) (f := x17) (‹MPM _ _ _ _ _ _ _ _ _ _ _ _ _ _›).1 (by omega) (by assumption) (by assumption) (by assumption) (by assumption) (by assumption); omega)
    | (have q := mpi_fj (a := x11) (b := x13) (tp := x12) (bt := x14) (f := x25) (‹MPM _ _ _ _ _ _ _ _ _ _ _ _ _ _›).1 (by omega) (by assumption) (by assumption) (by assumption) (by assumption) (by assumption); omega)
    | (have q := mpi_fj (a := x11) (b := x13) (tp := x12) (bt := x14) (f := x21) (‹MPM _ _ _ _ _ _ _ _ _ _ _ _ _ _›).1 (by omega) (by assumption) (by assumption) (by assumption) (by assumption) (by assumption); omega)
    | (have q := mpi_end (‹MPL _ _ _ _ _ _ _ _ _ _ _ _ _›).1 (by omega); omega)
  
def o_La_makePieces_6 : or_T := (114, 22, [(0, (2, 0, 0, [4])), (1, (2, 0, 0, [2])), (2, (2, 0, 0, [3])), (3, (2, 0, 0, [4])), (4, (2, 0, 0, [2])), (5, (0, 0, 120, [])), (6, (0, 0, 22, [])), (7, (0, 0, 47, [])), (8, (2, 0, 0, [3])), (9, (0, 1, 48, [])), (10, (2, 0, 0, [62])), (11, (0, 0, 23, [])), (12, (0, 0, 22, [])), (13, (0, 0, 23, [])), (14, (0, 1, 23, [])), (16, (2, 0, 0, [63])), (17, (0, 0, 72, [])), (18, (0, 0, 94, [])), (19, (0, 0, 94, [])), (20, (0, 1, 1, [])), (21, (0, -1, 93, []))], [(2, [21, 19, 20], []), (2, [19, 18, 12], []), (1, [18, 17, 6], []), (10, [17, 16, 7], []), (9, [16, 3], [5]), (7, [6, 12], [1]), (7, [6, 14], [2]), (7, [6, 12], [3]), (10, [14, 10, 13], []), (20, [8, 4, 7, 13], [60, 0, 3, 650, 7, 8, 1009]), (9, [10, 3], [4]), (10, [12, 10, 11], []), (20, [8, 4, 7, 11], [60, 0, 3, 649, 7, 8, 1009]), (7, [7, 9], [2]), (9, [9, 8], [1]), (20, [3, 8, 4, 6, 7, 5], [60, 4, 7, 667, 3, 2, 1000, 1001, 4, 5, 7, 9, 1007, 1008, 2009]), (24, [2, 8], []), (20, [3], [50, 1, 0, 2, 0, 2, 0, 1, 2, 0, 2]), (24, [1, 4], []), (24, [0, 3], [])], [(21, (0, 0, 71, [])), (5, (0, 0, 119, []))], [], [], [], [(21, 19, -1, -1), (21, 18, -23, -1), (21, 6, -23, 71), (21, 14, -4294967296, 70), (21, 17, -23, 21), (19, 18, -22, 0), (19, 6, -22, 72), (19, 14, -4294967296, 71), (19, 17, -22, 22), (18, 6, 0, 72), (18, 14, -4294967296, 71), (18, 12, 0, 4294967296), (18, 17, 0, 22), (6, 14, -4294967296, -1), (6, 12, 0, 4294967296), (7, 9, -4294967296, -1)])
theorem oo_La_makePieces_6 {kA : Nat → ClassId} : or_ok PRD kA GG o_La_makePieces_6 := by
  refine or_mk fun A ta ws vs hD hth hl => ?_
  intro t0 r0 t1 r1 t2 r2 t3 r3 t4 r4 t5 k5 t6 k6 t7 k7 t8 r8 t9 k9 t10 r10 t11 k11 t12 k12 t13 k13 t14 k14 t16 r16 t17 k17 t18 k18 t19 k19 t20 k20 t21 k21 d0 d1 d2 d3 d4 d5 d6 d7 d8 d9 d10 d11 d12 d13 d14 d15 f0 f1 f2 f3 f4 f5 f6 f7 f8 f9 f10 f11 f12 f13 f14 f15 f16 f17 f18 f19
  replace f3 := shm_107 f3
  replace f4 := shm_110 f4
  replace f8 := shm_107 f8
  replace f9 := shm_392 f9
  replace f10 := shm_108 f10
  replace f11 := shm_107 f11
  replace f12 := shm_402 f12
  replace f14 := shm_215 f14
  replace f15 := shm_1094 f15
  replace f16 := shm_5 f16
  replace f18 := shm_5 f18
  replace f19 := shm_5 f19
  have q8 : n_v vs 8 = n_v vs 2 := f16.symm
  have q4 : n_v vs 4 = n_v vs 1 := f18.symm
  have q3 : n_v vs 3 = n_v vs 0 := f19.symm
  simp only [q3, q8, q4] at f4 f9 f10 f12 f14 f15
  have ad_16 : v_ad (n_v vs 16) = w_ar ws (n_v vs 0) 5 := congrArg v_ad f4
  have ad_10 : v_ad (n_v vs 10) = w_ar ws (n_v vs 0) 4 := congrArg v_ad f10
  simp only [ad_16] at f3
  have h3 : v_iv (n_v vs 17) = w_ei ws (w_ar ws (n_v vs 0) 5) (v_iv (n_v vs 7)) := f3
  simp only [ad_10] at f8
  have h8 : v_iv (n_v vs 14) = w_ei ws (w_ar ws (n_v vs 0) 4) (v_iv (n_v vs 13)) := f8
  simp only [ad_10] at f11
  have h11 : v_iv (n_v vs 12) = w_ei ws (w_ar ws (n_v vs 0) 4) (v_iv (n_v vs 11)) := f11
  have g14 : v_iv (n_v vs 9) = w_fi ws (n_v vs 2) 1 := congrArg v_iv f14
  have kz_0_2 := fdq_77 hD hth r0
  have kz_0_3 := fdq_218 hD hth r0
  have kz_2_0 := fdq_21 hD hth r2
  have kz_2_1 := fdq_30 hD hth r2
  have hrf0 : 0 ≤ v_iv (n_v vs 21) ∧ v_iv (n_v vs 21) ≤ 71 := vc_La_makePieces_6_r0 (v_iv (n_v vs 5)) (v_iv (n_v vs 6)) (v_iv (n_v vs 7)) (v_iv (n_v vs 9)) (v_iv (n_v vs 11)) (v_iv (n_v vs 12)) (v_iv (n_v vs 13)) (v_iv (n_v vs 14)) (v_iv (n_v vs 17)) (v_iv (n_v vs 18)) (v_iv (n_v vs 19)) (v_iv (n_v vs 21)) (w_ei ws (w_ar ws (n_v vs 0) 5)) (w_ei ws (w_ar ws (n_v vs 0) 4)) (w_ei ws (w_ar ws (n_v vs 2) 7)) (w_ei ws (w_ar ws (n_v vs 2) 8)) (w_ei ws (w_ar ws (n_v vs 1) 9)) (w_fi ws (n_v vs 2) 1) (w_ei ws (w_ar ws (n_v vs 0) 7)) (w_ei ws (w_ar ws (n_v vs 0) 9)) (w_fi ws (n_v vs 0) 3) (w_fi ws (n_v vs 0) 2) (w_fi ws (n_v vs 2) 0) k5 k6 k7 k9 k11 k12 k13 k14 k17 k18 k19 k21 d0 d1 d2 d4 d9 d13 d14 d15 (shm_14 f1) (shm_12 f2) h3 (shm_40 f5) h8 f9 h11 f12 g14 f15 kz_0_2 kz_0_3 kz_2_0 kz_2_1
  have hrf1 : 0 ≤ v_iv (n_v vs 5) ∧ v_iv (n_v vs 5) ≤ 119 := vc_La_makePieces_6_r1 (v_iv (n_v vs 5)) (v_iv (n_v vs 6)) (v_iv (n_v vs 7)) (v_iv (n_v vs 9)) (v_iv (n_v vs 11)) (v_iv (n_v vs 12)) (v_iv (n_v vs 13)) (v_iv (n_v vs 14)) (v_iv (n_v vs 17)) (v_iv (n_v vs 21)) (w_ei ws (w_ar ws (n_v vs 0) 5)) (w_ei ws (w_ar ws (n_v vs 0) 4)) (w_ei ws (w_ar ws (n_v vs 2) 7)) (w_ei ws (w_ar ws (n_v vs 2) 8)) (w_ei ws (w_ar ws (n_v vs 1) 9)) (w_fi ws (n_v vs 2) 1) (w_ei ws (w_ar ws (n_v vs 0) 7)) (w_ei ws (w_ar ws (n_v vs 0) 9)) (w_fi ws (n_v vs 0) 3) (w_fi ws (n_v vs 0) 2) (w_fi ws (n_v vs 2) 0) k5 k6 k7 k9 k11 k12 k13 k14 d15 (shm_6 f6) (shm_2 f7) h8 f9 h11 f12 g14 f15 kz_0_2 kz_0_3 kz_2_0 kz_2_1
  have rf21 : tv_ok ta (0, 0, 71, []) (n_v vs 21) := tv_in t21 (by first | omega | grind) (by first | omega | grind)
  have rf5 : tv_ok ta (0, 0, 119, []) (n_v vs 5) := tv_in t5 (by first | omega | grind) (by first | omega | grind)
  refine ⟨List.forall_mem_cons.mpr ⟨rf21, List.forall_mem_cons.mpr ⟨rf5, (fun _ h => (by cases h))⟩⟩, [], trivial, ?_, (fun _ h => (by cases h))⟩
  rw [List.append_nil]
  exact (fun _ h => (by cases h))
set_option maxHeartbeats 4000000 in
theorem vc_La_makePieces_7_r0 (x5 : Int) (x6 : Int) (x7 : Int) (x9 : Int) (x11 : Int) (x12 : Int) (x13 : Int) (x14 : Int) (x17 : Int) (x18 : Int) (x19 : Int) (x24 : Int) (x25 : Int) (x26 : Int) (x27 : Int) (edges_0o2 : Int) (firstJoint_0 : Int → Int) (tail_0o2 : Int → Int) (head_0o2 : Int → Int) (turned_0o1 : Int → Int) (layerOf_0 : Int → Int) (pieceLower_0 : Int → Int) (pieceStart_0 : Int → Int) (items_0 : Int) (layerCount_0 : Int) (nodes_0o2 : Int) (firstJoint_1 : Int → Int) (layerOf_1 : Int → Int) (tail_1o2 : Int → Int) (head_1o2 : Int → Int) (turned_1o1 : Int → Int) (pieceLower_1 : Int → Int) (pieceStart_1 : Int → Int) (items_1 : Int) (layerCount_1 : Int) (nodes_1o2 : Int) (edges_1o2 : Int) (x21 : Int) (k5 : 0 ≤ x5 ∧ x5 ≤ 119) (k6 : 0 ≤ x6 ∧ x6 ≤ 22) (k7 : 0 ≤ x7 ∧ x7 ≤ 47) (k9 : 1 ≤ x9 ∧ x9 ≤ 48) (k11 : 0 ≤ x11 ∧ x11 ≤ 23) (k12 : 0 ≤ x12 ∧ x12 ≤ 22) (k13 : 0 ≤ x13 ∧ x13 ≤ 23) (k14 : 1 ≤ x14 ∧ x14 ≤ 23) (k17 : 0 ≤ x17 ∧ x17 ≤ 72) (k18 : 0 ≤ x18 ∧ x18 ≤ 94) (k19 : 0 ≤ x19 ∧ x19 ≤ 94) (k24 : 1 ≤ x24 ∧ x24 ≤ 23) (k25 : 0 ≤ x25 ∧ x25 ≤ 72) (k26 : 0 ≤ x26 ∧ x26 ≤ 94) (k27 : 0 ≤ x27 ∧ x27 ≤ 94) (d3 : x25 + (-22) ≤ x27 ∧ x27 ≤ x25 + 22) (d7 : x25 + 0 ≤ x26 ∧ x26 ≤ x25 + 22) (d8 : x6 + 1 ≤ x24 ∧ x24 ≤ x6 + 1) (d9 : x14 + (-4294967296) ≤ x24 ∧ x24 ≤ x14 + 0) (d10 : x12 + 1 ≤ x24 ∧ x24 ≤ x12 + 4294967296) (d12 : x6 + (-22) ≤ x19 ∧ x19 ≤ x6 + 72) (d16 : x14 + (-4294967296) ≤ x18 ∧ x18 ≤ x14 + 71) (d19 : x14 + (-4294967296) ≤ x6 ∧ x6 ≤ x14 + (-1)) (d21 : x9 + (-4294967296) ≤ x7 ∧ x7 ≤ x9 + (-1)) (g2 : x9 = edges_0o2) (f3 : x27 = x26 - x12) (f4 : x26 = x25 + x6) (h5 : x25 = firstJoint_0 (x7)) (f7 : x24 ≠ x14) (f18 : x19 = x18 - x12) (f19 : x18 = x17 + x6) (h20 : x17 = firstJoint_1 (x7)) (f21 : x6 ≠ x12) (h24 : x14 = layerOf_1 (x13)) (f25 : LOX (tail_1o2) (head_1o2) (turned_1o1) (x7) (x13)) (h26 : x12 = layerOf_1 (x11)) (f27 : UPX (tail_1o2) (head_1o2) (turned_1o1) (x7) (x11)) (f29 : MPM (items_1) (layerCount_1) (nodes_1o2) (edges_1o2) (layerOf_1) (firstJoint_1) (pieceLower_1) (pieceStart_1) (tail_1o2) (head_1o2) (turned_1o1) (x6) (x7) (x5)) (fe_0_2_1 : layerCount_0 = layerCount_1) (fe_0_3_1 : items_0 = items_1) (fe_2_0_1 : nodes_0o2 = nodes_1o2) (fe_2_1_1 : edges_0o2 = edges_1o2) (hE_0_4_1 : ∀ j : Int, layerOf_0 j = layerOf_1 j) (hE_0_5_1 : ∀ j : Int, firstJoint_0 j = firstJoint_1 j) (hE_0_7_1 : ∀ j : Int, pieceLower_0 j = pieceLower_1 j) (hE_0_9_1 : ∀ j : Int, pieceStart_0 j = pieceStart_1 j) (hE_1_9_1 : ∀ j : Int, turned_0o1 j = turned_1o1 j) (hE_2_7_1 : ∀ j : Int, tail_0o2 j = tail_1o2 j) (hE_2_8_1 : ∀ j : Int, head_0o2 j = head_1o2 j) (kz_0_2 : 0 ≤ layerCount_0 ∧ layerCount_0 ≤ 24) (kz_0_3 : 0 ≤ items_0 ∧ items_0 ≤ 72) (kz_2_0 : 0 ≤ nodes_0o2 ∧ nodes_0o2 ≤ 24) (kz_2_1 : 0 ≤ edges_0o2 ∧ edges_0o2 ≤ 48) : 0 ≤ x27 ∧ x27 ≤ 71 := by
  subst fe_0_2_1
  subst fe_0_3_1
  subst fe_2_0_1
  subst fe_2_1_1
  have e_hE_0_4_1 := funext hE_0_4_1; subst e_hE_0_4_1
  have e_hE_0_5_1 := funext hE_0_5_1; subst e_hE_0_5_1
  have e_hE_0_7_1 := funext hE_0_7_1; subst e_hE_0_7_1
  have e_hE_0_9_1 := funext hE_0_9_1; subst e_hE_0_9_1
  have e_hE_1_9_1 := funext hE_1_9_1; subst e_hE_1_9_1
  have e_hE_2_7_1 := funext hE_2_7_1; subst e_hE_2_7_1
  have e_hE_2_8_1 := funext hE_2_8_1; subst e_hE_2_8_1
  first
    | omega
    | (have q := mpi_room (a := x11) (b := x13) (tp := x12) (bt := x14) (‹MPM _ _ _ _ _ _ _ _ _ _ _ _ _ _›).1 (by omega) (by omega) (by assumption) (by assumption) (by assumption) (by assumption) (by omega) (by omega); omega)
    | (have q := mpi_fj (a := x11) (b := x13) (tp := x12) (bt := x14) (f := x17) (‹MPM _ _ _ _ _ _ _ _ _ _ _ _ _ _›).1 (by omega) (by assumption) (by assumption) (by assumption) (by assumption) (by assumption); omega)
    | (have q := mpi_fj (a := x11) (b := x13) (tp := x12) (bt := x14) (f := x25) (‹MPM _ _ _ _ _ _ _ _ _ _ _ _ _ _›).1 (by omega) (by assumption) (by assumption) (by assumption) (by assumption) (by assumption); omega)
    | (have q := mpi_fj (a := x11) (b := x13) (tp := x12) (bt := x14) (f := x21) (‹MPM _ _ _ _ _ _ _ _ _ _ _ _ _ _›).1 (by omega) (by assumption) (by assumption) (by assumption) (by assumption) (by assumption); omega)
    | (have q := mpi_end (‹MPL _ _ _ _ _ _ _ _ _ _ _ _ _›).1 (by omega); omega)
  
def o_La_makePieces_7 : or_T := (150, 28, [(0, (2, 0, 0, [4])), (1, (2, 0, 0, [2])), (2, (2, 0, 0, [3])), (3, (2, 0, 0, [4])), (4, (2, 0, 0, [2])), (5, (0, 0, 119, [])), (6, (0, 0, 22, [])), (7, (0, 0, 47, [])), (8, (2, 0, 0, [3])), (9, (0, 1, 48, [])), (10, (2, 0, 0, [62])), (11, (0, 0, 23, [])), (12, (0, 0, 22, [])), (13, (0, 0, 23, [])), (14, (0, 1, 23, [])), (15, (2, 0, 0, [64])), (16, (2, 0, 0, [63])), (17, (0, 0, 72, [])), (18, (0, 0, 94, [])), (19, (0, 0, 94, [])), (22, (2, 0, 0, [65])), (23, (0, 1, 1, [])), (24, (0, 1, 23, [])), (25, (0, 0, 72, [])), (26, (0, 0, 94, [])), (27, (0, 0, 94, []))], [(9, [15, 3], [6]), (9, [10, 3], [4]), (9, [9, 8], [1]), (2, [27, 26, 12], []), (1, [26, 25, 6], []), (10, [25, 16, 7], []), (9, [16, 3], [5]), (7, [24, 14], [1]), (1, [24, 6, 23], []), (9, [22, 3], [7]), (20, [8, 4, 7, 13], [60, 0, 3, 650, 7, 8, 1009]), (20, [8, 4, 7, 11], [60, 0, 3, 649, 7, 8, 1009]), (20, [3, 8, 4, 6, 7, 5], [60, 4, 7, 667, 3, 2, 1000, 1001, 4, 5, 7, 9, 1007, 1008, 2009]), (24, [2, 8], []), (20, [3], [50, 1, 0, 2, 0, 2, 0, 1, 2, 0, 2]), (24, [1, 4], []), (24, [0, 3], []), (100, [15, 5, 21], []), (2, [19, 18, 12], []), (1, [18, 17, 6], []), (10, [17, 16, 7], []), (7, [6, 12], [1]), (7, [6, 14], [2]), (7, [6, 12], [3]), (10, [14, 10, 13], []), (20, [8, 4, 7, 13], [60, 0, 3, 650, 7, 8, 1009]), (10, [12, 10, 11], []), (20, [8, 4, 7, 11], [60, 0, 3, 649, 7, 8, 1009]), (7, [7, 9], [2]), (20, [3, 8, 4, 6, 7, 5], [60, 4, 7, 667, 3, 2, 1000, 1001, 4, 5, 7, 9, 1007, 1008, 2009]), (20, [3], [50, 1, 0, 2, 0, 2, 0, 1, 2, 0, 2])], [(27, (0, 0, 71, []))], [], [], [], [(27, 26, -22, 0), (27, 6, -22, 72), (27, 14, -4294967296, 71), (27, 25, -22, 22), (26, 6, 0, 72), (26, 14, -4294967296, 71), (26, 12, 0, 4294967296), (26, 25, 0, 22), (24, 6, 1, 1), (24, 14, -4294967296, 0), (24, 12, 1, 4294967296), (19, 18, -22, 0), (19, 6, -22, 72), (19, 14, -4294967296, 71), (19, 17, -22, 22), (18, 6, 0, 72), (18, 14, -4294967296, 71), (18, 12, 0, 4294967296), (18, 17, 0, 22), (6, 14, -4294967296, -1), (6, 12, 0, 4294967296), (7, 9, -4294967296, -1)])
theorem oo_La_makePieces_7 {kA : Nat → ClassId} : or_ok PRD kA GG o_La_makePieces_7 := by
  refine or_mk fun A ta ws vs hD hth hl => ?_
  intro t0 r0 t1 r1 t2 r2 t3 r3 t4 r4 t5 k5 t6 k6 t7 k7 t8 r8 t9 k9 t10 r10 t11 k11 t12 k12 t13 k13 t14 k14 t15 r15 t16 r16 t17 k17 t18 k18 t19 k19 t22 r22 t23 k23 t24 k24 t25 k25 t26 k26 t27 k27 d0 d1 d2 d3 d4 d5 d6 d7 d8 d9 d10 d11 d12 d13 d14 d15 d16 d17 d18 d19 d20 d21 f0 f1 f2 f3 f4 f5 f6 f7 f8 f9 f10 f11 f12 f13 f14 f15 f16 ta1 w1 le1 s1 f18 f19 f20 f21 f22 f23 f24 f25 f26 f27 f28 f29 f30
  replace f1 := shm_108 f1
  replace f2 := shm_215 f2
  replace f5 := shm_107 f5
  replace f6 := shm_110 f6
  replace f13 := shm_5 f13
  replace f15 := shm_5 f15
  replace f16 := shm_5 f16
  have s1 : (∀ b j, w_el ws b j = if b = v_ad (n_v vs 15) ∧ j = (v_iv (n_v vs 5)).toNat then v_iv (n_v vs 21) else w_el w1 b j) ∧ ∀ b k, w_fd ws b k = w_fd w1 b k := s1.2
  replace f20 := shm_107 f20
  replace f24 := shm_107 f24
  replace f25 := shm_392 f25
  replace f26 := shm_107 f26
  replace f27 := shm_402 f27
  replace f29 := shm_1094 f29
  have q8 : n_v vs 8 = n_v vs 2 := f13.symm
  have q4 : n_v vs 4 = n_v vs 1 := f15.symm
  have q3 : n_v vs 3 = n_v vs 0 := f16.symm
  simp only [q3, q8, q4] at f1 f2 f6 f25 f27 f29
  have ar_0_4_1 : w_ar w1 (n_v vs 0) 4 = w_ar ws (n_v vs 0) 4 := congrArg v_ad (s1.2 _ _).symm
  have cr_0_4 := fdq_219 hD hth r0
  have ar_0_5_1 : w_ar w1 (n_v vs 0) 5 = w_ar ws (n_v vs 0) 5 := congrArg v_ad (s1.2 _ _).symm
  have cr_0_5 := fdq_248 hD hth r0
  have ar_0_7_1 : w_ar w1 (n_v vs 0) 7 = w_ar ws (n_v vs 0) 7 := congrArg v_ad (s1.2 _ _).symm
  have cr_0_7 := fdq_215 hD hth r0
  have ar_0_9_1 : w_ar w1 (n_v vs 0) 9 = w_ar ws (n_v vs 0) 9 := congrArg v_ad (s1.2 _ _).symm
  have cr_0_9 := fdq_216 hD hth r0
  have ar_1_9_1 : w_ar w1 (n_v vs 1) 9 = w_ar ws (n_v vs 1) 9 := congrArg v_ad (s1.2 _ _).symm
  have cr_1_9 := fdq_76 hD hth r1
  have ar_2_7_1 : w_ar w1 (n_v vs 2) 7 = w_ar ws (n_v vs 2) 7 := congrArg v_ad (s1.2 _ _).symm
  have cr_2_7 := fdq_46 hD hth r2
  have ar_2_8_1 : w_ar w1 (n_v vs 2) 8 = w_ar ws (n_v vs 2) 8 := congrArg v_ad (s1.2 _ _).symm
  have cr_2_8 := fdq_47 hD hth r2
  have ad_10 : v_ad (n_v vs 10) = w_ar ws (n_v vs 0) 4 := congrArg v_ad f1
  have ad_16 : v_ad (n_v vs 16) = w_ar ws (n_v vs 0) 5 := congrArg v_ad f6
  have g2 : v_iv (n_v vs 9) = w_fi ws (n_v vs 2) 1 := congrArg v_iv f2
  simp only [ad_16] at f5
  have h5 : v_iv (n_v vs 25) = w_ei ws (w_ar ws (n_v vs 0) 5) (v_iv (n_v vs 7)) := f5
  simp only [ad_16] at f20
  have h20 : v_iv (n_v vs 17) = w_ei w1 (w_ar ws (n_v vs 0) 5) (v_iv (n_v vs 7)) := f20
  simp only [ad_10] at f24
  have h24 : v_iv (n_v vs 14) = w_ei w1 (w_ar ws (n_v vs 0) 4) (v_iv (n_v vs 13)) := f24
  simp only [ar_1_9_1, ar_2_7_1, ar_2_8_1, ad_10] at f25 f26
  have h26 : v_iv (n_v vs 12) = w_ei w1 (w_ar ws (n_v vs 0) 4) (v_iv (n_v vs 11)) := f26
  simp only [ar_1_9_1, ar_2_7_1, ar_2_8_1, ar_0_4_1, ar_0_5_1, ar_0_7_1, ar_0_9_1] at f27 f29
  have fe_0_2_1 : w_fi ws (n_v vs 0) 2 = w_fi w1 (n_v vs 0) 2 := congrArg v_iv (s1.2 _ _)
  have fe_0_3_1 : w_fi ws (n_v vs 0) 3 = w_fi w1 (n_v vs 0) 3 := congrArg v_iv (s1.2 _ _)
  have fe_2_0_1 : w_fi ws (n_v vs 2) 0 = w_fi w1 (n_v vs 2) 0 := congrArg v_iv (s1.2 _ _)
  have fe_2_1_1 : w_fi ws (n_v vs 2) 1 = w_fi w1 (n_v vs 2) 1 := congrArg v_iv (s1.2 _ _)
  have hE_0_4_1 : ∀ j : Int, w_ei ws (w_ar ws (n_v vs 0) 4) j = w_ei w1 (w_ar ws (n_v vs 0) 4) j := el_kp s1.1 r15 cr_0_4 (by decide)
  have hE_0_5_1 : ∀ j : Int, w_ei ws (w_ar ws (n_v vs 0) 5) j = w_ei w1 (w_ar ws (n_v vs 0) 5) j := el_kp s1.1 r15 cr_0_5 (by decide)
  have hE_0_7_1 : ∀ j : Int, w_ei ws (w_ar ws (n_v vs 0) 7) j = w_ei w1 (w_ar ws (n_v vs 0) 7) j := el_kp s1.1 r15 cr_0_7 (by decide)
  have hE_0_9_1 : ∀ j : Int, w_ei ws (w_ar ws (n_v vs 0) 9) j = w_ei w1 (w_ar ws (n_v vs 0) 9) j := el_kp s1.1 r15 cr_0_9 (by decide)
  have hE_1_9_1 : ∀ j : Int, w_ei ws (w_ar ws (n_v vs 1) 9) j = w_ei w1 (w_ar ws (n_v vs 1) 9) j := el_kp s1.1 r15 cr_1_9 (by decide)
  have hE_2_7_1 : ∀ j : Int, w_ei ws (w_ar ws (n_v vs 2) 7) j = w_ei w1 (w_ar ws (n_v vs 2) 7) j := el_kp s1.1 r15 cr_2_7 (by decide)
  have hE_2_8_1 : ∀ j : Int, w_ei ws (w_ar ws (n_v vs 2) 8) j = w_ei w1 (w_ar ws (n_v vs 2) 8) j := el_kp s1.1 r15 cr_2_8 (by decide)
  have kz_0_2 := fdq_77 hD hth r0
  have kz_0_3 := fdq_218 hD hth r0
  have kz_2_0 := fdq_21 hD hth r2
  have kz_2_1 := fdq_30 hD hth r2
  have hrf0 : 0 ≤ v_iv (n_v vs 27) ∧ v_iv (n_v vs 27) ≤ 71 := vc_La_makePieces_7_r0 (v_iv (n_v vs 5)) (v_iv (n_v vs 6)) (v_iv (n_v vs 7)) (v_iv (n_v vs 9)) (v_iv (n_v vs 11)) (v_iv (n_v vs 12)) (v_iv (n_v vs 13)) (v_iv (n_v vs 14)) (v_iv (n_v vs 17)) (v_iv (n_v vs 18)) (v_iv (n_v vs 19)) (v_iv (n_v vs 24)) (v_iv (n_v vs 25)) (v_iv (n_v vs 26)) (v_iv (n_v vs 27)) (w_fi ws (n_v vs 2) 1) (w_ei ws (w_ar ws (n_v vs 0) 5)) (w_ei ws (w_ar ws (n_v vs 2) 7)) (w_ei ws (w_ar ws (n_v vs 2) 8)) (w_ei ws (w_ar ws (n_v vs 1) 9)) (w_ei ws (w_ar ws (n_v vs 0) 4)) (w_ei ws (w_ar ws (n_v vs 0) 7)) (w_ei ws (w_ar ws (n_v vs 0) 9)) (w_fi ws (n_v vs 0) 3) (w_fi ws (n_v vs 0) 2) (w_fi ws (n_v vs 2) 0) (w_ei w1 (w_ar ws (n_v vs 0) 5)) (w_ei w1 (w_ar ws (n_v vs 0) 4)) (w_ei w1 (w_ar ws (n_v vs 2) 7)) (w_ei w1 (w_ar ws (n_v vs 2) 8)) (w_ei w1 (w_ar ws (n_v vs 1) 9)) (w_ei w1 (w_ar ws (n_v vs 0) 7)) (w_ei w1 (w_ar ws (n_v vs 0) 9)) (w_fi w1 (n_v vs 0) 3) (w_fi w1 (n_v vs 0) 2) (w_fi w1 (n_v vs 2) 0) (w_fi w1 (n_v vs 2) 1) (v_iv (n_v vs 21)) k5 k6 k7 k9 k11 k12 k13 k14 k17 k18 k19 k24 k25 k26 k27 d3 d7 d8 d9 d10 d12 d16 d19 d21 g2 (shm_14 f3) (shm_12 f4) h5 (shm_40 f7) (shm_14 f18) (shm_12 f19) h20 (shm_40 f21) h24 f25 h26 f27 f29 fe_0_2_1 fe_0_3_1 fe_2_0_1 fe_2_1_1 hE_0_4_1 hE_0_5_1 hE_0_7_1 hE_0_9_1 hE_1_9_1 hE_2_7_1 hE_2_8_1 kz_0_2 kz_0_3 kz_2_0 kz_2_1
  have rf27 : tv_ok ta (0, 0, 71, []) (n_v vs 27) := tv_in t27 (by first | omega | grind) (by first | omega | grind)
  refine ⟨List.forall_mem_cons.mpr ⟨rf27, (fun _ h => (by cases h))⟩, [], trivial, ?_, (fun _ h => (by cases h))⟩
  rw [List.append_nil]
  exact (fun _ h => (by cases h))
set_option maxHeartbeats 4000000 in
theorem vc_La_makePieces_8_0 (x5 : Int) (x6 : Int) (x7 : Int) (x9 : Int) (x11 : Int) (x12 : Int) (x13 : Int) (x14 : Int) (x23 : Int) (x24 : Int) (x25 : Int) (x26 : Int) (x27 : Int) (x31 : Int) (x32 : Int) (edges_0o2 : Int) (tail_0o2 : Int → Int) (head_0o2 : Int → Int) (turned_0o1 : Int → Int) (layerCount_0 : Int) (tail_1o2 : Int → Int) (head_1o2 : Int → Int) (turned_1o1 : Int → Int) (layerCount_1 : Int) (firstJoint_2 : Int → Int) (tail_2o2 : Int → Int) (head_2o2 : Int → Int) (turned_2o1 : Int → Int) (layerOf_2 : Int → Int) (pieceLower_2 : Int → Int) (pieceStart_2 : Int → Int) (items_2 : Int) (layerCount_2 : Int) (nodes_2o2 : Int) (edges_2o2 : Int) (firstJoint_3 : Int → Int) (layerOf_3 : Int → Int) (tail_3o2 : Int → Int) (head_3o2 : Int → Int) (turned_3o1 : Int → Int) (pieceLower_3 : Int → Int) (pieceStart_3 : Int → Int) (items_3 : Int) (layerCount_3 : Int) (nodes_3o2 : Int) (edges_3o2 : Int) (items_0 : Int) (items_1 : Int) (nodes_0o2 : Int) (nodes_1o2 : Int) (edges_1o2 : Int) (layerOf_0 : Int → Int) (layerOf_1 : Int → Int) (firstJoint_0 : Int → Int) (firstJoint_1 : Int → Int) (pieceUpper_0 : Int → Int) (pieceUpper_1 : Int → Int) (pieceUpper_2 : Int → Int) (x21 : Int) (pieceLower_0 : Int → Int) (pieceLower_1 : Int → Int) (pieceWeight_1 : Int → Int) (pieceWeight_2 : Int → Int) (pieceWeight_3 : Int → Int) (pieceStart_0 : Int → Int) (pieceStart_1 : Int → Int) (k5 : 0 ≤ x5 ∧ x5 ≤ 119) (k6 : 0 ≤ x6 ∧ x6 ≤ 22) (k7 : 0 ≤ x7 ∧ x7 ≤ 47) (k9 : 1 ≤ x9 ∧ x9 ≤ 48) (k11 : 0 ≤ x11 ∧ x11 ≤ 23) (k12 : 0 ≤ x12 ∧ x12 ≤ 22) (k13 : 0 ≤ x13 ∧ x13 ≤ 23) (k14 : 1 ≤ x14 ∧ x14 ≤ 23) (k24 : 1 ≤ x24 ∧ x24 ≤ 23) (k25 : 0 ≤ x25 ∧ x25 ≤ 72) (k26 : 0 ≤ x26 ∧ x26 ≤ 94) (k27 : 0 ≤ x27 ∧ x27 ≤ 71) (k31 : 1 ≤ x31 ∧ x31 ≤ 120) (k32 : 1 ≤ x32 ∧ x32 ≤ 48) (d0 : x7 + 1 ≤ x32 ∧ x32 ≤ x7 + 1) (d1 : x9 + (-4294967296) ≤ x32 ∧ x32 ≤ x9 + 0) (d4 : x25 + (-22) ≤ x27 ∧ x27 ≤ x25 + 22) (d9 : x6 + 1 ≤ x24 ∧ x24 ≤ x6 + 1) (d10 : x14 + (-4294967296) ≤ x24 ∧ x24 ≤ x14 + 0) (d11 : x12 + 1 ≤ x24 ∧ x24 ≤ x12 + 4294967296) (d20 : x14 + (-4294967296) ≤ x6 ∧ x6 ≤ x14 + (-1)) (d22 : x9 + (-4294967296) ≤ x7 ∧ x7 ≤ x9 + (-1)) (g5 : x9 = edges_0o2) (f6 : x32 = x7 + 1) (f7 : x31 = x5 + 1) (f19 : x27 = x26 - x12) (f20 : x26 = x25 + x6) (h21 : x25 = firstJoint_2 (x7)) (f22 : x24 ≠ x14) (f32 : x6 ≠ x12) (f33 : x6 < x14) (f34 : x12 ≤ x6) (h35 : x14 = layerOf_3 (x13)) (f36 : LOX (tail_3o2) (head_3o2) (turned_3o1) (x7) (x13)) (h37 : x12 = layerOf_3 (x11)) (f38 : UPX (tail_3o2) (head_3o2) (turned_3o1) (x7) (x11)) (f40 : MPM (items_3) (layerCount_3) (nodes_3o2) (edges_3o2) (layerOf_3) (firstJoint_3) (pieceLower_3) (pieceStart_3) (tail_3o2) (head_3o2) (turned_3o1) (x6) (x7) (x5)) (fe_0_2_1 : layerCount_0 = layerCount_1) (fe_0_3_1 : items_0 = items_1) (fe_2_0_1 : nodes_0o2 = nodes_1o2) (fe_2_1_1 : edges_0o2 = edges_1o2) (fe_0_2_2 : layerCount_1 = layerCount_2) (fe_0_3_2 : items_1 = items_2) (fe_2_0_2 : nodes_1o2 = nodes_2o2) (fe_2_1_2 : edges_1o2 = edges_2o2) (fe_0_2_3 : layerCount_2 = layerCount_3) (fe_0_3_3 : items_2 = items_3) (fe_2_0_3 : nodes_2o2 = nodes_3o2) (fe_2_1_3 : edges_2o2 = edges_3o2) (hE_0_4_1 : ∀ j : Int, layerOf_0 j = layerOf_1 j) (hE_0_4_2 : ∀ j : Int, layerOf_1 j = layerOf_2 j) (hE_0_4_3 : ∀ j : Int, layerOf_2 j = layerOf_3 j) (hE_0_5_1 : ∀ j : Int, firstJoint_0 j = firstJoint_1 j) (hE_0_5_2 : ∀ j : Int, firstJoint_1 j = firstJoint_2 j) (hE_0_5_3 : ∀ j : Int, firstJoint_2 j = firstJoint_3 j) (hE_0_6_1 : ∀ j : Int, pieceUpper_0 j = pieceUpper_1 j) (hE_0_6_2 : ∀ j : Int, pieceUpper_1 j = pieceUpper_2 j) (hE_0_7_1 : ∀ j : Int, pieceLower_0 j = pieceLower_1 j) (hE_0_7_2 : ∀ j : Int, 0 ≤ j → (j = x5 → pieceLower_1 j = x27) ∧ (j ≠ x5 → pieceLower_1 j = pieceLower_2 j)) (hE_0_7_3 : ∀ j : Int, pieceLower_2 j = pieceLower_3 j) (hE_0_8_2 : ∀ j : Int, pieceWeight_1 j = pieceWeight_2 j) (hE_0_8_3 : ∀ j : Int, pieceWeight_2 j = pieceWeight_3 j) (hE_0_9_1 : ∀ j : Int, pieceStart_0 j = pieceStart_1 j) (hE_0_9_2 : ∀ j : Int, pieceStart_1 j = pieceStart_2 j) (hE_0_9_3 : ∀ j : Int, pieceStart_2 j = pieceStart_3 j) (hE_1_9_1 : ∀ j : Int, turned_0o1 j = turned_1o1 j) (hE_1_9_2 : ∀ j : Int, turned_1o1 j = turned_2o1 j) (hE_1_9_3 : ∀ j : Int, turned_2o1 j = turned_3o1 j) (hE_2_7_1 : ∀ j : Int, tail_0o2 j = tail_1o2 j) (hE_2_7_2 : ∀ j : Int, tail_1o2 j = tail_2o2 j) (hE_2_7_3 : ∀ j : Int, tail_2o2 j = tail_3o2 j) (hE_2_8_1 : ∀ j : Int, head_0o2 j = head_1o2 j) (hE_2_8_2 : ∀ j : Int, head_1o2 j = head_2o2 j) (hE_2_8_3 : ∀ j : Int, head_2o2 j = head_3o2 j) (kz_0_2 : 0 ≤ layerCount_0 ∧ layerCount_0 ≤ 24) (kz_0_3 : 0 ≤ items_0 ∧ items_0 ≤ 72) (kz_2_0 : 0 ≤ nodes_0o2 ∧ nodes_0o2 ≤ 24) (kz_2_1 : 0 ≤ edges_0o2 ∧ edges_0o2 ≤ 48) : MPM (items_0) (layerCount_0) (nodes_0o2) (edges_0o2) (layerOf_0) (firstJoint_0) (pieceLower_0) (pieceStart_0) (tail_0o2) (head_0o2) (turned_0o1) (x6) (x32) (x31) := by
  subst fe_0_2_1
  subst fe_0_3_1
  subst fe_2_0_1
  subst fe_2_1_1
  subst fe_0_2_2
  subst fe_0_3_2
  subst fe_2_0_2
  subst fe_2_1_2
  subst fe_0_2_3
  subst fe_0_3_3
  subst fe_2_0_3
  subst fe_2_1_3
  have e_hE_0_4_1 := funext hE_0_4_1; subst e_hE_0_4_1
  have e_hE_0_4_2 := funext hE_0_4_2; subst e_hE_0_4_2
  have e_hE_0_4_3 := funext hE_0_4_3; subst e_hE_0_4_3
  have e_hE_0_5_1 := funext hE_0_5_1; subst e_hE_0_5_1
  have e_hE_0_5_2 := funext hE_0_5_2; subst e_hE_0_5_2
  have e_hE_0_5_3 := funext hE_0_5_3; subst e_hE_0_5_3
  have e_hE_0_6_1 := funext hE_0_6_1; subst e_hE_0_6_1
  have e_hE_0_6_2 := funext hE_0_6_2; subst e_hE_0_6_2
  have e_hE_0_7_1 := funext hE_0_7_1; subst e_hE_0_7_1
  have e_hE_0_7_3 := funext hE_0_7_3; subst e_hE_0_7_3
  have e_hE_0_8_2 := funext hE_0_8_2; subst e_hE_0_8_2
  have e_hE_0_8_3 := funext hE_0_8_3; subst e_hE_0_8_3
  have e_hE_0_9_1 := funext hE_0_9_1; subst e_hE_0_9_1
  have e_hE_0_9_2 := funext hE_0_9_2; subst e_hE_0_9_2
  have e_hE_0_9_3 := funext hE_0_9_3; subst e_hE_0_9_3
  have e_hE_1_9_1 := funext hE_1_9_1; subst e_hE_1_9_1
  have e_hE_1_9_2 := funext hE_1_9_2; subst e_hE_1_9_2
  have e_hE_1_9_3 := funext hE_1_9_3; subst e_hE_1_9_3
  have e_hE_2_7_1 := funext hE_2_7_1; subst e_hE_2_7_1
  have e_hE_2_7_2 := funext hE_2_7_2; subst e_hE_2_7_2
  have e_hE_2_7_3 := funext hE_2_7_3; subst e_hE_2_7_3
  have e_hE_2_8_1 := funext hE_2_8_1; subst e_hE_2_8_1
  have e_hE_2_8_2 := funext hE_2_8_2; subst e_hE_2_8_2
  have e_hE_2_8_3 := funext hE_2_8_3; subst e_hE_2_8_3
  first
    | (have q := mpi_end (‹MPL _ _ _ _ _ _ _ _ _ _ _ _ _›).1 (by omega); exact mpm_start (p := x6) (v := x5) ‹MPL _ _ _ _ _ _ _ _ _ _ _ _ _› (by assumption) rfl rfl (by omega) (by omega))
    | exact ⟨mpi_skip (a := x11) (b := x13) (tp := x12) (bt := x14) (‹MPM _ _ _ _ _ _ _ _ _ _ _ _ _ _›).1 (by omega) ‹UPX _ _ _ _ _› (by assumption) ‹LOX _ _ _ _ _› (by assumption) (by omega) (by omega), (‹MPM _ _ _ _ _ _ _ _ _ _ _ _ _ _›).2⟩
    | exact mpm_take (a := x11) (b := x13) (tp := x12) (bt := x14) (p := x5) (v := x27) ‹MPM _ _ _ _ _ _ _ _ _ _ _ _ _ _› (by omega) (by assumption) (by assumption) (by assumption) (by assumption) (by omega) (by omega) (by assumption) rfl (by have q := mpi_fj (a := x11) (b := x13) (tp := x12) (bt := x14) (f := x25) (‹MPM _ _ _ _ _ _ _ _ _ _ _ _ _ _›).1 (by omega) (by assumption) (by assumption) (by assumption) (by assumption) (by assumption); omega) (by omega) (by omega)
    | exact mpm_take (a := x11) (b := x13) (tp := x12) (bt := x14) (p := x5) (v := x25) ‹MPM _ _ _ _ _ _ _ _ _ _ _ _ _ _› (by omega) (by assumption) (by assumption) (by assumption) (by assumption) (by omega) (by omega) (by assumption) rfl (by exact mpm_lo ‹MPM _ _ _ _ _ _ _ _ _ _ _ _ _ _› (by omega) (by assumption)) (by omega) (by omega)
    | exact mpm_take (a := x11) (b := x13) (tp := x12) (bt := x14) (p := x5) (v := x23) ‹MPM _ _ _ _ _ _ _ _ _ _ _ _ _ _› (by omega) (by assumption) (by assumption) (by assumption) (by assumption) (by omega) (by omega) (by assumption) rfl (by have q := mpi_fj (a := x11) (b := x13) (tp := x12) (bt := x14) (f := x21) (‹MPM _ _ _ _ _ _ _ _ _ _ _ _ _ _›).1 (by omega) (by assumption) (by assumption) (by assumption) (by assumption) (by assumption); omega) (by omega) (by omega)
    | exact mpm_take (a := x11) (b := x13) (tp := x12) (bt := x14) (p := x5) (v := x20) ‹MPM _ _ _ _ _ _ _ _ _ _ _ _ _ _› (by omega) (by assumption) (by assumption) (by assumption) (by assumption) (by omega) (by omega) (by assumption) rfl (by exact mpm_lo ‹MPM _ _ _ _ _ _ _ _ _ _ _ _ _ _› (by omega) (by assumption)) (by omega) (by omega)
  
def o_La_makePieces_8 : or_T := (24, 33, [(0, (2, 0, 0, [4])), (1, (2, 0, 0, [2])), (2, (2, 0, 0, [3])), (5, (0, 0, 119, [])), (6, (0, 0, 22, [])), (7, (0, 0, 47, [])), (9, (0, 1, 48, [])), (11, (0, 0, 23, [])), (12, (0, 0, 22, [])), (13, (0, 0, 23, [])), (14, (0, 1, 23, [])), (15, (2, 0, 0, [64])), (22, (2, 0, 0, [65])), (24, (0, 1, 23, [])), (25, (0, 0, 72, [])), (26, (0, 0, 94, [])), (27, (0, 0, 71, [])), (28, (2, 0, 0, [66])), (31, (0, 1, 120, [])), (32, (0, 1, 48, []))], [(9, [22, 3], [7]), (9, [16, 3], [5]), (9, [10, 3], [4]), (9, [9, 8], [1]), (6, [32, 7], [1]), (6, [31, 5], [1]), (24, [2, 8], []), (24, [1, 4], []), (24, [0, 3], []), (100, [28, 5, 30], []), (100, [22, 5, 27], []), (2, [27, 26, 12], []), (1, [26, 25, 6], []), (10, [25, 16, 7], []), (7, [24, 14], [1]), (100, [15, 5, 21], []), (7, [6, 12], [1]), (7, [6, 14], [2]), (7, [6, 12], [3]), (10, [14, 10, 13], []), (20, [8, 4, 7, 13], [60, 0, 3, 650, 7, 8, 1009]), (10, [12, 10, 11], []), (20, [8, 4, 7, 11], [60, 0, 3, 649, 7, 8, 1009]), (20, [3, 8, 4, 6, 7, 5], [60, 4, 7, 667, 3, 2, 1000, 1001, 4, 5, 7, 9, 1007, 1008, 2009])], [], [], [(20, [3, 8, 4, 6, 32, 31], [60, 4, 7, 667, 3, 2, 1000, 1001, 4, 5, 7, 9, 1007, 1008, 2009])], [], [(32, 7, 1, 1), (32, 9, -4294967296, 0), (31, 5, 1, 1), (27, 26, -22, 0), (27, 25, -22, 22), (24, 6, 1, 1), (24, 14, -4294967296, 0), (24, 12, 1, 4294967296), (6, 14, -4294967296, -1), (7, 9, -4294967296, -1)])
theorem oo_La_makePieces_8 {kA : Nat → ClassId} : or_ok PRD kA GG o_La_makePieces_8 := by
  refine or_mk fun A ta ws vs hD hth hl => ?_
  intro t0 r0 t1 r1 t2 r2 t5 k5 t6 k6 t7 k7 t9 k9 t11 k11 t12 k12 t13 k13 t14 k14 t15 r15 t22 r22 t24 k24 t25 k25 t26 k26 t27 k27 t28 r28 t31 k31 t32 k32 d0 d1 d2 d3 d4 d9 d10 d11 d20 d22 f1 f2 f4 f5 f6 f7 f10 f12 f13 ta1 w1 le1 s1 ta2 w2 le2 s2 f19 f20 f21 f22 ta3 w3 le3 s3 f32 f33 f34 f35 f36 f37 f38 f40
  replace f1 := shm_198 f1
  replace f2 := shm_110 f2
  replace f4 := shm_108 f4
  replace f5 := shm_215 f5
  replace f6 := shm_4 f6
  replace f7 := shm_4 f7
  replace f10 := shm_5 f10
  replace f12 := shm_5 f12
  replace f13 := shm_5 f13
  have s1 : (∀ b j, w_el ws b j = if b = v_ad (n_v vs 28) ∧ j = (v_iv (n_v vs 5)).toNat then v_iv (n_v vs 30) else w_el w1 b j) ∧ ∀ b k, w_fd ws b k = w_fd w1 b k := s1.2
  have s2 : (∀ b j, w_el w1 b j = if b = v_ad (n_v vs 22) ∧ j = (v_iv (n_v vs 5)).toNat then v_iv (n_v vs 27) else w_el w2 b j) ∧ ∀ b k, w_fd w1 b k = w_fd w2 b k := s2.2
  replace f19 := shm_14 f19
  replace f20 := shm_12 f20
  replace f21 := shm_107 f21
  replace f22 := shm_40 f22
  have s3 : (∀ b j, w_el w2 b j = if b = v_ad (n_v vs 15) ∧ j = (v_iv (n_v vs 5)).toNat then v_iv (n_v vs 21) else w_el w3 b j) ∧ ∀ b k, w_fd w2 b k = w_fd w3 b k := s3.2
  replace f32 := shm_40 f32
  replace f33 := shm_6 f33
  replace f34 := shm_2 f34
  replace f35 := shm_107 f35
  replace f36 := shm_392 f36
  replace f37 := shm_107 f37
  replace f38 := shm_402 f38
  replace f40 := shm_1094 f40
  have q8 : n_v vs 8 = n_v vs 2 := f10.symm
  have q4 : n_v vs 4 = n_v vs 1 := f12.symm
  have q3 : n_v vs 3 = n_v vs 0 := f13.symm
  simp only [q3, q8, q4] at f1 f2 f4 f5 f36 f38 f40
  have ar_0_4_1 : w_ar w1 (n_v vs 0) 4 = w_ar ws (n_v vs 0) 4 := congrArg v_ad (s1.2 _ _).symm
  have ar_0_4_2 : w_ar w2 (n_v vs 0) 4 = w_ar ws (n_v vs 0) 4 := by rw [← ar_0_4_1]; show v_ad (w_fd w2 _ _) = v_ad (w_fd w1 _ _); rw [s2.2]
  have ar_0_4_3 : w_ar w3 (n_v vs 0) 4 = w_ar ws (n_v vs 0) 4 := by rw [← ar_0_4_2]; show v_ad (w_fd w3 _ _) = v_ad (w_fd w2 _ _); rw [s3.2]
  have cr_0_4 := fdq_219 hD hth r0
  have ar_0_5_1 : w_ar w1 (n_v vs 0) 5 = w_ar ws (n_v vs 0) 5 := congrArg v_ad (s1.2 _ _).symm
  have ar_0_5_2 : w_ar w2 (n_v vs 0) 5 = w_ar ws (n_v vs 0) 5 := by rw [← ar_0_5_1]; show v_ad (w_fd w2 _ _) = v_ad (w_fd w1 _ _); rw [s2.2]
  have ar_0_5_3 : w_ar w3 (n_v vs 0) 5 = w_ar ws (n_v vs 0) 5 := by rw [← ar_0_5_2]; show v_ad (w_fd w3 _ _) = v_ad (w_fd w2 _ _); rw [s3.2]
  have cr_0_5 := fdq_248 hD hth r0
  have cr_0_6 := fdq_249 hD hth r0
  have ar_0_7_1 : w_ar w1 (n_v vs 0) 7 = w_ar ws (n_v vs 0) 7 := congrArg v_ad (s1.2 _ _).symm
  have ar_0_7_2 : w_ar w2 (n_v vs 0) 7 = w_ar ws (n_v vs 0) 7 := by rw [← ar_0_7_1]; show v_ad (w_fd w2 _ _) = v_ad (w_fd w1 _ _); rw [s2.2]
  have ar_0_7_3 : w_ar w3 (n_v vs 0) 7 = w_ar ws (n_v vs 0) 7 := by rw [← ar_0_7_2]; show v_ad (w_fd w3 _ _) = v_ad (w_fd w2 _ _); rw [s3.2]
  have cr_0_7 := fdq_215 hD hth r0
  have cr_0_8 := fdq_250 hD hth r0
  have ar_0_9_1 : w_ar w1 (n_v vs 0) 9 = w_ar ws (n_v vs 0) 9 := congrArg v_ad (s1.2 _ _).symm
  have ar_0_9_2 : w_ar w2 (n_v vs 0) 9 = w_ar ws (n_v vs 0) 9 := by rw [← ar_0_9_1]; show v_ad (w_fd w2 _ _) = v_ad (w_fd w1 _ _); rw [s2.2]
  have ar_0_9_3 : w_ar w3 (n_v vs 0) 9 = w_ar ws (n_v vs 0) 9 := by rw [← ar_0_9_2]; show v_ad (w_fd w3 _ _) = v_ad (w_fd w2 _ _); rw [s3.2]
  have cr_0_9 := fdq_216 hD hth r0
  have ar_1_9_1 : w_ar w1 (n_v vs 1) 9 = w_ar ws (n_v vs 1) 9 := congrArg v_ad (s1.2 _ _).symm
  have ar_1_9_2 : w_ar w2 (n_v vs 1) 9 = w_ar ws (n_v vs 1) 9 := by rw [← ar_1_9_1]; show v_ad (w_fd w2 _ _) = v_ad (w_fd w1 _ _); rw [s2.2]
  have ar_1_9_3 : w_ar w3 (n_v vs 1) 9 = w_ar ws (n_v vs 1) 9 := by rw [← ar_1_9_2]; show v_ad (w_fd w3 _ _) = v_ad (w_fd w2 _ _); rw [s3.2]
  have cr_1_9 := fdq_76 hD hth r1
  have ar_2_7_1 : w_ar w1 (n_v vs 2) 7 = w_ar ws (n_v vs 2) 7 := congrArg v_ad (s1.2 _ _).symm
  have ar_2_7_2 : w_ar w2 (n_v vs 2) 7 = w_ar ws (n_v vs 2) 7 := by rw [← ar_2_7_1]; show v_ad (w_fd w2 _ _) = v_ad (w_fd w1 _ _); rw [s2.2]
  have ar_2_7_3 : w_ar w3 (n_v vs 2) 7 = w_ar ws (n_v vs 2) 7 := by rw [← ar_2_7_2]; show v_ad (w_fd w3 _ _) = v_ad (w_fd w2 _ _); rw [s3.2]
  have cr_2_7 := fdq_46 hD hth r2
  have ar_2_8_1 : w_ar w1 (n_v vs 2) 8 = w_ar ws (n_v vs 2) 8 := congrArg v_ad (s1.2 _ _).symm
  have ar_2_8_2 : w_ar w2 (n_v vs 2) 8 = w_ar ws (n_v vs 2) 8 := by rw [← ar_2_8_1]; show v_ad (w_fd w2 _ _) = v_ad (w_fd w1 _ _); rw [s2.2]
  have ar_2_8_3 : w_ar w3 (n_v vs 2) 8 = w_ar ws (n_v vs 2) 8 := by rw [← ar_2_8_2]; show v_ad (w_fd w3 _ _) = v_ad (w_fd w2 _ _); rw [s3.2]
  have cr_2_8 := fdq_47 hD hth r2
  have ad_22 : v_ad (n_v vs 22) = w_ar ws (n_v vs 0) 7 := congrArg v_ad f1
  have ad_16 : v_ad (n_v vs 16) = w_ar ws (n_v vs 0) 5 := congrArg v_ad f2
  have ad_10 : v_ad (n_v vs 10) = w_ar ws (n_v vs 0) 4 := congrArg v_ad f4
  have g5 : v_iv (n_v vs 9) = w_fi ws (n_v vs 2) 1 := congrArg v_iv f5
  simp only [ar_1_9_1, ar_2_7_1, ar_2_8_1, ad_16] at f21
  have h21 : v_iv (n_v vs 25) = w_ei w2 (w_ar ws (n_v vs 0) 5) (v_iv (n_v vs 7)) := f21
  simp only [ad_10] at f35
  have h35 : v_iv (n_v vs 14) = w_ei w3 (w_ar ws (n_v vs 0) 4) (v_iv (n_v vs 13)) := f35
  simp only [ar_1_9_3, ar_2_7_3, ar_2_8_3, ad_10] at f36 f37
  have h37 : v_iv (n_v vs 12) = w_ei w3 (w_ar ws (n_v vs 0) 4) (v_iv (n_v vs 11)) := f37
  simp only [ar_1_9_3, ar_2_7_3, ar_2_8_3, ar_0_4_3, ar_0_5_3, ar_0_7_3, ar_0_9_3] at f38 f40
  have fe_0_2_1 : w_fi ws (n_v vs 0) 2 = w_fi w1 (n_v vs 0) 2 := congrArg v_iv (s1.2 _ _)
  have fe_0_3_1 : w_fi ws (n_v vs 0) 3 = w_fi w1 (n_v vs 0) 3 := congrArg v_iv (s1.2 _ _)
  have fe_2_0_1 : w_fi ws (n_v vs 2) 0 = w_fi w1 (n_v vs 2) 0 := congrArg v_iv (s1.2 _ _)
  have fe_2_1_1 : w_fi ws (n_v vs 2) 1 = w_fi w1 (n_v vs 2) 1 := congrArg v_iv (s1.2 _ _)
  have fe_0_2_2 : w_fi w1 (n_v vs 0) 2 = w_fi w2 (n_v vs 0) 2 := congrArg v_iv (s2.2 _ _)
  have fe_0_3_2 : w_fi w1 (n_v vs 0) 3 = w_fi w2 (n_v vs 0) 3 := congrArg v_iv (s2.2 _ _)
  have fe_2_0_2 : w_fi w1 (n_v vs 2) 0 = w_fi w2 (n_v vs 2) 0 := congrArg v_iv (s2.2 _ _)
  have fe_2_1_2 : w_fi w1 (n_v vs 2) 1 = w_fi w2 (n_v vs 2) 1 := congrArg v_iv (s2.2 _ _)
  have fe_0_2_3 : w_fi w2 (n_v vs 0) 2 = w_fi w3 (n_v vs 0) 2 := congrArg v_iv (s3.2 _ _)
  have fe_0_3_3 : w_fi w2 (n_v vs 0) 3 = w_fi w3 (n_v vs 0) 3 := congrArg v_iv (s3.2 _ _)
  have fe_2_0_3 : w_fi w2 (n_v vs 2) 0 = w_fi w3 (n_v vs 2) 0 := congrArg v_iv (s3.2 _ _)
  have fe_2_1_3 : w_fi w2 (n_v vs 2) 1 = w_fi w3 (n_v vs 2) 1 := congrArg v_iv (s3.2 _ _)
  have hE_0_4_1 : ∀ j : Int, w_ei ws (w_ar ws (n_v vs 0) 4) j = w_ei w1 (w_ar ws (n_v vs 0) 4) j := el_kp s1.1 r28 cr_0_4 (by decide)
  have hE_0_4_2 : ∀ j : Int, w_ei w1 (w_ar ws (n_v vs 0) 4) j = w_ei w2 (w_ar ws (n_v vs 0) 4) j := el_kp s2.1 r22 cr_0_4 (by decide)
  have hE_0_4_3 : ∀ j : Int, w_ei w2 (w_ar ws (n_v vs 0) 4) j = w_ei w3 (w_ar ws (n_v vs 0) 4) j := el_kp s3.1 r15 cr_0_4 (by decide)
  have hE_0_5_1 : ∀ j : Int, w_ei ws (w_ar ws (n_v vs 0) 5) j = w_ei w1 (w_ar ws (n_v vs 0) 5) j := el_kp s1.1 r28 cr_0_5 (by decide)
  have hE_0_5_2 : ∀ j : Int, w_ei w1 (w_ar ws (n_v vs 0) 5) j = w_ei w2 (w_ar ws (n_v vs 0) 5) j := el_kp s2.1 r22 cr_0_5 (by decide)
  have hE_0_5_3 : ∀ j : Int, w_ei w2 (w_ar ws (n_v vs 0) 5) j = w_ei w3 (w_ar ws (n_v vs 0) 5) j := el_kp s3.1 r15 cr_0_5 (by decide)
  have hE_0_6_1 : ∀ j : Int, w_ei ws (w_ar ws (n_v vs 0) 6) j = w_ei w1 (w_ar ws (n_v vs 0) 6) j := el_kp s1.1 r28 cr_0_6 (by decide)
  have hE_0_6_2 : ∀ j : Int, w_ei w1 (w_ar ws (n_v vs 0) 6) j = w_ei w2 (w_ar ws (n_v vs 0) 6) j := el_kp s2.1 r22 cr_0_6 (by decide)
  have hE_0_7_1 : ∀ j : Int, w_ei ws (w_ar ws (n_v vs 0) 7) j = w_ei w1 (w_ar ws (n_v vs 0) 7) j := el_kp s1.1 r28 cr_0_7 (by decide)
  have hE_0_7_2 : ∀ j : Int, 0 ≤ j → (j = v_iv (n_v vs 5) → w_ei w1 (w_ar ws (n_v vs 0) 7) j = v_iv (n_v vs 27)) ∧ (j ≠ v_iv (n_v vs 5) → w_ei w1 (w_ar ws (n_v vs 0) 7) j = w_ei w2 (w_ar ws (n_v vs 0) 7) j) := fun j hj => ⟨fun h => by unfold w_ei; rw [s2.1, if_pos ⟨ad_22.symm, by rw [h]⟩], fun h => by unfold w_ei; rw [s2.1, if_neg (fun e => h (by have := e.2; omega))]⟩
  have hE_0_7_3 : ∀ j : Int, w_ei w2 (w_ar ws (n_v vs 0) 7) j = w_ei w3 (w_ar ws (n_v vs 0) 7) j := el_kp s3.1 r15 cr_0_7 (by decide)
  have hE_0_8_2 : ∀ j : Int, w_ei w1 (w_ar ws (n_v vs 0) 8) j = w_ei w2 (w_ar ws (n_v vs 0) 8) j := el_kp s2.1 r22 cr_0_8 (by decide)
  have hE_0_8_3 : ∀ j : Int, w_ei w2 (w_ar ws (n_v vs 0) 8) j = w_ei w3 (w_ar ws (n_v vs 0) 8) j := el_kp s3.1 r15 cr_0_8 (by decide)
  have hE_0_9_1 : ∀ j : Int, w_ei ws (w_ar ws (n_v vs 0) 9) j = w_ei w1 (w_ar ws (n_v vs 0) 9) j := el_kp s1.1 r28 cr_0_9 (by decide)
  have hE_0_9_2 : ∀ j : Int, w_ei w1 (w_ar ws (n_v vs 0) 9) j = w_ei w2 (w_ar ws (n_v vs 0) 9) j := el_kp s2.1 r22 cr_0_9 (by decide)
  have hE_0_9_3 : ∀ j : Int, w_ei w2 (w_ar ws (n_v vs 0) 9) j = w_ei w3 (w_ar ws (n_v vs 0) 9) j := el_kp s3.1 r15 cr_0_9 (by decide)
  have hE_1_9_1 : ∀ j : Int, w_ei ws (w_ar ws (n_v vs 1) 9) j = w_ei w1 (w_ar ws (n_v vs 1) 9) j := el_kp s1.1 r28 cr_1_9 (by decide)
  have hE_1_9_2 : ∀ j : Int, w_ei w1 (w_ar ws (n_v vs 1) 9) j = w_ei w2 (w_ar ws (n_v vs 1) 9) j := el_kp s2.1 r22 cr_1_9 (by decide)
  have hE_1_9_3 : ∀ j : Int, w_ei w2 (w_ar ws (n_v vs 1) 9) j = w_ei w3 (w_ar ws (n_v vs 1) 9) j := el_kp s3.1 r15 cr_1_9 (by decide)
  have hE_2_7_1 : ∀ j : Int, w_ei ws (w_ar ws (n_v vs 2) 7) j = w_ei w1 (w_ar ws (n_v vs 2) 7) j := el_kp s1.1 r28 cr_2_7 (by decide)
  have hE_2_7_2 : ∀ j : Int, w_ei w1 (w_ar ws (n_v vs 2) 7) j = w_ei w2 (w_ar ws (n_v vs 2) 7) j := el_kp s2.1 r22 cr_2_7 (by decide)
  have hE_2_7_3 : ∀ j : Int, w_ei w2 (w_ar ws (n_v vs 2) 7) j = w_ei w3 (w_ar ws (n_v vs 2) 7) j := el_kp s3.1 r15 cr_2_7 (by decide)
  have hE_2_8_1 : ∀ j : Int, w_ei ws (w_ar ws (n_v vs 2) 8) j = w_ei w1 (w_ar ws (n_v vs 2) 8) j := el_kp s1.1 r28 cr_2_8 (by decide)
  have hE_2_8_2 : ∀ j : Int, w_ei w1 (w_ar ws (n_v vs 2) 8) j = w_ei w2 (w_ar ws (n_v vs 2) 8) j := el_kp s2.1 r22 cr_2_8 (by decide)
  have hE_2_8_3 : ∀ j : Int, w_ei w2 (w_ar ws (n_v vs 2) 8) j = w_ei w3 (w_ar ws (n_v vs 2) 8) j := el_kp s3.1 r15 cr_2_8 (by decide)
  have kz_0_2 := fdq_77 hD hth r0
  have kz_0_3 := fdq_218 hD hth r0
  have kz_2_0 := fdq_21 hD hth r2
  have kz_2_1 := fdq_30 hD hth r2
  have nf0 : fc_1 PRD (20, [3, 8, 4, 6, 32, 31], [60, 4, 7, 667, 3, 2, 1000, 1001, 4, 5, 7, 9, 1007, 1008, 2009]) ws (vs) := by
    refine ⟨nf_in hl rfl, sgq_1094 ?_⟩
    · show MPM (w_fi ws (n_v vs 3) 3) (w_fi ws (n_v vs 3) 2) (w_fi ws (n_v vs 8) 0) (w_fi ws (n_v vs 8) 1) (w_ei ws (w_ar ws (n_v vs 3) 4)) (w_ei ws (w_ar ws (n_v vs 3) 5)) (w_ei ws (w_ar ws (n_v vs 3) 7)) (w_ei ws (w_ar ws (n_v vs 3) 9)) (w_ei ws (w_ar ws (n_v vs 8) 7)) (w_ei ws (w_ar ws (n_v vs 8) 8)) (w_ei ws (w_ar ws (n_v vs 4) 9)) (v_iv (n_v vs 6)) (v_iv (n_v vs 32)) (v_iv (n_v vs 31))
      simp only [q8, q4, q3]
      exact vc_La_makePieces_8_0 (v_iv (n_v vs 5)) (v_iv (n_v vs 6)) (v_iv (n_v vs 7)) (v_iv (n_v vs 9)) (v_iv (n_v vs 11)) (v_iv (n_v vs 12)) (v_iv (n_v vs 13)) (v_iv (n_v vs 14)) (v_iv (n_v vs 23)) (v_iv (n_v vs 24)) (v_iv (n_v vs 25)) (v_iv (n_v vs 26)) (v_iv (n_v vs 27)) (v_iv (n_v vs 31)) (v_iv (n_v vs 32)) (w_fi ws (n_v vs 2) 1) (w_ei ws (w_ar ws (n_v vs 2) 7)) (w_ei ws (w_ar ws (n_v vs 2) 8)) (w_ei ws (w_ar ws (n_v vs 1) 9)) (w_fi ws (n_v vs 0) 2) (w_ei w1 (w_ar ws (n_v vs 2) 7)) (w_ei w1 (w_ar ws (n_v vs 2) 8)) (w_ei w1 (w_ar ws (n_v vs 1) 9)) (w_fi w1 (n_v vs 0) 2) (w_ei w2 (w_ar ws (n_v vs 0) 5)) (w_ei w2 (w_ar ws (n_v vs 2) 7)) (w_ei w2 (w_ar ws (n_v vs 2) 8)) (w_ei w2 (w_ar ws (n_v vs 1) 9)) (w_ei w2 (w_ar ws (n_v vs 0) 4)) (w_ei w2 (w_ar ws (n_v vs 0) 7)) (w_ei w2 (w_ar ws (n_v vs 0) 9)) (w_fi w2 (n_v vs 0) 3) (w_fi w2 (n_v vs 0) 2) (w_fi w2 (n_v vs 2) 0) (w_fi w2 (n_v vs 2) 1) (w_ei w3 (w_ar ws (n_v vs 0) 5)) (w_ei w3 (w_ar ws (n_v vs 0) 4)) (w_ei w3 (w_ar ws (n_v vs 2) 7)) (w_ei w3 (w_ar ws (n_v vs 2) 8)) (w_ei w3 (w_ar ws (n_v vs 1) 9)) (w_ei w3 (w_ar ws (n_v vs 0) 7)) (w_ei w3 (w_ar ws (n_v vs 0) 9)) (w_fi w3 (n_v vs 0) 3) (w_fi w3 (n_v vs 0) 2) (w_fi w3 (n_v vs 2) 0) (w_fi w3 (n_v vs 2) 1) (w_fi ws (n_v vs 0) 3) (w_fi w1 (n_v vs 0) 3) (w_fi ws (n_v vs 2) 0) (w_fi w1 (n_v vs 2) 0) (w_fi w1 (n_v vs 2) 1) (w_ei ws (w_ar ws (n_v vs 0) 4)) (w_ei w1 (w_ar ws (n_v vs 0) 4)) (w_ei ws (w_ar ws (n_v vs 0) 5)) (w_ei w1 (w_ar ws (n_v vs 0) 5)) (w_ei ws (w_ar ws (n_v vs 0) 6)) (w_ei w1 (w_ar ws (n_v vs 0) 6)) (w_ei w2 (w_ar ws (n_v vs 0) 6)) (v_iv (n_v vs 21)) (w_ei ws (w_ar ws (n_v vs 0) 7)) (w_ei w1 (w_ar ws (n_v vs 0) 7)) (w_ei w1 (w_ar ws (n_v vs 0) 8)) (w_ei w2 (w_ar ws (n_v vs 0) 8)) (w_ei w3 (w_ar ws (n_v vs 0) 8)) (w_ei ws (w_ar ws (n_v vs 0) 9)) (w_ei w1 (w_ar ws (n_v vs 0) 9)) k5 k6 k7 k9 k11 k12 k13 k14 k24 k25 k26 k27 k31 k32 d0 d1 d4 d9 d10 d11 d20 d22 g5 f6 f7 f19 f20 h21 f22 f32 f33 f34 h35 f36 h37 f38 f40 fe_0_2_1 fe_0_3_1 fe_2_0_1 fe_2_1_1 fe_0_2_2 fe_0_3_2 fe_2_0_2 fe_2_1_2 fe_0_2_3 fe_0_3_3 fe_2_0_3 fe_2_1_3 hE_0_4_1 hE_0_4_2 hE_0_4_3 hE_0_5_1 hE_0_5_2 hE_0_5_3 hE_0_6_1 hE_0_6_2 hE_0_7_1 hE_0_7_2 hE_0_7_3 hE_0_8_2 hE_0_8_3 hE_0_9_1 hE_0_9_2 hE_0_9_3 hE_1_9_1 hE_1_9_2 hE_1_9_3 hE_2_7_1 hE_2_7_2 hE_2_7_3 hE_2_8_1 hE_2_8_2 hE_2_8_3 kz_0_2 kz_0_3 kz_2_0 kz_2_1
  refine ⟨(fun _ h => (by cases h)), [], trivial, ?_, (fun _ h => (by cases h))⟩
  rw [List.append_nil]
  exact List.forall_mem_cons.mpr ⟨⟨show (20 : Nat) < 100 from by decide, nf0⟩, (fun _ h => (by cases h))⟩
set_option maxHeartbeats 4000000 in
theorem vc_La_makePieces_9_0 (x5 : Int) (x6 : Int) (x7 : Int) (x9 : Int) (x11 : Int) (x12 : Int) (x13 : Int) (x14 : Int) (x23 : Int) (x25 : Int) (x29 : Int) (x30 : Int) (edges_0o2 : Int) (tail_0o2 : Int → Int) (head_0o2 : Int → Int) (turned_0o1 : Int → Int) (layerCount_0 : Int) (tail_1o2 : Int → Int) (head_1o2 : Int → Int) (turned_1o1 : Int → Int) (layerCount_1 : Int) (tail_2o2 : Int → Int) (head_2o2 : Int → Int) (turned_2o1 : Int → Int) (layerOf_2 : Int → Int) (firstJoint_2 : Int → Int) (pieceLower_2 : Int → Int) (pieceStart_2 : Int → Int) (items_2 : Int) (layerCount_2 : Int) (nodes_2o2 : Int) (edges_2o2 : Int) (firstJoint_3 : Int → Int) (layerOf_3 : Int → Int) (tail_3o2 : Int → Int) (head_3o2 : Int → Int) (turned_3o1 : Int → Int) (pieceLower_3 : Int → Int) (pieceStart_3 : Int → Int) (items_3 : Int) (layerCount_3 : Int) (nodes_3o2 : Int) (edges_3o2 : Int) (items_0 : Int) (items_1 : Int) (nodes_0o2 : Int) (nodes_1o2 : Int) (edges_1o2 : Int) (layerOf_0 : Int → Int) (layerOf_1 : Int → Int) (firstJoint_0 : Int → Int) (firstJoint_1 : Int → Int) (pieceUpper_0 : Int → Int) (pieceUpper_1 : Int → Int) (pieceUpper_2 : Int → Int) (x21 : Int) (pieceLower_0 : Int → Int) (pieceLower_1 : Int → Int) (pieceWeight_1 : Int → Int) (pieceWeight_2 : Int → Int) (pieceWeight_3 : Int → Int) (pieceStart_0 : Int → Int) (pieceStart_1 : Int → Int) (k5 : 0 ≤ x5 ∧ x5 ≤ 119) (k6 : 0 ≤ x6 ∧ x6 ≤ 22) (k7 : 0 ≤ x7 ∧ x7 ≤ 47) (k9 : 1 ≤ x9 ∧ x9 ≤ 48) (k11 : 0 ≤ x11 ∧ x11 ≤ 23) (k12 : 0 ≤ x12 ∧ x12 ≤ 22) (k13 : 0 ≤ x13 ∧ x13 ≤ 23) (k14 : 1 ≤ x14 ∧ x14 ≤ 23) (k25 : 0 ≤ x25 ∧ x25 ≤ 23) (k29 : 1 ≤ x29 ∧ x29 ≤ 120) (k30 : 1 ≤ x30 ∧ x30 ≤ 48) (d0 : x7 + 1 ≤ x30 ∧ x30 ≤ x7 + 1) (d1 : x9 + (-4294967296) ≤ x30 ∧ x30 ≤ x9 + 0) (d17 : x9 + (-4294967296) ≤ x7 ∧ x7 ≤ x9 + (-1)) (g5 : x9 = edges_0o2) (f6 : x30 = x7 + 1) (f7 : x29 = x5 + 1) (f21 : LOX (tail_2o2) (head_2o2) (turned_2o1) (x7) (x25)) (f33 : x6 < x14) (f34 : x12 ≤ x6) (h35 : x14 = layerOf_3 (x13)) (f36 : LOX (tail_3o2) (head_3o2) (turned_3o1) (x7) (x13)) (h37 : x12 = layerOf_3 (x11)) (f38 : UPX (tail_3o2) (head_3o2) (turned_3o1) (x7) (x11)) (f40 : MPM (items_3) (layerCount_3) (nodes_3o2) (edges_3o2) (layerOf_3) (firstJoint_3) (pieceLower_3) (pieceStart_3) (tail_3o2) (head_3o2) (turned_3o1) (x6) (x7) (x5)) (fe_0_2_1 : layerCount_0 = layerCount_1) (fe_0_3_1 : items_0 = items_1) (fe_2_0_1 : nodes_0o2 = nodes_1o2) (fe_2_1_1 : edges_0o2 = edges_1o2) (fe_0_2_2 : layerCount_1 = layerCount_2) (fe_0_3_2 : items_1 = items_2) (fe_2_0_2 : nodes_1o2 = nodes_2o2) (fe_2_1_2 : edges_1o2 = edges_2o2) (fe_0_2_3 : layerCount_2 = layerCount_3) (fe_0_3_3 : items_2 = items_3) (fe_2_0_3 : nodes_2o2 = nodes_3o2) (fe_2_1_3 : edges_2o2 = edges_3o2) (hE_0_4_1 : ∀ j : Int, layerOf_0 j = layerOf_1 j) (hE_0_4_2 : ∀ j : Int, layerOf_1 j = layerOf_2 j) (hE_0_4_3 : ∀ j : Int, layerOf_2 j = layerOf_3 j) (hE_0_5_1 : ∀ j : Int, firstJoint_0 j = firstJoint_1 j) (hE_0_5_2 : ∀ j : Int, firstJoint_1 j = firstJoint_2 j) (hE_0_5_3 : ∀ j : Int, firstJoint_2 j = firstJoint_3 j) (hE_0_6_1 : ∀ j : Int, pieceUpper_0 j = pieceUpper_1 j) (hE_0_6_2 : ∀ j : Int, pieceUpper_1 j = pieceUpper_2 j) (hE_0_7_1 : ∀ j : Int, pieceLower_0 j = pieceLower_1 j) (hE_0_7_2 : ∀ j : Int, 0 ≤ j → (j = x5 → pieceLower_1 j = x25) ∧ (j ≠ x5 → pieceLower_1 j = pieceLower_2 j)) (hE_0_7_3 : ∀ j : Int, pieceLower_2 j = pieceLower_3 j) (hE_0_8_2 : ∀ j : Int, pieceWeight_1 j = pieceWeight_2 j) (hE_0_8_3 : ∀ j : Int, pieceWeight_2 j = pieceWeight_3 j) (hE_0_9_1 : ∀ j : Int, pieceStart_0 j = pieceStart_1 j) (hE_0_9_2 : ∀ j : Int, pieceStart_1 j = pieceStart_2 j) (hE_0_9_3 : ∀ j : Int, pieceStart_2 j = pieceStart_3 j) (hE_1_9_1 : ∀ j : Int, turned_0o1 j = turned_1o1 j) (hE_1_9_2 : ∀ j : Int, turned_1o1 j = turned_2o1 j) (hE_1_9_3 : ∀ j : Int, turned_2o1 j = turned_3o1 j) (hE_2_7_1 : ∀ j : Int, tail_0o2 j = tail_1o2 j) (hE_2_7_2 : ∀ j : Int, tail_1o2 j = tail_2o2 j) (hE_2_7_3 : ∀ j : Int, tail_2o2 j = tail_3o2 j) (hE_2_8_1 : ∀ j : Int, head_0o2 j = head_1o2 j) (hE_2_8_2 : ∀ j : Int, head_1o2 j = head_2o2 j) (hE_2_8_3 : ∀ j : Int, head_2o2 j = head_3o2 j) (kz_0_2 : 0 ≤ layerCount_0 ∧ layerCount_0 ≤ 24) (kz_0_3 : 0 ≤ items_0 ∧ items_0 ≤ 72) (kz_2_0 : 0 ≤ nodes_0o2 ∧ nodes_0o2 ≤ 24) (kz_2_1 : 0 ≤ edges_0o2 ∧ edges_0o2 ≤ 48) : MPM (items_0) (layerCount_0) (nodes_0o2) (edges_0o2) (layerOf_0) (firstJoint_0) (pieceLower_0) (pieceStart_0) (tail_0o2) (head_0o2) (turned_0o1) (x6) (x30) (x29) := by
  subst fe_0_2_1
  subst fe_0_3_1
  subst fe_2_0_1
  subst fe_2_1_1
  subst fe_0_2_2
  subst fe_0_3_2
  subst fe_2_0_2
  subst fe_2_1_2
  subst fe_0_2_3
  subst fe_0_3_3
  subst fe_2_0_3
  subst fe_2_1_3
  have e_hE_0_4_1 := funext hE_0_4_1; subst e_hE_0_4_1
  have e_hE_0_4_2 := funext hE_0_4_2; subst e_hE_0_4_2
  have e_hE_0_4_3 := funext hE_0_4_3; subst e_hE_0_4_3
  have e_hE_0_5_1 := funext hE_0_5_1; subst e_hE_0_5_1
  have e_hE_0_5_2 := funext hE_0_5_2; subst e_hE_0_5_2
  have e_hE_0_5_3 := funext hE_0_5_3; subst e_hE_0_5_3
  have e_hE_0_6_1 := funext hE_0_6_1; subst e_hE_0_6_1
  have e_hE_0_6_2 := funext hE_0_6_2; subst e_hE_0_6_2
  have e_hE_0_7_1 := funext hE_0_7_1; subst e_hE_0_7_1
  have e_hE_0_7_3 := funext hE_0_7_3; subst e_hE_0_7_3
  have e_hE_0_8_2 := funext hE_0_8_2; subst e_hE_0_8_2
  have e_hE_0_8_3 := funext hE_0_8_3; subst e_hE_0_8_3
  have e_hE_0_9_1 := funext hE_0_9_1; subst e_hE_0_9_1
  have e_hE_0_9_2 := funext hE_0_9_2; subst e_hE_0_9_2
  have e_hE_0_9_3 := funext hE_0_9_3; subst e_hE_0_9_3
  have e_hE_1_9_1 := funext hE_1_9_1; subst e_hE_1_9_1
  have e_hE_1_9_2 := funext hE_1_9_2; subst e_hE_1_9_2
  have e_hE_1_9_3 := funext hE_1_9_3; subst e_hE_1_9_3
  have e_hE_2_7_1 := funext hE_2_7_1; subst e_hE_2_7_1
  have e_hE_2_7_2 := funext hE_2_7_2; subst e_hE_2_7_2
  have e_hE_2_7_3 := funext hE_2_7_3; subst e_hE_2_7_3
  have e_hE_2_8_1 := funext hE_2_8_1; subst e_hE_2_8_1
  have e_hE_2_8_2 := funext hE_2_8_2; subst e_hE_2_8_2
  have e_hE_2_8_3 := funext hE_2_8_3; subst e_hE_2_8_3
  first
    | (have q := mpi_end (‹MPL _ _ _ _ _ _ _ _ _ _ _ _ _›).1 (by omega); exact mpm_start (p := x6) (v := x5) ‹MPL _ _ _ _ _ _ _ _ _ _ _ _ _› (by assumption) rfl rfl (by omega) (by omega))
    | exact ⟨mpi_skip (a := x11) (b := x13) (tp := x12) (bt := x14) (‹MPM _ _ _ _ _ _ _ _ _ _ _ _ _ _›).1 (by omega) ‹UPX _ _ _ _ _› (by assumption) ‹LOX _ _ _ _ _› (by assumption) (by omega) (by omega), (‹MPM _ _ _ _ _ _ _ _ _ _ _ _ _ _›).2⟩
    | exact mpm_take (a := x11) (b := x13) (tp := x12) (bt := x14) (p := x5) (v := x27) ‹MPM _ _ _ _ _ _ _ _ _ _ _ _ _ _› (by omega) (by assumption) (by assumption) (by assumption) (by assumption) (by omega) (by omega) (by assumption) rfl (by have q := mpi_fj (a := x11) (b := x13) (tp := x12) (bt := x14) (f := x25) (‹MPM _ _ _ _ _ _ _ _ _ _ _ _ _ _›).1 (by omega) (by assumption) (by assumption) (by assumption) (by assumption) (by assumption); omega) (by omega) (by omega)
    | exact mpm_take (a := x11) (b := x13) (tp := x12) (bt := x14) (p := x5) (v := x25) ‹MPM _ _ _ _ _ _ _ _ _ _ _ _ _ _› (by omega) (by assumption) (by assumption) (by assumption) (by assumption) (by omega) (by omega) (by assumption) rfl (by exact mpm_lo ‹MPM _ _ _ _ _ _ _ _ _ _ _ _ _ _› (by omega) (by assumption)) (by omega) (by omega)
    | exact mpm_take (a := x11) (b := x13) (tp := x12) (bt := x14) (p := x5) (v := x23) ‹MPM _ _ _ _ _ _ _ _ _ _ _ _ _ _› (by omega) (by assumption) (by assumption) (by assumption) (by assumption) (by omega) (by omega) (by assumption) rfl (by have q := mpi_fj (a := x11) (b := x13) (tp := x12) (bt := x14) (f := x21) (‹MPM _ _ _ _ _ _ _ _ _ _ _ _ _ _›).1 (by omega) (by assumption) (by assumption) (by assumption) (by assumption) (by assumption); omega) (by omega) (by omega)
    | exact mpm_take (a := x11) (b := x13) (tp := x12) (bt := x14) (p := x5) (v := x20) ‹MPM _ _ _ _ _ _ _ _ _ _ _ _ _ _› (by omega) (by assumption) (by assumption) (by assumption) (by assumption) (by omega) (by omega) (by assumption) rfl (by exact mpm_lo ‹MPM _ _ _ _ _ _ _ _ _ _ _ _ _ _› (by omega) (by assumption)) (by omega) (by omega)
  
def o_La_makePieces_9 : or_T := (24, 31, [(0, (2, 0, 0, [4])), (1, (2, 0, 0, [2])), (2, (2, 0, 0, [3])), (5, (0, 0, 119, [])), (6, (0, 0, 22, [])), (7, (0, 0, 47, [])), (9, (0, 1, 48, [])), (11, (0, 0, 23, [])), (12, (0, 0, 22, [])), (13, (0, 0, 23, [])), (14, (0, 1, 23, [])), (15, (2, 0, 0, [64])), (22, (2, 0, 0, [65])), (25, (0, 0, 23, [])), (26, (2, 0, 0, [66])), (29, (0, 1, 120, [])), (30, (0, 1, 48, []))], [(9, [22, 3], [7]), (9, [16, 3], [5]), (9, [10, 3], [4]), (9, [9, 8], [1]), (6, [30, 7], [1]), (6, [29, 5], [1]), (24, [2, 8], []), (24, [1, 4], []), (24, [0, 3], []), (100, [26, 5, 28], []), (100, [22, 5, 25], []), (20, [8, 4, 7, 25], [60, 0, 3, 650, 7, 8, 1009]), (100, [15, 5, 21], []), (7, [6, 14], [2]), (7, [6, 12], [3]), (10, [14, 10, 13], []), (20, [8, 4, 7, 13], [60, 0, 3, 650, 7, 8, 1009]), (10, [12, 10, 11], []), (20, [8, 4, 7, 11], [60, 0, 3, 649, 7, 8, 1009]), (20, [3, 8, 4, 6, 7, 5], [60, 4, 7, 667, 3, 2, 1000, 1001, 4, 5, 7, 9, 1007, 1008, 2009])], [], [], [(20, [3, 8, 4, 6, 30, 29], [60, 4, 7, 667, 3, 2, 1000, 1001, 4, 5, 7, 9, 1007, 1008, 2009])], [], [(30, 7, 1, 1), (30, 9, -4294967296, 0), (29, 5, 1, 1), (7, 9, -4294967296, -1)])
theorem oo_La_makePieces_9 {kA : Nat → ClassId} : or_ok PRD kA GG o_La_makePieces_9 := by
  refine or_mk fun A ta ws vs hD hth hl => ?_
  intro t0 r0 t1 r1 t2 r2 t5 k5 t6 k6 t7 k7 t9 k9 t11 k11 t12 k12 t13 k13 t14 k14 t15 r15 t22 r22 t25 k25 t26 r26 t29 k29 t30 k30 d0 d1 d2 d17 f1 f2 f4 f5 f6 f7 f11 f13 f14 ta1 w1 le1 s1 ta2 w2 le2 s2 f21 ta3 w3 le3 s3 f33 f34 f35 f36 f37 f38 f40
  replace f1 := shm_198 f1
  replace f2 := shm_110 f2
  replace f4 := shm_108 f4
  replace f5 := shm_215 f5
  replace f6 := shm_4 f6
  replace f7 := shm_4 f7
  replace f11 := shm_5 f11
  replace f13 := shm_5 f13
  replace f14 := shm_5 f14
  have s1 : (∀ b j, w_el ws b j = if b = v_ad (n_v vs 26) ∧ j = (v_iv (n_v vs 5)).toNat then v_iv (n_v vs 28) else w_el w1 b j) ∧ ∀ b k, w_fd ws b k = w_fd w1 b k := s1.2
  have s2 : (∀ b j, w_el w1 b j = if b = v_ad (n_v vs 22) ∧ j = (v_iv (n_v vs 5)).toNat then v_iv (n_v vs 25) else w_el w2 b j) ∧ ∀ b k, w_fd w1 b k = w_fd w2 b k := s2.2
  replace f21 := shm_392 f21
  have s3 : (∀ b j, w_el w2 b j = if b = v_ad (n_v vs 15) ∧ j = (v_iv (n_v vs 5)).toNat then v_iv (n_v vs 21) else w_el w3 b j) ∧ ∀ b k, w_fd w2 b k = w_fd w3 b k := s3.2
  replace f33 := shm_6 f33
  replace f34 := shm_2 f34
  replace f35 := shm_107 f35
  replace f36 := shm_392 f36
  replace f37 := shm_107 f37
  replace f38 := shm_402 f38
  replace f40 := shm_1094 f40
  have q8 : n_v vs 8 = n_v vs 2 := f11.symm
  have q4 : n_v vs 4 = n_v vs 1 := f13.symm
  have q3 : n_v vs 3 = n_v vs 0 := f14.symm
  simp only [q3, q8, q4] at f1 f2 f4 f5 f21 f36 f38 f40
  have ar_0_4_1 : w_ar w1 (n_v vs 0) 4 = w_ar ws (n_v vs 0) 4 := congrArg v_ad (s1.2 _ _).symm
  have ar_0_4_2 : w_ar w2 (n_v vs 0) 4 = w_ar ws (n_v vs 0) 4 := by rw [← ar_0_4_1]; show v_ad (w_fd w2 _ _) = v_ad (w_fd w1 _ _); rw [s2.2]
  have ar_0_4_3 : w_ar w3 (n_v vs 0) 4 = w_ar ws (n_v vs 0) 4 := by rw [← ar_0_4_2]; show v_ad (w_fd w3 _ _) = v_ad (w_fd w2 _ _); rw [s3.2]
  have cr_0_4 := fdq_219 hD hth r0
  have ar_0_5_1 : w_ar w1 (n_v vs 0) 5 = w_ar ws (n_v vs 0) 5 := congrArg v_ad (s1.2 _ _).symm
  have ar_0_5_2 : w_ar w2 (n_v vs 0) 5 = w_ar ws (n_v vs 0) 5 := by rw [← ar_0_5_1]; show v_ad (w_fd w2 _ _) = v_ad (w_fd w1 _ _); rw [s2.2]
  have ar_0_5_3 : w_ar w3 (n_v vs 0) 5 = w_ar ws (n_v vs 0) 5 := by rw [← ar_0_5_2]; show v_ad (w_fd w3 _ _) = v_ad (w_fd w2 _ _); rw [s3.2]
  have cr_0_5 := fdq_248 hD hth r0
  have cr_0_6 := fdq_249 hD hth r0
  have ar_0_7_1 : w_ar w1 (n_v vs 0) 7 = w_ar ws (n_v vs 0) 7 := congrArg v_ad (s1.2 _ _).symm
  have ar_0_7_2 : w_ar w2 (n_v vs 0) 7 = w_ar ws (n_v vs 0) 7 := by rw [← ar_0_7_1]; show v_ad (w_fd w2 _ _) = v_ad (w_fd w1 _ _); rw [s2.2]
  have ar_0_7_3 : w_ar w3 (n_v vs 0) 7 = w_ar ws (n_v vs 0) 7 := by rw [← ar_0_7_2]; show v_ad (w_fd w3 _ _) = v_ad (w_fd w2 _ _); rw [s3.2]
  have cr_0_7 := fdq_215 hD hth r0
  have cr_0_8 := fdq_250 hD hth r0
  have ar_0_9_1 : w_ar w1 (n_v vs 0) 9 = w_ar ws (n_v vs 0) 9 := congrArg v_ad (s1.2 _ _).symm
  have ar_0_9_2 : w_ar w2 (n_v vs 0) 9 = w_ar ws (n_v vs 0) 9 := by rw [← ar_0_9_1]; show v_ad (w_fd w2 _ _) = v_ad (w_fd w1 _ _); rw [s2.2]
  have ar_0_9_3 : w_ar w3 (n_v vs 0) 9 = w_ar ws (n_v vs 0) 9 := by rw [← ar_0_9_2]; show v_ad (w_fd w3 _ _) = v_ad (w_fd w2 _ _); rw [s3.2]
  have cr_0_9 := fdq_216 hD hth r0
  have ar_1_9_1 : w_ar w1 (n_v vs 1) 9 = w_ar ws (n_v vs 1) 9 := congrArg v_ad (s1.2 _ _).symm
  have ar_1_9_2 : w_ar w2 (n_v vs 1) 9 = w_ar ws (n_v vs 1) 9 := by rw [← ar_1_9_1]; show v_ad (w_fd w2 _ _) = v_ad (w_fd w1 _ _); rw [s2.2]
  have ar_1_9_3 : w_ar w3 (n_v vs 1) 9 = w_ar ws (n_v vs 1) 9 := by rw [← ar_1_9_2]; show v_ad (w_fd w3 _ _) = v_ad (w_fd w2 _ _); rw [s3.2]
  have cr_1_9 := fdq_76 hD hth r1
  have ar_2_7_1 : w_ar w1 (n_v vs 2) 7 = w_ar ws (n_v vs 2) 7 := congrArg v_ad (s1.2 _ _).symm
  have ar_2_7_2 : w_ar w2 (n_v vs 2) 7 = w_ar ws (n_v vs 2) 7 := by rw [← ar_2_7_1]; show v_ad (w_fd w2 _ _) = v_ad (w_fd w1 _ _); rw [s2.2]
  have ar_2_7_3 : w_ar w3 (n_v vs 2) 7 = w_ar ws (n_v vs 2) 7 := by rw [← ar_2_7_2]; show v_ad (w_fd w3 _ _) = v_ad (w_fd w2 _ _); rw [s3.2]
  have cr_2_7 := fdq_46 hD hth r2
  have ar_2_8_1 : w_ar w1 (n_v vs 2) 8 = w_ar ws (n_v vs 2) 8 := congrArg v_ad (s1.2 _ _).symm
  have ar_2_8_2 : w_ar w2 (n_v vs 2) 8 = w_ar ws (n_v vs 2) 8 := by rw [← ar_2_8_1]; show v_ad (w_fd w2 _ _) = v_ad (w_fd w1 _ _); rw [s2.2]
  have ar_2_8_3 : w_ar w3 (n_v vs 2) 8 = w_ar ws (n_v vs 2) 8 := by rw [← ar_2_8_2]; show v_ad (w_fd w3 _ _) = v_ad (w_fd w2 _ _); rw [s3.2]
  have cr_2_8 := fdq_47 hD hth r2
  have ad_22 : v_ad (n_v vs 22) = w_ar ws (n_v vs 0) 7 := congrArg v_ad f1
  have ad_16 : v_ad (n_v vs 16) = w_ar ws (n_v vs 0) 5 := congrArg v_ad f2
  have ad_10 : v_ad (n_v vs 10) = w_ar ws (n_v vs 0) 4 := congrArg v_ad f4
  have g5 : v_iv (n_v vs 9) = w_fi ws (n_v vs 2) 1 := congrArg v_iv f5
  simp only [ar_1_9_1, ar_2_7_1, ar_2_8_1, ar_1_9_2, ar_2_7_2, ar_2_8_2, ar_0_4_2, ar_0_5_2, ar_0_7_2, ar_0_9_2, ad_16] at f21
  simp only [ad_10] at f35
  have h35 : v_iv (n_v vs 14) = w_ei w3 (w_ar ws (n_v vs 0) 4) (v_iv (n_v vs 13)) := f35
  simp only [ar_1_9_3, ar_2_7_3, ar_2_8_3, ad_10] at f36 f37
  have h37 : v_iv (n_v vs 12) = w_ei w3 (w_ar ws (n_v vs 0) 4) (v_iv (n_v vs 11)) := f37
  simp only [ar_1_9_3, ar_2_7_3, ar_2_8_3, ar_0_4_3, ar_0_5_3, ar_0_7_3, ar_0_9_3] at f38 f40
  have fe_0_2_1 : w_fi ws (n_v vs 0) 2 = w_fi w1 (n_v vs 0) 2 := congrArg v_iv (s1.2 _ _)
  have fe_0_3_1 : w_fi ws (n_v vs 0) 3 = w_fi w1 (n_v vs 0) 3 := congrArg v_iv (s1.2 _ _)
  have fe_2_0_1 : w_fi ws (n_v vs 2) 0 = w_fi w1 (n_v vs 2) 0 := congrArg v_iv (s1.2 _ _)
  have fe_2_1_1 : w_fi ws (n_v vs 2) 1 = w_fi w1 (n_v vs 2) 1 := congrArg v_iv (s1.2 _ _)
  have fe_0_2_2 : w_fi w1 (n_v vs 0) 2 = w_fi w2 (n_v vs 0) 2 := congrArg v_iv (s2.2 _ _)
  have fe_0_3_2 : w_fi w1 (n_v vs 0) 3 = w_fi w2 (n_v vs 0) 3 := congrArg v_iv (s2.2 _ _)
  have fe_2_0_2 : w_fi w1 (n_v vs 2) 0 = w_fi w2 (n_v vs 2) 0 := congrArg v_iv (s2.2 _ _)
  have fe_2_1_2 : w_fi w1 (n_v vs 2) 1 = w_fi w2 (n_v vs 2) 1 := congrArg v_iv (s2.2 _ _)
  have fe_0_2_3 : w_fi w2 (n_v vs 0) 2 = w_fi w3 (n_v vs 0) 2 := congrArg v_iv (s3.2 _ _)
  have fe_0_3_3 : w_fi w2 (n_v vs 0) 3 = w_fi w3 (n_v vs 0) 3 := congrArg v_iv (s3.2 _ _)
  have fe_2_0_3 : w_fi w2 (n_v vs 2) 0 = w_fi w3 (n_v vs 2) 0 := congrArg v_iv (s3.2 _ _)
  have fe_2_1_3 : w_fi w2 (n_v vs 2) 1 = w_fi w3 (n_v vs 2) 1 := congrArg v_iv (s3.2 _ _)
  have hE_0_4_1 : ∀ j : Int, w_ei ws (w_ar ws (n_v vs 0) 4) j = w_ei w1 (w_ar ws (n_v vs 0) 4) j := el_kp s1.1 r26 cr_0_4 (by decide)
  have hE_0_4_2 : ∀ j : Int, w_ei w1 (w_ar ws (n_v vs 0) 4) j = w_ei w2 (w_ar ws (n_v vs 0) 4) j := el_kp s2.1 r22 cr_0_4 (by decide)
  have hE_0_4_3 : ∀ j : Int, w_ei w2 (w_ar ws (n_v vs 0) 4) j = w_ei w3 (w_ar ws (n_v vs 0) 4) j := el_kp s3.1 r15 cr_0_4 (by decide)
  have hE_0_5_1 : ∀ j : Int, w_ei ws (w_ar ws (n_v vs 0) 5) j = w_ei w1 (w_ar ws (n_v vs 0) 5) j := el_kp s1.1 r26 cr_0_5 (by decide)
  have hE_0_5_2 : ∀ j : Int, w_ei w1 (w_ar ws (n_v vs 0) 5) j = w_ei w2 (w_ar ws (n_v vs 0) 5) j := el_kp s2.1 r22 cr_0_5 (by decide)
  have hE_0_5_3 : ∀ j : Int, w_ei w2 (w_ar ws (n_v vs 0) 5) j = w_ei w3 (w_ar ws (n_v vs 0) 5) j := el_kp s3.1 r15 cr_0_5 (by decide)
  have hE_0_6_1 : ∀ j : Int, w_ei ws (w_ar ws (n_v vs 0) 6) j = w_ei w1 (w_ar ws (n_v vs 0) 6) j := el_kp s1.1 r26 cr_0_6 (by decide)
  have hE_0_6_2 : ∀ j : Int, w_ei w1 (w_ar ws (n_v vs 0) 6) j = w_ei w2 (w_ar ws (n_v vs 0) 6) j := el_kp s2.1 r22 cr_0_6 (by decide)
  have hE_0_7_1 : ∀ j : Int, w_ei ws (w_ar ws (n_v vs 0) 7) j = w_ei w1 (w_ar ws (n_v vs 0) 7) j := el_kp s1.1 r26 cr_0_7 (by decide)
  have hE_0_7_2 : ∀ j : Int, 0 ≤ j → (j = v_iv (n_v vs 5) → w_ei w1 (w_ar ws (n_v vs 0) 7) j = v_iv (n_v vs 25)) ∧ (j ≠ v_iv (n_v vs 5) → w_ei w1 (w_ar ws (n_v vs 0) 7) j = w_ei w2 (w_ar ws (n_v vs 0) 7) j) := fun j hj => ⟨fun h => by unfold w_ei; rw [s2.1, if_pos ⟨ad_22.symm, by rw [h]⟩], fun h => by unfold w_ei; rw [s2.1, if_neg (fun e => h (by have := e.2; omega))]⟩
  have hE_0_7_3 : ∀ j : Int, w_ei w2 (w_ar ws (n_v vs 0) 7) j = w_ei w3 (w_ar ws (n_v vs 0) 7) j := el_kp s3.1 r15 cr_0_7 (by decide)
  have hE_0_8_2 : ∀ j : Int, w_ei w1 (w_ar ws (n_v vs 0) 8) j = w_ei w2 (w_ar ws (n_v vs 0) 8) j := el_kp s2.1 r22 cr_0_8 (by decide)
  have hE_0_8_3 : ∀ j : Int, w_ei w2 (w_ar ws (n_v vs 0) 8) j = w_ei w3 (w_ar ws (n_v vs 0) 8) j := el_kp s3.1 r15 cr_0_8 (by decide)
  have hE_0_9_1 : ∀ j : Int, w_ei ws (w_ar ws (n_v vs 0) 9) j = w_ei w1 (w_ar ws (n_v vs 0) 9) j := el_kp s1.1 r26 cr_0_9 (by decide)
  have hE_0_9_2 : ∀ j : Int, w_ei w1 (w_ar ws (n_v vs 0) 9) j = w_ei w2 (w_ar ws (n_v vs 0) 9) j := el_kp s2.1 r22 cr_0_9 (by decide)
  have hE_0_9_3 : ∀ j : Int, w_ei w2 (w_ar ws (n_v vs 0) 9) j = w_ei w3 (w_ar ws (n_v vs 0) 9) j := el_kp s3.1 r15 cr_0_9 (by decide)
  have hE_1_9_1 : ∀ j : Int, w_ei ws (w_ar ws (n_v vs 1) 9) j = w_ei w1 (w_ar ws (n_v vs 1) 9) j := el_kp s1.1 r26 cr_1_9 (by decide)
  have hE_1_9_2 : ∀ j : Int, w_ei w1 (w_ar ws (n_v vs 1) 9) j = w_ei w2 (w_ar ws (n_v vs 1) 9) j := el_kp s2.1 r22 cr_1_9 (by decide)
  have hE_1_9_3 : ∀ j : Int, w_ei w2 (w_ar ws (n_v vs 1) 9) j = w_ei w3 (w_ar ws (n_v vs 1) 9) j := el_kp s3.1 r15 cr_1_9 (by decide)
  have hE_2_7_1 : ∀ j : Int, w_ei ws (w_ar ws (n_v vs 2) 7) j = w_ei w1 (w_ar ws (n_v vs 2) 7) j := el_kp s1.1 r26 cr_2_7 (by decide)
  have hE_2_7_2 : ∀ j : Int, w_ei w1 (w_ar ws (n_v vs 2) 7) j = w_ei w2 (w_ar ws (n_v vs 2) 7) j := el_kp s2.1 r22 cr_2_7 (by decide)
  have hE_2_7_3 : ∀ j : Int, w_ei w2 (w_ar ws (n_v vs 2) 7) j = w_ei w3 (w_ar ws (n_v vs 2) 7) j := el_kp s3.1 r15 cr_2_7 (by decide)
  have hE_2_8_1 : ∀ j : Int, w_ei ws (w_ar ws (n_v vs 2) 8) j = w_ei w1 (w_ar ws (n_v vs 2) 8) j := el_kp s1.1 r26 cr_2_8 (by decide)
  have hE_2_8_2 : ∀ j : Int, w_ei w1 (w_ar ws (n_v vs 2) 8) j = w_ei w2 (w_ar ws (n_v vs 2) 8) j := el_kp s2.1 r22 cr_2_8 (by decide)
  have hE_2_8_3 : ∀ j : Int, w_ei w2 (w_ar ws (n_v vs 2) 8) j = w_ei w3 (w_ar ws (n_v vs 2) 8) j := el_kp s3.1 r15 cr_2_8 (by decide)
  have kz_0_2 := fdq_77 hD hth r0
  have kz_0_3 := fdq_218 hD hth r0
  have kz_2_0 := fdq_21 hD hth r2
  have kz_2_1 := fdq_30 hD hth r2
  have nf0 : fc_1 PRD (20, [3, 8, 4, 6, 30, 29], [60, 4, 7, 667, 3, 2, 1000, 1001, 4, 5, 7, 9, 1007, 1008, 2009]) ws (vs) := by
    refine ⟨nf_in hl rfl, sgq_1094 ?_⟩
    · show MPM (w_fi ws (n_v vs 3) 3) (w_fi ws (n_v vs 3) 2) (w_fi ws (n_v vs 8) 0) (w_fi ws (n_v vs 8) 1) (w_ei ws (w_ar ws (n_v vs 3) 4)) (w_ei ws (w_ar ws (n_v vs 3) 5)) (w_ei ws (w_ar ws (n_v vs 3) 7)) (w_ei ws (w_ar ws (n_v vs 3) 9)) (w_ei ws (w_ar ws (n_v vs 8) 7)) (w_ei ws (w_ar ws (n_v vs 8) 8)) (w_ei ws (w_ar ws (n_v vs 4) 9)) (v_iv (n_v vs 6)) (v_iv (n_v vs 30)) (v_iv (n_v vs 29))
      simp only [q8, q4, q3]
      exact vc_La_makePieces_9_0 (v_iv (n_v vs 5)) (v_iv (n_v vs 6)) (v_iv (n_v vs 7)) (v_iv (n_v vs 9)) (v_iv (n_v vs 11)) (v_iv (n_v vs 12)) (v_iv (n_v vs 13)) (v_iv (n_v vs 14)) (v_iv (n_v vs 23)) (v_iv (n_v vs 25)) (v_iv (n_v vs 29)) (v_iv (n_v vs 30)) (w_fi ws (n_v vs 2) 1) (w_ei ws (w_ar ws (n_v vs 2) 7)) (w_ei ws (w_ar ws (n_v vs 2) 8)) (w_ei ws (w_ar ws (n_v vs 1) 9)) (w_fi ws (n_v vs 0) 2) (w_ei w1 (w_ar ws (n_v vs 2) 7)) (w_ei w1 (w_ar ws (n_v vs 2) 8)) (w_ei w1 (w_ar ws (n_v vs 1) 9)) (w_fi w1 (n_v vs 0) 2) (w_ei w2 (w_ar ws (n_v vs 2) 7)) (w_ei w2 (w_ar ws (n_v vs 2) 8)) (w_ei w2 (w_ar ws (n_v vs 1) 9)) (w_ei w2 (w_ar ws (n_v vs 0) 4)) (w_ei w2 (w_ar ws (n_v vs 0) 5)) (w_ei w2 (w_ar ws (n_v vs 0) 7)) (w_ei w2 (w_ar ws (n_v vs 0) 9)) (w_fi w2 (n_v vs 0) 3) (w_fi w2 (n_v vs 0) 2) (w_fi w2 (n_v vs 2) 0) (w_fi w2 (n_v vs 2) 1) (w_ei w3 (w_ar ws (n_v vs 0) 5)) (w_ei w3 (w_ar ws (n_v vs 0) 4)) (w_ei w3 (w_ar ws (n_v vs 2) 7)) (w_ei w3 (w_ar ws (n_v vs 2) 8)) (w_ei w3 (w_ar ws (n_v vs 1) 9)) (w_ei w3 (w_ar ws (n_v vs 0) 7)) (w_ei w3 (w_ar ws (n_v vs 0) 9)) (w_fi w3 (n_v vs 0) 3) (w_fi w3 (n_v vs 0) 2) (w_fi w3 (n_v vs 2) 0) (w_fi w3 (n_v vs 2) 1) (w_fi ws (n_v vs 0) 3) (w_fi w1 (n_v vs 0) 3) (w_fi ws (n_v vs 2) 0) (w_fi w1 (n_v vs 2) 0) (w_fi w1 (n_v vs 2) 1) (w_ei ws (w_ar ws (n_v vs 0) 4)) (w_ei w1 (w_ar ws (n_v vs 0) 4)) (w_ei ws (w_ar ws (n_v vs 0) 5)) (w_ei w1 (w_ar ws (n_v vs 0) 5)) (w_ei ws (w_ar ws (n_v vs 0) 6)) (w_ei w1 (w_ar ws (n_v vs 0) 6)) (w_ei w2 (w_ar ws (n_v vs 0) 6)) (v_iv (n_v vs 21)) (w_ei ws (w_ar ws (n_v vs 0) 7)) (w_ei w1 (w_ar ws (n_v vs 0) 7)) (w_ei w1 (w_ar ws (n_v vs 0) 8)) (w_ei w2 (w_ar ws (n_v vs 0) 8)) (w_ei w3 (w_ar ws (n_v vs 0) 8)) (w_ei ws (w_ar ws (n_v vs 0) 9)) (w_ei w1 (w_ar ws (n_v vs 0) 9)) k5 k6 k7 k9 k11 k12 k13 k14 k25 k29 k30 d0 d1 d17 g5 f6 f7 f21 f33 f34 h35 f36 h37 f38 f40 fe_0_2_1 fe_0_3_1 fe_2_0_1 fe_2_1_1 fe_0_2_2 fe_0_3_2 fe_2_0_2 fe_2_1_2 fe_0_2_3 fe_0_3_3 fe_2_0_3 fe_2_1_3 hE_0_4_1 hE_0_4_2 hE_0_4_3 hE_0_5_1 hE_0_5_2 hE_0_5_3 hE_0_6_1 hE_0_6_2 hE_0_7_1 hE_0_7_2 hE_0_7_3 hE_0_8_2 hE_0_8_3 hE_0_9_1 hE_0_9_2 hE_0_9_3 hE_1_9_1 hE_1_9_2 hE_1_9_3 hE_2_7_1 hE_2_7_2 hE_2_7_3 hE_2_8_1 hE_2_8_2 hE_2_8_3 kz_0_2 kz_0_3 kz_2_0 kz_2_1
  refine ⟨(fun _ h => (by cases h)), [], trivial, ?_, (fun _ h => (by cases h))⟩
  rw [List.append_nil]
  exact List.forall_mem_cons.mpr ⟨⟨show (20 : Nat) < 100 from by decide, nf0⟩, (fun _ h => (by cases h))⟩
set_option maxHeartbeats 4000000 in
theorem vc_La_makePieces_10_r0 (x5 : Int) (x6 : Int) (x7 : Int) (x9 : Int) (x11 : Int) (x12 : Int) (x13 : Int) (x14 : Int) (tail_0o2 : Int → Int) (head_0o2 : Int → Int) (turned_0o1 : Int → Int) (layerOf_0 : Int → Int) (edges_0o2 : Int) (firstJoint_0 : Int → Int) (pieceLower_0 : Int → Int) (pieceStart_0 : Int → Int) (items_0 : Int) (layerCount_0 : Int) (nodes_0o2 : Int) (k5 : 0 ≤ x5 ∧ x5 ≤ 120) (k6 : 0 ≤ x6 ∧ x6 ≤ 22) (k7 : 0 ≤ x7 ∧ x7 ≤ 47) (k9 : 1 ≤ x9 ∧ x9 ≤ 48) (k11 : 0 ≤ x11 ∧ x11 ≤ 23) (k12 : 0 ≤ x12 ∧ x12 ≤ 22) (k13 : 0 ≤ x13 ∧ x13 ≤ 23) (k14 : 1 ≤ x14 ∧ x14 ≤ 23) (d3 : x9 + (-4294967296) ≤ x7 ∧ x7 ≤ x9 + (-1)) (f2 : x6 < x14) (f3 : x12 ≤ x6) (h4 : x14 = layerOf_0 (x13)) (f5 : LOX (tail_0o2) (head_0o2) (turned_0o1) (x7) (x13)) (h7 : x12 = layerOf_0 (x11)) (f8 : UPX (tail_0o2) (head_0o2) (turned_0o1) (x7) (x11)) (g10 : x9 = edges_0o2) (f11 : MPM (items_0) (layerCount_0) (nodes_0o2) (edges_0o2) (layerOf_0) (firstJoint_0) (pieceLower_0) (pieceStart_0) (tail_0o2) (head_0o2) (turned_0o1) (x6) (x7) (x5)) (kz_0_2 : 0 ≤ layerCount_0 ∧ layerCount_0 ≤ 24) (kz_0_3 : 0 ≤ items_0 ∧ items_0 ≤ 72) (kz_2_0 : 0 ≤ nodes_0o2 ∧ nodes_0o2 ≤ 24) (kz_2_1 : 0 ≤ edges_0o2 ∧ edges_0o2 ≤ 48) : 0 ≤ x5 ∧ x5 ≤ 119 := by
  first
    | omega
    | (have q := mpi_room (a := x11) (b := x13) (tp := x12) (bt := x14) (‹MPM _ _ _ _ _ _ _ _ _ _ _ _ _ _›).1 (by omega) (by omega) (by assumption) (by assumption) (by assumption) (by assumption) (by omega) (by omega); omega)
    | (have q := mpi_fj (a := x11) (b := x13) (tp := x12) (bt := x14) (f := x17) (‹MPM _ _ _ _ _ _ _ _ _ _ _ _ _ _›).1 (by omega) (by assumption) (by assumption) (by assumption) (by assumption) (by assumption); omega)
    | (have q := mpi_fj (a := x11) (b := x13) (tp := x12) (bt := x14) (f := x25) (‹MPM _ _ _ _ _ _ _ _ _ _ _ _ _ _›).1 (by omega) (by assumption) (by assumption) (by assumption) (by assumption) (by assumption); omega)
    | (have q := mpi_fj (a := x11) (b := x13) (tp := x12) (bt := x14) (f := x21) (‹MPM _ _ _ _ _ _ _ _ _ _ _ _ _ _›).1 (by omega) (by assumption) (by assumption) (by assumption) (by assumption) (by assumption); omega)
    | (have q := mpi_end (‹MPL _ _ _ _ _ _ _ _ _ _ _ _ _›).1 (by omega); omega)
  
def o_La_makePieces_10 : or_T := (114, 17, [(0, (2, 0, 0, [4])), (1, (2, 0, 0, [2])), (2, (2, 0, 0, [3])), (3, (2, 0, 0, [4])), (4, (2, 0, 0, [2])), (5, (0, 0, 120, [])), (6, (0, 0, 22, [])), (7, (0, 0, 47, [])), (8, (2, 0, 0, [3])), (9, (0, 1, 48, [])), (10, (2, 0, 0, [62])), (11, (0, 0, 23, [])), (12, (0, 0, 22, [])), (13, (0, 0, 23, [])), (14, (0, 1, 23, [])), (16, (0, 0, 23, []))], [(20, [8, 4, 7, 16], [60, 0, 3, 649, 7, 8, 1009]), (7, [6, 12], [0]), (7, [6, 14], [2]), (7, [6, 12], [3]), (10, [14, 10, 13], []), (20, [8, 4, 7, 13], [60, 0, 3, 650, 7, 8, 1009]), (9, [10, 3], [4]), (10, [12, 10, 11], []), (20, [8, 4, 7, 11], [60, 0, 3, 649, 7, 8, 1009]), (7, [7, 9], [2]), (9, [9, 8], [1]), (20, [3, 8, 4, 6, 7, 5], [60, 4, 7, 667, 3, 2, 1000, 1001, 4, 5, 7, 9, 1007, 1008, 2009]), (24, [2, 8], []), (20, [3], [50, 1, 0, 2, 0, 2, 0, 1, 2, 0, 2]), (24, [1, 4], []), (24, [0, 3], [])], [(5, (0, 0, 119, []))], [], [], [], [(6, 12, 0, 0), (6, 14, -4294967296, -1), (6, 12, 0, 4294967296), (7, 9, -4294967296, -1)])
theorem oo_La_makePieces_10 {kA : Nat → ClassId} : or_ok PRD kA GG o_La_makePieces_10 := by
  refine or_mk fun A ta ws vs hD hth hl => ?_
  intro t0 r0 t1 r1 t2 r2 t3 r3 t4 r4 t5 k5 t6 k6 t7 k7 t8 r8 t9 k9 t10 r10 t11 k11 t12 k12 t13 k13 t14 k14 t16 k16 d0 d1 d2 d3 f0 f1 f2 f3 f4 f5 f6 f7 f8 f9 f10 f11 f12 f13 f14 f15
  replace f4 := shm_107 f4
  replace f5 := shm_392 f5
  replace f6 := shm_108 f6
  replace f7 := shm_107 f7
  replace f8 := shm_402 f8
  replace f10 := shm_215 f10
  replace f11 := shm_1094 f11
  replace f12 := shm_5 f12
  replace f14 := shm_5 f14
  replace f15 := shm_5 f15
  have q8 : n_v vs 8 = n_v vs 2 := f12.symm
  have q4 : n_v vs 4 = n_v vs 1 := f14.symm
  have q3 : n_v vs 3 = n_v vs 0 := f15.symm
  simp only [q8, q4, q3] at f5 f6 f8 f10 f11
  have ad_10 : v_ad (n_v vs 10) = w_ar ws (n_v vs 0) 4 := congrArg v_ad f6
  simp only [ad_10] at f4
  have h4 : v_iv (n_v vs 14) = w_ei ws (w_ar ws (n_v vs 0) 4) (v_iv (n_v vs 13)) := f4
  simp only [ad_10] at f7
  have h7 : v_iv (n_v vs 12) = w_ei ws (w_ar ws (n_v vs 0) 4) (v_iv (n_v vs 11)) := f7
  have g10 : v_iv (n_v vs 9) = w_fi ws (n_v vs 2) 1 := congrArg v_iv f10
  have kz_0_2 := fdq_77 hD hth r0
  have kz_0_3 := fdq_218 hD hth r0
  have kz_2_0 := fdq_21 hD hth r2
  have kz_2_1 := fdq_30 hD hth r2
  have hrf0 : 0 ≤ v_iv (n_v vs 5) ∧ v_iv (n_v vs 5) ≤ 119 := vc_La_makePieces_10_r0 (v_iv (n_v vs 5)) (v_iv (n_v vs 6)) (v_iv (n_v vs 7)) (v_iv (n_v vs 9)) (v_iv (n_v vs 11)) (v_iv (n_v vs 12)) (v_iv (n_v vs 13)) (v_iv (n_v vs 14)) (w_ei ws (w_ar ws (n_v vs 2) 7)) (w_ei ws (w_ar ws (n_v vs 2) 8)) (w_ei ws (w_ar ws (n_v vs 1) 9)) (w_ei ws (w_ar ws (n_v vs 0) 4)) (w_fi ws (n_v vs 2) 1) (w_ei ws (w_ar ws (n_v vs 0) 5)) (w_ei ws (w_ar ws (n_v vs 0) 7)) (w_ei ws (w_ar ws (n_v vs 0) 9)) (w_fi ws (n_v vs 0) 3) (w_fi ws (n_v vs 0) 2) (w_fi ws (n_v vs 2) 0) k5 k6 k7 k9 k11 k12 k13 k14 d3 (shm_6 f2) (shm_2 f3) h4 f5 h7 f8 g10 f11 kz_0_2 kz_0_3 kz_2_0 kz_2_1
  have rf5 : tv_ok ta (0, 0, 119, []) (n_v vs 5) := tv_in t5 (by first | omega | grind) (by first | omega | grind)
  refine ⟨List.forall_mem_cons.mpr ⟨rf5, (fun _ h => (by cases h))⟩, [], trivial, ?_, (fun _ h => (by cases h))⟩
  rw [List.append_nil]
  exact (fun _ h => (by cases h))
set_option maxHeartbeats 4000000 in
theorem vc_La_makePieces_11_r0 (x5 : Int) (x6 : Int) (x7 : Int) (x9 : Int) (x11 : Int) (x12 : Int) (x13 : Int) (x14 : Int) (x19 : Int) (x21 : Int) (x22 : Int) (x23 : Int) (edges_0o2 : Int) (firstJoint_0 : Int → Int) (tail_0o2 : Int → Int) (head_0o2 : Int → Int) (turned_0o1 : Int → Int) (layerOf_0 : Int → Int) (pieceLower_0 : Int → Int) (pieceStart_0 : Int → Int) (items_0 : Int) (layerCount_0 : Int) (nodes_0o2 : Int) (tail_1o2 : Int → Int) (head_1o2 : Int → Int) (turned_1o1 : Int → Int) (layerOf_1 : Int → Int) (firstJoint_1 : Int → Int) (pieceLower_1 : Int → Int) (pieceStart_1 : Int → Int) (items_1 : Int) (layerCount_1 : Int) (nodes_1o2 : Int) (edges_1o2 : Int) (k5 : 0 ≤ x5 ∧ x5 ≤ 119) (k6 : 0 ≤ x6 ∧ x6 ≤ 22) (k7 : 0 ≤ x7 ∧ x7 ≤ 47) (k9 : 1 ≤ x9 ∧ x9 ≤ 48) (k11 : 0 ≤ x11 ∧ x11 ≤ 23) (k12 : 0 ≤ x12 ∧ x12 ≤ 22) (k13 : 0 ≤ x13 ∧ x13 ≤ 23) (k14 : 1 ≤ x14 ∧ x14 ≤ 23) (k19 : 1 ≤ x19 ∧ x19 ≤ 23) (k21 : 0 ≤ x21 ∧ x21 ≤ 72) (k22 : 0 ≤ x22 ∧ x22 ≤ 94) (k23 : 0 ≤ x23 ∧ x23 ≤ 72) (d7 : x6 + 1 ≤ x19 ∧ x19 ≤ x6 + 1) (d8 : x12 + 1 ≤ x19 ∧ x19 ≤ x12 + 1) (d9 : x14 + (-4294967296) ≤ x19 ∧ x19 ≤ x14 + 0) (d12 : x14 + (-4294967296) ≤ x6 ∧ x6 ≤ x14 + (-1)) (d14 : x9 + (-4294967296) ≤ x7 ∧ x7 ≤ x9 + (-1)) (g2 : x9 = edges_0o2) (f3 : x23 = x22 - x12) (f4 : x22 = x21 + x6) (h5 : x21 = firstJoint_0 (x7)) (f7 : x19 ≠ x14) (h23 : x14 = layerOf_1 (x13)) (f24 : LOX (tail_1o2) (head_1o2) (turned_1o1) (x7) (x13)) (h25 : x12 = layerOf_1 (x11)) (f26 : UPX (tail_1o2) (head_1o2) (turned_1o1) (x7) (x11)) (f28 : MPM (items_1) (layerCount_1) (nodes_1o2) (edges_1o2) (layerOf_1) (firstJoint_1) (pieceLower_1) (pieceStart_1) (tail_1o2) (head_1o2) (turned_1o1) (x6) (x7) (x5)) (fe_0_2_1 : layerCount_0 = layerCount_1) (fe_0_3_1 : items_0 = items_1) (fe_2_0_1 : nodes_0o2 = nodes_1o2) (fe_2_1_1 : edges_0o2 = edges_1o2) (hE_0_4_1 : ∀ j : Int, layerOf_0 j = layerOf_1 j) (hE_0_5_1 : ∀ j : Int, firstJoint_0 j = firstJoint_1 j) (hE_0_7_1 : ∀ j : Int, pieceLower_0 j = pieceLower_1 j) (hE_0_9_1 : ∀ j : Int, pieceStart_0 j = pieceStart_1 j) (hE_1_9_1 : ∀ j : Int, turned_0o1 j = turned_1o1 j) (hE_2_7_1 : ∀ j : Int, tail_0o2 j = tail_1o2 j) (hE_2_8_1 : ∀ j : Int, head_0o2 j = head_1o2 j) (kz_0_2 : 0 ≤ layerCount_0 ∧ layerCount_0 ≤ 24) (kz_0_3 : 0 ≤ items_0 ∧ items_0 ≤ 72) (kz_2_0 : 0 ≤ nodes_0o2 ∧ nodes_0o2 ≤ 24) (kz_2_1 : 0 ≤ edges_0o2 ∧ edges_0o2 ≤ 48) : 0 ≤ x23 ∧ x23 ≤ 71 := by
  subst fe_0_2_1
  subst fe_0_3_1
  subst fe_2_0_1
  subst fe_2_1_1
  have e_hE_0_4_1 := funext hE_0_4_1; subst e_hE_0_4_1
  have e_hE_0_5_1 := funext hE_0_5_1; subst e_hE_0_5_1
  have e_hE_0_7_1 := funext hE_0_7_1; subst e_hE_0_7_1
  have e_hE_0_9_1 := funext hE_0_9_1; subst e_hE_0_9_1
  have e_hE_1_9_1 := funext hE_1_9_1; subst e_hE_1_9_1
  have e_hE_2_7_1 := funext hE_2_7_1; subst e_hE_2_7_1
  have e_hE_2_8_1 := funext hE_2_8_1; subst e_hE_2_8_1
  first
    | omega
    | (have q := mpi_room (a := x11) (b := x13) (tp := x12) (bt := x14) (‹MPM _ _ _ _ _ _ _ _ _ _ _ _ _ _›).1 (by omega) (by omega) (by assumption) (by assumption) (by assumption) (by assumption) (by omega) (by omega); omega)
    | (have q := mpi_fj (a := x11) (b := x13) (tp := x12) (bt := x14) (f := x17) (‹MPM _ _ _ _ _ _ _ _ _ _ _ _ _ _›).1 (by omega) (by assumption) (by assumption) (by assumption) (by assumption) (by assumption); omega)
    | (have q := mpi_fj (a := x11) (b := x13) (tp := x12) (bt := x14) (f := x25) (‹MPM _ _ _ _ _ _ _ _ _ _ _ _ _ _›).1 (by omega) (by assumption) (by assumption) (by assumption) (by assumption) (by assumption); omega)
    | (have q := mpi_fj (a := x11) (b := x13) (tp := x12) (bt := x14) (f := x21) (‹MPM _ _ _ _ _ _ _ _ _ _ _ _ _ _›).1 (by omega) (by assumption) (by assumption) (by assumption) (by assumption) (by assumption); omega)
    | (have q := mpi_end (‹MPL _ _ _ _ _ _ _ _ _ _ _ _ _›).1 (by omega); omega)
  
def o_La_makePieces_11 : or_T := (150, 24, [(0, (2, 0, 0, [4])), (1, (2, 0, 0, [2])), (2, (2, 0, 0, [3])), (3, (2, 0, 0, [4])), (4, (2, 0, 0, [2])), (5, (0, 0, 119, [])), (6, (0, 0, 22, [])), (7, (0, 0, 47, [])), (8, (2, 0, 0, [3])), (9, (0, 1, 48, [])), (10, (2, 0, 0, [62])), (11, (0, 0, 23, [])), (12, (0, 0, 22, [])), (13, (0, 0, 23, [])), (14, (0, 1, 23, [])), (15, (2, 0, 0, [64])), (16, (0, 0, 23, [])), (17, (2, 0, 0, [65])), (18, (0, 1, 1, [])), (19, (0, 1, 23, [])), (20, (2, 0, 0, [63])), (21, (0, 0, 72, [])), (22, (0, 0, 94, [])), (23, (0, 0, 72, []))], [(9, [15, 3], [6]), (9, [10, 3], [4]), (9, [9, 8], [1]), (2, [23, 22, 12], []), (1, [22, 21, 6], []), (10, [21, 20, 7], []), (9, [20, 3], [5]), (7, [19, 14], [1]), (1, [19, 6, 18], []), (9, [17, 3], [7]), (20, [8, 4, 7, 16], [60, 0, 3, 649, 7, 8, 1009]), (20, [8, 4, 7, 13], [60, 0, 3, 650, 7, 8, 1009]), (20, [8, 4, 7, 11], [60, 0, 3, 649, 7, 8, 1009]), (20, [3, 8, 4, 6, 7, 5], [60, 4, 7, 667, 3, 2, 1000, 1001, 4, 5, 7, 9, 1007, 1008, 2009]), (24, [2, 8], []), (20, [3], [50, 1, 0, 2, 0, 2, 0, 1, 2, 0, 2]), (24, [1, 4], []), (24, [0, 3], []), (100, [15, 5, 16], []), (20, [8, 4, 7, 16], [60, 0, 3, 649, 7, 8, 1009]), (7, [6, 12], [0]), (7, [6, 14], [2]), (7, [6, 12], [3]), (10, [14, 10, 13], []), (20, [8, 4, 7, 13], [60, 0, 3, 650, 7, 8, 1009]), (10, [12, 10, 11], []), (20, [8, 4, 7, 11], [60, 0, 3, 649, 7, 8, 1009]), (7, [7, 9], [2]), (20, [3, 8, 4, 6, 7, 5], [60, 4, 7, 667, 3, 2, 1000, 1001, 4, 5, 7, 9, 1007, 1008, 2009]), (20, [3], [50, 1, 0, 2, 0, 2, 0, 1, 2, 0, 2])], [(23, (0, 0, 71, []))], [], [], [], [(23, 22, -22, 0), (23, 21, -22, 22), (22, 6, 0, 72), (22, 12, 0, 72), (22, 14, -4294967296, 71), (22, 12, 0, 4294967296), (22, 21, 0, 22), (19, 6, 1, 1), (19, 12, 1, 1), (19, 14, -4294967296, 0), (19, 12, 1, 4294967296), (6, 12, 0, 0), (6, 14, -4294967296, -1), (6, 12, 0, 4294967296), (7, 9, -4294967296, -1)])
theorem oo_La_makePieces_11 {kA : Nat → ClassId} : or_ok PRD kA GG o_La_makePieces_11 := by
  refine or_mk fun A ta ws vs hD hth hl => ?_
  intro t0 r0 t1 r1 t2 r2 t3 r3 t4 r4 t5 k5 t6 k6 t7 k7 t8 r8 t9 k9 t10 r10 t11 k11 t12 k12 t13 k13 t14 k14 t15 r15 t16 k16 t17 r17 t18 k18 t19 k19 t20 r20 t21 k21 t22 k22 t23 k23 d0 d1 d2 d3 d4 d5 d6 d7 d8 d9 d10 d11 d12 d13 d14 f0 f1 f2 f3 f4 f5 f6 f7 f8 f9 f10 f11 f12 f13 f14 f15 f16 f17 ta1 w1 le1 s1 f19 f20 f21 f22 f23 f24 f25 f26 f27 f28 f29
  replace f1 := shm_108 f1
  replace f2 := shm_215 f2
  replace f5 := shm_107 f5
  replace f6 := shm_110 f6
  replace f14 := shm_5 f14
  replace f16 := shm_5 f16
  replace f17 := shm_5 f17
  have s1 : (∀ b j, w_el ws b j = if b = v_ad (n_v vs 15) ∧ j = (v_iv (n_v vs 5)).toNat then v_iv (n_v vs 16) else w_el w1 b j) ∧ ∀ b k, w_fd ws b k = w_fd w1 b k := s1.2
  replace f23 := shm_107 f23
  replace f24 := shm_392 f24
  replace f25 := shm_107 f25
  replace f26 := shm_402 f26
  replace f28 := shm_1094 f28
  have q8 : n_v vs 8 = n_v vs 2 := f14.symm
  have q4 : n_v vs 4 = n_v vs 1 := f16.symm
  have q3 : n_v vs 3 = n_v vs 0 := f17.symm
  simp only [q3, q8, q4] at f1 f2 f6 f24 f26 f28
  have ar_0_4_1 : w_ar w1 (n_v vs 0) 4 = w_ar ws (n_v vs 0) 4 := congrArg v_ad (s1.2 _ _).symm
  have cr_0_4 := fdq_219 hD hth r0
  have ar_0_5_1 : w_ar w1 (n_v vs 0) 5 = w_ar ws (n_v vs 0) 5 := congrArg v_ad (s1.2 _ _).symm
  have cr_0_5 := fdq_248 hD hth r0
  have ar_0_7_1 : w_ar w1 (n_v vs 0) 7 = w_ar ws (n_v vs 0) 7 := congrArg v_ad (s1.2 _ _).symm
  have cr_0_7 := fdq_215 hD hth r0
  have ar_0_9_1 : w_ar w1 (n_v vs 0) 9 = w_ar ws (n_v vs 0) 9 := congrArg v_ad (s1.2 _ _).symm
  have cr_0_9 := fdq_216 hD hth r0
  have ar_1_9_1 : w_ar w1 (n_v vs 1) 9 = w_ar ws (n_v vs 1) 9 := congrArg v_ad (s1.2 _ _).symm
  have cr_1_9 := fdq_76 hD hth r1
  have ar_2_7_1 : w_ar w1 (n_v vs 2) 7 = w_ar ws (n_v vs 2) 7 := congrArg v_ad (s1.2 _ _).symm
  have cr_2_7 := fdq_46 hD hth r2
  have ar_2_8_1 : w_ar w1 (n_v vs 2) 8 = w_ar ws (n_v vs 2) 8 := congrArg v_ad (s1.2 _ _).symm
  have cr_2_8 := fdq_47 hD hth r2
  have ad_10 : v_ad (n_v vs 10) = w_ar ws (n_v vs 0) 4 := congrArg v_ad f1
  have ad_20 : v_ad (n_v vs 20) = w_ar ws (n_v vs 0) 5 := congrArg v_ad f6
  have g2 : v_iv (n_v vs 9) = w_fi ws (n_v vs 2) 1 := congrArg v_iv f2
  simp only [ad_20] at f5
  have h5 : v_iv (n_v vs 21) = w_ei ws (w_ar ws (n_v vs 0) 5) (v_iv (n_v vs 7)) := f5
  simp only [ar_1_9_1, ar_2_7_1, ar_2_8_1, ad_10] at f23
  have h23 : v_iv (n_v vs 14) = w_ei w1 (w_ar ws (n_v vs 0) 4) (v_iv (n_v vs 13)) := f23
  simp only [ar_1_9_1, ar_2_7_1, ar_2_8_1, ad_10] at f24 f25
  have h25 : v_iv (n_v vs 12) = w_ei w1 (w_ar ws (n_v vs 0) 4) (v_iv (n_v vs 11)) := f25
  simp only [ar_1_9_1, ar_2_7_1, ar_2_8_1, ar_0_4_1, ar_0_5_1, ar_0_7_1, ar_0_9_1] at f26 f28
  have fe_0_2_1 : w_fi ws (n_v vs 0) 2 = w_fi w1 (n_v vs 0) 2 := congrArg v_iv (s1.2 _ _)
  have fe_0_3_1 : w_fi ws (n_v vs 0) 3 = w_fi w1 (n_v vs 0) 3 := congrArg v_iv (s1.2 _ _)
  have fe_2_0_1 : w_fi ws (n_v vs 2) 0 = w_fi w1 (n_v vs 2) 0 := congrArg v_iv (s1.2 _ _)
  have fe_2_1_1 : w_fi ws (n_v vs 2) 1 = w_fi w1 (n_v vs 2) 1 := congrArg v_iv (s1.2 _ _)
  have hE_0_4_1 : ∀ j : Int, w_ei ws (w_ar ws (n_v vs 0) 4) j = w_ei w1 (w_ar ws (n_v vs 0) 4) j := el_kp s1.1 r15 cr_0_4 (by decide)
  have hE_0_5_1 : ∀ j : Int, w_ei ws (w_ar ws (n_v vs 0) 5) j = w_ei w1 (w_ar ws (n_v vs 0) 5) j := el_kp s1.1 r15 cr_0_5 (by decide)
  have hE_0_7_1 : ∀ j : Int, w_ei ws (w_ar ws (n_v vs 0) 7) j = w_ei w1 (w_ar ws (n_v vs 0) 7) j := el_kp s1.1 r15 cr_0_7 (by decide)
  have hE_0_9_1 : ∀ j : Int, w_ei ws (w_ar ws (n_v vs 0) 9) j = w_ei w1 (w_ar ws (n_v vs 0) 9) j := el_kp s1.1 r15 cr_0_9 (by decide)
  have hE_1_9_1 : ∀ j : Int, w_ei ws (w_ar ws (n_v vs 1) 9) j = w_ei w1 (w_ar ws (n_v vs 1) 9) j := el_kp s1.1 r15 cr_1_9 (by decide)
  have hE_2_7_1 : ∀ j : Int, w_ei ws (w_ar ws (n_v vs 2) 7) j = w_ei w1 (w_ar ws (n_v vs 2) 7) j := el_kp s1.1 r15 cr_2_7 (by decide)
  have hE_2_8_1 : ∀ j : Int, w_ei ws (w_ar ws (n_v vs 2) 8) j = w_ei w1 (w_ar ws (n_v vs 2) 8) j := el_kp s1.1 r15 cr_2_8 (by decide)
  have kz_0_2 := fdq_77 hD hth r0
  have kz_0_3 := fdq_218 hD hth r0
  have kz_2_0 := fdq_21 hD hth r2
  have kz_2_1 := fdq_30 hD hth r2
  have hrf0 : 0 ≤ v_iv (n_v vs 23) ∧ v_iv (n_v vs 23) ≤ 71 := vc_La_makePieces_11_r0 (v_iv (n_v vs 5)) (v_iv (n_v vs 6)) (v_iv (n_v vs 7)) (v_iv (n_v vs 9)) (v_iv (n_v vs 11)) (v_iv (n_v vs 12)) (v_iv (n_v vs 13)) (v_iv (n_v vs 14)) (v_iv (n_v vs 19)) (v_iv (n_v vs 21)) (v_iv (n_v vs 22)) (v_iv (n_v vs 23)) (w_fi ws (n_v vs 2) 1) (w_ei ws (w_ar ws (n_v vs 0) 5)) (w_ei ws (w_ar ws (n_v vs 2) 7)) (w_ei ws (w_ar ws (n_v vs 2) 8)) (w_ei ws (w_ar ws (n_v vs 1) 9)) (w_ei ws (w_ar ws (n_v vs 0) 4)) (w_ei ws (w_ar ws (n_v vs 0) 7)) (w_ei ws (w_ar ws (n_v vs 0) 9)) (w_fi ws (n_v vs 0) 3) (w_fi ws (n_v vs 0) 2) (w_fi ws (n_v vs 2) 0) (w_ei w1 (w_ar ws (n_v vs 2) 7)) (w_ei w1 (w_ar ws (n_v vs 2) 8)) (w_ei w1 (w_ar ws (n_v vs 1) 9)) (w_ei w1 (w_ar ws (n_v vs 0) 4)) (w_ei w1 (w_ar ws (n_v vs 0) 5)) (w_ei w1 (w_ar ws (n_v vs 0) 7)) (w_ei w1 (w_ar ws (n_v vs 0) 9)) (w_fi w1 (n_v vs 0) 3) (w_fi w1 (n_v vs 0) 2) (w_fi w1 (n_v vs 2) 0) (w_fi w1 (n_v vs 2) 1) k5 k6 k7 k9 k11 k12 k13 k14 k19 k21 k22 k23 d7 d8 d9 d12 d14 g2 (shm_14 f3) (shm_12 f4) h5 (shm_40 f7) h23 f24 h25 f26 f28 fe_0_2_1 fe_0_3_1 fe_2_0_1 fe_2_1_1 hE_0_4_1 hE_0_5_1 hE_0_7_1 hE_0_9_1 hE_1_9_1 hE_2_7_1 hE_2_8_1 kz_0_2 kz_0_3 kz_2_0 kz_2_1
  have rf23 : tv_ok ta (0, 0, 71, []) (n_v vs 23) := tv_in t23 (by first | omega | grind) (by first | omega | grind)
  refine ⟨List.forall_mem_cons.mpr ⟨rf23, (fun _ h => (by cases h))⟩, [], trivial, ?_, (fun _ h => (by cases h))⟩
  rw [List.append_nil]
  exact (fun _ h => (by cases h))
set_option maxHeartbeats 4000000 in
theorem vc_La_makePieces_12_0 (x5 : Int) (x6 : Int) (x7 : Int) (x9 : Int) (x11 : Int) (x12 : Int) (x13 : Int) (x14 : Int) (x19 : Int) (x21 : Int) (x22 : Int) (x23 : Int) (x27 : Int) (x28 : Int) (edges_0o2 : Int) (tail_0o2 : Int → Int) (head_0o2 : Int → Int) (turned_0o1 : Int → Int) (layerCount_0 : Int) (tail_1o2 : Int → Int) (head_1o2 : Int → Int) (turned_1o1 : Int → Int) (layerCount_1 : Int) (firstJoint_2 : Int → Int) (tail_2o2 : Int → Int) (head_2o2 : Int → Int) (turned_2o1 : Int → Int) (layerOf_2 : Int → Int) (pieceLower_2 : Int → Int) (pieceStart_2 : Int → Int) (items_2 : Int) (layerCount_2 : Int) (nodes_2o2 : Int) (edges_2o2 : Int) (tail_3o2 : Int → Int) (head_3o2 : Int → Int) (turned_3o1 : Int → Int) (layerOf_3 : Int → Int) (firstJoint_3 : Int → Int) (pieceLower_3 : Int → Int) (pieceStart_3 : Int → Int) (items_3 : Int) (layerCount_3 : Int) (nodes_3o2 : Int) (edges_3o2 : Int) (items_0 : Int) (items_1 : Int) (nodes_0o2 : Int) (nodes_1o2 : Int) (edges_1o2 : Int) (layerOf_0 : Int → Int) (layerOf_1 : Int → Int) (firstJoint_0 : Int → Int) (firstJoint_1 : Int → Int) (pieceUpper_0 : Int → Int) (pieceUpper_1 : Int → Int) (pieceUpper_2 : Int → Int) (pieceLower_0 : Int → Int) (pieceLower_1 : Int → Int) (pieceWeight_1 : Int → Int) (pieceWeight_2 : Int → Int) (pieceWeight_3 : Int → Int) (pieceStart_0 : Int → Int) (pieceStart_1 : Int → Int) (k5 : 0 ≤ x5 ∧ x5 ≤ 119) (k6 : 0 ≤ x6 ∧ x6 ≤ 22) (k7 : 0 ≤ x7 ∧ x7 ≤ 47) (k9 : 1 ≤ x9 ∧ x9 ≤ 48) (k11 : 0 ≤ x11 ∧ x11 ≤ 23) (k12 : 0 ≤ x12 ∧ x12 ≤ 22) (k13 : 0 ≤ x13 ∧ x13 ≤ 23) (k14 : 1 ≤ x14 ∧ x14 ≤ 23) (k19 : 1 ≤ x19 ∧ x19 ≤ 23) (k21 : 0 ≤ x21 ∧ x21 ≤ 72) (k22 : 0 ≤ x22 ∧ x22 ≤ 94) (k23 : 0 ≤ x23 ∧ x23 ≤ 71) (k27 : 1 ≤ x27 ∧ x27 ≤ 120) (k28 : 1 ≤ x28 ∧ x28 ≤ 48) (d0 : x7 + 1 ≤ x28 ∧ x28 ≤ x7 + 1) (d1 : x9 + (-4294967296) ≤ x28 ∧ x28 ≤ x9 + 0) (d7 : x14 + (-4294967296) ≤ x22 ∧ x22 ≤ x14 + 71) (d10 : x6 + 1 ≤ x19 ∧ x19 ≤ x6 + 1) (d11 : x12 + 1 ≤ x19 ∧ x19 ≤ x12 + 1) (d12 : x14 + (-4294967296) ≤ x19 ∧ x19 ≤ x14 + 0) (d15 : x14 + (-4294967296) ≤ x6 ∧ x6 ≤ x14 + (-1)) (d17 : x9 + (-4294967296) ≤ x7 ∧ x7 ≤ x9 + (-1)) (g5 : x9 = edges_0o2) (f6 : x28 = x7 + 1) (f7 : x27 = x5 + 1) (f21 : x23 = x22 - x12) (f22 : x22 = x21 + x6) (h23 : x21 = firstJoint_2 (x7)) (f24 : x19 ≠ x14) (f34 : x6 < x14) (f35 : x12 ≤ x6) (h36 : x14 = layerOf_3 (x13)) (f37 : LOX (tail_3o2) (head_3o2) (turned_3o1) (x7) (x13)) (h38 : x12 = layerOf_3 (x11)) (f39 : UPX (tail_3o2) (head_3o2) (turned_3o1) (x7) (x11)) (f41 : MPM (items_3) (layerCount_3) (nodes_3o2) (edges_3o2) (layerOf_3) (firstJoint_3) (pieceLower_3) (pieceStart_3) (tail_3o2) (head_3o2) (turned_3o1) (x6) (x7) (x5)) (fe_0_2_1 : layerCount_0 = layerCount_1) (fe_0_3_1 : items_0 = items_1) (fe_2_0_1 : nodes_0o2 = nodes_1o2) (fe_2_1_1 : edges_0o2 = edges_1o2) (fe_0_2_2 : layerCount_1 = layerCount_2) (fe_0_3_2 : items_1 = items_2) (fe_2_0_2 : nodes_1o2 = nodes_2o2) (fe_2_1_2 : edges_1o2 = edges_2o2) (fe_0_2_3 : layerCount_2 = layerCount_3) (fe_0_3_3 : items_2 = items_3) (fe_2_0_3 : nodes_2o2 = nodes_3o2) (fe_2_1_3 : edges_2o2 = edges_3o2) (hE_0_4_1 : ∀ j : Int, layerOf_0 j = layerOf_1 j) (hE_0_4_2 : ∀ j : Int, layerOf_1 j = layerOf_2 j) (hE_0_4_3 : ∀ j : Int, layerOf_2 j = layerOf_3 j) (hE_0_5_1 : ∀ j : Int, firstJoint_0 j = firstJoint_1 j) (hE_0_5_2 : ∀ j : Int, firstJoint_1 j = firstJoint_2 j) (hE_0_5_3 : ∀ j : Int, firstJoint_2 j = firstJoint_3 j) (hE_0_6_1 : ∀ j : Int, pieceUpper_0 j = pieceUpper_1 j) (hE_0_6_2 : ∀ j : Int, pieceUpper_1 j = pieceUpper_2 j) (hE_0_7_1 : ∀ j : Int, pieceLower_0 j = pieceLower_1 j) (hE_0_7_2 : ∀ j : Int, 0 ≤ j → (j = x5 → pieceLower_1 j = x23) ∧ (j ≠ x5 → pieceLower_1 j = pieceLower_2 j)) (hE_0_7_3 : ∀ j : Int, pieceLower_2 j = pieceLower_3 j) (hE_0_8_2 : ∀ j : Int, pieceWeight_1 j = pieceWeight_2 j) (hE_0_8_3 : ∀ j : Int, pieceWeight_2 j = pieceWeight_3 j) (hE_0_9_1 : ∀ j : Int, pieceStart_0 j = pieceStart_1 j) (hE_0_9_2 : ∀ j : Int, pieceStart_1 j = pieceStart_2 j) (hE_0_9_3 : ∀ j : Int, pieceStart_2 j = pieceStart_3 j) (hE_1_9_1 : ∀ j : Int, turned_0o1 j = turned_1o1 j) (hE_1_9_2 : ∀ j : Int, turned_1o1 j = turned_2o1 j) (hE_1_9_3 : ∀ j : Int, turned_2o1 j = turned_3o1 j) (hE_2_7_1 : ∀ j : Int, tail_0o2 j = tail_1o2 j) (hE_2_7_2 : ∀ j : Int, tail_1o2 j = tail_2o2 j) (hE_2_7_3 : ∀ j : Int, tail_2o2 j = tail_3o2 j) (hE_2_8_1 : ∀ j : Int, head_0o2 j = head_1o2 j) (hE_2_8_2 : ∀ j : Int, head_1o2 j = head_2o2 j) (hE_2_8_3 : ∀ j : Int, head_2o2 j = head_3o2 j) (kz_0_2 : 0 ≤ layerCount_0 ∧ layerCount_0 ≤ 24) (kz_0_3 : 0 ≤ items_0 ∧ items_0 ≤ 72) (kz_2_0 : 0 ≤ nodes_0o2 ∧ nodes_0o2 ≤ 24) (kz_2_1 : 0 ≤ edges_0o2 ∧ edges_0o2 ≤ 48) : MPM (items_0) (layerCount_0) (nodes_0o2) (edges_0o2) (layerOf_0) (firstJoint_0) (pieceLower_0) (pieceStart_0) (tail_0o2) (head_0o2) (turned_0o1) (x6) (x28) (x27) := by
  subst fe_0_2_1
  subst fe_0_3_1
  subst fe_2_0_1
  subst fe_2_1_1
  subst fe_0_2_2
  subst fe_0_3_2
  subst fe_2_0_2
  subst fe_2_1_2
  subst fe_0_2_3
  subst fe_0_3_3
  subst fe_2_0_3
  subst fe_2_1_3
  have e_hE_0_4_1 := funext hE_0_4_1; subst e_hE_0_4_1
  have e_hE_0_4_2 := funext hE_0_4_2; subst e_hE_0_4_2
  have e_hE_0_4_3 := funext hE_0_4_3; subst e_hE_0_4_3
  have e_hE_0_5_1 := funext hE_0_5_1; subst e_hE_0_5_1
  have e_hE_0_5_2 := funext hE_0_5_2; subst e_hE_0_5_2
  have e_hE_0_5_3 := funext hE_0_5_3; subst e_hE_0_5_3
  have e_hE_0_6_1 := funext hE_0_6_1; subst e_hE_0_6_1
  have e_hE_0_6_2 := funext hE_0_6_2; subst e_hE_0_6_2
  have e_hE_0_7_1 := funext hE_0_7_1; subst e_hE_0_7_1
  have e_hE_0_7_3 := funext hE_0_7_3; subst e_hE_0_7_3
  have e_hE_0_8_2 := funext hE_0_8_2; subst e_hE_0_8_2
  have e_hE_0_8_3 := funext hE_0_8_3; subst e_hE_0_8_3
  have e_hE_0_9_1 := funext hE_0_9_1; subst e_hE_0_9_1
  have e_hE_0_9_2 := funext hE_0_9_2; subst e_hE_0_9_2
  have e_hE_0_9_3 := funext hE_0_9_3; subst e_hE_0_9_3
  have e_hE_1_9_1 := funext hE_1_9_1; subst e_hE_1_9_1
  have e_hE_1_9_2 := funext hE_1_9_2; subst e_hE_1_9_2
  have e_hE_1_9_3 := funext hE_1_9_3; subst e_hE_1_9_3
  have e_hE_2_7_1 := funext hE_2_7_1; subst e_hE_2_7_1
  have e_hE_2_7_2 := funext hE_2_7_2; subst e_hE_2_7_2
  have e_hE_2_7_3 := funext hE_2_7_3; subst e_hE_2_7_3
  have e_hE_2_8_1 := funext hE_2_8_1; subst e_hE_2_8_1
  have e_hE_2_8_2 := funext hE_2_8_2; subst e_hE_2_8_2
  have e_hE_2_8_3 := funext hE_2_8_3; subst e_hE_2_8_3
  first
    | (have q := mpi_end (‹MPL _ _ _ _ _ _ _ _ _ _ _ _ _›).1 (by omega); exact mpm_start (p := x6) (v := x5) ‹MPL _ _ _ _ _ _ _ _ _ _ _ _ _› (by assumption) rfl rfl (by omega) (by omega))
    | exact ⟨mpi_skip (a := x11) (b := x13) (tp := x12) (bt := x14) (‹MPM _ _ _ _ _ _ _ _ _ _ _ _ _ _›).1 (by omega) ‹UPX _ _ _ _ _› (by assumption) ‹LOX _ _ _ _ _› (by assumption) (by omega) (by omega), (‹MPM _ _ _ _ _ _ _ _ _ _ _ _ _ _›).2⟩
    | exact mpm_take (a := x11) (b := x13) (tp := x12) (bt := x14) (p := x5) (v := x27) ‹MPM _ _ _ _ _ _ _ _ _ _ _ _ _ _› (by omega) (by assumption) (by assumption) (by assumption) (by assumption) (by omega) (by omega) (by assumption) rfl (by have q := mpi_fj (a := x11) (b := x13) (tp := x12) (bt := x14) (f := x25) (‹MPM _ _ _ _ _ _ _ _ _ _ _ _ _ _›).1 (by omega) (by assumption) (by assumption) (by assumption) (by assumption) (by assumption); omega) (by omega) (by omega)
    | exact mpm_take (a := x11) (b := x13) (tp := x12) (bt := x14) (p := x5) (v := x25) ‹MPM _ _ _ _ _ _ _ _ _ _ _ _ _ _› (by omega) (by assumption) (by assumption) (by assumption) (by assumption) (by omega) (by omega) (by assumption) rfl (by exact mpm_lo ‹MPM _ _ _ _ _ _ _ _ _ _ _ _ _ _› (by omega) (by assumption)) (by omega) (by omega)
    | exact mpm_take (a := x11) (b := x13) (tp := x12) (bt := x14) (p := x5) (v := x23) ‹MPM _ _ _ _ _ _ _ _ _ _ _ _ _ _› (by omega) (by assumption) (by assumption) (by assumption) (by assumption) (by omega) (by omega) (by assumption) rfl (by have q := mpi_fj (a := x11) (b := x13) (tp := x12) (bt := x14) (f := x21) (‹MPM _ _ _ _ _ _ _ _ _ _ _ _ _ _›).1 (by omega) (by assumption) (by assumption) (by assumption) (by assumption) (by assumption); omega) (by omega) (by omega)
    | exact mpm_take (a := x11) (b := x13) (tp := x12) (bt := x14) (p := x5) (v := x20) ‹MPM _ _ _ _ _ _ _ _ _ _ _ _ _ _› (by omega) (by assumption) (by assumption) (by assumption) (by assumption) (by omega) (by omega) (by assumption) rfl (by exact mpm_lo ‹MPM _ _ _ _ _ _ _ _ _ _ _ _ _ _› (by omega) (by assumption)) (by omega) (by omega)
  
def o_La_makePieces_12 : or_T := (24, 29, [(0, (2, 0, 0, [4])), (1, (2, 0, 0, [2])), (2, (2, 0, 0, [3])), (5, (0, 0, 119, [])), (6, (0, 0, 22, [])), (7, (0, 0, 47, [])), (9, (0, 1, 48, [])), (11, (0, 0, 23, [])), (12, (0, 0, 22, [])), (13, (0, 0, 23, [])), (14, (0, 1, 23, [])), (15, (2, 0, 0, [64])), (17, (2, 0, 0, [65])), (19, (0, 1, 23, [])), (21, (0, 0, 72, [])), (22, (0, 0, 94, [])), (23, (0, 0, 71, [])), (24, (2, 0, 0, [66])), (27, (0, 1, 120, [])), (28, (0, 1, 48, []))], [(9, [20, 3], [5]), (9, [17, 3], [7]), (9, [10, 3], [4]), (9, [9, 8], [1]), (6, [28, 7], [1]), (6, [27, 5], [1]), (24, [2, 8], []), (24, [1, 4], []), (24, [0, 3], []), (100, [24, 5, 26], []), (100, [17, 5, 23], []), (2, [23, 22, 12], []), (1, [22, 21, 6], []), (10, [21, 20, 7], []), (7, [19, 14], [1]), (100, [15, 5, 16], []), (7, [6, 14], [2]), (7, [6, 12], [3]), (10, [14, 10, 13], []), (20, [8, 4, 7, 13], [60, 0, 3, 650, 7, 8, 1009]), (10, [12, 10, 11], []), (20, [8, 4, 7, 11], [60, 0, 3, 649, 7, 8, 1009]), (20, [3, 8, 4, 6, 7, 5], [60, 4, 7, 667, 3, 2, 1000, 1001, 4, 5, 7, 9, 1007, 1008, 2009])], [], [], [(20, [3, 8, 4, 6, 28, 27], [60, 4, 7, 667, 3, 2, 1000, 1001, 4, 5, 7, 9, 1007, 1008, 2009])], [], [(28, 7, 1, 1), (28, 9, -4294967296, 0), (27, 5, 1, 1), (23, 22, -22, 0), (23, 21, -22, 22), (22, 14, -4294967296, 71), (19, 6, 1, 1), (19, 12, 1, 1), (19, 14, -4294967296, 0), (6, 14, -4294967296, -1), (7, 9, -4294967296, -1)])
theorem oo_La_makePieces_12 {kA : Nat → ClassId} : or_ok PRD kA GG o_La_makePieces_12 := by
  refine or_mk fun A ta ws vs hD hth hl => ?_
  intro t0 r0 t1 r1 t2 r2 t5 k5 t6 k6 t7 k7 t9 k9 t11 k11 t12 k12 t13 k13 t14 k14 t15 r15 t17 r17 t19 k19 t21 k21 t22 k22 t23 k23 t24 r24 t27 k27 t28 k28 d0 d1 d2 d3 d4 d7 d10 d11 d12 d15 d17 f1 f2 f4 f5 f6 f7 f11 f13 f14 ta1 w1 le1 s1 ta2 w2 le2 s2 f21 f22 f23 f24 ta3 w3 le3 s3 f34 f35 f36 f37 f38 f39 f41
  replace f1 := shm_110 f1
  replace f2 := shm_198 f2
  replace f4 := shm_108 f4
  replace f5 := shm_215 f5
  replace f6 := shm_4 f6
  replace f7 := shm_4 f7
  replace f11 := shm_5 f11
  replace f13 := shm_5 f13
  replace f14 := shm_5 f14
  have s1 : (∀ b j, w_el ws b j = if b = v_ad (n_v vs 24) ∧ j = (v_iv (n_v vs 5)).toNat then v_iv (n_v vs 26) else w_el w1 b j) ∧ ∀ b k, w_fd ws b k = w_fd w1 b k := s1.2
  have s2 : (∀ b j, w_el w1 b j = if b = v_ad (n_v vs 17) ∧ j = (v_iv (n_v vs 5)).toNat then v_iv (n_v vs 23) else w_el w2 b j) ∧ ∀ b k, w_fd w1 b k = w_fd w2 b k := s2.2
  replace f21 := shm_14 f21
  replace f22 := shm_12 f22
  replace f23 := shm_107 f23
  replace f24 := shm_40 f24
  have s3 : (∀ b j, w_el w2 b j = if b = v_ad (n_v vs 15) ∧ j = (v_iv (n_v vs 5)).toNat then v_iv (n_v vs 16) else w_el w3 b j) ∧ ∀ b k, w_fd w2 b k = w_fd w3 b k := s3.2
  replace f34 := shm_6 f34
  replace f35 := shm_2 f35
  replace f36 := shm_107 f36
  replace f37 := shm_392 f37
  replace f38 := shm_107 f38
  replace f39 := shm_402 f39
  replace f41 := shm_1094 f41
  have q8 : n_v vs 8 = n_v vs 2 := f11.symm
  have q4 : n_v vs 4 = n_v vs 1 := f13.symm
  have q3 : n_v vs 3 = n_v vs 0 := f14.symm
  simp only [q3, q8, q4] at f1 f2 f4 f5 f37 f39 f41
  have ar_0_4_1 : w_ar w1 (n_v vs 0) 4 = w_ar ws (n_v vs 0) 4 := congrArg v_ad (s1.2 _ _).symm
  have ar_0_4_2 : w_ar w2 (n_v vs 0) 4 = w_ar ws (n_v vs 0) 4 := by rw [← ar_0_4_1]; show v_ad (w_fd w2 _ _) = v_ad (w_fd w1 _ _); rw [s2.2]
  have ar_0_4_3 : w_ar w3 (n_v vs 0) 4 = w_ar ws (n_v vs 0) 4 := by rw [← ar_0_4_2]; show v_ad (w_fd w3 _ _) = v_ad (w_fd w2 _ _); rw [s3.2]
  have cr_0_4 := fdq_219 hD hth r0
  have ar_0_5_1 : w_ar w1 (n_v vs 0) 5 = w_ar ws (n_v vs 0) 5 := congrArg v_ad (s1.2 _ _).symm
  have ar_0_5_2 : w_ar w2 (n_v vs 0) 5 = w_ar ws (n_v vs 0) 5 := by rw [← ar_0_5_1]; show v_ad (w_fd w2 _ _) = v_ad (w_fd w1 _ _); rw [s2.2]
  have ar_0_5_3 : w_ar w3 (n_v vs 0) 5 = w_ar ws (n_v vs 0) 5 := by rw [← ar_0_5_2]; show v_ad (w_fd w3 _ _) = v_ad (w_fd w2 _ _); rw [s3.2]
  have cr_0_5 := fdq_248 hD hth r0
  have cr_0_6 := fdq_249 hD hth r0
  have ar_0_7_1 : w_ar w1 (n_v vs 0) 7 = w_ar ws (n_v vs 0) 7 := congrArg v_ad (s1.2 _ _).symm
  have ar_0_7_2 : w_ar w2 (n_v vs 0) 7 = w_ar ws (n_v vs 0) 7 := by rw [← ar_0_7_1]; show v_ad (w_fd w2 _ _) = v_ad (w_fd w1 _ _); rw [s2.2]
  have ar_0_7_3 : w_ar w3 (n_v vs 0) 7 = w_ar ws (n_v vs 0) 7 := by rw [← ar_0_7_2]; show v_ad (w_fd w3 _ _) = v_ad (w_fd w2 _ _); rw [s3.2]
  have cr_0_7 := fdq_215 hD hth r0
  have cr_0_8 := fdq_250 hD hth r0
  have ar_0_9_1 : w_ar w1 (n_v vs 0) 9 = w_ar ws (n_v vs 0) 9 := congrArg v_ad (s1.2 _ _).symm
  have ar_0_9_2 : w_ar w2 (n_v vs 0) 9 = w_ar ws (n_v vs 0) 9 := by rw [← ar_0_9_1]; show v_ad (w_fd w2 _ _) = v_ad (w_fd w1 _ _); rw [s2.2]
  have ar_0_9_3 : w_ar w3 (n_v vs 0) 9 = w_ar ws (n_v vs 0) 9 := by rw [← ar_0_9_2]; show v_ad (w_fd w3 _ _) = v_ad (w_fd w2 _ _); rw [s3.2]
  have cr_0_9 := fdq_216 hD hth r0
  have ar_1_9_1 : w_ar w1 (n_v vs 1) 9 = w_ar ws (n_v vs 1) 9 := congrArg v_ad (s1.2 _ _).symm
  have ar_1_9_2 : w_ar w2 (n_v vs 1) 9 = w_ar ws (n_v vs 1) 9 := by rw [← ar_1_9_1]; show v_ad (w_fd w2 _ _) = v_ad (w_fd w1 _ _); rw [s2.2]
  have ar_1_9_3 : w_ar w3 (n_v vs 1) 9 = w_ar ws (n_v vs 1) 9 := by rw [← ar_1_9_2]; show v_ad (w_fd w3 _ _) = v_ad (w_fd w2 _ _); rw [s3.2]
  have cr_1_9 := fdq_76 hD hth r1
  have ar_2_7_1 : w_ar w1 (n_v vs 2) 7 = w_ar ws (n_v vs 2) 7 := congrArg v_ad (s1.2 _ _).symm
  have ar_2_7_2 : w_ar w2 (n_v vs 2) 7 = w_ar ws (n_v vs 2) 7 := by rw [← ar_2_7_1]; show v_ad (w_fd w2 _ _) = v_ad (w_fd w1 _ _); rw [s2.2]
  have ar_2_7_3 : w_ar w3 (n_v vs 2) 7 = w_ar ws (n_v vs 2) 7 := by rw [← ar_2_7_2]; show v_ad (w_fd w3 _ _) = v_ad (w_fd w2 _ _); rw [s3.2]
  have cr_2_7 := fdq_46 hD hth r2
  have ar_2_8_1 : w_ar w1 (n_v vs 2) 8 = w_ar ws (n_v vs 2) 8 := congrArg v_ad (s1.2 _ _).symm
  have ar_2_8_2 : w_ar w2 (n_v vs 2) 8 = w_ar ws (n_v vs 2) 8 := by rw [← ar_2_8_1]; show v_ad (w_fd w2 _ _) = v_ad (w_fd w1 _ _); rw [s2.2]
  have ar_2_8_3 : w_ar w3 (n_v vs 2) 8 = w_ar ws (n_v vs 2) 8 := by rw [← ar_2_8_2]; show v_ad (w_fd w3 _ _) = v_ad (w_fd w2 _ _); rw [s3.2]
  have cr_2_8 := fdq_47 hD hth r2
  have ad_20 : v_ad (n_v vs 20) = w_ar ws (n_v vs 0) 5 := congrArg v_ad f1
  have ad_17 : v_ad (n_v vs 17) = w_ar ws (n_v vs 0) 7 := congrArg v_ad f2
  have ad_10 : v_ad (n_v vs 10) = w_ar ws (n_v vs 0) 4 := congrArg v_ad f4
  have g5 : v_iv (n_v vs 9) = w_fi ws (n_v vs 2) 1 := congrArg v_iv f5
  simp only [ar_1_9_1, ar_2_7_1, ar_2_8_1, ad_20] at f23
  have h23 : v_iv (n_v vs 21) = w_ei w2 (w_ar ws (n_v vs 0) 5) (v_iv (n_v vs 7)) := f23
  simp only [ar_1_9_2, ar_2_7_2, ar_2_8_2, ar_0_4_2, ar_0_5_2, ar_0_7_2, ar_0_9_2, ar_1_9_3, ar_2_7_3, ar_2_8_3, ad_10] at f36
  have h36 : v_iv (n_v vs 14) = w_ei w3 (w_ar ws (n_v vs 0) 4) (v_iv (n_v vs 13)) := f36
  simp only [ar_1_9_3, ar_2_7_3, ar_2_8_3, ad_10] at f37 f38
  have h38 : v_iv (n_v vs 12) = w_ei w3 (w_ar ws (n_v vs 0) 4) (v_iv (n_v vs 11)) := f38
  simp only [ar_1_9_3, ar_2_7_3, ar_2_8_3, ar_0_4_3, ar_0_5_3, ar_0_7_3, ar_0_9_3] at f39 f41
  have fe_0_2_1 : w_fi ws (n_v vs 0) 2 = w_fi w1 (n_v vs 0) 2 := congrArg v_iv (s1.2 _ _)
  have fe_0_3_1 : w_fi ws (n_v vs 0) 3 = w_fi w1 (n_v vs 0) 3 := congrArg v_iv (s1.2 _ _)
  have fe_2_0_1 : w_fi ws (n_v vs 2) 0 = w_fi w1 (n_v vs 2) 0 := congrArg v_iv (s1.2 _ _)
  have fe_2_1_1 : w_fi ws (n_v vs 2) 1 = w_fi w1 (n_v vs 2) 1 := congrArg v_iv (s1.2 _ _)
  have fe_0_2_2 : w_fi w1 (n_v vs 0) 2 = w_fi w2 (n_v vs 0) 2 := congrArg v_iv (s2.2 _ _)
  have fe_0_3_2 : w_fi w1 (n_v vs 0) 3 = w_fi w2 (n_v vs 0) 3 := congrArg v_iv (s2.2 _ _)
  have fe_2_0_2 : w_fi w1 (n_v vs 2) 0 = w_fi w2 (n_v vs 2) 0 := congrArg v_iv (s2.2 _ _)
  have fe_2_1_2 : w_fi w1 (n_v vs 2) 1 = w_fi w2 (n_v vs 2) 1 := congrArg v_iv (s2.2 _ _)
  have fe_0_2_3 : w_fi w2 (n_v vs 0) 2 = w_fi w3 (n_v vs 0) 2 := congrArg v_iv (s3.2 _ _)
  have fe_0_3_3 : w_fi w2 (n_v vs 0) 3 = w_fi w3 (n_v vs 0) 3 := congrArg v_iv (s3.2 _ _)
  have fe_2_0_3 : w_fi w2 (n_v vs 2) 0 = w_fi w3 (n_v vs 2) 0 := congrArg v_iv (s3.2 _ _)
  have fe_2_1_3 : w_fi w2 (n_v vs 2) 1 = w_fi w3 (n_v vs 2) 1 := congrArg v_iv (s3.2 _ _)
  have hE_0_4_1 : ∀ j : Int, w_ei ws (w_ar ws (n_v vs 0) 4) j = w_ei w1 (w_ar ws (n_v vs 0) 4) j := el_kp s1.1 r24 cr_0_4 (by decide)
  have hE_0_4_2 : ∀ j : Int, w_ei w1 (w_ar ws (n_v vs 0) 4) j = w_ei w2 (w_ar ws (n_v vs 0) 4) j := el_kp s2.1 r17 cr_0_4 (by decide)
  have hE_0_4_3 : ∀ j : Int, w_ei w2 (w_ar ws (n_v vs 0) 4) j = w_ei w3 (w_ar ws (n_v vs 0) 4) j := el_kp s3.1 r15 cr_0_4 (by decide)
  have hE_0_5_1 : ∀ j : Int, w_ei ws (w_ar ws (n_v vs 0) 5) j = w_ei w1 (w_ar ws (n_v vs 0) 5) j := el_kp s1.1 r24 cr_0_5 (by decide)
  have hE_0_5_2 : ∀ j : Int, w_ei w1 (w_ar ws (n_v vs 0) 5) j = w_ei w2 (w_ar ws (n_v vs 0) 5) j := el_kp s2.1 r17 cr_0_5 (by decide)
  have hE_0_5_3 : ∀ j : Int, w_ei w2 (w_ar ws (n_v vs 0) 5) j = w_ei w3 (w_ar ws (n_v vs 0) 5) j := el_kp s3.1 r15 cr_0_5 (by decide)
  have hE_0_6_1 : ∀ j : Int, w_ei ws (w_ar ws (n_v vs 0) 6) j = w_ei w1 (w_ar ws (n_v vs 0) 6) j := el_kp s1.1 r24 cr_0_6 (by decide)
  have hE_0_6_2 : ∀ j : Int, w_ei w1 (w_ar ws (n_v vs 0) 6) j = w_ei w2 (w_ar ws (n_v vs 0) 6) j := el_kp s2.1 r17 cr_0_6 (by decide)
  have hE_0_7_1 : ∀ j : Int, w_ei ws (w_ar ws (n_v vs 0) 7) j = w_ei w1 (w_ar ws (n_v vs 0) 7) j := el_kp s1.1 r24 cr_0_7 (by decide)
  have hE_0_7_2 : ∀ j : Int, 0 ≤ j → (j = v_iv (n_v vs 5) → w_ei w1 (w_ar ws (n_v vs 0) 7) j = v_iv (n_v vs 23)) ∧ (j ≠ v_iv (n_v vs 5) → w_ei w1 (w_ar ws (n_v vs 0) 7) j = w_ei w2 (w_ar ws (n_v vs 0) 7) j) := fun j hj => ⟨fun h => by unfold w_ei; rw [s2.1, if_pos ⟨ad_17.symm, by rw [h]⟩], fun h => by unfold w_ei; rw [s2.1, if_neg (fun e => h (by have := e.2; omega))]⟩
  have hE_0_7_3 : ∀ j : Int, w_ei w2 (w_ar ws (n_v vs 0) 7) j = w_ei w3 (w_ar ws (n_v vs 0) 7) j := el_kp s3.1 r15 cr_0_7 (by decide)
  have hE_0_8_2 : ∀ j : Int, w_ei w1 (w_ar ws (n_v vs 0) 8) j = w_ei w2 (w_ar ws (n_v vs 0) 8) j := el_kp s2.1 r17 cr_0_8 (by decide)
  have hE_0_8_3 : ∀ j : Int, w_ei w2 (w_ar ws (n_v vs 0) 8) j = w_ei w3 (w_ar ws (n_v vs 0) 8) j := el_kp s3.1 r15 cr_0_8 (by decide)
  have hE_0_9_1 : ∀ j : Int, w_ei ws (w_ar ws (n_v vs 0) 9) j = w_ei w1 (w_ar ws (n_v vs 0) 9) j := el_kp s1.1 r24 cr_0_9 (by decide)
  have hE_0_9_2 : ∀ j : Int, w_ei w1 (w_ar ws (n_v vs 0) 9) j = w_ei w2 (w_ar ws (n_v vs 0) 9) j := el_kp s2.1 r17 cr_0_9 (by decide)
  have hE_0_9_3 : ∀ j : Int, w_ei w2 (w_ar ws (n_v vs 0) 9) j = w_ei w3 (w_ar ws (n_v vs 0) 9) j := el_kp s3.1 r15 cr_0_9 (by decide)
  have hE_1_9_1 : ∀ j : Int, w_ei ws (w_ar ws (n_v vs 1) 9) j = w_ei w1 (w_ar ws (n_v vs 1) 9) j := el_kp s1.1 r24 cr_1_9 (by decide)
  have hE_1_9_2 : ∀ j : Int, w_ei w1 (w_ar ws (n_v vs 1) 9) j = w_ei w2 (w_ar ws (n_v vs 1) 9) j := el_kp s2.1 r17 cr_1_9 (by decide)
  have hE_1_9_3 : ∀ j : Int, w_ei w2 (w_ar ws (n_v vs 1) 9) j = w_ei w3 (w_ar ws (n_v vs 1) 9) j := el_kp s3.1 r15 cr_1_9 (by decide)
  have hE_2_7_1 : ∀ j : Int, w_ei ws (w_ar ws (n_v vs 2) 7) j = w_ei w1 (w_ar ws (n_v vs 2) 7) j := el_kp s1.1 r24 cr_2_7 (by decide)
  have hE_2_7_2 : ∀ j : Int, w_ei w1 (w_ar ws (n_v vs 2) 7) j = w_ei w2 (w_ar ws (n_v vs 2) 7) j := el_kp s2.1 r17 cr_2_7 (by decide)
  have hE_2_7_3 : ∀ j : Int, w_ei w2 (w_ar ws (n_v vs 2) 7) j = w_ei w3 (w_ar ws (n_v vs 2) 7) j := el_kp s3.1 r15 cr_2_7 (by decide)
  have hE_2_8_1 : ∀ j : Int, w_ei ws (w_ar ws (n_v vs 2) 8) j = w_ei w1 (w_ar ws (n_v vs 2) 8) j := el_kp s1.1 r24 cr_2_8 (by decide)
  have hE_2_8_2 : ∀ j : Int, w_ei w1 (w_ar ws (n_v vs 2) 8) j = w_ei w2 (w_ar ws (n_v vs 2) 8) j := el_kp s2.1 r17 cr_2_8 (by decide)
  have hE_2_8_3 : ∀ j : Int, w_ei w2 (w_ar ws (n_v vs 2) 8) j = w_ei w3 (w_ar ws (n_v vs 2) 8) j := el_kp s3.1 r15 cr_2_8 (by decide)
  have kz_0_2 := fdq_77 hD hth r0
  have kz_0_3 := fdq_218 hD hth r0
  have kz_2_0 := fdq_21 hD hth r2
  have kz_2_1 := fdq_30 hD hth r2
  have nf0 : fc_1 PRD (20, [3, 8, 4, 6, 28, 27], [60, 4, 7, 667, 3, 2, 1000, 1001, 4, 5, 7, 9, 1007, 1008, 2009]) ws (vs) := by
    refine ⟨nf_in hl rfl, sgq_1094 ?_⟩
    · show MPM (w_fi ws (n_v vs 3) 3) (w_fi ws (n_v vs 3) 2) (w_fi ws (n_v vs 8) 0) (w_fi ws (n_v vs 8) 1) (w_ei ws (w_ar ws (n_v vs 3) 4)) (w_ei ws (w_ar ws (n_v vs 3) 5)) (w_ei ws (w_ar ws (n_v vs 3) 7)) (w_ei ws (w_ar ws (n_v vs 3) 9)) (w_ei ws (w_ar ws (n_v vs 8) 7)) (w_ei ws (w_ar ws (n_v vs 8) 8)) (w_ei ws (w_ar ws (n_v vs 4) 9)) (v_iv (n_v vs 6)) (v_iv (n_v vs 28)) (v_iv (n_v vs 27))
      simp only [q8, q4, q3]
      exact vc_La_makePieces_12_0 (v_iv (n_v vs 5)) (v_iv (n_v vs 6)) (v_iv (n_v vs 7)) (v_iv (n_v vs 9)) (v_iv (n_v vs 11)) (v_iv (n_v vs 12)) (v_iv (n_v vs 13)) (v_iv (n_v vs 14)) (v_iv (n_v vs 19)) (v_iv (n_v vs 21)) (v_iv (n_v vs 22)) (v_iv (n_v vs 23)) (v_iv (n_v vs 27)) (v_iv (n_v vs 28)) (w_fi ws (n_v vs 2) 1) (w_ei ws (w_ar ws (n_v vs 2) 7)) (w_ei ws (w_ar ws (n_v vs 2) 8)) (w_ei ws (w_ar ws (n_v vs 1) 9)) (w_fi ws (n_v vs 0) 2) (w_ei w1 (w_ar ws (n_v vs 2) 7)) (w_ei w1 (w_ar ws (n_v vs 2) 8)) (w_ei w1 (w_ar ws (n_v vs 1) 9)) (w_fi w1 (n_v vs 0) 2) (w_ei w2 (w_ar ws (n_v vs 0) 5)) (w_ei w2 (w_ar ws (n_v vs 2) 7)) (w_ei w2 (w_ar ws (n_v vs 2) 8)) (w_ei w2 (w_ar ws (n_v vs 1) 9)) (w_ei w2 (w_ar ws (n_v vs 0) 4)) (w_ei w2 (w_ar ws (n_v vs 0) 7)) (w_ei w2 (w_ar ws (n_v vs 0) 9)) (w_fi w2 (n_v vs 0) 3) (w_fi w2 (n_v vs 0) 2) (w_fi w2 (n_v vs 2) 0) (w_fi w2 (n_v vs 2) 1) (w_ei w3 (w_ar ws (n_v vs 2) 7)) (w_ei w3 (w_ar ws (n_v vs 2) 8)) (w_ei w3 (w_ar ws (n_v vs 1) 9)) (w_ei w3 (w_ar ws (n_v vs 0) 4)) (w_ei w3 (w_ar ws (n_v vs 0) 5)) (w_ei w3 (w_ar ws (n_v vs 0) 7)) (w_ei w3 (w_ar ws (n_v vs 0) 9)) (w_fi w3 (n_v vs 0) 3) (w_fi w3 (n_v vs 0) 2) (w_fi w3 (n_v vs 2) 0) (w_fi w3 (n_v vs 2) 1) (w_fi ws (n_v vs 0) 3) (w_fi w1 (n_v vs 0) 3) (w_fi ws (n_v vs 2) 0) (w_fi w1 (n_v vs 2) 0) (w_fi w1 (n_v vs 2) 1) (w_ei ws (w_ar ws (n_v vs 0) 4)) (w_ei w1 (w_ar ws (n_v vs 0) 4)) (w_ei ws (w_ar ws (n_v vs 0) 5)) (w_ei w1 (w_ar ws (n_v vs 0) 5)) (w_ei ws (w_ar ws (n_v vs 0) 6)) (w_ei w1 (w_ar ws (n_v vs 0) 6)) (w_ei w2 (w_ar ws (n_v vs 0) 6)) (w_ei ws (w_ar ws (n_v vs 0) 7)) (w_ei w1 (w_ar ws (n_v vs 0) 7)) (w_ei w1 (w_ar ws (n_v vs 0) 8)) (w_ei w2 (w_ar ws (n_v vs 0) 8)) (w_ei w3 (w_ar ws (n_v vs 0) 8)) (w_ei ws (w_ar ws (n_v vs 0) 9)) (w_ei w1 (w_ar ws (n_v vs 0) 9)) k5 k6 k7 k9 k11 k12 k13 k14 k19 k21 k22 k23 k27 k28 d0 d1 d7 d10 d11 d12 d15 d17 g5 f6 f7 f21 f22 h23 f24 f34 f35 h36 f37 h38 f39 f41 fe_0_2_1 fe_0_3_1 fe_2_0_1 fe_2_1_1 fe_0_2_2 fe_0_3_2 fe_2_0_2 fe_2_1_2 fe_0_2_3 fe_0_3_3 fe_2_0_3 fe_2_1_3 hE_0_4_1 hE_0_4_2 hE_0_4_3 hE_0_5_1 hE_0_5_2 hE_0_5_3 hE_0_6_1 hE_0_6_2 hE_0_7_1 hE_0_7_2 hE_0_7_3 hE_0_8_2 hE_0_8_3 hE_0_9_1 hE_0_9_2 hE_0_9_3 hE_1_9_1 hE_1_9_2 hE_1_9_3 hE_2_7_1 hE_2_7_2 hE_2_7_3 hE_2_8_1 hE_2_8_2 hE_2_8_3 kz_0_2 kz_0_3 kz_2_0 kz_2_1
  refine ⟨(fun _ h => (by cases h)), [], trivial, ?_, (fun _ h => (by cases h))⟩
  rw [List.append_nil]
  exact List.forall_mem_cons.mpr ⟨⟨show (20 : Nat) < 100 from by decide, nf0⟩, (fun _ h => (by cases h))⟩
set_option maxHeartbeats 4000000 in
theorem vc_La_makePieces_13_0 (x5 : Int) (x6 : Int) (x7 : Int) (x9 : Int) (x11 : Int) (x12 : Int) (x13 : Int) (x14 : Int) (x20 : Int) (x24 : Int) (x25 : Int) (edges_0o2 : Int) (tail_0o2 : Int → Int) (head_0o2 : Int → Int) (turned_0o1 : Int → Int) (layerCount_0 : Int) (tail_1o2 : Int → Int) (head_1o2 : Int → Int) (turned_1o1 : Int → Int) (layerCount_1 : Int) (tail_2o2 : Int → Int) (head_2o2 : Int → Int) (turned_2o1 : Int → Int) (layerOf_2 : Int → Int) (firstJoint_2 : Int → Int) (pieceLower_2 : Int → Int) (pieceStart_2 : Int → Int) (items_2 : Int) (layerCount_2 : Int) (nodes_2o2 : Int) (edges_2o2 : Int) (tail_3o2 : Int → Int) (head_3o2 : Int → Int) (turned_3o1 : Int → Int) (layerOf_3 : Int → Int) (firstJoint_3 : Int → Int) (pieceLower_3 : Int → Int) (pieceStart_3 : Int → Int) (items_3 : Int) (layerCount_3 : Int) (nodes_3o2 : Int) (edges_3o2 : Int) (items_0 : Int) (items_1 : Int) (nodes_0o2 : Int) (nodes_1o2 : Int) (edges_1o2 : Int) (layerOf_0 : Int → Int) (layerOf_1 : Int → Int) (firstJoint_0 : Int → Int) (firstJoint_1 : Int → Int) (pieceUpper_0 : Int → Int) (pieceUpper_1 : Int → Int) (pieceUpper_2 : Int → Int) (pieceLower_0 : Int → Int) (pieceLower_1 : Int → Int) (pieceWeight_1 : Int → Int) (x23 : Int) (pieceWeight_2 : Int → Int) (pieceWeight_3 : Int → Int) (pieceStart_0 : Int → Int) (pieceStart_1 : Int → Int) (k5 : 0 ≤ x5 ∧ x5 ≤ 119) (k6 : 0 ≤ x6 ∧ x6 ≤ 22) (k7 : 0 ≤ x7 ∧ x7 ≤ 47) (k9 : 1 ≤ x9 ∧ x9 ≤ 48) (k11 : 0 ≤ x11 ∧ x11 ≤ 23) (k12 : 0 ≤ x12 ∧ x12 ≤ 22) (k13 : 0 ≤ x13 ∧ x13 ≤ 23) (k14 : 1 ≤ x14 ∧ x14 ≤ 23) (k20 : 0 ≤ x20 ∧ x20 ≤ 23) (k24 : 1 ≤ x24 ∧ x24 ≤ 120) (k25 : 1 ≤ x25 ∧ x25 ≤ 48) (d0 : x7 + 1 ≤ x25 ∧ x25 ≤ x7 + 1) (d1 : x9 + (-4294967296) ≤ x25 ∧ x25 ≤ x9 + 0) (d11 : x9 + (-4294967296) ≤ x7 ∧ x7 ≤ x9 + (-1)) (g4 : x9 = edges_0o2) (f5 : x25 = x7 + 1) (f6 : x24 = x5 + 1) (f22 : LOX (tail_2o2) (head_2o2) (turned_2o1) (x7) (x20)) (f33 : x6 < x14) (f34 : x12 ≤ x6) (h35 : x14 = layerOf_3 (x13)) (f36 : LOX (tail_3o2) (head_3o2) (turned_3o1) (x7) (x13)) (h37 : x12 = layerOf_3 (x11)) (f38 : UPX (tail_3o2) (head_3o2) (turned_3o1) (x7) (x11)) (f40 : MPM (items_3) (layerCount_3) (nodes_3o2) (edges_3o2) (layerOf_3) (firstJoint_3) (pieceLower_3) (pieceStart_3) (tail_3o2) (head_3o2) (turned_3o1) (x6) (x7) (x5)) (fe_0_2_1 : layerCount_0 = layerCount_1) (fe_0_3_1 : items_0 = items_1) (fe_2_0_1 : nodes_0o2 = nodes_1o2) (fe_2_1_1 : edges_0o2 = edges_1o2) (fe_0_2_2 : layerCount_1 = layerCount_2) (fe_0_3_2 : items_1 = items_2) (fe_2_0_2 : nodes_1o2 = nodes_2o2) (fe_2_1_2 : edges_1o2 = edges_2o2) (fe_0_2_3 : layerCount_2 = layerCount_3) (fe_0_3_3 : items_2 = items_3) (fe_2_0_3 : nodes_2o2 = nodes_3o2) (fe_2_1_3 : edges_2o2 = edges_3o2) (hE_0_4_1 : ∀ j : Int, layerOf_0 j = layerOf_1 j) (hE_0_4_2 : ∀ j : Int, layerOf_1 j = layerOf_2 j) (hE_0_4_3 : ∀ j : Int, layerOf_2 j = layerOf_3 j) (hE_0_5_1 : ∀ j : Int, firstJoint_0 j = firstJoint_1 j) (hE_0_5_2 : ∀ j : Int, firstJoint_1 j = firstJoint_2 j) (hE_0_5_3 : ∀ j : Int, firstJoint_2 j = firstJoint_3 j) (hE_0_6_1 : ∀ j : Int, pieceUpper_0 j = pieceUpper_1 j) (hE_0_6_2 : ∀ j : Int, pieceUpper_1 j = pieceUpper_2 j) (hE_0_7_1 : ∀ j : Int, pieceLower_0 j = pieceLower_1 j) (hE_0_7_2 : ∀ j : Int, 0 ≤ j → (j = x5 → pieceLower_1 j = x20) ∧ (j ≠ x5 → pieceLower_1 j = pieceLower_2 j)) (hE_0_7_3 : ∀ j : Int, pieceLower_2 j = pieceLower_3 j) (hE_0_8_2 : ∀ j : Int, pieceWeight_1 j = pieceWeight_2 j) (hE_0_8_3 : ∀ j : Int, pieceWeight_2 j = pieceWeight_3 j) (hE_0_9_1 : ∀ j : Int, pieceStart_0 j = pieceStart_1 j) (hE_0_9_2 : ∀ j : Int, pieceStart_1 j = pieceStart_2 j) (hE_0_9_3 : ∀ j : Int, pieceStart_2 j = pieceStart_3 j) (hE_1_9_1 : ∀ j : Int, turned_0o1 j = turned_1o1 j) (hE_1_9_2 : ∀ j : Int, turned_1o1 j = turned_2o1 j) (hE_1_9_3 : ∀ j : Int, turned_2o1 j = turned_3o1 j) (hE_2_7_1 : ∀ j : Int, tail_0o2 j = tail_1o2 j) (hE_2_7_2 : ∀ j : Int, tail_1o2 j = tail_2o2 j) (hE_2_7_3 : ∀ j : Int, tail_2o2 j = tail_3o2 j) (hE_2_8_1 : ∀ j : Int, head_0o2 j = head_1o2 j) (hE_2_8_2 : ∀ j : Int, head_1o2 j = head_2o2 j) (hE_2_8_3 : ∀ j : Int, head_2o2 j = head_3o2 j) (kz_0_2 : 0 ≤ layerCount_0 ∧ layerCount_0 ≤ 24) (kz_0_3 : 0 ≤ items_0 ∧ items_0 ≤ 72) (kz_2_0 : 0 ≤ nodes_0o2 ∧ nodes_0o2 ≤ 24) (kz_2_1 : 0 ≤ edges_0o2 ∧ edges_0o2 ≤ 48) : MPM (items_0) (layerCount_0) (nodes_0o2) (edges_0o2) (layerOf_0) (firstJoint_0) (pieceLower_0) (pieceStart_0) (tail_0o2) (head_0o2) (turned_0o1) (x6) (x25) (x24) := by
  subst fe_0_2_1
  subst fe_0_3_1
  subst fe_2_0_1
  subst fe_2_1_1
  subst fe_0_2_2
  subst fe_0_3_2
  subst fe_2_0_2
  subst fe_2_1_2
  subst fe_0_2_3
  subst fe_0_3_3
  subst fe_2_0_3
  subst fe_2_1_3
  have e_hE_0_4_1 := funext hE_0_4_1; subst e_hE_0_4_1
  have e_hE_0_4_2 := funext hE_0_4_2; subst e_hE_0_4_2
  have e_hE_0_4_3 := funext hE_0_4_3; subst e_hE_0_4_3
  have e_hE_0_5_1 := funext hE_0_5_1; subst e_hE_0_5_1
  have e_hE_0_5_2 := funext hE_0_5_2; subst e_hE_0_5_2
  have e_hE_0_5_3 := funext hE_0_5_3; subst e_hE_0_5_3
  have e_hE_0_6_1 := funext hE_0_6_1; subst e_hE_0_6_1
  have e_hE_0_6_2 := funext hE_0_6_2; subst e_hE_0_6_2
  have e_hE_0_7_1 := funext hE_0_7_1; subst e_hE_0_7_1
  have e_hE_0_7_3 := funext hE_0_7_3; subst e_hE_0_7_3
  have e_hE_0_8_2 := funext hE_0_8_2; subst e_hE_0_8_2
  have e_hE_0_8_3 := funext hE_0_8_3; subst e_hE_0_8_3
  have e_hE_0_9_1 := funext hE_0_9_1; subst e_hE_0_9_1
  have e_hE_0_9_2 := funext hE_0_9_2; subst e_hE_0_9_2
  have e_hE_0_9_3 := funext hE_0_9_3; subst e_hE_0_9_3
  have e_hE_1_9_1 := funext hE_1_9_1; subst e_hE_1_9_1
  have e_hE_1_9_2 := funext hE_1_9_2; subst e_hE_1_9_2
  have e_hE_1_9_3 := funext hE_1_9_3; subst e_hE_1_9_3
  have e_hE_2_7_1 := funext hE_2_7_1; subst e_hE_2_7_1
  have e_hE_2_7_2 := funext hE_2_7_2; subst e_hE_2_7_2
  have e_hE_2_7_3 := funext hE_2_7_3; subst e_hE_2_7_3
  have e_hE_2_8_1 := funext hE_2_8_1; subst e_hE_2_8_1
  have e_hE_2_8_2 := funext hE_2_8_2; subst e_hE_2_8_2
  have e_hE_2_8_3 := funext hE_2_8_3; subst e_hE_2_8_3
  first
    | (have q := mpi_end (‹MPL _ _ _ _ _ _ _ _ _ _ _ _ _›).1 (by omega); exact mpm_start (p := x6) (v := x5) ‹MPL _ _ _ _ _ _ _ _ _ _ _ _ _› (by assumption) rfl rfl (by omega) (by omega))
    | exact ⟨mpi_skip (a := x11) (b := x13) (tp := x12) (bt := x14) (‹MPM _ _ _ _ _ _ _ _ _ _ _ _ _ _›).1 (by omega) ‹UPX _ _ _ _ _› (by assumption) ‹LOX _ _ _ _ _› (by assumption) (by omega) (by omega), (‹MPM _ _ _ _ _ _ _ _ _ _ _ _ _ _›).2⟩
    | exact mpm_take (a := x11) (b := x13) (tp := x12) (bt := x14) (p := x5) (v := x27) ‹MPM _ _ _ _ _ _ _ _ _ _ _ _ _ _› (by omega) (by assumption) (by assumption) (by assumption) (by assumption) (by omega) (by omega) (by assumption) rfl (by have q := mpi_fj (a := x11) (b := x13) (tp := x12) (bt := x14) (f := x25) (‹MPM _ _ _ _ _ _ _ _ _ _ _ _ _ _›).1 (by omega) (by assumption) (by assumption) (by assumption) (by assumption) (by assumption); omega) (by omega) (by omega)
    | exact mpm_take (a := x11) (b := x13) (tp := x12) (bt := x14) (p := x5) (v := x25) ‹MPM _ _ _ _ _ _ _ _ _ _ _ _ _ _› (by omega) (by assumption) (by assumption) (by assumption) (by assumption) (by omega) (by omega) (by assumption) rfl (by exact mpm_lo ‹MPM _ _ _ _ _ _ _ _ _ _ _ _ _ _› (by omega) (by assumption)) (by omega) (by omega)
    | exact mpm_take (a := x11) (b := x13) (tp := x12) (bt := x14) (p := x5) (v := x23) ‹MPM _ _ _ _ _ _ _ _ _ _ _ _ _ _› (by omega) (by assumption) (by assumption) (by assumption) (by assumption) (by omega) (by omega) (by assumption) rfl (by have q := mpi_fj (a := x11) (b := x13) (tp := x12) (bt := x14) (f := x21) (‹MPM _ _ _ _ _ _ _ _ _ _ _ _ _ _›).1 (by omega) (by assumption) (by assumption) (by assumption) (by assumption) (by assumption); omega) (by omega) (by omega)
    | exact mpm_take (a := x11) (b := x13) (tp := x12) (bt := x14) (p := x5) (v := x20) ‹MPM _ _ _ _ _ _ _ _ _ _ _ _ _ _› (by omega) (by assumption) (by assumption) (by assumption) (by assumption) (by omega) (by omega) (by assumption) rfl (by exact mpm_lo ‹MPM _ _ _ _ _ _ _ _ _ _ _ _ _ _› (by omega) (by assumption)) (by omega) (by omega)
  
def o_La_makePieces_13 : or_T := (24, 26, [(0, (2, 0, 0, [4])), (1, (2, 0, 0, [2])), (2, (2, 0, 0, [3])), (5, (0, 0, 119, [])), (6, (0, 0, 22, [])), (7, (0, 0, 47, [])), (9, (0, 1, 48, [])), (11, (0, 0, 23, [])), (12, (0, 0, 22, [])), (13, (0, 0, 23, [])), (14, (0, 1, 23, [])), (15, (2, 0, 0, [64])), (17, (2, 0, 0, [65])), (20, (0, 0, 23, [])), (21, (2, 0, 0, [66])), (24, (0, 1, 120, [])), (25, (0, 1, 48, []))], [(9, [17, 3], [7]), (9, [10, 3], [4]), (9, [9, 8], [1]), (6, [25, 7], [1]), (6, [24, 5], [1]), (24, [2, 8], []), (24, [1, 4], []), (24, [0, 3], []), (100, [21, 5, 23], []), (100, [17, 5, 20], []), (20, [8, 4, 7, 20], [60, 0, 3, 650, 7, 8, 1009]), (100, [15, 5, 16], []), (7, [6, 14], [2]), (7, [6, 12], [3]), (10, [14, 10, 13], []), (20, [8, 4, 7, 13], [60, 0, 3, 650, 7, 8, 1009]), (10, [12, 10, 11], []), (20, [8, 4, 7, 11], [60, 0, 3, 649, 7, 8, 1009]), (20, [3, 8, 4, 6, 7, 5], [60, 4, 7, 667, 3, 2, 1000, 1001, 4, 5, 7, 9, 1007, 1008, 2009])], [], [], [(20, [3, 8, 4, 6, 25, 24], [60, 4, 7, 667, 3, 2, 1000, 1001, 4, 5, 7, 9, 1007, 1008, 2009])], [], [(25, 7, 1, 1), (25, 9, -4294967296, 0), (24, 5, 1, 1), (7, 9, -4294967296, -1)])
theorem oo_La_makePieces_13 {kA : Nat → ClassId} : or_ok PRD kA GG o_La_makePieces_13 := by
  refine or_mk fun A ta ws vs hD hth hl => ?_
  intro t0 r0 t1 r1 t2 r2 t5 k5 t6 k6 t7 k7 t9 k9 t11 k11 t12 k12 t13 k13 t14 k14 t15 r15 t17 r17 t20 k20 t21 r21 t24 k24 t25 k25 d0 d1 d2 d11 f1 f3 f4 f5 f6 f11 f13 f14 ta1 w1 le1 s1 ta2 w2 le2 s2 f22 ta3 w3 le3 s3 f33 f34 f35 f36 f37 f38 f40
  replace f1 := shm_198 f1
  replace f3 := shm_108 f3
  replace f4 := shm_215 f4
  replace f5 := shm_4 f5
  replace f6 := shm_4 f6
  replace f11 := shm_5 f11
  replace f13 := shm_5 f13
  replace f14 := shm_5 f14
  have s1 : (∀ b j, w_el ws b j = if b = v_ad (n_v vs 21) ∧ j = (v_iv (n_v vs 5)).toNat then v_iv (n_v vs 23) else w_el w1 b j) ∧ ∀ b k, w_fd ws b k = w_fd w1 b k := s1.2
  have s2 : (∀ b j, w_el w1 b j = if b = v_ad (n_v vs 17) ∧ j = (v_iv (n_v vs 5)).toNat then v_iv (n_v vs 20) else w_el w2 b j) ∧ ∀ b k, w_fd w1 b k = w_fd w2 b k := s2.2
  replace f22 := shm_392 f22
  have s3 : (∀ b j, w_el w2 b j = if b = v_ad (n_v vs 15) ∧ j = (v_iv (n_v vs 5)).toNat then v_iv (n_v vs 16) else w_el w3 b j) ∧ ∀ b k, w_fd w2 b k = w_fd w3 b k := s3.2
  replace f33 := shm_6 f33
  replace f34 := shm_2 f34
  replace f35 := shm_107 f35
  replace f36 := shm_392 f36
  replace f37 := shm_107 f37
  replace f38 := shm_402 f38
  replace f40 := shm_1094 f40
  have q8 : n_v vs 8 = n_v vs 2 := f11.symm
  have q4 : n_v vs 4 = n_v vs 1 := f13.symm
  have q3 : n_v vs 3 = n_v vs 0 := f14.symm
  simp only [q3, q8, q4] at f1 f3 f4 f22 f36 f38 f40
  have ar_0_4_1 : w_ar w1 (n_v vs 0) 4 = w_ar ws (n_v vs 0) 4 := congrArg v_ad (s1.2 _ _).symm
  have ar_0_4_2 : w_ar w2 (n_v vs 0) 4 = w_ar ws (n_v vs 0) 4 := by rw [← ar_0_4_1]; show v_ad (w_fd w2 _ _) = v_ad (w_fd w1 _ _); rw [s2.2]
  have ar_0_4_3 : w_ar w3 (n_v vs 0) 4 = w_ar ws (n_v vs 0) 4 := by rw [← ar_0_4_2]; show v_ad (w_fd w3 _ _) = v_ad (w_fd w2 _ _); rw [s3.2]
  have cr_0_4 := fdq_219 hD hth r0
  have ar_0_5_1 : w_ar w1 (n_v vs 0) 5 = w_ar ws (n_v vs 0) 5 := congrArg v_ad (s1.2 _ _).symm
  have ar_0_5_2 : w_ar w2 (n_v vs 0) 5 = w_ar ws (n_v vs 0) 5 := by rw [← ar_0_5_1]; show v_ad (w_fd w2 _ _) = v_ad (w_fd w1 _ _); rw [s2.2]
  have ar_0_5_3 : w_ar w3 (n_v vs 0) 5 = w_ar ws (n_v vs 0) 5 := by rw [← ar_0_5_2]; show v_ad (w_fd w3 _ _) = v_ad (w_fd w2 _ _); rw [s3.2]
  have cr_0_5 := fdq_248 hD hth r0
  have cr_0_6 := fdq_249 hD hth r0
  have ar_0_7_1 : w_ar w1 (n_v vs 0) 7 = w_ar ws (n_v vs 0) 7 := congrArg v_ad (s1.2 _ _).symm
  have ar_0_7_2 : w_ar w2 (n_v vs 0) 7 = w_ar ws (n_v vs 0) 7 := by rw [← ar_0_7_1]; show v_ad (w_fd w2 _ _) = v_ad (w_fd w1 _ _); rw [s2.2]
  have ar_0_7_3 : w_ar w3 (n_v vs 0) 7 = w_ar ws (n_v vs 0) 7 := by rw [← ar_0_7_2]; show v_ad (w_fd w3 _ _) = v_ad (w_fd w2 _ _); rw [s3.2]
  have cr_0_7 := fdq_215 hD hth r0
  have cr_0_8 := fdq_250 hD hth r0
  have ar_0_9_1 : w_ar w1 (n_v vs 0) 9 = w_ar ws (n_v vs 0) 9 := congrArg v_ad (s1.2 _ _).symm
  have ar_0_9_2 : w_ar w2 (n_v vs 0) 9 = w_ar ws (n_v vs 0) 9 := by rw [← ar_0_9_1]; show v_ad (w_fd w2 _ _) = v_ad (w_fd w1 _ _); rw [s2.2]
  have ar_0_9_3 : w_ar w3 (n_v vs 0) 9 = w_ar ws (n_v vs 0) 9 := by rw [← ar_0_9_2]; show v_ad (w_fd w3 _ _) = v_ad (w_fd w2 _ _); rw [s3.2]
  have cr_0_9 := fdq_216 hD hth r0
  have ar_1_9_1 : w_ar w1 (n_v vs 1) 9 = w_ar ws (n_v vs 1) 9 := congrArg v_ad (s1.2 _ _).symm
  have ar_1_9_2 : w_ar w2 (n_v vs 1) 9 = w_ar ws (n_v vs 1) 9 := by rw [← ar_1_9_1]; show v_ad (w_fd w2 _ _) = v_ad (w_fd w1 _ _); rw [s2.2]
  have ar_1_9_3 : w_ar w3 (n_v vs 1) 9 = w_ar ws (n_v vs 1) 9 := by rw [← ar_1_9_2]; show v_ad (w_fd w3 _ _) = v_ad (w_fd w2 _ _); rw [s3.2]
  have cr_1_9 := fdq_76 hD hth r1
  have ar_2_7_1 : w_ar w1 (n_v vs 2) 7 = w_ar ws (n_v vs 2) 7 := congrArg v_ad (s1.2 _ _).symm
  have ar_2_7_2 : w_ar w2 (n_v vs 2) 7 = w_ar ws (n_v vs 2) 7 := by rw [← ar_2_7_1]; show v_ad (w_fd w2 _ _) = v_ad (w_fd w1 _ _); rw [s2.2]
  have ar_2_7_3 : w_ar w3 (n_v vs 2) 7 = w_ar ws (n_v vs 2) 7 := by rw [← ar_2_7_2]; show v_ad (w_fd w3 _ _) = v_ad (w_fd w2 _ _); rw [s3.2]
  have cr_2_7 := fdq_46 hD hth r2
  have ar_2_8_1 : w_ar w1 (n_v vs 2) 8 = w_ar ws (n_v vs 2) 8 := congrArg v_ad (s1.2 _ _).symm
  have ar_2_8_2 : w_ar w2 (n_v vs 2) 8 = w_ar ws (n_v vs 2) 8 := by rw [← ar_2_8_1]; show v_ad (w_fd w2 _ _) = v_ad (w_fd w1 _ _); rw [s2.2]
  have ar_2_8_3 : w_ar w3 (n_v vs 2) 8 = w_ar ws (n_v vs 2) 8 := by rw [← ar_2_8_2]; show v_ad (w_fd w3 _ _) = v_ad (w_fd w2 _ _); rw [s3.2]
  have cr_2_8 := fdq_47 hD hth r2
  have ad_17 : v_ad (n_v vs 17) = w_ar ws (n_v vs 0) 7 := congrArg v_ad f1
  have ad_10 : v_ad (n_v vs 10) = w_ar ws (n_v vs 0) 4 := congrArg v_ad f3
  have g4 : v_iv (n_v vs 9) = w_fi ws (n_v vs 2) 1 := congrArg v_iv f4
  simp only [ar_1_9_1, ar_2_7_1, ar_2_8_1, ar_1_9_2, ar_2_7_2, ar_2_8_2, ar_0_4_2, ar_0_5_2, ar_0_7_2, ar_0_9_2, ar_1_9_3, ar_2_7_3, ar_2_8_3, ad_10] at f22 f35
  have h35 : v_iv (n_v vs 14) = w_ei w3 (w_ar ws (n_v vs 0) 4) (v_iv (n_v vs 13)) := f35
  simp only [ar_1_9_3, ar_2_7_3, ar_2_8_3, ad_10] at f36 f37
  have h37 : v_iv (n_v vs 12) = w_ei w3 (w_ar ws (n_v vs 0) 4) (v_iv (n_v vs 11)) := f37
  simp only [ar_1_9_3, ar_2_7_3, ar_2_8_3, ar_0_4_3, ar_0_5_3, ar_0_7_3, ar_0_9_3] at f38 f40
  have fe_0_2_1 : w_fi ws (n_v vs 0) 2 = w_fi w1 (n_v vs 0) 2 := congrArg v_iv (s1.2 _ _)
  have fe_0_3_1 : w_fi ws (n_v vs 0) 3 = w_fi w1 (n_v vs 0) 3 := congrArg v_iv (s1.2 _ _)
  have fe_2_0_1 : w_fi ws (n_v vs 2) 0 = w_fi w1 (n_v vs 2) 0 := congrArg v_iv (s1.2 _ _)
  have fe_2_1_1 : w_fi ws (n_v vs 2) 1 = w_fi w1 (n_v vs 2) 1 := congrArg v_iv (s1.2 _ _)
  have fe_0_2_2 : w_fi w1 (n_v vs 0) 2 = w_fi w2 (n_v vs 0) 2 := congrArg v_iv (s2.2 _ _)
  have fe_0_3_2 : w_fi w1 (n_v vs 0) 3 = w_fi w2 (n_v vs 0) 3 := congrArg v_iv (s2.2 _ _)
  have fe_2_0_2 : w_fi w1 (n_v vs 2) 0 = w_fi w2 (n_v vs 2) 0 := congrArg v_iv (s2.2 _ _)
  have fe_2_1_2 : w_fi w1 (n_v vs 2) 1 = w_fi w2 (n_v vs 2) 1 := congrArg v_iv (s2.2 _ _)
  have fe_0_2_3 : w_fi w2 (n_v vs 0) 2 = w_fi w3 (n_v vs 0) 2 := congrArg v_iv (s3.2 _ _)
  have fe_0_3_3 : w_fi w2 (n_v vs 0) 3 = w_fi w3 (n_v vs 0) 3 := congrArg v_iv (s3.2 _ _)
  have fe_2_0_3 : w_fi w2 (n_v vs 2) 0 = w_fi w3 (n_v vs 2) 0 := congrArg v_iv (s3.2 _ _)
  have fe_2_1_3 : w_fi w2 (n_v vs 2) 1 = w_fi w3 (n_v vs 2) 1 := congrArg v_iv (s3.2 _ _)
  have hE_0_4_1 : ∀ j : Int, w_ei ws (w_ar ws (n_v vs 0) 4) j = w_ei w1 (w_ar ws (n_v vs 0) 4) j := el_kp s1.1 r21 cr_0_4 (by decide)
  have hE_0_4_2 : ∀ j : Int, w_ei w1 (w_ar ws (n_v vs 0) 4) j = w_ei w2 (w_ar ws (n_v vs 0) 4) j := el_kp s2.1 r17 cr_0_4 (by decide)
  have hE_0_4_3 : ∀ j : Int, w_ei w2 (w_ar ws (n_v vs 0) 4) j = w_ei w3 (w_ar ws (n_v vs 0) 4) j := el_kp s3.1 r15 cr_0_4 (by decide)
  have hE_0_5_1 : ∀ j : Int, w_ei ws (w_ar ws (n_v vs 0) 5) j = w_ei w1 (w_ar ws (n_v vs 0) 5) j := el_kp s1.1 r21 cr_0_5 (by decide)
  have hE_0_5_2 : ∀ j : Int, w_ei w1 (w_ar ws (n_v vs 0) 5) j = w_ei w2 (w_ar ws (n_v vs 0) 5) j := el_kp s2.1 r17 cr_0_5 (by decide)
  have hE_0_5_3 : ∀ j : Int, w_ei w2 (w_ar ws (n_v vs 0) 5) j = w_ei w3 (w_ar ws (n_v vs 0) 5) j := el_kp s3.1 r15 cr_0_5 (by decide)
  have hE_0_6_1 : ∀ j : Int, w_ei ws (w_ar ws (n_v vs 0) 6) j = w_ei w1 (w_ar ws (n_v vs 0) 6) j := el_kp s1.1 r21 cr_0_6 (by decide)
  have hE_0_6_2 : ∀ j : Int, w_ei w1 (w_ar ws (n_v vs 0) 6) j = w_ei w2 (w_ar ws (n_v vs 0) 6) j := el_kp s2.1 r17 cr_0_6 (by decide)
  have hE_0_7_1 : ∀ j : Int, w_ei ws (w_ar ws (n_v vs 0) 7) j = w_ei w1 (w_ar ws (n_v vs 0) 7) j := el_kp s1.1 r21 cr_0_7 (by decide)
  have hE_0_7_2 : ∀ j : Int, 0 ≤ j → (j = v_iv (n_v vs 5) → w_ei w1 (w_ar ws (n_v vs 0) 7) j = v_iv (n_v vs 20)) ∧ (j ≠ v_iv (n_v vs 5) → w_ei w1 (w_ar ws (n_v vs 0) 7) j = w_ei w2 (w_ar ws (n_v vs 0) 7) j) := fun j hj => ⟨fun h => by unfold w_ei; rw [s2.1, if_pos ⟨ad_17.symm, by rw [h]⟩], fun h => by unfold w_ei; rw [s2.1, if_neg (fun e => h (by have := e.2; omega))]⟩
  have hE_0_7_3 : ∀ j : Int, w_ei w2 (w_ar ws (n_v vs 0) 7) j = w_ei w3 (w_ar ws (n_v vs 0) 7) j := el_kp s3.1 r15 cr_0_7 (by decide)
  have hE_0_8_2 : ∀ j : Int, w_ei w1 (w_ar ws (n_v vs 0) 8) j = w_ei w2 (w_ar ws (n_v vs 0) 8) j := el_kp s2.1 r17 cr_0_8 (by decide)
  have hE_0_8_3 : ∀ j : Int, w_ei w2 (w_ar ws (n_v vs 0) 8) j = w_ei w3 (w_ar ws (n_v vs 0) 8) j := el_kp s3.1 r15 cr_0_8 (by decide)
  have hE_0_9_1 : ∀ j : Int, w_ei ws (w_ar ws (n_v vs 0) 9) j = w_ei w1 (w_ar ws (n_v vs 0) 9) j := el_kp s1.1 r21 cr_0_9 (by decide)
  have hE_0_9_2 : ∀ j : Int, w_ei w1 (w_ar ws (n_v vs 0) 9) j = w_ei w2 (w_ar ws (n_v vs 0) 9) j := el_kp s2.1 r17 cr_0_9 (by decide)
  have hE_0_9_3 : ∀ j : Int, w_ei w2 (w_ar ws (n_v vs 0) 9) j = w_ei w3 (w_ar ws (n_v vs 0) 9) j := el_kp s3.1 r15 cr_0_9 (by decide)
  have hE_1_9_1 : ∀ j : Int, w_ei ws (w_ar ws (n_v vs 1) 9) j = w_ei w1 (w_ar ws (n_v vs 1) 9) j := el_kp s1.1 r21 cr_1_9 (by decide)
  have hE_1_9_2 : ∀ j : Int, w_ei w1 (w_ar ws (n_v vs 1) 9) j = w_ei w2 (w_ar ws (n_v vs 1) 9) j := el_kp s2.1 r17 cr_1_9 (by decide)
  have hE_1_9_3 : ∀ j : Int, w_ei w2 (w_ar ws (n_v vs 1) 9) j = w_ei w3 (w_ar ws (n_v vs 1) 9) j := el_kp s3.1 r15 cr_1_9 (by decide)
  have hE_2_7_1 : ∀ j : Int, w_ei ws (w_ar ws (n_v vs 2) 7) j = w_ei w1 (w_ar ws (n_v vs 2) 7) j := el_kp s1.1 r21 cr_2_7 (by decide)
  have hE_2_7_2 : ∀ j : Int, w_ei w1 (w_ar ws (n_v vs 2) 7) j = w_ei w2 (w_ar ws (n_v vs 2) 7) j := el_kp s2.1 r17 cr_2_7 (by decide)
  have hE_2_7_3 : ∀ j : Int, w_ei w2 (w_ar ws (n_v vs 2) 7) j = w_ei w3 (w_ar ws (n_v vs 2) 7) j := el_kp s3.1 r15 cr_2_7 (by decide)
  have hE_2_8_1 : ∀ j : Int, w_ei ws (w_ar ws (n_v vs 2) 8) j = w_ei w1 (w_ar ws (n_v vs 2) 8) j := el_kp s1.1 r21 cr_2_8 (by decide)
  have hE_2_8_2 : ∀ j : Int, w_ei w1 (w_ar ws (n_v vs 2) 8) j = w_ei w2 (w_ar ws (n_v vs 2) 8) j := el_kp s2.1 r17 cr_2_8 (by decide)
  have hE_2_8_3 : ∀ j : Int, w_ei w2 (w_ar ws (n_v vs 2) 8) j = w_ei w3 (w_ar ws (n_v vs 2) 8) j := el_kp s3.1 r15 cr_2_8 (by decide)
  have kz_0_2 := fdq_77 hD hth r0
  have kz_0_3 := fdq_218 hD hth r0
  have kz_2_0 := fdq_21 hD hth r2
  have kz_2_1 := fdq_30 hD hth r2
  have nf0 : fc_1 PRD (20, [3, 8, 4, 6, 25, 24], [60, 4, 7, 667, 3, 2, 1000, 1001, 4, 5, 7, 9, 1007, 1008, 2009]) ws (vs) := by
    refine ⟨nf_in hl rfl, sgq_1094 ?_⟩
    · show MPM (w_fi ws (n_v vs 3) 3) (w_fi ws (n_v vs 3) 2) (w_fi ws (n_v vs 8) 0) (w_fi ws (n_v vs 8) 1) (w_ei ws (w_ar ws (n_v vs 3) 4)) (w_ei ws (w_ar ws (n_v vs 3) 5)) (w_ei ws (w_ar ws (n_v vs 3) 7)) (w_ei ws (w_ar ws (n_v vs 3) 9)) (w_ei ws (w_ar ws (n_v vs 8) 7)) (w_ei ws (w_ar ws (n_v vs 8) 8)) (w_ei ws (w_ar ws (n_v vs 4) 9)) (v_iv (n_v vs 6)) (v_iv (n_v vs 25)) (v_iv (n_v vs 24))
      simp only [q8, q4, q3]
      exact vc_La_makePieces_13_0 (v_iv (n_v vs 5)) (v_iv (n_v vs 6)) (v_iv (n_v vs 7)) (v_iv (n_v vs 9)) (v_iv (n_v vs 11)) (v_iv (n_v vs 12)) (v_iv (n_v vs 13)) (v_iv (n_v vs 14)) (v_iv (n_v vs 20)) (v_iv (n_v vs 24)) (v_iv (n_v vs 25)) (w_fi ws (n_v vs 2) 1) (w_ei ws (w_ar ws (n_v vs 2) 7)) (w_ei ws (w_ar ws (n_v vs 2) 8)) (w_ei ws (w_ar ws (n_v vs 1) 9)) (w_fi ws (n_v vs 0) 2) (w_ei w1 (w_ar ws (n_v vs 2) 7)) (w_ei w1 (w_ar ws (n_v vs 2) 8)) (w_ei w1 (w_ar ws (n_v vs 1) 9)) (w_fi w1 (n_v vs 0) 2) (w_ei w2 (w_ar ws (n_v vs 2) 7)) (w_ei w2 (w_ar ws (n_v vs 2) 8)) (w_ei w2 (w_ar ws (n_v vs 1) 9)) (w_ei w2 (w_ar ws (n_v vs 0) 4)) (w_ei w2 (w_ar ws (n_v vs 0) 5)) (w_ei w2 (w_ar ws (n_v vs 0) 7)) (w_ei w2 (w_ar ws (n_v vs 0) 9)) (w_fi w2 (n_v vs 0) 3) (w_fi w2 (n_v vs 0) 2) (w_fi w2 (n_v vs 2) 0) (w_fi w2 (n_v vs 2) 1) (w_ei w3 (w_ar ws (n_v vs 2) 7)) (w_ei w3 (w_ar ws (n_v vs 2) 8)) (w_ei w3 (w_ar ws (n_v vs 1) 9)) (w_ei w3 (w_ar ws (n_v vs 0) 4)) (w_ei w3 (w_ar ws (n_v vs 0) 5)) (w_ei w3 (w_ar ws (n_v vs 0) 7)) (w_ei w3 (w_ar ws (n_v vs 0) 9)) (w_fi w3 (n_v vs 0) 3) (w_fi w3 (n_v vs 0) 2) (w_fi w3 (n_v vs 2) 0) (w_fi w3 (n_v vs 2) 1) (w_fi ws (n_v vs 0) 3) (w_fi w1 (n_v vs 0) 3) (w_fi ws (n_v vs 2) 0) (w_fi w1 (n_v vs 2) 0) (w_fi w1 (n_v vs 2) 1) (w_ei ws (w_ar ws (n_v vs 0) 4)) (w_ei w1 (w_ar ws (n_v vs 0) 4)) (w_ei ws (w_ar ws (n_v vs 0) 5)) (w_ei w1 (w_ar ws (n_v vs 0) 5)) (w_ei ws (w_ar ws (n_v vs 0) 6)) (w_ei w1 (w_ar ws (n_v vs 0) 6)) (w_ei w2 (w_ar ws (n_v vs 0) 6)) (w_ei ws (w_ar ws (n_v vs 0) 7)) (w_ei w1 (w_ar ws (n_v vs 0) 7)) (w_ei w1 (w_ar ws (n_v vs 0) 8)) (v_iv (n_v vs 23)) (w_ei w2 (w_ar ws (n_v vs 0) 8)) (w_ei w3 (w_ar ws (n_v vs 0) 8)) (w_ei ws (w_ar ws (n_v vs 0) 9)) (w_ei w1 (w_ar ws (n_v vs 0) 9)) k5 k6 k7 k9 k11 k12 k13 k14 k20 k24 k25 d0 d1 d11 g4 f5 f6 f22 f33 f34 h35 f36 h37 f38 f40 fe_0_2_1 fe_0_3_1 fe_2_0_1 fe_2_1_1 fe_0_2_2 fe_0_3_2 fe_2_0_2 fe_2_1_2 fe_0_2_3 fe_0_3_3 fe_2_0_3 fe_2_1_3 hE_0_4_1 hE_0_4_2 hE_0_4_3 hE_0_5_1 hE_0_5_2 hE_0_5_3 hE_0_6_1 hE_0_6_2 hE_0_7_1 hE_0_7_2 hE_0_7_3 hE_0_8_2 hE_0_8_3 hE_0_9_1 hE_0_9_2 hE_0_9_3 hE_1_9_1 hE_1_9_2 hE_1_9_3 hE_2_7_1 hE_2_7_2 hE_2_7_3 hE_2_8_1 hE_2_8_2 hE_2_8_3 kz_0_2 kz_0_3 kz_2_0 kz_2_1
  refine ⟨(fun _ h => (by cases h)), [], trivial, ?_, (fun _ h => (by cases h))⟩
  rw [List.append_nil]
  exact List.forall_mem_cons.mpr ⟨⟨show (20 : Nat) < 100 from by decide, nf0⟩, (fun _ h => (by cases h))⟩
set_option maxHeartbeats 4000000 in
theorem vc_La_makePieces_14_0 (x5 : Int) (x6 : Int) (x7 : Int) (x9 : Int) (x11 : Int) (x12 : Int) (x13 : Int) (x14 : Int) (x15 : Int) (layerOf_0 : Int → Int) (tail_0o2 : Int → Int) (head_0o2 : Int → Int) (turned_0o1 : Int → Int) (edges_0o2 : Int) (firstJoint_0 : Int → Int) (pieceLower_0 : Int → Int) (pieceStart_0 : Int → Int) (items_0 : Int) (layerCount_0 : Int) (nodes_0o2 : Int) (k5 : 0 ≤ x5 ∧ x5 ≤ 120) (k6 : 0 ≤ x6 ∧ x6 ≤ 22) (k7 : 0 ≤ x7 ∧ x7 ≤ 47) (k9 : 1 ≤ x9 ∧ x9 ≤ 48) (k11 : 0 ≤ x11 ∧ x11 ≤ 23) (k12 : 0 ≤ x12 ∧ x12 ≤ 22) (k13 : 0 ≤ x13 ∧ x13 ≤ 23) (k14 : 0 ≤ x14 ∧ x14 ≤ 22) (k15 : 1 ≤ x15 ∧ x15 ≤ 48) (d0 : x7 + 1 ≤ x15 ∧ x15 ≤ x7 + 1) (d1 : x9 + (-4294967296) ≤ x15 ∧ x15 ≤ x9 + 0) (d2 : x14 + 0 ≤ x6 ∧ x6 ≤ x14 + 4294967296) (d4 : x9 + (-4294967296) ≤ x7 ∧ x7 ≤ x9 + (-1)) (f0 : x15 = x7 + 1) (h3 : x14 = layerOf_0 (x13)) (f4 : LOX (tail_0o2) (head_0o2) (turned_0o1) (x7) (x13)) (h6 : x12 = layerOf_0 (x11)) (f7 : UPX (tail_0o2) (head_0o2) (turned_0o1) (x7) (x11)) (g9 : x9 = edges_0o2) (f10 : MPM (items_0) (layerCount_0) (nodes_0o2) (edges_0o2) (layerOf_0) (firstJoint_0) (pieceLower_0) (pieceStart_0) (tail_0o2) (head_0o2) (turned_0o1) (x6) (x7) (x5)) (kz_0_2 : 0 ≤ layerCount_0 ∧ layerCount_0 ≤ 24) (kz_0_3 : 0 ≤ items_0 ∧ items_0 ≤ 72) (kz_2_0 : 0 ≤ nodes_0o2 ∧ nodes_0o2 ≤ 24) (kz_2_1 : 0 ≤ edges_0o2 ∧ edges_0o2 ≤ 48) : MPM (items_0) (layerCount_0) (nodes_0o2) (edges_0o2) (layerOf_0) (firstJoint_0) (pieceLower_0) (pieceStart_0) (tail_0o2) (head_0o2) (turned_0o1) (x6) (x15) (x5) := by
  first
    | (have q := mpi_end (‹MPL _ _ _ _ _ _ _ _ _ _ _ _ _›).1 (by omega); exact mpm_start (p := x6) (v := x5) ‹MPL _ _ _ _ _ _ _ _ _ _ _ _ _› (by assumption) rfl rfl (by omega) (by omega))
    | exact ⟨mpi_skip (a := x11) (b := x13) (tp := x12) (bt := x14) (‹MPM _ _ _ _ _ _ _ _ _ _ _ _ _ _›).1 (by omega) ‹UPX _ _ _ _ _› (by assumption) ‹LOX _ _ _ _ _› (by assumption) (by omega) (by omega), (‹MPM _ _ _ _ _ _ _ _ _ _ _ _ _ _›).2⟩
    | exact mpm_take (a := x11) (b := x13) (tp := x12) (bt := x14) (p := x5) (v := x27) ‹MPM _ _ _ _ _ _ _ _ _ _ _ _ _ _› (by omega) (by assumption) (by assumption) (by assumption) (by assumption) (by omega) (by omega) (by assumption) rfl (by have q := mpi_fj (a := x11) (b := x13) (tp := x12) (bt := x14) (f := x25) (‹MPM _ _ _ _ _ _ _ _ _ _ _ _ _ _›).1 (by omega) (by assumption) (by assumption) (by assumption) (by assumption) (by assumption); omega) (by omega) (by omega)
    | exact mpm_take (a := x11) (b := x13) (tp := x12) (bt := x14) (p := x5) (v := x25) ‹MPM _ _ _ _ _ _ _ _ _ _ _ _ _ _› (by omega) (by assumption) (by assumption) (by assumption) (by assumption) (by omega) (by omega) (by assumption) rfl (by exact mpm_lo ‹MPM _ _ _ _ _ _ _ _ _ _ _ _ _ _› (by omega) (by assumption)) (by omega) (by omega)
    | exact mpm_take (a := x11) (b := x13) (tp := x12) (bt := x14) (p := x5) (v := x23) ‹MPM _ _ _ _ _ _ _ _ _ _ _ _ _ _› (by omega) (by assumption) (by assumption) (by assumption) (by assumption) (by omega) (by omega) (by assumption) rfl (by have q := mpi_fj (a := x11) (b := x13) (tp := x12) (bt := x14) (f := x21) (‹MPM _ _ _ _ _ _ _ _ _ _ _ _ _ _›).1 (by omega) (by assumption) (by assumption) (by assumption) (by assumption) (by assumption); omega) (by omega) (by omega)
    | exact mpm_take (a := x11) (b := x13) (tp := x12) (bt := x14) (p := x5) (v := x20) ‹MPM _ _ _ _ _ _ _ _ _ _ _ _ _ _› (by omega) (by assumption) (by assumption) (by assumption) (by assumption) (by omega) (by omega) (by assumption) rfl (by exact mpm_lo ‹MPM _ _ _ _ _ _ _ _ _ _ _ _ _ _› (by omega) (by assumption)) (by omega) (by omega)
  
def o_La_makePieces_14 : or_T := (24, 16, [(0, (2, 0, 0, [4])), (1, (2, 0, 0, [2])), (2, (2, 0, 0, [3])), (3, (2, 0, 0, [4])), (4, (2, 0, 0, [2])), (5, (0, 0, 120, [])), (6, (0, 0, 22, [])), (7, (0, 0, 47, [])), (8, (2, 0, 0, [3])), (9, (0, 1, 48, [])), (10, (2, 0, 0, [62])), (11, (0, 0, 23, [])), (12, (0, 0, 22, [])), (13, (0, 0, 23, [])), (14, (0, 0, 22, [])), (15, (0, 1, 48, []))], [(6, [15, 7], [1]), (7, [6, 14], [3]), (7, [6, 12], [3]), (10, [14, 10, 13], []), (20, [8, 4, 7, 13], [60, 0, 3, 650, 7, 8, 1009]), (9, [10, 3], [4]), (10, [12, 10, 11], []), (20, [8, 4, 7, 11], [60, 0, 3, 649, 7, 8, 1009]), (7, [7, 9], [2]), (9, [9, 8], [1]), (20, [3, 8, 4, 6, 7, 5], [60, 4, 7, 667, 3, 2, 1000, 1001, 4, 5, 7, 9, 1007, 1008, 2009]), (24, [2, 8], []), (20, [3], [50, 1, 0, 2, 0, 2, 0, 1, 2, 0, 2]), (24, [1, 4], []), (24, [0, 3], [])], [], [], [(20, [3, 8, 4, 6, 15, 5], [60, 4, 7, 667, 3, 2, 1000, 1001, 4, 5, 7, 9, 1007, 1008, 2009])], [], [(15, 7, 1, 1), (15, 9, -4294967296, 0), (6, 14, 0, 4294967296), (6, 12, 0, 4294967296), (7, 9, -4294967296, -1)])
theorem oo_La_makePieces_14 {kA : Nat → ClassId} : or_ok PRD kA GG o_La_makePieces_14 := by
  refine or_mk fun A ta ws vs hD hth hl => ?_
  intro t0 r0 t1 r1 t2 r2 t3 r3 t4 r4 t5 k5 t6 k6 t7 k7 t8 r8 t9 k9 t10 r10 t11 k11 t12 k12 t13 k13 t14 k14 t15 k15 d0 d1 d2 d3 d4 f0 f1 f2 f3 f4 f5 f6 f7 f8 f9 f10 f11 f12 f13 f14
  replace f0 := shm_4 f0
  replace f3 := shm_107 f3
  replace f4 := shm_392 f4
  replace f5 := shm_108 f5
  replace f6 := shm_107 f6
  replace f7 := shm_402 f7
  replace f9 := shm_215 f9
  replace f10 := shm_1094 f10
  replace f11 := shm_5 f11
  replace f13 := shm_5 f13
  replace f14 := shm_5 f14
  have q8 : n_v vs 8 = n_v vs 2 := f11.symm
  have q4 : n_v vs 4 = n_v vs 1 := f13.symm
  have q3 : n_v vs 3 = n_v vs 0 := f14.symm
  simp only [q8, q4, q3] at f4 f5 f7 f9 f10
  have ad_10 : v_ad (n_v vs 10) = w_ar ws (n_v vs 0) 4 := congrArg v_ad f5
  simp only [ad_10] at f3
  have h3 : v_iv (n_v vs 14) = w_ei ws (w_ar ws (n_v vs 0) 4) (v_iv (n_v vs 13)) := f3
  simp only [ad_10] at f6
  have h6 : v_iv (n_v vs 12) = w_ei ws (w_ar ws (n_v vs 0) 4) (v_iv (n_v vs 11)) := f6
  have g9 : v_iv (n_v vs 9) = w_fi ws (n_v vs 2) 1 := congrArg v_iv f9
  have kz_0_2 := fdq_77 hD hth r0
  have kz_0_3 := fdq_218 hD hth r0
  have kz_2_0 := fdq_21 hD hth r2
  have kz_2_1 := fdq_30 hD hth r2
  have nf0 : fc_1 PRD (20, [3, 8, 4, 6, 15, 5], [60, 4, 7, 667, 3, 2, 1000, 1001, 4, 5, 7, 9, 1007, 1008, 2009]) ws (vs) := by
    refine ⟨nf_in hl rfl, sgq_1094 ?_⟩
    · show MPM (w_fi ws (n_v vs 3) 3) (w_fi ws (n_v vs 3) 2) (w_fi ws (n_v vs 8) 0) (w_fi ws (n_v vs 8) 1) (w_ei ws (w_ar ws (n_v vs 3) 4)) (w_ei ws (w_ar ws (n_v vs 3) 5)) (w_ei ws (w_ar ws (n_v vs 3) 7)) (w_ei ws (w_ar ws (n_v vs 3) 9)) (w_ei ws (w_ar ws (n_v vs 8) 7)) (w_ei ws (w_ar ws (n_v vs 8) 8)) (w_ei ws (w_ar ws (n_v vs 4) 9)) (v_iv (n_v vs 6)) (v_iv (n_v vs 15)) (v_iv (n_v vs 5))
      simp only [q8, q4, q3]
      exact vc_La_makePieces_14_0 (v_iv (n_v vs 5)) (v_iv (n_v vs 6)) (v_iv (n_v vs 7)) (v_iv (n_v vs 9)) (v_iv (n_v vs 11)) (v_iv (n_v vs 12)) (v_iv (n_v vs 13)) (v_iv (n_v vs 14)) (v_iv (n_v vs 15)) (w_ei ws (w_ar ws (n_v vs 0) 4)) (w_ei ws (w_ar ws (n_v vs 2) 7)) (w_ei ws (w_ar ws (n_v vs 2) 8)) (w_ei ws (w_ar ws (n_v vs 1) 9)) (w_fi ws (n_v vs 2) 1) (w_ei ws (w_ar ws (n_v vs 0) 5)) (w_ei ws (w_ar ws (n_v vs 0) 7)) (w_ei ws (w_ar ws (n_v vs 0) 9)) (w_fi ws (n_v vs 0) 3) (w_fi ws (n_v vs 0) 2) (w_fi ws (n_v vs 2) 0) k5 k6 k7 k9 k11 k12 k13 k14 k15 d0 d1 d2 d4 f0 h3 f4 h6 f7 g9 f10 kz_0_2 kz_0_3 kz_2_0 kz_2_1
  refine ⟨(fun _ h => (by cases h)), [], trivial, ?_, (fun _ h => (by cases h))⟩
  rw [List.append_nil]
  exact List.forall_mem_cons.mpr ⟨⟨show (20 : Nat) < 100 from by decide, nf0⟩, (fun _ h => (by cases h))⟩
def n_La_makePieces_an : List an_T := [(4, [(0, (2, 0, 0, [4])), (1, (2, 0, 0, [2])), (2, (0, 0, 120, [])), (3, (0, 0, 23, []))], [], (0, 0), [(0, 0, 99996), (1, 6, 23), (0, 0, 100000), (0, 0, 0), (0, 0, 0)], [], [((0, 1), (2, 0, 0, [3]))], [(2, 0, 0, [4]), (2, 0, 0, [2]), (2, 0, 0, [3])], 0, [], [(20, [3, 7, 4, 6, 5], [60, 4, 7, 666, 3, 2, 1000, 1001, 4, 5, 7, 9, 1007, 1008, 2009]), (24, [2, 7], []), (20, [3], [50, 1, 0, 2, 0, 2, 0, 1, 2, 0, 2]), (24, [1, 4], []), (24, [0, 3], []), (24, [1, 4], [])]), (24, [(0, (2, 0, 0, [4])), (1, (2, 0, 0, [2])), (2, (0, 0, 120, [])), (3, (0, 0, 22, [])), (4, (0, 0, 48, []))], [], (0, 0), [(0, 0, 99996), (1, 6, 23), (0, 0, 99976), (1, 7, 48), (0, 0, 100000)], [], [((0, 1), (2, 0, 0, [3]))], [(2, 0, 0, [4]), (2, 0, 0, [2]), (2, 0, 0, [3])], 0, [], [(20, [3, 8, 4, 6, 7, 5], [60, 4, 7, 667, 3, 2, 1000, 1001, 4, 5, 7, 9, 1007, 1008, 2009]), (24, [2, 8], []), (20, [3], [50, 1, 0, 2, 0, 2, 0, 1, 2, 0, 2]), (24, [1, 4], []), (24, [0, 3], []), (24, [1, 4], [])])]
def t_La_makePieces_ct : ct_L := [(1, 149, e_La_upperEnd), (1, 153, e_La_lowerEnd)]
set_option maxRecDepth 100000 in
theorem c_La_makePieces {l : Launch} {D : va_G} {kA : Nat → ClassId} (h_La_lowerEnd : ct_ok PRD l D kA GG y_La_lowerEnd z_La_lowerEnd e_La_lowerEnd) (h_La_upperEnd : ct_ok PRD l D kA GG y_La_upperEnd z_La_upperEnd e_La_upperEnd) : ct_ok PRD l D kA GG y_La_makePieces z_La_makePieces e_La_makePieces := chk_all_ok (FT := [(18, 4, 1), (22, 4, 2), (29, 4, 4), (33, 4, 5), (36, 4, 6), (39, 4, 7), (42, 4, 8), (45, 4, 9), (146, 3, 1), (156, 3, 9)]) (PT := []) (CT := t_La_makePieces_ct) (KT := []) (NT := []) (AN := n_La_makePieces_an) (OT := [o_La_makePieces_0, o_La_makePieces_1, o_La_makePieces_2, o_La_makePieces_3, o_La_makePieces_4, o_La_makePieces_5, o_La_makePieces_6, o_La_makePieces_7, o_La_makePieces_8, o_La_makePieces_9, o_La_makePieces_10, o_La_makePieces_11, o_La_makePieces_12, o_La_makePieces_13, o_La_makePieces_14]) 5 708 (List.forall_mem_cons.mpr ⟨oo_La_makePieces_0, List.forall_mem_cons.mpr ⟨oo_La_makePieces_1, List.forall_mem_cons.mpr ⟨oo_La_makePieces_2, List.forall_mem_cons.mpr ⟨oo_La_makePieces_3, List.forall_mem_cons.mpr ⟨oo_La_makePieces_4, List.forall_mem_cons.mpr ⟨oo_La_makePieces_5, List.forall_mem_cons.mpr ⟨oo_La_makePieces_6, List.forall_mem_cons.mpr ⟨oo_La_makePieces_7, List.forall_mem_cons.mpr ⟨oo_La_makePieces_8, List.forall_mem_cons.mpr ⟨oo_La_makePieces_9, List.forall_mem_cons.mpr ⟨oo_La_makePieces_10, List.forall_mem_cons.mpr ⟨oo_La_makePieces_11, List.forall_mem_cons.mpr ⟨oo_La_makePieces_12, List.forall_mem_cons.mpr ⟨oo_La_makePieces_13, List.forall_mem_cons.mpr ⟨oo_La_makePieces_14, List.forall_mem_nil _⟩⟩⟩⟩⟩⟩⟩⟩⟩⟩⟩⟩⟩⟩⟩) (by decide +kernel) ⟨List.forall_mem_cons.mpr ⟨gf_La_18, List.forall_mem_cons.mpr ⟨gf_La_22, List.forall_mem_cons.mpr ⟨gf_La_29, List.forall_mem_cons.mpr ⟨gf_La_33, List.forall_mem_cons.mpr ⟨gf_La_36, List.forall_mem_cons.mpr ⟨gf_La_39, List.forall_mem_cons.mpr ⟨gf_La_42, List.forall_mem_cons.mpr ⟨gf_La_45, List.forall_mem_cons.mpr ⟨gf_La_146, List.forall_mem_cons.mpr ⟨gf_La_156, List.forall_mem_nil _⟩⟩⟩⟩⟩⟩⟩⟩⟩⟩, List.forall_mem_nil _, List.forall_mem_cons.mpr ⟨cl_virtual (y := y_La_upperEnd) (ci := 4) rfl rfl ⟨_, _, rfl⟩ (by decide +kernel) h_La_upperEnd wm_1321 wm_18 wm_1318 wm_1320 wv_4_9 ⟨by decide, by decide, by decide +kernel⟩ (by decide), List.forall_mem_cons.mpr ⟨cl_virtual (y := y_La_lowerEnd) (ci := 4) rfl rfl ⟨_, _, rfl⟩ (by decide +kernel) h_La_lowerEnd wm_1325 wm_18 wm_1322 wm_1324 wv_4_10 ⟨by decide, by decide, by decide +kernel⟩ (by decide), List.forall_mem_nil _⟩⟩, List.forall_mem_nil _, List.forall_mem_nil _, GG_pl⟩ (by decide +kernel)
set_option maxHeartbeats 4000000 in
theorem vc_La_setOrder_0_0 (x1 : Int) (x2 : Int) (x3 : Int) (x5 : Int) (x6 : Int) (x7 : Int) (orders_0 : Int → Int) (layerStart_0 : Int → Int) (k1 : 0 ≤ x1 ∧ x1 ≤ 23) (k2 : 0 ≤ x2 ∧ x2 ≤ 719) (k3 : 0 ≤ x3 ∧ x3 ≤ 6) (k5 : 0 ≤ x5 ∧ x5 ≤ 153) (k6 : 0 ≤ x6 ∧ x6 ≤ 872) (k7 : 0 ≤ x7 ∧ x7 ≤ 262143) (h0 : x7 = orders_0 (x6)) (f1 : x6 = x5 + x2) (f2 : TBS (x3) (x5)) (f4 : x3 = (layerStart_0 ((x1 + 1)) - layerStart_0 (x1))) (f7 : ORD (orders_0)) (f8 : KLT (layerStart_0) (x1) (x2)) : OPD (x7) (x3) := by
  first
    | assumption
    | exact ord_opd (a := 0) (b := 0) ‹ORD _› ‹KLT _ _ _› (by assumption) (by omega) ‹TBS _ _› (by omega) (by assumption) (by omega) rfl
  
def o_La_setOrder_0 : or_T := (22, 9, [(1, (0, 0, 23, [])), (2, (0, 0, 719, [])), (3, (0, 0, 6, [])), (5, (0, 0, 153, [])), (6, (0, 0, 872, [])), (7, (0, 0, 262143, []))], [(10, [7, 4, 6], []), (1, [6, 5, 2], []), (20, [3, 5], [61, 0, 685]), (9, [4, 0], [17]), (20, [3, 0, 1], [50, 0, 1, 1010, 1, 2, 1, 0, 5, 9, 3, 1, 10, 4, 2, 1, 2, 0, 1, 3, 1, 10, 1, 2]), (20, [0], [60, 0, 1, 648, 17]), (20, [0, 1, 2], [60, 0, 1, 686, 10])], [], [], [(20, [7, 3], [61, 0, 687])], [], [])
theorem oo_La_setOrder_0 {kA : Nat → ClassId} : or_ok PRD kA GG o_La_setOrder_0 := by
  refine or_mk fun A ta ws vs hD hth hl => ?_
  intro t1 k1 t2 k2 t3 k3 t5 k5 t6 k6 t7 k7 f0 f1 f2 f3 f4 f7 f8
  replace f0 := shm_107 f0
  replace f3 := shm_795 f3
  have ad_4 : v_ad (n_v vs 4) = w_ar ws (n_v vs 0) 17 := congrArg v_ad f3
  simp only [ad_4] at f0
  have h0 : v_iv (n_v vs 7) = w_ei ws (w_ar ws (n_v vs 0) 17) (v_iv (n_v vs 6)) := f0
  have nf0 : fc_1 PRD (20, [7, 3], [61, 0, 687]) ws (vs) := ⟨nf_in hl rfl, sgq_394 (vc_La_setOrder_0_0 (v_iv (n_v vs 1)) (v_iv (n_v vs 2)) (v_iv (n_v vs 3)) (v_iv (n_v vs 5)) (v_iv (n_v vs 6)) (v_iv (n_v vs 7)) (w_ei ws (w_ar ws (n_v vs 0) 17)) (w_ei ws (w_ar ws (n_v vs 0) 10)) k1 k2 k3 k5 k6 k7 h0 (shm_12 f1) (shm_1095 f2) (shm_399 f4) (shm_1096 f7) (shm_1097 f8))⟩
  refine ⟨(fun _ h => (by cases h)), [], trivial, ?_, (fun _ h => (by cases h))⟩
  rw [List.append_nil]
  exact List.forall_mem_cons.mpr ⟨⟨show (20 : Nat) < 100 from by decide, nf0⟩, (fun _ h => (by cases h))⟩
set_option maxHeartbeats 4000000 in
theorem vc_La_setOrder_1_r0 (x1 : Int) (x3 : Int) (x4 : Int) (x5 : Int) (x8 : Int) (x10 : Int) (x11 : Int) (x12 : Int) (x13 : Int) (x14 : Int) (layerStart_0 : Int → Int) (k1 : 0 ≤ x1 ∧ x1 ≤ 23) (k3 : 1 ≤ x3 ∧ x3 ≤ 6) (k4 : 0 ≤ x4 ∧ x4 ≤ 262143) (k5 : 0 ≤ x5 ∧ x5 ≤ 5) (k8 : 0 ≤ x8 ∧ x8 ≤ 72) (k10 : 0 ≤ x10 ∧ x10 ≤ 15) (k11 : 0 ≤ x11 ∧ x11 ≤ 262143) (k12 : 7 ≤ x12 ∧ x12 ≤ 7) (k13 : 0 ≤ x13 ∧ x13 ≤ 7) (k14 : 0 ≤ x14 ∧ x14 ≤ 79) (d1 : x8 + 0 ≤ x14 ∧ x14 ≤ x8 + 7) (f0 : x14 = x8 + x13) (f2 : bvp (x13) = bvp (x11) &&& bvp (x12)) (f3 : bvp (x11) = bvp (x4) >>> (x10).toNat) (f4 : x10 = 3 * x5) (h5 : x8 = layerStart_0 (x1)) (f7 : x5 < x3) (f10 : OPD (x4) (x3)) (f11 : x3 = (layerStart_0 ((x1 + 1)) - layerStart_0 (x1))) (hK_0_10 : ∀ j : Int, 0 ≤ j → j < 26 → 0 ≤ layerStart_0 j ∧ layerStart_0 j ≤ 72) : 0 ≤ x14 ∧ x14 ≤ 71 := by
  first
    | omega
    | (have q := klt_le ‹KLT _ _ _› (by omega) ‹TBS _ _›; omega)
    | (have q := opd_dig (p := x4) (n := x3) (s := x10) (q := x11) (d := x13) (i := x5) (sv := x12) ‹OPD _ _› (by omega) (by omega) (by assumption) (by omega) (by assumption) (by omega) (by omega) (by omega) (by omega) (by omega); have w := ‹∀ j : Int, 0 ≤ j → j < 26 → 0 ≤ layerStart_0 j ∧ layerStart_0 j ≤ 72› (x1 + 1) (by omega) (by omega); omega)
    | (have w := ‹∀ j : Int, 0 ≤ j → j < 26 → 0 ≤ layerStart_0 j ∧ layerStart_0 j ≤ 72› (x1 + 1) (by omega) (by omega); omega)
  
def o_La_setOrder_1 : or_T := (49, 15, [(0, (2, 0, 0, [4])), (1, (0, 0, 23, [])), (3, (0, 1, 6, [])), (4, (0, 0, 262143, [])), (5, (0, 0, 5, [])), (7, (2, 0, 0, [68])), (8, (0, 0, 72, [])), (9, (0, 3, 3, [])), (10, (0, 0, 15, [])), (11, (0, 0, 262143, [])), (12, (0, 7, 7, [])), (13, (0, 0, 7, [])), (14, (0, 0, 79, []))], [(1, [14, 8, 13], []), (12, [13, 11], [8]), (16, [13, 11, 12], [0]), (16, [11, 4, 10], [4]), (3, [10, 9, 5], []), (10, [8, 7, 1], []), (9, [7, 0], [10]), (7, [5, 3], [2]), (20, [0], [60, 1, 1, 636, 2, 10]), (20, [1, 0], [50, 1, 0, 1002, 2, 6, 0, 2, 0, 0, 1, 0, 0, 6, 4, 2, 1, 0, 0, 1, 2, 1, 2]), (20, [4, 3], [61, 0, 687]), (20, [3, 0, 1], [50, 0, 1, 1010, 1, 2, 1, 0, 5, 9, 3, 1, 10, 4, 2, 1, 2, 0, 1, 3, 1, 10, 1, 2])], [(14, (0, 0, 71, []))], [], [], [], [(14, 13, 0, 72), (14, 8, 0, 7), (5, 3, -4294967296, -1), (5, 3, -4294967296, 0)])
theorem oo_La_setOrder_1 {kA : Nat → ClassId} : or_ok PRD kA GG o_La_setOrder_1 := by
  refine or_mk fun A ta ws vs hD hth hl => ?_
  intro t0 r0 t1 k1 t3 k3 t4 k4 t5 k5 t7 r7 t8 k8 t9 k9 t10 k10 t11 k11 t12 k12 t13 k13 t14 k14 d0 d1 d2 d3 f0 f1 f2 f3 f4 f5 f6 f7 f8 f9 f10 f11
  replace f4 := shm_38 f4
  rw [show v_iv (n_v vs 9) = 3 from by omega] at f4
  replace f5 := shm_107 f5
  replace f6 := shm_106 f6
  have cr_0_10 := fdq_5 hD hth r0
  have ad_7 : v_ad (n_v vs 7) = w_ar ws (n_v vs 0) 10 := congrArg v_ad f6
  simp only [ad_7] at f5
  have h5 : v_iv (n_v vs 8) = w_ei ws (w_ar ws (n_v vs 0) 10) (v_iv (n_v vs 1)) := f5
  have hK_0_10 := elq_39 hD hth cr_0_10
  have hrf0 : 0 ≤ v_iv (n_v vs 14) ∧ v_iv (n_v vs 14) ≤ 71 := vc_La_setOrder_1_r0 (v_iv (n_v vs 1)) (v_iv (n_v vs 3)) (v_iv (n_v vs 4)) (v_iv (n_v vs 5)) (v_iv (n_v vs 8)) (v_iv (n_v vs 10)) (v_iv (n_v vs 11)) (v_iv (n_v vs 12)) (v_iv (n_v vs 13)) (v_iv (n_v vs 14)) (w_ei ws (w_ar ws (n_v vs 0) 10)) k1 k3 k4 k5 k8 k10 k11 k12 k13 k14 d1 (shm_12 f0) (shm_11 f2) (shm_13 f3) f4 h5 (shm_6 f7) (shm_394 f10) (shm_399 f11) hK_0_10
  have rf14 : tv_ok ta (0, 0, 71, []) (n_v vs 14) := tv_in t14 (by first | omega | grind) (by first | omega | grind)
  refine ⟨List.forall_mem_cons.mpr ⟨rf14, (fun _ h => (by cases h))⟩, [], trivial, ?_, (fun _ h => (by cases h))⟩
  rw [List.append_nil]
  exact (fun _ h => (by cases h))
set_option maxHeartbeats 4000000 in
theorem vc_La_setOrder_2_r0 (x1 : Int) (x3 : Int) (x4 : Int) (x5 : Int) (x8 : Int) (x10 : Int) (x11 : Int) (x12 : Int) (x13 : Int) (x14 : Int) (x17 : Int) (x18 : Int) (layerStart_0 : Int → Int) (k1 : 0 ≤ x1 ∧ x1 ≤ 23) (k3 : 1 ≤ x3 ∧ x3 ≤ 6) (k4 : 0 ≤ x4 ∧ x4 ≤ 262143) (k5 : 0 ≤ x5 ∧ x5 ≤ 5) (k8 : 0 ≤ x8 ∧ x8 ≤ 72) (k10 : 0 ≤ x10 ∧ x10 ≤ 15) (k11 : 0 ≤ x11 ∧ x11 ≤ 262143) (k12 : 7 ≤ x12 ∧ x12 ≤ 7) (k13 : 0 ≤ x13 ∧ x13 ≤ 7) (k14 : 0 ≤ x14 ∧ x14 ≤ 71) (k17 : 0 ≤ x17 ∧ x17 ≤ 72) (k18 : 0 ≤ x18 ∧ x18 ≤ 77) (d5 : x8 + 0 ≤ x14 ∧ x14 ≤ x8 + 7) (d6 : x3 + (-4294967296) ≤ x5 ∧ x5 ≤ x3 + (-1)) (f0 : x18 = x17 + x5) (h1 : x17 = layerStart_0 (x1)) (f3 : x14 = x8 + x13) (f5 : bvp (x13) = bvp (x11) &&& bvp (x12)) (f6 : bvp (x11) = bvp (x4) >>> (x10).toNat) (f7 : x10 = 3 * x5) (h8 : x8 = layerStart_0 (x1)) (f9 : x5 < x3) (f12 : OPD (x4) (x3)) (f13 : x3 = (layerStart_0 ((x1 + 1)) - layerStart_0 (x1))) (hK_0_10 : ∀ j : Int, 0 ≤ j → j < 26 → 0 ≤ layerStart_0 j ∧ layerStart_0 j ≤ 72) : 0 ≤ x18 ∧ x18 ≤ 71 := by
  first
    | omega
    | (have q := klt_le ‹KLT _ _ _› (by omega) ‹TBS _ _›; omega)
    | (have q := opd_dig (p := x4) (n := x3) (s := x10) (q := x11) (d := x13) (i := x5) (sv := x12) ‹OPD _ _› (by omega) (by omega) (by assumption) (by omega) (by assumption) (by omega) (by omega) (by omega) (by omega) (by omega); have w := ‹∀ j : Int, 0 ≤ j → j < 26 → 0 ≤ layerStart_0 j ∧ layerStart_0 j ≤ 72› (x1 + 1) (by omega) (by omega); omega)
    | (have w := ‹∀ j : Int, 0 ≤ j → j < 26 → 0 ≤ layerStart_0 j ∧ layerStart_0 j ≤ 72› (x1 + 1) (by omega) (by omega); omega)
  
def o_La_setOrder_2 : or_T := (67, 19, [(0, (2, 0, 0, [4])), (1, (0, 0, 23, [])), (3, (0, 1, 6, [])), (4, (0, 0, 262143, [])), (5, (0, 0, 5, [])), (7, (2, 0, 0, [68])), (8, (0, 0, 72, [])), (9, (0, 3, 3, [])), (10, (0, 0, 15, [])), (11, (0, 0, 262143, [])), (12, (0, 7, 7, [])), (13, (0, 0, 7, [])), (14, (0, 0, 71, [])), (17, (0, 0, 72, [])), (18, (0, 0, 77, []))], [(1, [18, 17, 5], []), (10, [17, 7, 1], []), (9, [7, 0], [10]), (1, [14, 8, 13], []), (12, [13, 11], [8]), (16, [13, 11, 12], [0]), (16, [11, 4, 10], [4]), (3, [10, 9, 5], []), (10, [8, 7, 1], []), (7, [5, 3], [2]), (20, [0], [60, 1, 1, 636, 2, 10]), (20, [1, 0], [50, 1, 0, 1002, 2, 6, 0, 2, 0, 0, 1, 0, 0, 6, 4, 2, 1, 0, 0, 1, 2, 1, 2]), (20, [4, 3], [61, 0, 687]), (20, [3, 0, 1], [50, 0, 1, 1010, 1, 2, 1, 0, 5, 9, 3, 1, 10, 4, 2, 1, 2, 0, 1, 3, 1, 10, 1, 2])], [(18, (0, 0, 71, []))], [], [], [], [(18, 5, 0, 72), (18, 3, -4294967296, 71), (18, 3, -4294967296, 72), (18, 17, 0, 5), (14, 13, 0, 72), (14, 8, 0, 7), (5, 3, -4294967296, -1), (5, 3, -4294967296, 0)])
theorem oo_La_setOrder_2 {kA : Nat → ClassId} : or_ok PRD kA GG o_La_setOrder_2 := by
  refine or_mk fun A ta ws vs hD hth hl => ?_
  intro t0 r0 t1 k1 t3 k3 t4 k4 t5 k5 t7 r7 t8 k8 t9 k9 t10 k10 t11 k11 t12 k12 t13 k13 t14 k14 t17 k17 t18 k18 d0 d1 d2 d3 d4 d5 d6 d7 f0 f1 f2 f3 f4 f5 f6 f7 f8 f9 f10 f11 f12 f13
  replace f1 := shm_107 f1
  replace f2 := shm_106 f2
  replace f7 := shm_38 f7
  rw [show v_iv (n_v vs 9) = 3 from by omega] at f7
  replace f8 := shm_107 f8
  have cr_0_10 := fdq_5 hD hth r0
  have ad_7 : v_ad (n_v vs 7) = w_ar ws (n_v vs 0) 10 := congrArg v_ad f2
  simp only [ad_7] at f1
  have h1 : v_iv (n_v vs 17) = w_ei ws (w_ar ws (n_v vs 0) 10) (v_iv (n_v vs 1)) := f1
  simp only [ad_7] at f8
  have h8 : v_iv (n_v vs 8) = w_ei ws (w_ar ws (n_v vs 0) 10) (v_iv (n_v vs 1)) := f8
  have hK_0_10 := elq_39 hD hth cr_0_10
  have hrf0 : 0 ≤ v_iv (n_v vs 18) ∧ v_iv (n_v vs 18) ≤ 71 := vc_La_setOrder_2_r0 (v_iv (n_v vs 1)) (v_iv (n_v vs 3)) (v_iv (n_v vs 4)) (v_iv (n_v vs 5)) (v_iv (n_v vs 8)) (v_iv (n_v vs 10)) (v_iv (n_v vs 11)) (v_iv (n_v vs 12)) (v_iv (n_v vs 13)) (v_iv (n_v vs 14)) (v_iv (n_v vs 17)) (v_iv (n_v vs 18)) (w_ei ws (w_ar ws (n_v vs 0) 10)) k1 k3 k4 k5 k8 k10 k11 k12 k13 k14 k17 k18 d5 d6 (shm_12 f0) h1 (shm_12 f3) (shm_11 f5) (shm_13 f6) f7 h8 (shm_6 f9) (shm_394 f12) (shm_399 f13) hK_0_10
  have rf18 : tv_ok ta (0, 0, 71, []) (n_v vs 18) := tv_in t18 (by first | omega | grind) (by first | omega | grind)
  refine ⟨List.forall_mem_cons.mpr ⟨rf18, (fun _ h => (by cases h))⟩, [], trivial, ?_, (fun _ h => (by cases h))⟩
  rw [List.append_nil]
  exact (fun _ h => (by cases h))
def n_La_setOrder_an : List an_T := [(22, [(0, (2, 0, 0, [4])), (1, (0, 0, 23, [])), (2, (0, 0, 719, [])), (3, (0, 0, 6, [])), (4, (0, 0, 262143, [])), (5, (0, 0, 6, []))], [], (0, 0), [(0, 0, 99978), (1, 5, 6), (0, 0, 100000)], [(5, 3, (Int.negSucc 999999999999), 0)], [], [], 0, [], [(20, [0], [60, 1, 1, 636, 2, 10]), (20, [1, 0], [50, 1, 0, 1002, 2, 6, 0, 2, 0, 0, 1, 0, 0, 6, 4, 2, 1, 0, 0, 1, 2, 1, 2]), (20, [4, 3], [61, 0, 687]), (20, [3, 0, 1], [50, 0, 1, 1010, 1, 2, 1, 0, 5, 9, 3, 1, 10, 4, 2, 1, 2, 0, 1, 3, 1, 10, 1, 2])])]
def t_La_setOrder_ct : ct_L := [(0, 211, e_La_firstOrder), (1, 181, e_La_sizeOf)]
set_option maxRecDepth 100000 in
theorem c_La_setOrder {l : Launch} {D : va_G} {kA : Nat → ClassId} (h_La_firstOrder : ct_ok PRD l D kA GG y_La_firstOrder z_La_firstOrder e_La_firstOrder) (h_La_sizeOf : ct_ok PRD l D kA GG y_La_sizeOf z_La_sizeOf e_La_sizeOf) : ct_ok PRD l D kA GG y_La_setOrder z_La_setOrder e_La_setOrder := chk_all_ok (FT := [(48, 4, 10), (51, 4, 11), (57, 4, 13), (60, 4, 14), (69, 4, 17)]) (PT := []) (CT := t_La_setOrder_ct) (KT := []) (NT := []) (AN := n_La_setOrder_an) (OT := [o_La_setOrder_0, o_La_setOrder_1, o_La_setOrder_2]) 3 204 (List.forall_mem_cons.mpr ⟨oo_La_setOrder_0, List.forall_mem_cons.mpr ⟨oo_La_setOrder_1, List.forall_mem_cons.mpr ⟨oo_La_setOrder_2, List.forall_mem_nil _⟩⟩⟩) (by decide +kernel) ⟨List.forall_mem_cons.mpr ⟨gf_La_48, List.forall_mem_cons.mpr ⟨gf_La_51, List.forall_mem_cons.mpr ⟨gf_La_57, List.forall_mem_cons.mpr ⟨gf_La_60, List.forall_mem_cons.mpr ⟨gf_La_69, List.forall_mem_nil _⟩⟩⟩⟩⟩, List.forall_mem_nil _, List.forall_mem_cons.mpr ⟨cl_static (y := y_La_firstOrder) h_La_firstOrder wm_1396 wm_18 wm_1394 wm_1395 ⟨by decide, by decide, by decide +kernel⟩ (by decide), List.forall_mem_cons.mpr ⟨cl_virtual (y := y_La_sizeOf) (ci := 4) rfl rfl ⟨_, _, rfl⟩ (by decide +kernel) h_La_sizeOf wm_1382 wm_18 wm_1379 wm_1381 wv_5_4 ⟨by decide, by decide, by decide +kernel⟩ (by decide), List.forall_mem_nil _⟩⟩, List.forall_mem_nil _, List.forall_mem_nil _, GG_pl⟩ (by decide +kernel)

set_option maxHeartbeats 4000000 in
theorem vc_Ne_edgeAround_0_r0 (x1 : Int) (x3 : Int) (x5 : Int) (x6 : Int) (x8 : Int) (first_0 : Int → Int) (near_0 : Int → Int) (nodes_0 : Int) (k1 : 0 ≤ x1 ∧ x1 ≤ 23) (k3 : 1 ≤ x3 ∧ x3 ≤ 24) (k5 : 0 ≤ x5 ∧ x5 ≤ 16777215) (k6 : 1 ≤ x6 ∧ x6 ≤ 63) (k8 : (-1) ≤ x8 ∧ x8 ≤ 71) (d1 : x3 + (-4294967296) ≤ x1 ∧ x1 ≤ x3 + (-1)) (h0 : x8 = first_0 (x1)) (f3 : BCT (x5) (x6)) (h4 : x5 = near_0 (x1)) (g7 : x3 = nodes_0) (f8 : FIN (nodes_0) (near_0) (first_0)) (kz_0_5 : 0 ≤ nodes_0 ∧ nodes_0 ≤ 24) : 0 ≤ x8 ∧ x8 ≤ 71 := by
  first
    | omega
    | (by_cases z : x5 = 0
       · have q := (‹BCT _ _›).1 0 (by omega) (by rw [z]; rfl)
         omega
       · have q := fin_at (v := x1) (x := x8) ‹FIN _ _ _› (by omega) (by omega) (by omega) (by omega)
         omega)
  
def o_Ne_edgeAround_0 : or_T := (29, 9, [(0, (2, 0, 0, [5])), (1, (0, 0, 23, [])), (2, (0, 0, 62, [])), (3, (0, 1, 24, [])), (4, (2, 0, 0, [82])), (5, (0, 0, 16777215, [])), (6, (0, 1, 63, [])), (7, (2, 0, 0, [85])), (8, (0, -1, 71, []))], [(10, [8, 7, 1], []), (9, [7, 0], [12]), (7, [2, 6], [2]), (20, [5, 6], [61, 0, 554]), (10, [5, 4, 1], []), (9, [4, 0], [9]), (7, [1, 3], [2]), (9, [3, 0], [5]), (20, [0], [60, 1, 2, 631, 5, 9, 12])], [(8, (0, 0, 71, []))], [], [], [], [(2, 6, -4294967296, -1), (1, 3, -4294967296, -1)])
theorem oo_Ne_edgeAround_0 {kA : Nat → ClassId} : or_ok PRD kA GG o_Ne_edgeAround_0 := by
  refine or_mk fun A ta ws vs hD hth hl => ?_
  intro t0 r0 t1 k1 t2 k2 t3 k3 t4 r4 t5 k5 t6 k6 t7 r7 t8 k8 d0 d1 f0 f1 f2 f3 f4 f5 f6 f7 f8
  replace f0 := shm_107 f0
  replace f1 := shm_103 f1
  replace f4 := shm_107 f4
  replace f5 := shm_119 f5
  replace f7 := shm_110 f7
  have ad_7 : v_ad (n_v vs 7) = w_ar ws (n_v vs 0) 12 := congrArg v_ad f1
  have ad_4 : v_ad (n_v vs 4) = w_ar ws (n_v vs 0) 9 := congrArg v_ad f5
  simp only [ad_7] at f0
  have h0 : v_iv (n_v vs 8) = w_ei ws (w_ar ws (n_v vs 0) 12) (v_iv (n_v vs 1)) := f0
  simp only [ad_4] at f4
  have h4 : v_iv (n_v vs 5) = w_ei ws (w_ar ws (n_v vs 0) 9) (v_iv (n_v vs 1)) := f4
  have g7 : v_iv (n_v vs 3) = w_fi ws (n_v vs 0) 5 := congrArg v_iv f7
  have kz_0_5 := fdq_82 hD hth r0
  have hrf0 : 0 ≤ v_iv (n_v vs 8) ∧ v_iv (n_v vs 8) ≤ 71 := vc_Ne_edgeAround_0_r0 (v_iv (n_v vs 1)) (v_iv (n_v vs 3)) (v_iv (n_v vs 5)) (v_iv (n_v vs 6)) (v_iv (n_v vs 8)) (w_ei ws (w_ar ws (n_v vs 0) 12)) (w_ei ws (w_ar ws (n_v vs 0) 9)) (w_fi ws (n_v vs 0) 5) k1 k3 k5 k6 k8 d1 h0 (shm_15 f3) h4 g7 (shm_1098 f8) kz_0_5
  have rf8 : tv_ok ta (0, 0, 71, []) (n_v vs 8) := tv_in t8 (by first | omega | grind) (by first | omega | grind)
  refine ⟨List.forall_mem_cons.mpr ⟨rf8, (fun _ h => (by cases h))⟩, [], trivial, ?_, (fun _ h => (by cases h))⟩
  rw [List.append_nil]
  exact (fun _ h => (by cases h))
set_option maxHeartbeats 4000000 in
theorem vc_Ne_edgeAround_1_0 (x1 : Int) (x5 : Int) (x8 : Int) (first_0 : Int → Int) (k1 : 0 ≤ x1 ∧ x1 ≤ 23) (k8 : 0 ≤ x8 ∧ x8 ≤ 71) (h0 : x8 = first_0 (x1)) : 0 ≤ x8 := by
  first
    | omega
    | (by_cases z : x5 = 0
       · have q := (‹BCT _ _›).1 0 (by omega) (by rw [z]; rfl)
         omega
       · have q := fin_at (v := x1) (x := x8) ‹FIN _ _ _› (by omega) (by omega) (by omega) (by omega)
         omega)
  
def o_Ne_edgeAround_1 : or_T := (33, 10, [(1, (0, 0, 23, [])), (8, (0, 0, 71, []))], [(10, [8, 7, 1], []), (9, [7, 0], [12])], [], [], [(20, [8], [50, 0, 0, 0, 2, 0, 0, 1, 0])], [], [])
theorem oo_Ne_edgeAround_1 {kA : Nat → ClassId} : or_ok PRD kA GG o_Ne_edgeAround_1 := by
  refine or_mk fun A ta ws vs hD hth hl => ?_
  intro t1 k1 t8 k8 f0 f1
  replace f0 := shm_107 f0
  replace f1 := shm_103 f1
  have ad_7 : v_ad (n_v vs 7) = w_ar ws (n_v vs 0) 12 := congrArg v_ad f1
  simp only [ad_7] at f0
  have h0 : v_iv (n_v vs 8) = w_ei ws (w_ar ws (n_v vs 0) 12) (v_iv (n_v vs 1)) := f0
  have nf0 : fc_1 PRD (20, [8], [50, 0, 0, 0, 2, 0, 0, 1, 0]) ws (vs) := ⟨nf_in hl rfl, sgq_722 (vc_Ne_edgeAround_1_0 (v_iv (n_v vs 1)) (v_iv (n_v vs 5)) (v_iv (n_v vs 8)) (w_ei ws (w_ar ws (n_v vs 0) 12)) k1 k8 h0)⟩
  refine ⟨(fun _ h => (by cases h)), [], trivial, ?_, (fun _ h => (by cases h))⟩
  rw [List.append_nil]
  exact List.forall_mem_cons.mpr ⟨⟨show (20 : Nat) < 100 from by decide, nf0⟩, (fun _ h => (by cases h))⟩
set_option maxHeartbeats 4000000 in
theorem vc_Ne_edgeAround_2_0 (x6 : Int) (x7 : Int) (behind_0 : Int → Int) (k6 : 1 ≤ x6 ∧ x6 ≤ 143) (k7 : 0 ≤ x7 ∧ x7 ≤ 71) (h0 : x7 = behind_0 (x6)) : 0 ≤ x7 := by
  first
    | omega
    | (by_cases z : x5 = 0
       · have q := (‹BCT _ _›).1 0 (by omega) (by rw [z]; rfl)
         omega
       · have q := fin_at (v := x1) (x := x8) ‹FIN _ _ _› (by omega) (by omega) (by omega) (by omega)
         omega)
  
def o_Ne_edgeAround_2 : or_T := (33, 9, [(0, (2, 0, 0, [5])), (3, (0, 0, 71, [])), (5, (2, 0, 0, [84])), (6, (0, 1, 143, [])), (7, (0, 0, 71, []))], [(10, [7, 5, 6], []), (9, [5, 0], [11]), (20, [3], [50, 0, 0, 0, 2, 0, 0, 1, 0])], [], [], [(20, [7], [50, 0, 0, 0, 2, 0, 0, 1, 0])], [], [])
theorem oo_Ne_edgeAround_2 {kA : Nat → ClassId} : or_ok PRD kA GG o_Ne_edgeAround_2 := by
  refine or_mk fun A ta ws vs hD hth hl => ?_
  intro t0 r0 t3 k3 t5 r5 t6 k6 t7 k7 f0 f1 f2
  replace f0 := shm_107 f0
  replace f1 := shm_116 f1
  have ad_5 : v_ad (n_v vs 5) = w_ar ws (n_v vs 0) 11 := congrArg v_ad f1
  simp only [ad_5] at f0
  have h0 : v_iv (n_v vs 7) = w_ei ws (w_ar ws (n_v vs 0) 11) (v_iv (n_v vs 6)) := f0
  have nf0 : fc_1 PRD (20, [7], [50, 0, 0, 0, 2, 0, 0, 1, 0]) ws (vs) := ⟨nf_in hl rfl, sgq_722 (vc_Ne_edgeAround_2_0 (v_iv (n_v vs 6)) (v_iv (n_v vs 7)) (w_ei ws (w_ar ws (n_v vs 0) 11)) k6 k7 h0)⟩
  refine ⟨(fun _ h => (by cases h)), [], trivial, ?_, (fun _ h => (by cases h))⟩
  rw [List.append_nil]
  exact List.forall_mem_cons.mpr ⟨⟨show (20 : Nat) < 100 from by decide, nf0⟩, (fun _ h => (by cases h))⟩
set_option maxHeartbeats 4000000 in
theorem vc_Ne_edgeAround_3_0 (x6 : Int) (x7 : Int) (behind_0 : Int → Int) (k6 : 0 ≤ x6 ∧ x6 ≤ 142) (k7 : 0 ≤ x7 ∧ x7 ≤ 71) (h0 : x7 = behind_0 (x6)) : 0 ≤ x7 := by
  first
    | omega
    | (by_cases z : x5 = 0
       · have q := (‹BCT _ _›).1 0 (by omega) (by rw [z]; rfl)
         omega
       · have q := fin_at (v := x1) (x := x8) ‹FIN _ _ _› (by omega) (by omega) (by omega) (by omega)
         omega)
  
def o_Ne_edgeAround_3 : or_T := (33, 9, [(0, (2, 0, 0, [5])), (3, (0, 0, 71, [])), (5, (2, 0, 0, [84])), (6, (0, 0, 142, [])), (7, (0, 0, 71, []))], [(10, [7, 5, 6], []), (9, [5, 0], [11]), (20, [3], [50, 0, 0, 0, 2, 0, 0, 1, 0])], [], [], [(20, [7], [50, 0, 0, 0, 2, 0, 0, 1, 0])], [], [])
theorem oo_Ne_edgeAround_3 {kA : Nat → ClassId} : or_ok PRD kA GG o_Ne_edgeAround_3 := by
  refine or_mk fun A ta ws vs hD hth hl => ?_
  intro t0 r0 t3 k3 t5 r5 t6 k6 t7 k7 f0 f1 f2
  replace f0 := shm_107 f0
  replace f1 := shm_116 f1
  have ad_5 : v_ad (n_v vs 5) = w_ar ws (n_v vs 0) 11 := congrArg v_ad f1
  simp only [ad_5] at f0
  have h0 : v_iv (n_v vs 7) = w_ei ws (w_ar ws (n_v vs 0) 11) (v_iv (n_v vs 6)) := f0
  have nf0 : fc_1 PRD (20, [7], [50, 0, 0, 0, 2, 0, 0, 1, 0]) ws (vs) := ⟨nf_in hl rfl, sgq_722 (vc_Ne_edgeAround_3_0 (v_iv (n_v vs 6)) (v_iv (n_v vs 7)) (w_ei ws (w_ar ws (n_v vs 0) 11)) k6 k7 h0)⟩
  refine ⟨(fun _ h => (by cases h)), [], trivial, ?_, (fun _ h => (by cases h))⟩
  rw [List.append_nil]
  exact List.forall_mem_cons.mpr ⟨⟨show (20 : Nat) < 100 from by decide, nf0⟩, (fun _ h => (by cases h))⟩
def n_Ne_edgeAround_an : List an_T := [(33, [(0, (2, 0, 0, [5])), (1, (0, 0, 23, [])), (2, (0, 0, 62, [])), (3, (0, 0, 71, [])), (4, (0, 0, 62, []))], [], (0, 0), [(0, 0, 99967), (1, 4, 62), (0, 0, 100000)], [(4, 2, (Int.negSucc 999999999999), 0)], [], [], 0, [], [(20, [3], [50, 0, 0, 0, 2, 0, 0, 1, 0])])]
def t_Ne_edgeAround_ct : ct_L := [(1, 84, e_Ne_endAt), (48, 94, e_jInt_bitCount_v8)]
set_option maxRecDepth 100000 in
theorem c_Ne_edgeAround {l : Launch} {D : va_G} {kA : Nat → ClassId} (h_Ne_endAt : ct_ok PRD l D kA GG y_Ne_endAt z_Ne_endAt e_Ne_endAt) : ct_ok PRD l D kA GG y_Ne_edgeAround z_Ne_edgeAround e_Ne_edgeAround := chk_all_ok (FT := [(28, 5, 5), (40, 5, 9), (46, 5, 11), (49, 5, 12)]) (PT := []) (CT := t_Ne_edgeAround_ct) (KT := []) (NT := []) (AN := n_Ne_edgeAround_an) (OT := [o_Ne_edgeAround_0, o_Ne_edgeAround_1, o_Ne_edgeAround_2, o_Ne_edgeAround_3]) 3 200 (List.forall_mem_cons.mpr ⟨oo_Ne_edgeAround_0, List.forall_mem_cons.mpr ⟨oo_Ne_edgeAround_1, List.forall_mem_cons.mpr ⟨oo_Ne_edgeAround_2, List.forall_mem_cons.mpr ⟨oo_Ne_edgeAround_3, List.forall_mem_nil _⟩⟩⟩⟩) (by decide +kernel) ⟨List.forall_mem_cons.mpr ⟨gf_Ne_28, List.forall_mem_cons.mpr ⟨gf_Ne_40, List.forall_mem_cons.mpr ⟨gf_Ne_46, List.forall_mem_cons.mpr ⟨gf_Ne_49, List.forall_mem_nil _⟩⟩⟩⟩, List.forall_mem_nil _, List.forall_mem_cons.mpr ⟨cl_virtual (y := y_Ne_endAt) (ci := 5) rfl rfl ⟨_, _, rfl⟩ (by decide +kernel) h_Ne_endAt wm_1138 wm_6 wm_1151 wm_1136 wm_1137 ⟨by decide, by decide, by decide +kernel⟩ (by decide), List.forall_mem_cons.mpr ⟨cl_static (y := y_jInt_bitCount) c_jInt_bitCount_v8 wm_870 wm_17 wm_1177 wm_869 ⟨by decide, by decide, by decide +kernel⟩ (by decide), List.forall_mem_nil _⟩⟩, List.forall_mem_nil _, List.forall_mem_nil _, GG_pl⟩ (by decide +kernel)
set_option maxHeartbeats 4000000 in
theorem vc_Ne_traceFaces_at_Ne_0_0 (x1 : Int) (x2 : Int) (x4 : Int) (x5 : Int) (faces_0 : Int) (faceOf_0 : Int → Int) (edges_0 : Int) (k1 : 0 ≤ x1 ∧ x1 ≤ 0) (k2 : 0 ≤ x2 ∧ x2 ≤ 0) (k4 : (-1) ≤ x4 ∧ x4 ≤ (-1)) (k5 : 0 ≤ x5 ∧ x5 ≤ 0) (g1 : x1 = faces_0) (hT2 : ∀ j : Int, 0 ≤ j → j < x4 + 145 → (-1) ≤ faceOf_0 j ∧ faceOf_0 j ≤ (-1)) (kz_0_6 : 0 ≤ edges_0 ∧ edges_0 ≤ 72) (kz_0_13 : 0 ≤ faces_0 ∧ faces_0 ≤ 144) : TFO (edges_0) (faces_0) (faceOf_0) (x5) (x2) := by
  first
    | exact tfo_start (fun w a b => by first | (have q := hT0 w a (by omega); omega) | (have q := hT1 w a (by omega); omega) | (have q := hT2 w a (by omega); omega) | (have q := hT3 w a (by omega); omega) | (have q := hT4 w a (by omega); omega)) (by omega) (by omega) (by omega)
    | (skip; exact tfo_skip ‹TFO _ _ _ _ _› (by omega) (by omega))
    | (skip; exact (tfo_next ‹TFI _ _ _ _ _ _ _› (by first | (left; omega) | (right; omega)) (by omega) (by omega)).1)
  
def o_Ne_traceFaces_at_Ne_0 : or_T := (17, 6, [(0, (2, 0, 0, [5])), (1, (0, 0, 0, [])), (2, (0, 0, 0, [])), (4, (0, -1, -1, [])), (5, (0, 0, 0, []))], [(9, [3, 0], [16]), (9, [1, 0], [13]), (20, [3, 4], [8, -1, -1, 145])], [], [], [(20, [0, 5, 2], [60, 2, 1, 551, 6, 13, 16]), (24, [0, 0], [])], [], [])
theorem oo_Ne_traceFaces_at_Ne_0 {kA : Nat → ClassId} : or_ok PRD kA GG o_Ne_traceFaces_at_Ne_0 := by
  refine or_mk fun A ta ws vs hD hth hl => ?_
  intro t0 r0 t1 k1 t2 k2 t4 k4 t5 k5 f0 f1 f2
  replace f0 := shm_176 f0
  replace f1 := shm_361 f1
  replace f2 := shm_31 f2
  have ad_3 : v_ad (n_v vs 3) = w_ar ws (n_v vs 0) 16 := congrArg v_ad f0
  have g1 : v_iv (n_v vs 1) = w_fi ws (n_v vs 0) 13 := congrArg v_iv f1
  have hT2 : ∀ j : Int, 0 ≤ j → j < v_iv (n_v vs 4) + 145 → (-1) ≤ w_ei ws (w_ar ws (n_v vs 0) 16) j ∧ w_ei ws (w_ar ws (n_v vs 0) 16) j ≤ (-1) := fun j h0 h1 => by have h2 := f2 j.toNat (by omega); rw [ad_3] at h2; exact h2
  have kz_0_6 := fdq_59 hD hth r0
  have kz_0_13 := fdq_253 hD hth r0
  have nf0 : fc_1 PRD (20, [0, 5, 2], [60, 2, 1, 551, 6, 13, 16]) ws (vs) := ⟨nf_in hl rfl, sgq_1099 (vc_Ne_traceFaces_at_Ne_0_0 (v_iv (n_v vs 1)) (v_iv (n_v vs 2)) (v_iv (n_v vs 4)) (v_iv (n_v vs 5)) (w_fi ws (n_v vs 0) 13) (w_ei ws (w_ar ws (n_v vs 0) 16)) (w_fi ws (n_v vs 0) 6) k1 k2 k4 k5 g1 hT2 kz_0_6 kz_0_13)⟩
  have nf1 : fc_1 PRD (24, [0, 0], []) ws (vs) := by
    refine ⟨nf_in hl rfl, sgq_1 ?_⟩
    · show n_v vs 0 = n_v vs 0
      first | rfl | simp only [true_and]
  refine ⟨(fun _ h => (by cases h)), [], trivial, ?_, (fun _ h => (by cases h))⟩
  rw [List.append_nil]
  exact List.forall_mem_cons.mpr ⟨⟨show (20 : Nat) < 100 from by decide, nf0⟩, List.forall_mem_cons.mpr ⟨⟨show (24 : Nat) < 100 from by decide, nf1⟩, (fun _ h => (by cases h))⟩⟩
set_option maxHeartbeats 4000000 in
theorem vc_Ne_traceFaces_at_Ne_1_0 (x2 : Int) (x3 : Int) (x6 : Int) (x7 : Int) (edges_0 : Int) (faces_0 : Int) (faceOf_0 : Int → Int) (faceOf_1 : Int → Int) (edges_1 : Int) (faces_1 : Int) (k2 : 0 ≤ x2 ∧ x2 ≤ 144) (k3 : 0 ≤ x3 ∧ x3 ≤ 144) (k6 : 0 ≤ x6 ∧ x6 ≤ 72) (k7 : 0 ≤ x7 ∧ x7 ≤ 144) (d0 : x7 + 0 ≤ x3 ∧ x3 ≤ x7 + 4294967296) (g1 : x6 = edges_0) (f7 : x7 = 2 * x6) (f8 : TFO (edges_1) (faces_1) (faceOf_1) (x3) (x2)) (fe_0_6_1 : edges_0 = edges_1) (fe_0_13_1 : faces_0 = faces_1) (hE_0_16_1 : ∀ j : Int, faceOf_0 j = faceOf_1 j) (kz_0_6 : 0 ≤ edges_0 ∧ edges_0 ≤ 72) (kz_0_13 : 0 ≤ faces_0 ∧ faces_0 ≤ 144) : FAD (edges_0) (faceOf_0) := by
  subst fe_0_6_1
  subst fe_0_13_1
  have e_hE_0_16_1 := funext hE_0_16_1; subst e_hE_0_16_1
  exact fad_of ‹TFO _ _ _ _ _› (by omega)
def o_Ne_traceFaces_at_Ne_1 : or_T := (194, 9, [(0, (2, 0, 0, [5])), (2, (0, 0, 144, [])), (3, (0, 0, 144, [])), (5, (0, 2, 2, [])), (6, (0, 0, 72, [])), (7, (0, 0, 144, [])), (8, (2, 0, 0, [86]))], [(9, [6, 1], [6]), (24, [0, 1], []), (100, [8, 4, 2], []), (3, [7, 5, 6], []), (20, [1, 3, 2], [60, 2, 1, 551, 6, 13, 16])], [], [], [(20, [0], [60, 1, 1, 553, 6, 16])], [], [(3, 7, 0, 4294967296)])
theorem oo_Ne_traceFaces_at_Ne_1 {kA : Nat → ClassId} : or_ok PRD kA GG o_Ne_traceFaces_at_Ne_1 := by
  refine or_mk fun A ta ws vs hD hth hl => ?_
  intro t0 r0 t2 k2 t3 k3 t5 k5 t6 k6 t7 k7 t8 r8 d0 f1 f4 ta1 w1 le1 s1 f7 f8
  replace f1 := shm_111 f1
  replace f4 := shm_5 f4
  have s1 : (∀ b j, w_el ws b j = if b = v_ad (n_v vs 8) ∧ j = (v_iv (n_v vs 4)).toNat then v_iv (n_v vs 2) else w_el w1 b j) ∧ ∀ b k, w_fd ws b k = w_fd w1 b k := s1.2
  replace f7 := shm_38 f7
  rw [show v_iv (n_v vs 5) = 2 from by omega] at f7
  replace f8 := shm_1099 f8
  have q1 : n_v vs 1 = n_v vs 0 := f4.symm
  simp only [q1] at f1 f8
  have ar_0_16_1 : w_ar w1 (n_v vs 0) 16 = w_ar ws (n_v vs 0) 16 := congrArg v_ad (s1.2 _ _).symm
  have cr_0_16 := fdq_91 hD hth r0
  have g1 : v_iv (n_v vs 6) = w_fi ws (n_v vs 0) 6 := congrArg v_iv f1
  simp only [ar_0_16_1] at f8
  have fe_0_6_1 : w_fi ws (n_v vs 0) 6 = w_fi w1 (n_v vs 0) 6 := congrArg v_iv (s1.2 _ _)
  have fe_0_13_1 : w_fi ws (n_v vs 0) 13 = w_fi w1 (n_v vs 0) 13 := congrArg v_iv (s1.2 _ _)
  have hE_0_16_1 : ∀ j : Int, w_ei ws (w_ar ws (n_v vs 0) 16) j = w_ei w1 (w_ar ws (n_v vs 0) 16) j := el_kp s1.1 r8 cr_0_16 (by decide)
  have kz_0_6 := fdq_59 hD hth r0
  have kz_0_13 := fdq_253 hD hth r0
  have nf0 : fc_1 PRD (20, [0], [60, 1, 1, 553, 6, 16]) ws (vs) := ⟨nf_in hl rfl, sgq_1100 (vc_Ne_traceFaces_at_Ne_1_0 (v_iv (n_v vs 2)) (v_iv (n_v vs 3)) (v_iv (n_v vs 6)) (v_iv (n_v vs 7)) (w_fi ws (n_v vs 0) 6) (w_fi ws (n_v vs 0) 13) (w_ei ws (w_ar ws (n_v vs 0) 16)) (w_ei w1 (w_ar ws (n_v vs 0) 16)) (w_fi w1 (n_v vs 0) 6) (w_fi w1 (n_v vs 0) 13) k2 k3 k6 k7 d0 g1 f7 f8 fe_0_6_1 fe_0_13_1 hE_0_16_1 kz_0_6 kz_0_13)⟩
  refine ⟨(fun _ h => (by cases h)), [], trivial, ?_, (fun _ h => (by cases h))⟩
  rw [List.append_nil]
  exact List.forall_mem_cons.mpr ⟨⟨show (20 : Nat) < 100 from by decide, nf0⟩, (fun _ h => (by cases h))⟩
set_option maxHeartbeats 4000000 in
theorem vc_Ne_traceFaces_at_Ne_2_r0 (x2 : Int) (x3 : Int) (x4 : Int) (x9 : Int) (faces_0 : Int) (faceOf_0 : Int → Int) (edges_0 : Int) (k2 : 0 ≤ x2 ∧ x2 ≤ 144) (k3 : 0 ≤ x3 ∧ x3 ≤ 143) (k9 : (-1) ≤ x9 ∧ x9 ≤ (-1)) (h2 : x9 = faceOf_0 (x3)) (f7 : TFO (edges_0) (faces_0) (faceOf_0) (x3) (x2)) (kz_0_6 : 0 ≤ edges_0 ∧ edges_0 ≤ 72) (kz_0_13 : 0 ≤ faces_0 ∧ faces_0 ≤ 144) : 0 ≤ x2 ∧ x2 ≤ 143 := by
  first
    | omega
    | (have q := tfo_low ‹TFO _ _ _ _ _›; omega)
    | (skip; (first | subst h2 | skip); have q := tfc_lt (‹TFO _ _ _ _ _›).2.2.2.1 (e := x3) (by omega) (by omega) (by omega); have q2 := tfo_low ‹TFO _ _ _ _ _›; omega)
    | (skip; (first | subst h2 | skip); have q := (tfo_next (faces_zq := faces_0 + 1) (st_zq := x3 + 1) ‹TFI _ _ _ _ _ _ _› (by first | (left; omega) | (right; omega)) rfl rfl).2; have q2 := (‹TFI _ _ _ _ _ _ _›).2.2.1; omega)
    | (skip; (first | subst h2 | skip); have q := tfi_low ‹TFI _ _ _ _ _ _ _› (by omega) (by omega) (by omega); omega)
    | (have q := xor_one (x := x29) (a := x4) (b := x28) (by assumption) (by omega) (by omega) (by omega) (by omega) (by omega); split at q <;> omega)
  
def o_Ne_traceFaces_at_Ne_2 : or_T := (49, 12, [(0, (2, 0, 0, [5])), (1, (2, 0, 0, [5])), (2, (0, 0, 144, [])), (3, (0, 0, 143, [])), (4, (0, 0, 144, [])), (5, (0, 2, 2, [])), (6, (0, 0, 72, [])), (7, (0, 1, 144, [])), (8, (2, 0, 0, [88])), (9, (0, -1, -1, [])), (10, (0, -1, -1, []))], [(9, [4, 1], [13]), (7, [9, 10], [0]), (10, [9, 8, 3], []), (9, [8, 1], [16]), (7, [3, 7], [2]), (3, [7, 5, 6], []), (9, [6, 1], [6]), (20, [1, 3, 2], [60, 2, 1, 551, 6, 13, 16]), (24, [0, 1], [])], [(2, (0, 0, 143, []))], [], [], [], [(3, 7, -4294967296, -1), (4, 3, -4294967296, 143)])
theorem oo_Ne_traceFaces_at_Ne_2 {kA : Nat → ClassId} : or_ok PRD kA GG o_Ne_traceFaces_at_Ne_2 := by
  refine or_mk fun A ta ws vs hD hth hl => ?_
  intro t0 r0 t1 r1 t2 k2 t3 k3 t4 k4 t5 k5 t6 k6 t7 k7 t8 r8 t9 k9 t10 k10 d0 d1 f0 f1 f2 f3 f4 f5 f6 f7 f8
  replace f2 := shm_107 f2
  replace f3 := shm_176 f3
  replace f7 := shm_1099 f7
  replace f8 := shm_5 f8
  have q1 : n_v vs 1 = n_v vs 0 := f8.symm
  simp only [q1] at f3 f7
  have ad_8 : v_ad (n_v vs 8) = w_ar ws (n_v vs 0) 16 := congrArg v_ad f3
  simp only [ad_8] at f2
  have h2 : v_iv (n_v vs 9) = w_ei ws (w_ar ws (n_v vs 0) 16) (v_iv (n_v vs 3)) := f2
  have kz_0_6 := fdq_59 hD hth r0
  have kz_0_13 := fdq_253 hD hth r0
  have hrf0 : 0 ≤ v_iv (n_v vs 2) ∧ v_iv (n_v vs 2) ≤ 143 := vc_Ne_traceFaces_at_Ne_2_r0 (v_iv (n_v vs 2)) (v_iv (n_v vs 3)) (v_iv (n_v vs 4)) (v_iv (n_v vs 9)) (w_fi ws (n_v vs 0) 13) (w_ei ws (w_ar ws (n_v vs 0) 16)) (w_fi ws (n_v vs 0) 6) k2 k3 k9 h2 f7 kz_0_6 kz_0_13
  have rf2 : tv_ok ta (0, 0, 143, []) (n_v vs 2) := tv_in t2 (by first | omega | grind) (by first | omega | grind)
  refine ⟨List.forall_mem_cons.mpr ⟨rf2, (fun _ h => (by cases h))⟩, [], trivial, ?_, (fun _ h => (by cases h))⟩
  rw [List.append_nil]
  exact (fun _ h => (by cases h))
set_option maxHeartbeats 4000000 in
theorem vc_Ne_traceFaces_at_Ne_3_0 (x2 : Int) (x3 : Int) (x6 : Int) (x7 : Int) (x9 : Int) (x12 : Int) (edges_0 : Int) (faces_0 : Int) (faceOf_0 : Int → Int) (faceOf_1 : Int → Int) (edges_1 : Int) (faces_1 : Int) (k2 : 0 ≤ x2 ∧ x2 ≤ 143) (k3 : 0 ≤ x3 ∧ x3 ≤ 143) (k6 : 0 ≤ x6 ∧ x6 ≤ 72) (k7 : 1 ≤ x7 ∧ x7 ≤ 144) (k9 : (-1) ≤ x9 ∧ x9 ≤ (-1)) (k12 : 0 ≤ x12 ∧ x12 ≤ 0) (d0 : x7 + (-4294967296) ≤ x3 ∧ x3 ≤ x7 + (-1)) (g2 : x6 = edges_0) (h8 : x9 = faceOf_1 (x3)) (f10 : x7 = 2 * x6) (f11 : TFO (edges_1) (faces_1) (faceOf_1) (x3) (x2)) (fe_0_6_1 : edges_0 = edges_1) (fe_0_13_1 : faces_0 = faces_1) (hE_0_16_1 : ∀ j : Int, faceOf_0 j = faceOf_1 j) (kz_0_6 : 0 ≤ edges_0 ∧ edges_0 ≤ 72) (kz_0_13 : 0 ≤ faces_0 ∧ faces_0 ≤ 144) : TFI (edges_0) (faces_0) (faceOf_0) (x3) (x2) (x3) (x12) := by
  subst fe_0_6_1
  subst fe_0_13_1
  have e_hE_0_16_1 := funext hE_0_16_1; subst e_hE_0_16_1
  first
    | (skip; (first | subst h8 | skip); exact tfi_start ‹TFO _ _ _ _ _› (by omega) (by omega) (by omega) (by omega))
    | (skip; (first | subst h8 | skip); exact tfi_step ‹TFI _ _ _ _ _ _ _› (by assumption) rfl (by omega) (by omega) (by omega) (by omega) (by omega) (by omega))
  
def o_Ne_traceFaces_at_Ne_3 : or_T := (55, 13, [(0, (2, 0, 0, [5])), (2, (0, 0, 143, [])), (3, (0, 0, 143, [])), (5, (0, 2, 2, [])), (6, (0, 0, 72, [])), (7, (0, 1, 144, [])), (9, (0, -1, -1, [])), (11, (2, 0, 0, [86])), (12, (0, 0, 0, []))], [(9, [8, 1], [16]), (9, [6, 1], [6]), (24, [0, 1], []), (100, [11, 4, 2], []), (10, [9, 8, 3], []), (3, [7, 5, 6], []), (20, [1, 3, 2], [60, 2, 1, 551, 6, 13, 16])], [], [], [(20, [1, 3, 2, 3, 12], [60, 2, 1, 552, 6, 13, 16])], [], [(3, 7, -4294967296, -1)])
theorem oo_Ne_traceFaces_at_Ne_3 {kA : Nat → ClassId} : or_ok PRD kA GG o_Ne_traceFaces_at_Ne_3 := by
  refine or_mk fun A ta ws vs hD hth hl => ?_
  intro t0 r0 t2 k2 t3 k3 t5 k5 t6 k6 t7 k7 t9 k9 t11 r11 t12 k12 d0 f1 f2 f5 ta1 w1 le1 s1 f8 f10 f11
  replace f1 := shm_176 f1
  replace f2 := shm_111 f2
  replace f5 := shm_5 f5
  have s1 : (∀ b j, w_el ws b j = if b = v_ad (n_v vs 11) ∧ j = (v_iv (n_v vs 4)).toNat then v_iv (n_v vs 2) else w_el w1 b j) ∧ ∀ b k, w_fd ws b k = w_fd w1 b k := s1.2
  replace f8 := shm_107 f8
  replace f10 := shm_38 f10
  rw [show v_iv (n_v vs 5) = 2 from by omega] at f10
  replace f11 := shm_1099 f11
  have q1 : n_v vs 1 = n_v vs 0 := f5.symm
  simp only [q1] at f1 f2 f11
  have ar_0_16_1 : w_ar w1 (n_v vs 0) 16 = w_ar ws (n_v vs 0) 16 := congrArg v_ad (s1.2 _ _).symm
  have cr_0_16 := fdq_91 hD hth r0
  have ad_8 : v_ad (n_v vs 8) = w_ar ws (n_v vs 0) 16 := congrArg v_ad f1
  have g2 : v_iv (n_v vs 6) = w_fi ws (n_v vs 0) 6 := congrArg v_iv f2
  simp only [ad_8] at f8
  have h8 : v_iv (n_v vs 9) = w_ei w1 (w_ar ws (n_v vs 0) 16) (v_iv (n_v vs 3)) := f8
  simp only [ar_0_16_1] at f11
  have fe_0_6_1 : w_fi ws (n_v vs 0) 6 = w_fi w1 (n_v vs 0) 6 := congrArg v_iv (s1.2 _ _)
  have fe_0_13_1 : w_fi ws (n_v vs 0) 13 = w_fi w1 (n_v vs 0) 13 := congrArg v_iv (s1.2 _ _)
  have hE_0_16_1 : ∀ j : Int, w_ei ws (w_ar ws (n_v vs 0) 16) j = w_ei w1 (w_ar ws (n_v vs 0) 16) j := el_kp s1.1 r11 cr_0_16 (by decide)
  have kz_0_6 := fdq_59 hD hth r0
  have kz_0_13 := fdq_253 hD hth r0
  have nf0 : fc_1 PRD (20, [1, 3, 2, 3, 12], [60, 2, 1, 552, 6, 13, 16]) ws (vs) := by
    refine ⟨nf_in hl rfl, sgq_1101 ?_⟩
    · show TFI (w_fi ws (n_v vs 1) 6) (w_fi ws (n_v vs 1) 13) (w_ei ws (w_ar ws (n_v vs 1) 16)) (v_iv (n_v vs 3)) (v_iv (n_v vs 2)) (v_iv (n_v vs 3)) (v_iv (n_v vs 12))
      rw [q1]
      exact vc_Ne_traceFaces_at_Ne_3_0 (v_iv (n_v vs 2)) (v_iv (n_v vs 3)) (v_iv (n_v vs 6)) (v_iv (n_v vs 7)) (v_iv (n_v vs 9)) (v_iv (n_v vs 12)) (w_fi ws (n_v vs 0) 6) (w_fi ws (n_v vs 0) 13) (w_ei ws (w_ar ws (n_v vs 0) 16)) (w_ei w1 (w_ar ws (n_v vs 0) 16)) (w_fi w1 (n_v vs 0) 6) (w_fi w1 (n_v vs 0) 13) k2 k3 k6 k7 k9 k12 d0 g2 h8 f10 f11 fe_0_6_1 fe_0_13_1 hE_0_16_1 kz_0_6 kz_0_13
  refine ⟨(fun _ h => (by cases h)), [], trivial, ?_, (fun _ h => (by cases h))⟩
  rw [List.append_nil]
  exact List.forall_mem_cons.mpr ⟨⟨show (20 : Nat) < 100 from by decide, nf0⟩, (fun _ h => (by cases h))⟩
set_option maxHeartbeats 4000000 in
theorem vc_Ne_traceFaces_at_Ne_4_0 (x2 : Int) (x3 : Int) (x9 : Int) (x11 : Int) (faces_0 : Int) (faceOf_0 : Int → Int) (edges_0 : Int) (k2 : 0 ≤ x2 ∧ x2 ≤ 144) (k3 : 0 ≤ x3 ∧ x3 ≤ 143) (k9 : 0 ≤ x9 ∧ x9 ≤ 143) (k11 : 1 ≤ x11 ∧ x11 ≤ 144) (f1 : x11 = x3 + 1) (h3 : x9 = faceOf_0 (x3)) (f8 : TFO (edges_0) (faces_0) (faceOf_0) (x3) (x2)) (kz_0_6 : 0 ≤ edges_0 ∧ edges_0 ≤ 72) (kz_0_13 : 0 ≤ faces_0 ∧ faces_0 ≤ 144) : TFO (edges_0) (faces_0) (faceOf_0) (x11) (x2) := by
  first
    | exact tfo_start (fun w a b => by first | (have q := hT0 w a (by omega); omega) | (have q := hT1 w a (by omega); omega) | (have q := hT2 w a (by omega); omega) | (have q := hT3 w a (by omega); omega) | (have q := hT4 w a (by omega); omega)) (by omega) (by omega) (by omega)
    | (skip; (first | subst h3 | skip); exact tfo_skip ‹TFO _ _ _ _ _› (by omega) (by omega))
    | (skip; (first | subst h3 | skip); exact (tfo_next ‹TFI _ _ _ _ _ _ _› (by first | (left; omega) | (right; omega)) (by omega) (by omega)).1)
  
def o_Ne_traceFaces_at_Ne_4 : or_T := (17, 12, [(0, (2, 0, 0, [5])), (2, (0, 0, 144, [])), (3, (0, 0, 143, [])), (9, (0, 0, 143, [])), (11, (0, 1, 144, []))], [(6, [11, 3], [1]), (10, [9, 8, 3], []), (9, [8, 1], [16]), (20, [1, 3, 2], [60, 2, 1, 551, 6, 13, 16]), (24, [0, 1], [])], [], [], [(20, [1, 11, 2], [60, 2, 1, 551, 6, 13, 16])], [], [])
theorem oo_Ne_traceFaces_at_Ne_4 {kA : Nat → ClassId} : or_ok PRD kA GG o_Ne_traceFaces_at_Ne_4 := by
  refine or_mk fun A ta ws vs hD hth hl => ?_
  intro t0 r0 t2 k2 t3 k3 t9 k9 t11 k11 f1 f3 f4 f8 f9
  replace f1 := shm_4 f1
  replace f3 := shm_107 f3
  replace f4 := shm_176 f4
  replace f8 := shm_1099 f8
  replace f9 := shm_5 f9
  have q1 : n_v vs 1 = n_v vs 0 := f9.symm
  simp only [q1] at f4 f8
  have ad_8 : v_ad (n_v vs 8) = w_ar ws (n_v vs 0) 16 := congrArg v_ad f4
  simp only [ad_8] at f3
  have h3 : v_iv (n_v vs 9) = w_ei ws (w_ar ws (n_v vs 0) 16) (v_iv (n_v vs 3)) := f3
  have kz_0_6 := fdq_59 hD hth r0
  have kz_0_13 := fdq_253 hD hth r0
  have nf0 : fc_1 PRD (20, [1, 11, 2], [60, 2, 1, 551, 6, 13, 16]) ws (vs) := by
    refine ⟨nf_in hl rfl, sgq_1099 ?_⟩
    · show TFO (w_fi ws (n_v vs 1) 6) (w_fi ws (n_v vs 1) 13) (w_ei ws (w_ar ws (n_v vs 1) 16)) (v_iv (n_v vs 11)) (v_iv (n_v vs 2))
      rw [q1]
      exact vc_Ne_traceFaces_at_Ne_4_0 (v_iv (n_v vs 2)) (v_iv (n_v vs 3)) (v_iv (n_v vs 9)) (v_iv (n_v vs 11)) (w_fi ws (n_v vs 0) 13) (w_ei ws (w_ar ws (n_v vs 0) 16)) (w_fi ws (n_v vs 0) 6) k2 k3 k9 k11 f1 h3 f8 kz_0_6 kz_0_13
  refine ⟨(fun _ h => (by cases h)), [], trivial, ?_, (fun _ h => (by cases h))⟩
  rw [List.append_nil]
  exact List.forall_mem_cons.mpr ⟨⟨show (20 : Nat) < 100 from by decide, nf0⟩, (fun _ h => (by cases h))⟩
set_option maxHeartbeats 4000000 in
theorem vc_Ne_traceFaces_at_Ne_5_r0 (x2 : Int) (x3 : Int) (x4 : Int) (x5 : Int) (x7 : Int) (x8 : Int) (x9 : Int) (x11 : Int) (faces_0 : Int) (edges_0 : Int) (faceOf_0 : Int → Int) (k2 : 0 ≤ x2 ∧ x2 ≤ 144) (k3 : 0 ≤ x3 ∧ x3 ≤ 143) (k4 : 0 ≤ x4 ∧ x4 ≤ 143) (k5 : 0 ≤ x5 ∧ x5 ≤ 144) (k7 : 0 ≤ x7 ∧ x7 ≤ 72) (k8 : 0 ≤ x8 ∧ x8 ≤ 144) (k9 : 0 ≤ x9 ∧ x9 ≤ 144) (k11 : 1 ≤ x11 ∧ x11 ≤ 145) (d0 : x9 + 1 ≤ x11 ∧ x11 ≤ x9 + 1) (d1 : x8 + 0 ≤ x5 ∧ x5 ≤ x8 + 4294967296) (g1 : x9 = faces_0) (f3 : x8 = 2 * x7) (g4 : x7 = edges_0) (f5 : TFI (edges_0) (faces_0) (faceOf_0) (x3) (x2) (x4) (x5)) (kz_0_6 : 0 ≤ edges_0 ∧ edges_0 ≤ 72) (kz_0_13 : 0 ≤ faces_0 ∧ faces_0 ≤ 144) : 1 ≤ x11 ∧ x11 ≤ 144 := by
  first
    | omega
    | (have q := tfo_low ‹TFO _ _ _ _ _›; omega)
    | (skip; have q := tfc_lt (‹TFO _ _ _ _ _›).2.2.2.1 (e := x3) (by omega) (by omega) (by omega); have q2 := tfo_low ‹TFO _ _ _ _ _›; omega)
    | (skip; have q := (tfo_next (faces_zq := faces_0 + 1) (st_zq := x3 + 1) ‹TFI _ _ _ _ _ _ _› (by first | (left; omega) | (right; omega)) rfl rfl).2; have q2 := (‹TFI _ _ _ _ _ _ _›).2.2.1; omega)
    | (skip; have q := tfi_low ‹TFI _ _ _ _ _ _ _› (by omega) (by omega) (by omega); omega)
    | (have q := xor_one (x := x29) (a := x4) (b := x28) (by assumption) (by omega) (by omega) (by omega) (by omega) (by omega); split at q <;> omega)
  
def o_Ne_traceFaces_at_Ne_5 : or_T := (175, 12, [(0, (2, 0, 0, [5])), (1, (2, 0, 0, [5])), (2, (0, 0, 144, [])), (3, (0, 0, 143, [])), (4, (0, 0, 143, [])), (5, (0, 0, 144, [])), (6, (0, 2, 2, [])), (7, (0, 0, 72, [])), (8, (0, 0, 144, [])), (9, (0, 0, 144, [])), (10, (0, 1, 1, [])), (11, (0, 1, 145, []))], [(1, [11, 9, 10], []), (9, [9, 1], [13]), (7, [5, 8], [3]), (3, [8, 6, 7], []), (9, [7, 1], [6]), (20, [1, 3, 2, 4, 5], [60, 2, 1, 552, 6, 13, 16]), (24, [0, 1], [])], [(11, (0, 1, 144, []))], [], [], [], [(11, 9, 1, 1), (5, 8, 0, 4294967296), (5, 2, -4294967296, 0)])
theorem oo_Ne_traceFaces_at_Ne_5 {kA : Nat → ClassId} : or_ok PRD kA GG o_Ne_traceFaces_at_Ne_5 := by
  refine or_mk fun A ta ws vs hD hth hl => ?_
  intro t0 r0 t1 r1 t2 k2 t3 k3 t4 k4 t5 k5 t6 k6 t7 k7 t8 k8 t9 k9 t10 k10 t11 k11 d0 d1 d2 f0 f1 f2 f3 f4 f5 f6
  replace f1 := shm_361 f1
  replace f3 := shm_38 f3
  rw [show v_iv (n_v vs 6) = 2 from by omega] at f3
  replace f4 := shm_111 f4
  replace f5 := shm_1102 f5
  replace f6 := shm_5 f6
  have q1 : n_v vs 1 = n_v vs 0 := f6.symm
  simp only [q1] at f1 f4 f5
  have g1 : v_iv (n_v vs 9) = w_fi ws (n_v vs 0) 13 := congrArg v_iv f1
  have g4 : v_iv (n_v vs 7) = w_fi ws (n_v vs 0) 6 := congrArg v_iv f4
  have kz_0_6 := fdq_59 hD hth r0
  have kz_0_13 := fdq_253 hD hth r0
  have hrf0 : 1 ≤ v_iv (n_v vs 11) ∧ v_iv (n_v vs 11) ≤ 144 := vc_Ne_traceFaces_at_Ne_5_r0 (v_iv (n_v vs 2)) (v_iv (n_v vs 3)) (v_iv (n_v vs 4)) (v_iv (n_v vs 5)) (v_iv (n_v vs 7)) (v_iv (n_v vs 8)) (v_iv (n_v vs 9)) (v_iv (n_v vs 11)) (w_fi ws (n_v vs 0) 13) (w_fi ws (n_v vs 0) 6) (w_ei ws (w_ar ws (n_v vs 0) 16)) k2 k3 k4 k5 k7 k8 k9 k11 d0 d1 g1 f3 g4 f5 kz_0_6 kz_0_13
  have rf11 : tv_ok ta (0, 1, 144, []) (n_v vs 11) := tv_in t11 (by first | omega | grind) (by first | omega | grind)
  refine ⟨List.forall_mem_cons.mpr ⟨rf11, (fun _ h => (by cases h))⟩, [], trivial, ?_, (fun _ h => (by cases h))⟩
  rw [List.append_nil]
  exact (fun _ h => (by cases h))
set_option maxHeartbeats 4000000 in
theorem vc_Ne_traceFaces_at_Ne_6_0 (x2 : Int) (x3 : Int) (x4 : Int) (x5 : Int) (x7 : Int) (x8 : Int) (x9 : Int) (x11 : Int) (x12 : Int) (faces_0 : Int) (edges_0 : Int) (faces_1 : Int) (faceOf_1 : Int → Int) (edges_1 : Int) (faceOf_0 : Int → Int) (k2 : 0 ≤ x2 ∧ x2 ≤ 144) (k3 : 0 ≤ x3 ∧ x3 ≤ 143) (k4 : 0 ≤ x4 ∧ x4 ≤ 143) (k5 : 0 ≤ x5 ∧ x5 ≤ 144) (k7 : 0 ≤ x7 ∧ x7 ≤ 72) (k8 : 0 ≤ x8 ∧ x8 ≤ 144) (k9 : 0 ≤ x9 ∧ x9 ≤ 144) (k11 : 1 ≤ x11 ∧ x11 ≤ 144) (k12 : 1 ≤ x12 ∧ x12 ≤ 144) (d1 : x9 + 1 ≤ x11 ∧ x11 ≤ x9 + 1) (d2 : x8 + 0 ≤ x5 ∧ x5 ≤ x8 + 4294967296) (g0 : x11 = faces_0) (g1 : x7 = edges_0) (f2 : x12 = x3 + 1) (g6 : x9 = faces_1) (f8 : x8 = 2 * x7) (f9 : TFI (edges_1) (faces_1) (faceOf_1) (x3) (x2) (x4) (x5)) (fe_0_6_1 : edges_0 = edges_1) (hE_0_16_1 : ∀ j : Int, faceOf_0 j = faceOf_1 j) (kz_0_6 : 0 ≤ edges_0 ∧ edges_0 ≤ 72) (kz_0_13 : 0 ≤ faces_0 ∧ faces_0 ≤ 144) : TFO (edges_0) (faces_0) (faceOf_0) (x12) (x2) := by
  subst fe_0_6_1
  have e_hE_0_16_1 := funext hE_0_16_1; subst e_hE_0_16_1
  first
    | exact tfo_start (fun w a b => by first | (have q := hT0 w a (by omega); omega) | (have q := hT1 w a (by omega); omega) | (have q := hT2 w a (by omega); omega) | (have q := hT3 w a (by omega); omega) | (have q := hT4 w a (by omega); omega)) (by omega) (by omega) (by omega)
    | (skip; exact tfo_skip ‹TFO _ _ _ _ _› (by omega) (by omega))
    | (skip; exact (tfo_next ‹TFI _ _ _ _ _ _ _› (by first | (left; omega) | (right; omega)) (by omega) (by omega)).1)
  
def o_Ne_traceFaces_at_Ne_6 : or_T := (17, 13, [(0, (2, 0, 0, [5])), (2, (0, 0, 144, [])), (3, (0, 0, 143, [])), (4, (0, 0, 143, [])), (5, (0, 0, 144, [])), (6, (0, 2, 2, [])), (7, (0, 0, 72, [])), (8, (0, 0, 144, [])), (9, (0, 0, 144, [])), (11, (0, 1, 144, [])), (12, (0, 1, 144, []))], [(9, [11, 1], [13]), (9, [7, 1], [6]), (6, [12, 3], [1]), (24, [0, 1], []), (101, [1, 11], [13]), (9, [9, 1], [13]), (3, [8, 6, 7], []), (20, [1, 3, 2, 4, 5], [60, 2, 1, 552, 6, 13, 16])], [], [], [(20, [1, 12, 2], [60, 2, 1, 551, 6, 13, 16])], [], [(11, 9, 1, 1), (5, 8, 0, 4294967296)])
theorem oo_Ne_traceFaces_at_Ne_6 {kA : Nat → ClassId} : or_ok PRD kA GG o_Ne_traceFaces_at_Ne_6 := by
  refine or_mk fun A ta ws vs hD hth hl => ?_
  intro t0 r0 t2 k2 t3 k3 t4 k4 t5 k5 t6 k6 t7 k7 t8 k8 t9 k9 t11 k11 t12 k12 d1 d2 f0 f1 f2 f3 ta1 w1 le1 s1 f6 f8 f9
  replace f0 := shm_361 f0
  replace f1 := shm_111 f1
  replace f2 := shm_4 f2
  replace f3 := shm_5 f3
  have s1 : (∀ b j, w_el ws b j = w_el w1 b j) ∧ ∀ b j, w_fd ws b j = if b = v_ad (n_v vs 1) ∧ j = 13 then n_v vs 11 else w_fd w1 b j := s1.2
  replace f6 := shm_361 f6
  replace f8 := shm_38 f8
  rw [show v_iv (n_v vs 6) = 2 from by omega] at f8
  replace f9 := shm_1102 f9
  have q1 : n_v vs 1 = n_v vs 0 := f3.symm
  simp only [q1] at f0 f1
  rw [q1] at s1
  simp only [q1] at f6 f9
  have ar_0_16_1 : w_ar w1 (n_v vs 0) 16 = w_ar ws (n_v vs 0) 16 := by show v_ad (w_fd w1 _ _) = v_ad (w_fd ws _ _); rw [s1.2, if_neg (fun e => absurd e.2 (by decide))]
  have g0 : v_iv (n_v vs 11) = w_fi ws (n_v vs 0) 13 := congrArg v_iv f0
  have g1 : v_iv (n_v vs 7) = w_fi ws (n_v vs 0) 6 := congrArg v_iv f1
  have g6 : v_iv (n_v vs 9) = w_fi w1 (n_v vs 0) 13 := congrArg v_iv f6
  simp only [ar_0_16_1] at f9
  have fe_0_6_1 : w_fi ws (n_v vs 0) 6 = w_fi w1 (n_v vs 0) 6 := by show v_iv (w_fd _ _ _) = v_iv (w_fd _ _ _); rw [s1.2, if_neg (fun e => absurd e.2 (by decide))]
  have hE_0_16_1 : ∀ j : Int, w_ei ws (w_ar ws (n_v vs 0) 16) j = w_ei w1 (w_ar ws (n_v vs 0) 16) j := fun j => s1.1 _ _
  have kz_0_6 := fdq_59 hD hth r0
  have kz_0_13 := fdq_253 hD hth r0
  have nf0 : fc_1 PRD (20, [1, 12, 2], [60, 2, 1, 551, 6, 13, 16]) ws (vs) := by
    refine ⟨nf_in hl rfl, sgq_1099 ?_⟩
    · show TFO (w_fi ws (n_v vs 1) 6) (w_fi ws (n_v vs 1) 13) (w_ei ws (w_ar ws (n_v vs 1) 16)) (v_iv (n_v vs 12)) (v_iv (n_v vs 2))
      rw [q1]
      exact vc_Ne_traceFaces_at_Ne_6_0 (v_iv (n_v vs 2)) (v_iv (n_v vs 3)) (v_iv (n_v vs 4)) (v_iv (n_v vs 5)) (v_iv (n_v vs 7)) (v_iv (n_v vs 8)) (v_iv (n_v vs 9)) (v_iv (n_v vs 11)) (v_iv (n_v vs 12)) (w_fi ws (n_v vs 0) 13) (w_fi ws (n_v vs 0) 6) (w_fi w1 (n_v vs 0) 13) (w_ei w1 (w_ar ws (n_v vs 0) 16)) (w_fi w1 (n_v vs 0) 6) (w_ei ws (w_ar ws (n_v vs 0) 16)) k2 k3 k4 k5 k7 k8 k9 k11 k12 d1 d2 g0 g1 f2 g6 f8 f9 fe_0_6_1 hE_0_16_1 kz_0_6 kz_0_13
  refine ⟨(fun _ h => (by cases h)), [], trivial, ?_, (fun _ h => (by cases h))⟩
  rw [List.append_nil]
  exact List.forall_mem_cons.mpr ⟨⟨show (20 : Nat) < 100 from by decide, nf0⟩, (fun _ h => (by cases h))⟩
set_option maxHeartbeats 4000000 in
theorem vc_Ne_traceFaces_at_Ne_7_r0 (x2 : Int) (x3 : Int) (x4 : Int) (x5 : Int) (x10 : Int) (x12 : Int) (x14 : Int) (faces_0 : Int) (faceOf_0 : Int → Int) (edges_0 : Int) (k2 : 0 ≤ x2 ∧ x2 ≤ 144) (k3 : 0 ≤ x3 ∧ x3 ≤ 143) (k4 : 0 ≤ x4 ∧ x4 ≤ 143) (k5 : 0 ≤ x5 ∧ x5 ≤ 143) (k10 : 0 ≤ x10 ∧ x10 ≤ 143) (k12 : 0 ≤ x12 ∧ x12 ≤ 144) (k14 : 1 ≤ x14 ∧ x14 ≤ 145) (d0 : x12 + 1 ≤ x14 ∧ x14 ≤ x12 + 1) (g1 : x12 = faces_0) (h3 : x10 = faceOf_0 (x4)) (f8 : TFI (edges_0) (faces_0) (faceOf_0) (x3) (x2) (x4) (x5)) (kz_0_6 : 0 ≤ edges_0 ∧ edges_0 ≤ 72) (kz_0_13 : 0 ≤ faces_0 ∧ faces_0 ≤ 144) : 1 ≤ x14 ∧ x14 ≤ 144 := by
  first
    | omega
    | (have q := tfo_low ‹TFO _ _ _ _ _›; omega)
    | (skip; (first | subst h3 | skip); have q := tfc_lt (‹TFO _ _ _ _ _›).2.2.2.1 (e := x3) (by omega) (by omega) (by omega); have q2 := tfo_low ‹TFO _ _ _ _ _›; omega)
    | (skip; (first | subst h3 | skip); have q := (tfo_next (faces_zq := faces_0 + 1) (st_zq := x3 + 1) ‹TFI _ _ _ _ _ _ _› (by first | (left; omega) | (right; omega)) rfl rfl).2; have q2 := (‹TFI _ _ _ _ _ _ _›).2.2.1; omega)
    | (skip; (first | subst h3 | skip); have q := tfi_low ‹TFI _ _ _ _ _ _ _› (by omega) (by omega) (by omega); omega)
    | (have q := xor_one (x := x29) (a := x4) (b := x28) (by assumption) (by omega) (by omega) (by omega) (by omega) (by omega); split at q <;> omega)
  
def o_Ne_traceFaces_at_Ne_7 : or_T := (175, 15, [(0, (2, 0, 0, [5])), (1, (2, 0, 0, [5])), (2, (0, 0, 144, [])), (3, (0, 0, 143, [])), (4, (0, 0, 143, [])), (5, (0, 0, 143, [])), (6, (0, 2, 2, [])), (7, (0, 0, 72, [])), (8, (0, 1, 144, [])), (9, (2, 0, 0, [88])), (10, (0, 0, 143, [])), (11, (0, -1, -1, [])), (12, (0, 0, 144, [])), (13, (0, 1, 1, [])), (14, (0, 1, 145, []))], [(1, [14, 12, 13], []), (9, [12, 1], [13]), (7, [10, 11], [1]), (10, [10, 9, 4], []), (9, [9, 1], [16]), (7, [5, 8], [2]), (3, [8, 6, 7], []), (9, [7, 1], [6]), (20, [1, 3, 2, 4, 5], [60, 2, 1, 552, 6, 13, 16]), (24, [0, 1], [])], [(14, (0, 1, 144, []))], [], [], [], [(14, 12, 1, 1), (5, 8, -4294967296, -1), (5, 2, -4294967296, 0)])
theorem oo_Ne_traceFaces_at_Ne_7 {kA : Nat → ClassId} : or_ok PRD kA GG o_Ne_traceFaces_at_Ne_7 := by
  refine or_mk fun A ta ws vs hD hth hl => ?_
  intro t0 r0 t1 r1 t2 k2 t3 k3 t4 k4 t5 k5 t6 k6 t7 k7 t8 k8 t9 r9 t10 k10 t11 k11 t12 k12 t13 k13 t14 k14 d0 d1 d2 f0 f1 f2 f3 f4 f5 f6 f7 f8 f9
  replace f1 := shm_361 f1
  replace f3 := shm_107 f3
  replace f4 := shm_176 f4
  replace f8 := shm_1102 f8
  replace f9 := shm_5 f9
  have q1 : n_v vs 1 = n_v vs 0 := f9.symm
  simp only [q1] at f1 f4 f8
  have ad_9 : v_ad (n_v vs 9) = w_ar ws (n_v vs 0) 16 := congrArg v_ad f4
  have g1 : v_iv (n_v vs 12) = w_fi ws (n_v vs 0) 13 := congrArg v_iv f1
  simp only [ad_9] at f3
  have h3 : v_iv (n_v vs 10) = w_ei ws (w_ar ws (n_v vs 0) 16) (v_iv (n_v vs 4)) := f3
  have kz_0_6 := fdq_59 hD hth r0
  have kz_0_13 := fdq_253 hD hth r0
  have hrf0 : 1 ≤ v_iv (n_v vs 14) ∧ v_iv (n_v vs 14) ≤ 144 := vc_Ne_traceFaces_at_Ne_7_r0 (v_iv (n_v vs 2)) (v_iv (n_v vs 3)) (v_iv (n_v vs 4)) (v_iv (n_v vs 5)) (v_iv (n_v vs 10)) (v_iv (n_v vs 12)) (v_iv (n_v vs 14)) (w_fi ws (n_v vs 0) 13) (w_ei ws (w_ar ws (n_v vs 0) 16)) (w_fi ws (n_v vs 0) 6) k2 k3 k4 k5 k10 k12 k14 d0 g1 h3 f8 kz_0_6 kz_0_13
  have rf14 : tv_ok ta (0, 1, 144, []) (n_v vs 14) := tv_in t14 (by first | omega | grind) (by first | omega | grind)
  refine ⟨List.forall_mem_cons.mpr ⟨rf14, (fun _ h => (by cases h))⟩, [], trivial, ?_, (fun _ h => (by cases h))⟩
  rw [List.append_nil]
  exact (fun _ h => (by cases h))
set_option maxHeartbeats 4000000 in
theorem vc_Ne_traceFaces_at_Ne_8_0 (x2 : Int) (x3 : Int) (x4 : Int) (x5 : Int) (x10 : Int) (x12 : Int) (x14 : Int) (x15 : Int) (faces_0 : Int) (edges_0 : Int) (faces_1 : Int) (faceOf_1 : Int → Int) (edges_1 : Int) (faceOf_0 : Int → Int) (k2 : 0 ≤ x2 ∧ x2 ≤ 144) (k3 : 0 ≤ x3 ∧ x3 ≤ 143) (k4 : 0 ≤ x4 ∧ x4 ≤ 143) (k5 : 0 ≤ x5 ∧ x5 ≤ 143) (k10 : 0 ≤ x10 ∧ x10 ≤ 143) (k12 : 0 ≤ x12 ∧ x12 ≤ 144) (k14 : 1 ≤ x14 ∧ x14 ≤ 144) (k15 : 1 ≤ x15 ∧ x15 ≤ 144) (d1 : x12 + 1 ≤ x14 ∧ x14 ≤ x12 + 1) (g0 : x14 = faces_0) (f3 : x15 = x3 + 1) (g7 : x12 = faces_1) (h9 : x10 = faceOf_1 (x4)) (f12 : TFI (edges_1) (faces_1) (faceOf_1) (x3) (x2) (x4) (x5)) (fe_0_6_1 : edges_0 = edges_1) (hE_0_16_1 : ∀ j : Int, faceOf_0 j = faceOf_1 j) (kz_0_6 : 0 ≤ edges_0 ∧ edges_0 ≤ 72) (kz_0_13 : 0 ≤ faces_0 ∧ faces_0 ≤ 144) : TFO (edges_0) (faces_0) (faceOf_0) (x15) (x2) := by
  subst fe_0_6_1
  have e_hE_0_16_1 := funext hE_0_16_1; subst e_hE_0_16_1
  first
    | exact tfo_start (fun w a b => by first | (have q := hT0 w a (by omega); omega) | (have q := hT1 w a (by omega); omega) | (have q := hT2 w a (by omega); omega) | (have q := hT3 w a (by omega); omega) | (have q := hT4 w a (by omega); omega)) (by omega) (by omega) (by omega)
    | (skip; (first | subst h9 | skip); exact tfo_skip ‹TFO _ _ _ _ _› (by omega) (by omega))
    | (skip; (first | subst h9 | skip); exact (tfo_next ‹TFI _ _ _ _ _ _ _› (by first | (left; omega) | (right; omega)) (by omega) (by omega)).1)
  
def o_Ne_traceFaces_at_Ne_8 : or_T := (17, 16, [(0, (2, 0, 0, [5])), (2, (0, 0, 144, [])), (3, (0, 0, 143, [])), (4, (0, 0, 143, [])), (5, (0, 0, 143, [])), (10, (0, 0, 143, [])), (12, (0, 0, 144, [])), (14, (0, 1, 144, [])), (15, (0, 1, 144, []))], [(9, [14, 1], [13]), (9, [9, 1], [16]), (6, [15, 3], [1]), (24, [0, 1], []), (101, [1, 14], [13]), (9, [12, 1], [13]), (10, [10, 9, 4], []), (20, [1, 3, 2, 4, 5], [60, 2, 1, 552, 6, 13, 16])], [], [], [(20, [1, 15, 2], [60, 2, 1, 551, 6, 13, 16])], [], [(14, 12, 1, 1)])
theorem oo_Ne_traceFaces_at_Ne_8 {kA : Nat → ClassId} : or_ok PRD kA GG o_Ne_traceFaces_at_Ne_8 := by
  refine or_mk fun A ta ws vs hD hth hl => ?_
  intro t0 r0 t2 k2 t3 k3 t4 k4 t5 k5 t10 k10 t12 k12 t14 k14 t15 k15 d1 f0 f1 f3 f4 ta1 w1 le1 s1 f7 f9 f12
  replace f0 := shm_361 f0
  replace f1 := shm_176 f1
  replace f3 := shm_4 f3
  replace f4 := shm_5 f4
  have s1 : (∀ b j, w_el ws b j = w_el w1 b j) ∧ ∀ b j, w_fd ws b j = if b = v_ad (n_v vs 1) ∧ j = 13 then n_v vs 14 else w_fd w1 b j := s1.2
  replace f7 := shm_361 f7
  replace f9 := shm_107 f9
  replace f12 := shm_1102 f12
  have q1 : n_v vs 1 = n_v vs 0 := f4.symm
  simp only [q1] at f0 f1
  rw [q1] at s1
  simp only [q1] at f7 f12
  have ar_0_16_1 : w_ar w1 (n_v vs 0) 16 = w_ar ws (n_v vs 0) 16 := by show v_ad (w_fd w1 _ _) = v_ad (w_fd ws _ _); rw [s1.2, if_neg (fun e => absurd e.2 (by decide))]
  have ad_9 : v_ad (n_v vs 9) = w_ar ws (n_v vs 0) 16 := congrArg v_ad f1
  have g0 : v_iv (n_v vs 14) = w_fi ws (n_v vs 0) 13 := congrArg v_iv f0
  have g7 : v_iv (n_v vs 12) = w_fi w1 (n_v vs 0) 13 := congrArg v_iv f7
  simp only [ad_9] at f9
  have h9 : v_iv (n_v vs 10) = w_ei w1 (w_ar ws (n_v vs 0) 16) (v_iv (n_v vs 4)) := f9
  simp only [ar_0_16_1] at f12
  have fe_0_6_1 : w_fi ws (n_v vs 0) 6 = w_fi w1 (n_v vs 0) 6 := by show v_iv (w_fd _ _ _) = v_iv (w_fd _ _ _); rw [s1.2, if_neg (fun e => absurd e.2 (by decide))]
  have hE_0_16_1 : ∀ j : Int, w_ei ws (w_ar ws (n_v vs 0) 16) j = w_ei w1 (w_ar ws (n_v vs 0) 16) j := fun j => s1.1 _ _
  have kz_0_6 := fdq_59 hD hth r0
  have kz_0_13 := fdq_253 hD hth r0
  have nf0 : fc_1 PRD (20, [1, 15, 2], [60, 2, 1, 551, 6, 13, 16]) ws (vs) := by
    refine ⟨nf_in hl rfl, sgq_1099 ?_⟩
    · show TFO (w_fi ws (n_v vs 1) 6) (w_fi ws (n_v vs 1) 13) (w_ei ws (w_ar ws (n_v vs 1) 16)) (v_iv (n_v vs 15)) (v_iv (n_v vs 2))
      rw [q1]
      exact vc_Ne_traceFaces_at_Ne_8_0 (v_iv (n_v vs 2)) (v_iv (n_v vs 3)) (v_iv (n_v vs 4)) (v_iv (n_v vs 5)) (v_iv (n_v vs 10)) (v_iv (n_v vs 12)) (v_iv (n_v vs 14)) (v_iv (n_v vs 15)) (w_fi ws (n_v vs 0) 13) (w_fi ws (n_v vs 0) 6) (w_fi w1 (n_v vs 0) 13) (w_ei w1 (w_ar ws (n_v vs 0) 16)) (w_fi w1 (n_v vs 0) 6) (w_ei ws (w_ar ws (n_v vs 0) 16)) k2 k3 k4 k5 k10 k12 k14 k15 d1 g0 f3 g7 h9 f12 fe_0_6_1 hE_0_16_1 kz_0_6 kz_0_13
  refine ⟨(fun _ h => (by cases h)), [], trivial, ?_, (fun _ h => (by cases h))⟩
  rw [List.append_nil]
  exact List.forall_mem_cons.mpr ⟨⟨show (20 : Nat) < 100 from by decide, nf0⟩, (fun _ h => (by cases h))⟩
set_option maxHeartbeats 4000000 in
theorem vc_Ne_traceFaces_at_Ne_9_r0 (x2 : Int) (x3 : Int) (x4 : Int) (x5 : Int) (x10 : Int) (x12 : Int) (faces_0 : Int) (faceOf_0 : Int → Int) (edges_0 : Int) (k2 : 0 ≤ x2 ∧ x2 ≤ 144) (k3 : 0 ≤ x3 ∧ x3 ≤ 143) (k4 : 0 ≤ x4 ∧ x4 ≤ 143) (k5 : 0 ≤ x5 ∧ x5 ≤ 143) (k10 : (-1) ≤ x10 ∧ x10 ≤ (-1)) (k12 : 0 ≤ x12 ∧ x12 ≤ 144) (g0 : x12 = faces_0) (h3 : x10 = faceOf_0 (x4)) (f7 : TFI (edges_0) (faces_0) (faceOf_0) (x3) (x2) (x4) (x5)) (kz_0_6 : 0 ≤ edges_0 ∧ edges_0 ≤ 72) (kz_0_13 : 0 ≤ faces_0 ∧ faces_0 ≤ 144) : 0 ≤ x12 ∧ x12 ≤ 143 := by
  first
    | omega
    | (have q := tfo_low ‹TFO _ _ _ _ _›; omega)
    | (skip; (first | subst h3 | skip); have q := tfc_lt (‹TFO _ _ _ _ _›).2.2.2.1 (e := x3) (by omega) (by omega) (by omega); have q2 := tfo_low ‹TFO _ _ _ _ _›; omega)
    | (skip; (first | subst h3 | skip); have q := (tfo_next (faces_zq := faces_0 + 1) (st_zq := x3 + 1) ‹TFI _ _ _ _ _ _ _› (by first | (left; omega) | (right; omega)) rfl rfl).2; have q2 := (‹TFI _ _ _ _ _ _ _›).2.2.1; omega)
    | (skip; (first | subst h3 | skip); have q := tfi_low ‹TFI _ _ _ _ _ _ _› (by omega) (by omega) (by omega); omega)
    | (have q := xor_one (x := x29) (a := x4) (b := x28) (by assumption) (by omega) (by omega) (by omega) (by omega) (by omega); split at q <;> omega)
  
def o_Ne_traceFaces_at_Ne_9 : or_T := (85, 13, [(0, (2, 0, 0, [5])), (1, (2, 0, 0, [5])), (2, (0, 0, 144, [])), (3, (0, 0, 143, [])), (4, (0, 0, 143, [])), (5, (0, 0, 143, [])), (6, (0, 2, 2, [])), (7, (0, 0, 72, [])), (8, (0, 1, 144, [])), (9, (2, 0, 0, [88])), (10, (0, -1, -1, [])), (11, (0, -1, -1, [])), (12, (0, 0, 144, []))], [(9, [12, 1], [13]), (9, [9, 1], [16]), (7, [10, 11], [0]), (10, [10, 9, 4], []), (7, [5, 8], [2]), (3, [8, 6, 7], []), (9, [7, 1], [6]), (20, [1, 3, 2, 4, 5], [60, 2, 1, 552, 6, 13, 16]), (24, [0, 1], [])], [(12, (0, 0, 143, []))], [], [], [], [(5, 8, -4294967296, -1), (5, 2, -4294967296, 0)])
theorem oo_Ne_traceFaces_at_Ne_9 {kA : Nat → ClassId} : or_ok PRD kA GG o_Ne_traceFaces_at_Ne_9 := by
  refine or_mk fun A ta ws vs hD hth hl => ?_
  intro t0 r0 t1 r1 t2 k2 t3 k3 t4 k4 t5 k5 t6 k6 t7 k7 t8 k8 t9 r9 t10 k10 t11 k11 t12 k12 d0 d1 f0 f1 f2 f3 f4 f5 f6 f7 f8
  replace f0 := shm_361 f0
  replace f1 := shm_176 f1
  replace f3 := shm_107 f3
  replace f7 := shm_1102 f7
  replace f8 := shm_5 f8
  have q1 : n_v vs 1 = n_v vs 0 := f8.symm
  simp only [q1] at f0 f1 f7
  have ad_9 : v_ad (n_v vs 9) = w_ar ws (n_v vs 0) 16 := congrArg v_ad f1
  have g0 : v_iv (n_v vs 12) = w_fi ws (n_v vs 0) 13 := congrArg v_iv f0
  simp only [ad_9] at f3
  have h3 : v_iv (n_v vs 10) = w_ei ws (w_ar ws (n_v vs 0) 16) (v_iv (n_v vs 4)) := f3
  have kz_0_6 := fdq_59 hD hth r0
  have kz_0_13 := fdq_253 hD hth r0
  have hrf0 : 0 ≤ v_iv (n_v vs 12) ∧ v_iv (n_v vs 12) ≤ 143 := vc_Ne_traceFaces_at_Ne_9_r0 (v_iv (n_v vs 2)) (v_iv (n_v vs 3)) (v_iv (n_v vs 4)) (v_iv (n_v vs 5)) (v_iv (n_v vs 10)) (v_iv (n_v vs 12)) (w_fi ws (n_v vs 0) 13) (w_ei ws (w_ar ws (n_v vs 0) 16)) (w_fi ws (n_v vs 0) 6) k2 k3 k4 k5 k10 k12 g0 h3 f7 kz_0_6 kz_0_13
  have rf12 : tv_ok ta (0, 0, 143, []) (n_v vs 12) := tv_in t12 (by first | omega | grind) (by first | omega | grind)
  refine ⟨List.forall_mem_cons.mpr ⟨rf12, (fun _ h => (by cases h))⟩, [], trivial, ?_, (fun _ h => (by cases h))⟩
  rw [List.append_nil]
  exact (fun _ h => (by cases h))
set_option maxHeartbeats 4000000 in
theorem vc_Ne_traceFaces_at_Ne_10_r0 (x2 : Int) (x3 : Int) (x4 : Int) (x5 : Int) (x10 : Int) (x15 : Int) (x18 : Int) (faces_0 : Int) (edges_0 : Int) (faceOf_1 : Int → Int) (edges_1 : Int) (faces_1 : Int) (k2 : 0 ≤ x2 ∧ x2 ≤ 144) (k3 : 0 ≤ x3 ∧ x3 ≤ 143) (k4 : 0 ≤ x4 ∧ x4 ≤ 143) (k5 : 0 ≤ x5 ∧ x5 ≤ 143) (k10 : (-1) ≤ x10 ∧ x10 ≤ (-1)) (k15 : 1 ≤ x15 ∧ x15 ≤ 1) (k18 : 0 ≤ x18 ∧ x18 ≤ 71) (f3 : x18 = x4 / 2) (f5 : x15 = x4 % 2) (h10 : x10 = faceOf_1 (x4)) (f13 : TFI (edges_1) (faces_1) (faceOf_1) (x3) (x2) (x4) (x5)) (fe_0_6_1 : edges_0 = edges_1) (fe_0_13_1 : faces_0 = faces_1) (kz_0_6 : 0 ≤ edges_0 ∧ edges_0 ≤ 72) (kz_0_13 : 0 ≤ faces_0 ∧ faces_0 ≤ 144) : 0 ≤ x2 ∧ x2 ≤ 143 := by
  subst fe_0_6_1
  subst fe_0_13_1
  first
    | omega
    | (have q := tfo_low ‹TFO _ _ _ _ _›; omega)
    | (skip; (first | subst h10 | skip); have q := tfc_lt (‹TFO _ _ _ _ _›).2.2.2.1 (e := x3) (by omega) (by omega) (by omega); have q2 := tfo_low ‹TFO _ _ _ _ _›; omega)
    | (skip; (first | subst h10 | skip); have q := (tfo_next (faces_zq := faces_0 + 1) (st_zq := x3 + 1) ‹TFI _ _ _ _ _ _ _› (by first | (left; omega) | (right; omega)) rfl rfl).2; have q2 := (‹TFI _ _ _ _ _ _ _›).2.2.1; omega)
    | (skip; (first | subst h10 | skip); have q := tfi_low ‹TFI _ _ _ _ _ _ _› (by omega) (by omega) (by omega); omega)
    | (have q := xor_one (x := x29) (a := x4) (b := x28) (by assumption) (by omega) (by omega) (by omega) (by omega) (by omega); split at q <;> omega)
  
def o_Ne_traceFaces_at_Ne_10 : or_T := (116, 20, [(0, (2, 0, 0, [5])), (1, (2, 0, 0, [5])), (2, (0, 0, 144, [])), (3, (0, 0, 143, [])), (4, (0, 0, 143, [])), (5, (0, 0, 143, [])), (6, (0, 2, 2, [])), (7, (0, 0, 72, [])), (8, (0, 1, 144, [])), (9, (2, 0, 0, [88])), (10, (0, -1, -1, [])), (11, (0, -1, -1, [])), (12, (0, 0, 143, [])), (14, (0, 1, 1, [])), (15, (0, 1, 1, [])), (18, (0, 0, 71, []))], [(9, [12, 1], [13]), (9, [9, 1], [16]), (9, [7, 1], [6]), (11, [18, 4], [2]), (8, [15], [1]), (12, [15, 4], [2]), (16, [15, 4, 14], [0]), (24, [0, 1], []), (100, [9, 4, 12], []), (7, [10, 11], [0]), (10, [10, 9, 4], []), (7, [5, 8], [2]), (3, [8, 6, 7], []), (20, [1, 3, 2, 4, 5], [60, 2, 1, 552, 6, 13, 16])], [(2, (0, 0, 143, []))], [], [], [], [(5, 8, -4294967296, -1), (5, 2, -4294967296, 0)])
theorem oo_Ne_traceFaces_at_Ne_10 {kA : Nat → ClassId} : or_ok PRD kA GG o_Ne_traceFaces_at_Ne_10 := by
  refine or_mk fun A ta ws vs hD hth hl => ?_
  intro t0 r0 t1 r1 t2 k2 t3 k3 t4 k4 t5 k5 t6 k6 t7 k7 t8 k8 t9 r9 t10 k10 t11 k11 t12 k12 t14 k14 t15 k15 t18 k18 d0 d1 f0 f1 f2 f3 f4 f5 f6 f7 ta1 w1 le1 s1 f9 f10 f11 f12 f13
  replace f1 := shm_176 f1
  replace f7 := shm_5 f7
  have s1 : (∀ b j, w_el ws b j = if b = v_ad (n_v vs 9) ∧ j = (v_iv (n_v vs 4)).toNat then v_iv (n_v vs 12) else w_el w1 b j) ∧ ∀ b k, w_fd ws b k = w_fd w1 b k := s1.2
  replace f10 := shm_107 f10
  replace f13 := shm_1102 f13
  have q1 : n_v vs 1 = n_v vs 0 := f7.symm
  simp only [q1] at f1 f13
  have ar_0_16_1 : w_ar w1 (n_v vs 0) 16 = w_ar ws (n_v vs 0) 16 := congrArg v_ad (s1.2 _ _).symm
  have ad_9 : v_ad (n_v vs 9) = w_ar ws (n_v vs 0) 16 := congrArg v_ad f1
  simp only [ad_9] at f10
  have h10 : v_iv (n_v vs 10) = w_ei w1 (w_ar ws (n_v vs 0) 16) (v_iv (n_v vs 4)) := f10
  simp only [ar_0_16_1] at f13
  have fe_0_6_1 : w_fi ws (n_v vs 0) 6 = w_fi w1 (n_v vs 0) 6 := congrArg v_iv (s1.2 _ _)
  have fe_0_13_1 : w_fi ws (n_v vs 0) 13 = w_fi w1 (n_v vs 0) 13 := congrArg v_iv (s1.2 _ _)
  have kz_0_6 := fdq_59 hD hth r0
  have kz_0_13 := fdq_253 hD hth r0
  have hrf0 : 0 ≤ v_iv (n_v vs 2) ∧ v_iv (n_v vs 2) ≤ 143 := vc_Ne_traceFaces_at_Ne_10_r0 (v_iv (n_v vs 2)) (v_iv (n_v vs 3)) (v_iv (n_v vs 4)) (v_iv (n_v vs 5)) (v_iv (n_v vs 10)) (v_iv (n_v vs 15)) (v_iv (n_v vs 18)) (w_fi ws (n_v vs 0) 13) (w_fi ws (n_v vs 0) 6) (w_ei w1 (w_ar ws (n_v vs 0) 16)) (w_fi w1 (n_v vs 0) 6) (w_fi w1 (n_v vs 0) 13) k2 k3 k4 k5 k10 k15 k18 (shm_585 f3) (shm_364 f5) h10 f13 fe_0_6_1 fe_0_13_1 kz_0_6 kz_0_13
  have rf2 : tv_ok ta (0, 0, 143, []) (n_v vs 2) := tv_in t2 (by first | omega | grind) (by first | omega | grind)
  refine ⟨List.forall_mem_cons.mpr ⟨rf2, (fun _ h => (by cases h))⟩, [], trivial, ?_, (fun _ h => (by cases h))⟩
  rw [List.append_nil]
  exact (fun _ h => (by cases h))
set_option maxHeartbeats 4000000 in
theorem vc_Ne_traceFaces_at_Ne_11_r0 (x3 : Int) (x4 : Int) (x10 : Int) (x22 : Int) (x25 : Int) (x28 : Int) (x29 : Int) (faces_0 : Int) (edges_0 : Int) (faceOf_2 : Int → Int) (edges_2 : Int) (faces_2 : Int) (edges_1 : Int) (faces_1 : Int) (rowNode_1 : Int → Int) (rowNode_2 : Int → Int) (faceOf_0 : Int → Int) (faceOf_1 : Int → Int) (k4 : 0 ≤ x4 ∧ x4 ≤ 143) (k10 : (-1) ≤ x10 ∧ x10 ≤ (-1)) (k22 : 1 ≤ x22 ∧ x22 ≤ 1) (k25 : 0 ≤ x25 ∧ x25 ≤ 71) (k28 : 1 ≤ x28 ∧ x28 ≤ 1) (k29 : 0 ≤ x29 ∧ x29 ≤ 255) (f4 : bvp (x29) = bvp (x4) ^^^ bvp (x28)) (f5 : x25 = x4 / 2) (f7 : x22 = x4 % 2) (h18 : x10 = faceOf_2 (x4)) (fe_0_6_1 : edges_0 = edges_1) (fe_0_13_1 : faces_0 = faces_1) (fe_0_6_2 : edges_1 = edges_2) (fe_0_13_2 : faces_1 = faces_2) (hE_0_15_2 : ∀ j : Int, rowNode_1 j = rowNode_2 j) (hE_0_16_1 : ∀ j : Int, faceOf_0 j = faceOf_1 j) (kz_0_6 : 0 ≤ edges_0 ∧ edges_0 ≤ 72) (kz_0_13 : 0 ≤ faces_0 ∧ faces_0 ≤ 144) : 0 ≤ x29 ∧ x29 ≤ 143 := by
  subst fe_0_6_1
  subst fe_0_13_1
  subst fe_0_6_2
  subst fe_0_13_2
  have e_hE_0_15_2 := funext hE_0_15_2; subst e_hE_0_15_2
  have e_hE_0_16_1 := funext hE_0_16_1; subst e_hE_0_16_1
  first
    | omega
    | (have q := tfo_low ‹TFO _ _ _ _ _›; omega)
    | (skip; (first | subst h18 | skip); have q := tfc_lt (‹TFO _ _ _ _ _›).2.2.2.1 (e := x3) (by omega) (by omega) (by omega); have q2 := tfo_low ‹TFO _ _ _ _ _›; omega)
    | (skip; (first | subst h18 | skip); have q := (tfo_next (faces_zq := faces_0 + 1) (st_zq := x3 + 1) ‹TFI _ _ _ _ _ _ _› (by first | (left; omega) | (right; omega)) rfl rfl).2; have q2 := (‹TFI _ _ _ _ _ _ _›).2.2.1; omega)
    | (skip; (first | subst h18 | skip); have q := tfi_low ‹TFI _ _ _ _ _ _ _› (by omega) (by omega) (by omega); omega)
    | (have q := xor_one (x := x29) (a := x4) (b := x28) (by assumption) (by omega) (by omega) (by omega) (by omega) (by omega); split at q <;> omega)
  
def o_Ne_traceFaces_at_Ne_11 : or_T := (155, 30, [(0, (2, 0, 0, [5])), (1, (2, 0, 0, [5])), (2, (0, 0, 143, [])), (3, (0, 0, 143, [])), (4, (0, 0, 143, [])), (5, (0, 0, 143, [])), (6, (0, 2, 2, [])), (7, (0, 0, 72, [])), (8, (0, 1, 144, [])), (9, (2, 0, 0, [88])), (10, (0, -1, -1, [])), (11, (0, -1, -1, [])), (12, (0, 0, 143, [])), (13, (2, 0, 0, [87])), (14, (0, 1, 1, [])), (15, (0, 1, 1, [])), (18, (0, 0, 71, [])), (20, (0, 1, 144, [])), (21, (0, 1, 1, [])), (22, (0, 1, 1, [])), (25, (0, 0, 71, [])), (28, (0, 1, 1, [])), (29, (0, 0, 255, []))], [(9, [13, 1], [15]), (9, [12, 1], [13]), (9, [9, 1], [16]), (9, [7, 1], [6]), (16, [29, 4, 28], [2]), (11, [25, 4], [2]), (8, [22], [1]), (12, [22, 4], [2]), (16, [22, 4, 21], [0]), (6, [20, 2], [1]), (24, [0, 1], []), (100, [13, 2, 19], []), (11, [18, 4], [2]), (8, [15], [1]), (12, [15, 4], [2]), (16, [15, 4, 14], [0]), (100, [9, 4, 12], []), (7, [10, 11], [0]), (10, [10, 9, 4], []), (7, [5, 8], [2]), (3, [8, 6, 7], []), (20, [1, 3, 2, 4, 5], [60, 2, 1, 552, 6, 13, 16])], [(29, (0, 0, 143, []))], [], [], [], [(20, 2, 1, 1), (5, 8, -4294967296, -1), (5, 2, -4294967296, 0)])
theorem oo_Ne_traceFaces_at_Ne_11 {kA : Nat → ClassId} : or_ok PRD kA GG o_Ne_traceFaces_at_Ne_11 := by
  refine or_mk fun A ta ws vs hD hth hl => ?_
  intro t0 r0 t1 r1 t2 k2 t3 k3 t4 k4 t5 k5 t6 k6 t7 k7 t8 k8 t9 r9 t10 k10 t11 k11 t12 k12 t13 r13 t14 k14 t15 k15 t18 k18 t20 k20 t21 k21 t22 k22 t25 k25 t28 k28 t29 k29 d0 d1 d2 f0 f1 f2 f3 f4 f5 f6 f7 f8 f9 f10 ta1 w1 le1 s1 f12 f13 f14 f15 ta2 w2 le2 s2 f17 f18 f19 f20 f21
  replace f2 := shm_176 f2
  replace f10 := shm_5 f10
  have s1 : (∀ b j, w_el ws b j = if b = v_ad (n_v vs 13) ∧ j = (v_iv (n_v vs 2)).toNat then v_iv (n_v vs 19) else w_el w1 b j) ∧ ∀ b k, w_fd ws b k = w_fd w1 b k := s1.2
  have s2 : (∀ b j, w_el w1 b j = if b = v_ad (n_v vs 9) ∧ j = (v_iv (n_v vs 4)).toNat then v_iv (n_v vs 12) else w_el w2 b j) ∧ ∀ b k, w_fd w1 b k = w_fd w2 b k := s2.2
  replace f18 := shm_107 f18
  have q1 : n_v vs 1 = n_v vs 0 := f10.symm
  simp only [q1] at f2
  have cr_0_15 := fdq_255 hD hth r0
  have cr_0_16 := fdq_91 hD hth r0
  have ad_9 : v_ad (n_v vs 9) = w_ar ws (n_v vs 0) 16 := congrArg v_ad f2
  simp only [ad_9] at f18
  have h18 : v_iv (n_v vs 10) = w_ei w2 (w_ar ws (n_v vs 0) 16) (v_iv (n_v vs 4)) := f18
  have fe_0_6_1 : w_fi ws (n_v vs 0) 6 = w_fi w1 (n_v vs 0) 6 := congrArg v_iv (s1.2 _ _)
  have fe_0_13_1 : w_fi ws (n_v vs 0) 13 = w_fi w1 (n_v vs 0) 13 := congrArg v_iv (s1.2 _ _)
  have fe_0_6_2 : w_fi w1 (n_v vs 0) 6 = w_fi w2 (n_v vs 0) 6 := congrArg v_iv (s2.2 _ _)
  have fe_0_13_2 : w_fi w1 (n_v vs 0) 13 = w_fi w2 (n_v vs 0) 13 := congrArg v_iv (s2.2 _ _)
  have hE_0_15_2 : ∀ j : Int, w_ei w1 (w_ar ws (n_v vs 0) 15) j = w_ei w2 (w_ar ws (n_v vs 0) 15) j := el_kp s2.1 r9 cr_0_15 (by decide)
  have hE_0_16_1 : ∀ j : Int, w_ei ws (w_ar ws (n_v vs 0) 16) j = w_ei w1 (w_ar ws (n_v vs 0) 16) j := el_kp s1.1 r13 cr_0_16 (by decide)
  have kz_0_6 := fdq_59 hD hth r0
  have kz_0_13 := fdq_253 hD hth r0
  have hrf0 : 0 ≤ v_iv (n_v vs 29) ∧ v_iv (n_v vs 29) ≤ 143 := vc_Ne_traceFaces_at_Ne_11_r0 (v_iv (n_v vs 3)) (v_iv (n_v vs 4)) (v_iv (n_v vs 10)) (v_iv (n_v vs 22)) (v_iv (n_v vs 25)) (v_iv (n_v vs 28)) (v_iv (n_v vs 29)) (w_fi ws (n_v vs 0) 13) (w_fi ws (n_v vs 0) 6) (w_ei w2 (w_ar ws (n_v vs 0) 16)) (w_fi w2 (n_v vs 0) 6) (w_fi w2 (n_v vs 0) 13) (w_fi w1 (n_v vs 0) 6) (w_fi w1 (n_v vs 0) 13) (w_ei w1 (w_ar ws (n_v vs 0) 15)) (w_ei w2 (w_ar ws (n_v vs 0) 15)) (w_ei ws (w_ar ws (n_v vs 0) 16)) (w_ei w1 (w_ar ws (n_v vs 0) 16)) k4 k10 k22 k25 k28 k29 (shm_33 f4) (shm_585 f5) (shm_364 f7) h18 fe_0_6_1 fe_0_13_1 fe_0_6_2 fe_0_13_2 hE_0_15_2 hE_0_16_1 kz_0_6 kz_0_13
  have rf29 : tv_ok ta (0, 0, 143, []) (n_v vs 29) := tv_in t29 (by first | omega | grind) (by first | omega | grind)
  refine ⟨List.forall_mem_cons.mpr ⟨rf29, (fun _ h => (by cases h))⟩, [], trivial, ?_, (fun _ h => (by cases h))⟩
  rw [List.append_nil]
  exact (fun _ h => (by cases h))
set_option maxHeartbeats 4000000 in
theorem vc_Ne_traceFaces_at_Ne_12_0 (x2 : Int) (x3 : Int) (x4 : Int) (x5 : Int) (x10 : Int) (x12 : Int) (x18 : Int) (x20 : Int) (x22 : Int) (x31 : Int) (x32 : Int) (faces_0 : Int) (edges_0 : Int) (faceOf_2 : Int → Int) (edges_2 : Int) (faces_2 : Int) (edges_1 : Int) (faces_1 : Int) (rowNode_1 : Int → Int) (rowNode_2 : Int → Int) (faceOf_0 : Int → Int) (faceOf_1 : Int → Int) (k2 : 0 ≤ x2 ∧ x2 ≤ 143) (k3 : 0 ≤ x3 ∧ x3 ≤ 143) (k4 : 0 ≤ x4 ∧ x4 ≤ 143) (k5 : 0 ≤ x5 ∧ x5 ≤ 143) (k10 : (-1) ≤ x10 ∧ x10 ≤ (-1)) (k12 : 0 ≤ x12 ∧ x12 ≤ 143) (k18 : 0 ≤ x18 ∧ x18 ≤ 71) (k20 : 1 ≤ x20 ∧ x20 ≤ 144) (k22 : 1 ≤ x22 ∧ x22 ≤ 1) (k31 : 1 ≤ x31 ∧ x31 ≤ 143) (k32 : 1 ≤ x32 ∧ x32 ≤ 144) (g1 : x12 = faces_0) (f4 : x32 = x5 + 1) (f8 : x22 = x4 % 2) (f10 : x20 = x2 + 1) (f13 : x18 = x4 / 2) (h19 : x10 = faceOf_2 (x4)) (f22 : TFI (edges_2) (faces_2) (faceOf_2) (x3) (x2) (x4) (x5)) (fe_0_6_1 : edges_0 = edges_1) (fe_0_13_1 : faces_0 = faces_1) (fe_0_6_2 : edges_1 = edges_2) (fe_0_13_2 : faces_1 = faces_2) (hE_0_15_2 : ∀ j : Int, rowNode_1 j = rowNode_2 j) (hE_0_16_1 : ∀ j : Int, faceOf_0 j = faceOf_1 j) (hE_0_16_2 : ∀ j : Int, 0 ≤ j → (j = x4 → faceOf_1 j = x12) ∧ (j ≠ x4 → faceOf_1 j = faceOf_2 j)) (kz_0_6 : 0 ≤ edges_0 ∧ edges_0 ≤ 72) (kz_0_13 : 0 ≤ faces_0 ∧ faces_0 ≤ 144) : TFI (edges_0) (faces_0) (faceOf_0) (x3) (x20) (x31) (x32) := by
  subst fe_0_6_1
  subst fe_0_13_1
  subst fe_0_6_2
  subst fe_0_13_2
  have e_hE_0_15_2 := funext hE_0_15_2; subst e_hE_0_15_2
  have e_hE_0_16_1 := funext hE_0_16_1; subst e_hE_0_16_1
  first
    | (skip; (first | subst h19 | skip); exact tfi_start ‹TFO _ _ _ _ _› (by omega) (by omega) (by omega) (by omega))
    | (skip; (first | subst h19 | skip); exact tfi_step ‹TFI _ _ _ _ _ _ _› (by assumption) rfl (by omega) (by omega) (by omega) (by omega) (by omega) (by omega))
  
def o_Ne_traceFaces_at_Ne_12 : or_T := (55, 33, [(0, (2, 0, 0, [5])), (1, (2, 0, 0, [5])), (2, (0, 0, 143, [])), (3, (0, 0, 143, [])), (4, (0, 0, 143, [])), (5, (0, 0, 143, [])), (6, (0, 2, 2, [])), (7, (0, 0, 72, [])), (8, (0, 1, 144, [])), (9, (2, 0, 0, [88])), (10, (0, -1, -1, [])), (11, (0, -1, -1, [])), (12, (0, 0, 143, [])), (13, (2, 0, 0, [87])), (14, (0, 1, 1, [])), (15, (0, 1, 1, [])), (18, (0, 0, 71, [])), (20, (0, 1, 144, [])), (21, (0, 1, 1, [])), (22, (0, 1, 1, [])), (25, (0, 0, 71, [])), (28, (0, 1, 1, [])), (29, (0, 0, 143, [])), (31, (0, 1, 143, [])), (32, (0, 1, 144, []))], [(9, [13, 1], [15]), (9, [12, 1], [13]), (9, [9, 1], [16]), (9, [7, 1], [6]), (6, [32, 5], [1]), (16, [29, 4, 28], [2]), (11, [25, 4], [2]), (8, [22], [1]), (12, [22, 4], [2]), (16, [22, 4, 21], [0]), (6, [20, 2], [1]), (24, [0, 1], []), (100, [13, 2, 19], []), (11, [18, 4], [2]), (8, [15], [1]), (12, [15, 4], [2]), (16, [15, 4, 14], [0]), (100, [9, 4, 12], []), (7, [10, 11], [0]), (10, [10, 9, 4], []), (7, [5, 8], [2]), (3, [8, 6, 7], []), (20, [1, 3, 2, 4, 5], [60, 2, 1, 552, 6, 13, 16])], [], [], [(20, [1, 3, 20, 31, 32], [60, 2, 1, 552, 6, 13, 16])], [], [(32, 5, 1, 1), (32, 8, -4294967296, 0), (32, 2, -4294967296, 1), (20, 2, 1, 1), (5, 8, -4294967296, -1), (5, 2, -4294967296, 0)])
theorem oo_Ne_traceFaces_at_Ne_12 {kA : Nat → ClassId} : or_ok PRD kA GG o_Ne_traceFaces_at_Ne_12 := by
  refine or_mk fun A ta ws vs hD hth hl => ?_
  intro t0 r0 t1 r1 t2 k2 t3 k3 t4 k4 t5 k5 t6 k6 t7 k7 t8 k8 t9 r9 t10 k10 t11 k11 t12 k12 t13 r13 t14 k14 t15 k15 t18 k18 t20 k20 t21 k21 t22 k22 t25 k25 t28 k28 t29 k29 t31 k31 t32 k32 d0 d1 d2 d3 d4 d5 f0 f1 f2 f3 f4 f5 f6 f7 f8 f9 f10 f11 ta1 w1 le1 s1 f13 f14 f15 f16 ta2 w2 le2 s2 f18 f19 f20 f21 f22
  replace f1 := shm_361 f1
  replace f2 := shm_176 f2
  replace f4 := shm_4 f4
  replace f8 := shm_364 f8
  replace f10 := shm_4 f10
  replace f11 := shm_5 f11
  have s1 : (∀ b j, w_el ws b j = if b = v_ad (n_v vs 13) ∧ j = (v_iv (n_v vs 2)).toNat then v_iv (n_v vs 19) else w_el w1 b j) ∧ ∀ b k, w_fd ws b k = w_fd w1 b k := s1.2
  replace f13 := shm_585 f13
  have s2 : (∀ b j, w_el w1 b j = if b = v_ad (n_v vs 9) ∧ j = (v_iv (n_v vs 4)).toNat then v_iv (n_v vs 12) else w_el w2 b j) ∧ ∀ b k, w_fd w1 b k = w_fd w2 b k := s2.2
  replace f19 := shm_107 f19
  replace f22 := shm_1102 f22
  have q1 : n_v vs 1 = n_v vs 0 := f11.symm
  simp only [q1] at f1 f2 f22
  have cr_0_15 := fdq_255 hD hth r0
  have ar_0_16_1 : w_ar w1 (n_v vs 0) 16 = w_ar ws (n_v vs 0) 16 := congrArg v_ad (s1.2 _ _).symm
  have ar_0_16_2 : w_ar w2 (n_v vs 0) 16 = w_ar ws (n_v vs 0) 16 := by rw [← ar_0_16_1]; show v_ad (w_fd w2 _ _) = v_ad (w_fd w1 _ _); rw [s2.2]
  have cr_0_16 := fdq_91 hD hth r0
  have ad_9 : v_ad (n_v vs 9) = w_ar ws (n_v vs 0) 16 := congrArg v_ad f2
  have g1 : v_iv (n_v vs 12) = w_fi ws (n_v vs 0) 13 := congrArg v_iv f1
  simp only [ad_9] at f19
  have h19 : v_iv (n_v vs 10) = w_ei w2 (w_ar ws (n_v vs 0) 16) (v_iv (n_v vs 4)) := f19
  simp only [ar_0_16_2] at f22
  have fe_0_6_1 : w_fi ws (n_v vs 0) 6 = w_fi w1 (n_v vs 0) 6 := congrArg v_iv (s1.2 _ _)
  have fe_0_13_1 : w_fi ws (n_v vs 0) 13 = w_fi w1 (n_v vs 0) 13 := congrArg v_iv (s1.2 _ _)
  have fe_0_6_2 : w_fi w1 (n_v vs 0) 6 = w_fi w2 (n_v vs 0) 6 := congrArg v_iv (s2.2 _ _)
  have fe_0_13_2 : w_fi w1 (n_v vs 0) 13 = w_fi w2 (n_v vs 0) 13 := congrArg v_iv (s2.2 _ _)
  have hE_0_15_2 : ∀ j : Int, w_ei w1 (w_ar ws (n_v vs 0) 15) j = w_ei w2 (w_ar ws (n_v vs 0) 15) j := el_kp s2.1 r9 cr_0_15 (by decide)
  have hE_0_16_1 : ∀ j : Int, w_ei ws (w_ar ws (n_v vs 0) 16) j = w_ei w1 (w_ar ws (n_v vs 0) 16) j := el_kp s1.1 r13 cr_0_16 (by decide)
  have hE_0_16_2 : ∀ j : Int, 0 ≤ j → (j = v_iv (n_v vs 4) → w_ei w1 (w_ar ws (n_v vs 0) 16) j = v_iv (n_v vs 12)) ∧ (j ≠ v_iv (n_v vs 4) → w_ei w1 (w_ar ws (n_v vs 0) 16) j = w_ei w2 (w_ar ws (n_v vs 0) 16) j) := fun j hj => ⟨fun h => by unfold w_ei; rw [s2.1, if_pos ⟨ad_9.symm, by rw [h]⟩], fun h => by unfold w_ei; rw [s2.1, if_neg (fun e => h (by have := e.2; omega))]⟩
  have kz_0_6 := fdq_59 hD hth r0
  have kz_0_13 := fdq_253 hD hth r0
  have nf0 : fc_1 PRD (20, [1, 3, 20, 31, 32], [60, 2, 1, 552, 6, 13, 16]) ws (vs) := by
    refine ⟨nf_in hl rfl, sgq_1102 ?_⟩
    · show TFI (w_fi ws (n_v vs 1) 6) (w_fi ws (n_v vs 1) 13) (w_ei ws (w_ar ws (n_v vs 1) 16)) (v_iv (n_v vs 3)) (v_iv (n_v vs 20)) (v_iv (n_v vs 31)) (v_iv (n_v vs 32))
      rw [q1]
      exact vc_Ne_traceFaces_at_Ne_12_0 (v_iv (n_v vs 2)) (v_iv (n_v vs 3)) (v_iv (n_v vs 4)) (v_iv (n_v vs 5)) (v_iv (n_v vs 10)) (v_iv (n_v vs 12)) (v_iv (n_v vs 18)) (v_iv (n_v vs 20)) (v_iv (n_v vs 22)) (v_iv (n_v vs 31)) (v_iv (n_v vs 32)) (w_fi ws (n_v vs 0) 13) (w_fi ws (n_v vs 0) 6) (w_ei w2 (w_ar ws (n_v vs 0) 16)) (w_fi w2 (n_v vs 0) 6) (w_fi w2 (n_v vs 0) 13) (w_fi w1 (n_v vs 0) 6) (w_fi w1 (n_v vs 0) 13) (w_ei w1 (w_ar ws (n_v vs 0) 15)) (w_ei w2 (w_ar ws (n_v vs 0) 15)) (w_ei ws (w_ar ws (n_v vs 0) 16)) (w_ei w1 (w_ar ws (n_v vs 0) 16)) k2 k3 k4 k5 k10 k12 k18 k20 k22 k31 k32 g1 f4 f8 f10 f13 h19 f22 fe_0_6_1 fe_0_13_1 fe_0_6_2 fe_0_13_2 hE_0_15_2 hE_0_16_1 hE_0_16_2 kz_0_6 kz_0_13
  refine ⟨(fun _ h => (by cases h)), [], trivial, ?_, (fun _ h => (by cases h))⟩
  rw [List.append_nil]
  exact List.forall_mem_cons.mpr ⟨⟨show (20 : Nat) < 100 from by decide, nf0⟩, (fun _ h => (by cases h))⟩
set_option maxHeartbeats 4000000 in
theorem vc_Ne_traceFaces_at_Ne_13_0 (x2 : Int) (x3 : Int) (x4 : Int) (x5 : Int) (x10 : Int) (x12 : Int) (x18 : Int) (x20 : Int) (x22 : Int) (x31 : Int) (x32 : Int) (faces_0 : Int) (edges_0 : Int) (faceOf_2 : Int → Int) (edges_2 : Int) (faces_2 : Int) (edges_1 : Int) (faces_1 : Int) (rowNode_1 : Int → Int) (rowNode_2 : Int → Int) (faceOf_0 : Int → Int) (faceOf_1 : Int → Int) (k2 : 0 ≤ x2 ∧ x2 ≤ 143) (k3 : 0 ≤ x3 ∧ x3 ≤ 143) (k4 : 0 ≤ x4 ∧ x4 ≤ 143) (k5 : 0 ≤ x5 ∧ x5 ≤ 143) (k10 : (-1) ≤ x10 ∧ x10 ≤ (-1)) (k12 : 0 ≤ x12 ∧ x12 ≤ 143) (k18 : 0 ≤ x18 ∧ x18 ≤ 71) (k20 : 1 ≤ x20 ∧ x20 ≤ 144) (k22 : 1 ≤ x22 ∧ x22 ≤ 1) (k31 : 0 ≤ x31 ∧ x31 ≤ 142) (k32 : 1 ≤ x32 ∧ x32 ≤ 144) (g1 : x12 = faces_0) (f4 : x32 = x5 + 1) (f8 : x22 = x4 % 2) (f10 : x20 = x2 + 1) (f13 : x18 = x4 / 2) (h19 : x10 = faceOf_2 (x4)) (f22 : TFI (edges_2) (faces_2) (faceOf_2) (x3) (x2) (x4) (x5)) (fe_0_6_1 : edges_0 = edges_1) (fe_0_13_1 : faces_0 = faces_1) (fe_0_6_2 : edges_1 = edges_2) (fe_0_13_2 : faces_1 = faces_2) (hE_0_15_2 : ∀ j : Int, rowNode_1 j = rowNode_2 j) (hE_0_16_1 : ∀ j : Int, faceOf_0 j = faceOf_1 j) (hE_0_16_2 : ∀ j : Int, 0 ≤ j → (j = x4 → faceOf_1 j = x12) ∧ (j ≠ x4 → faceOf_1 j = faceOf_2 j)) (kz_0_6 : 0 ≤ edges_0 ∧ edges_0 ≤ 72) (kz_0_13 : 0 ≤ faces_0 ∧ faces_0 ≤ 144) : TFI (edges_0) (faces_0) (faceOf_0) (x3) (x20) (x31) (x32) := by
  subst fe_0_6_1
  subst fe_0_13_1
  subst fe_0_6_2
  subst fe_0_13_2
  have e_hE_0_15_2 := funext hE_0_15_2; subst e_hE_0_15_2
  have e_hE_0_16_1 := funext hE_0_16_1; subst e_hE_0_16_1
  first
    | (skip; (first | subst h19 | skip); exact tfi_start ‹TFO _ _ _ _ _› (by omega) (by omega) (by omega) (by omega))
    | (skip; (first | subst h19 | skip); exact tfi_step ‹TFI _ _ _ _ _ _ _› (by assumption) rfl (by omega) (by omega) (by omega) (by omega) (by omega) (by omega))
  
def o_Ne_traceFaces_at_Ne_13 : or_T := (55, 33, [(0, (2, 0, 0, [5])), (1, (2, 0, 0, [5])), (2, (0, 0, 143, [])), (3, (0, 0, 143, [])), (4, (0, 0, 143, [])), (5, (0, 0, 143, [])), (6, (0, 2, 2, [])), (7, (0, 0, 72, [])), (8, (0, 1, 144, [])), (9, (2, 0, 0, [88])), (10, (0, -1, -1, [])), (11, (0, -1, -1, [])), (12, (0, 0, 143, [])), (13, (2, 0, 0, [87])), (14, (0, 1, 1, [])), (15, (0, 1, 1, [])), (18, (0, 0, 71, [])), (20, (0, 1, 144, [])), (21, (0, 1, 1, [])), (22, (0, 1, 1, [])), (25, (0, 0, 71, [])), (28, (0, 1, 1, [])), (29, (0, 0, 143, [])), (31, (0, 0, 142, [])), (32, (0, 1, 144, []))], [(9, [13, 1], [15]), (9, [12, 1], [13]), (9, [9, 1], [16]), (9, [7, 1], [6]), (6, [32, 5], [1]), (16, [29, 4, 28], [2]), (11, [25, 4], [2]), (8, [22], [1]), (12, [22, 4], [2]), (16, [22, 4, 21], [0]), (6, [20, 2], [1]), (24, [0, 1], []), (100, [13, 2, 19], []), (11, [18, 4], [2]), (8, [15], [1]), (12, [15, 4], [2]), (16, [15, 4, 14], [0]), (100, [9, 4, 12], []), (7, [10, 11], [0]), (10, [10, 9, 4], []), (7, [5, 8], [2]), (3, [8, 6, 7], []), (20, [1, 3, 2, 4, 5], [60, 2, 1, 552, 6, 13, 16])], [], [], [(20, [1, 3, 20, 31, 32], [60, 2, 1, 552, 6, 13, 16])], [], [(32, 5, 1, 1), (32, 8, -4294967296, 0), (32, 2, -4294967296, 1), (20, 2, 1, 1), (5, 8, -4294967296, -1), (5, 2, -4294967296, 0)])
theorem oo_Ne_traceFaces_at_Ne_13 {kA : Nat → ClassId} : or_ok PRD kA GG o_Ne_traceFaces_at_Ne_13 := by
  refine or_mk fun A ta ws vs hD hth hl => ?_
  intro t0 r0 t1 r1 t2 k2 t3 k3 t4 k4 t5 k5 t6 k6 t7 k7 t8 k8 t9 r9 t10 k10 t11 k11 t12 k12 t13 r13 t14 k14 t15 k15 t18 k18 t20 k20 t21 k21 t22 k22 t25 k25 t28 k28 t29 k29 t31 k31 t32 k32 d0 d1 d2 d3 d4 d5 f0 f1 f2 f3 f4 f5 f6 f7 f8 f9 f10 f11 ta1 w1 le1 s1 f13 f14 f15 f16 ta2 w2 le2 s2 f18 f19 f20 f21 f22
  replace f1 := shm_361 f1
  replace f2 := shm_176 f2
  replace f4 := shm_4 f4
  replace f8 := shm_364 f8
  replace f10 := shm_4 f10
  replace f11 := shm_5 f11
  have s1 : (∀ b j, w_el ws b j = if b = v_ad (n_v vs 13) ∧ j = (v_iv (n_v vs 2)).toNat then v_iv (n_v vs 19) else w_el w1 b j) ∧ ∀ b k, w_fd ws b k = w_fd w1 b k := s1.2
  replace f13 := shm_585 f13
  have s2 : (∀ b j, w_el w1 b j = if b = v_ad (n_v vs 9) ∧ j = (v_iv (n_v vs 4)).toNat then v_iv (n_v vs 12) else w_el w2 b j) ∧ ∀ b k, w_fd w1 b k = w_fd w2 b k := s2.2
  replace f19 := shm_107 f19
  replace f22 := shm_1102 f22
  have q1 : n_v vs 1 = n_v vs 0 := f11.symm
  simp only [q1] at f1 f2 f22
  have cr_0_15 := fdq_255 hD hth r0
  have ar_0_16_1 : w_ar w1 (n_v vs 0) 16 = w_ar ws (n_v vs 0) 16 := congrArg v_ad (s1.2 _ _).symm
  have ar_0_16_2 : w_ar w2 (n_v vs 0) 16 = w_ar ws (n_v vs 0) 16 := by rw [← ar_0_16_1]; show v_ad (w_fd w2 _ _) = v_ad (w_fd w1 _ _); rw [s2.2]
  have cr_0_16 := fdq_91 hD hth r0
  have ad_9 : v_ad (n_v vs 9) = w_ar ws (n_v vs 0) 16 := congrArg v_ad f2
  have g1 : v_iv (n_v vs 12) = w_fi ws (n_v vs 0) 13 := congrArg v_iv f1
  simp only [ad_9] at f19
  have h19 : v_iv (n_v vs 10) = w_ei w2 (w_ar ws (n_v vs 0) 16) (v_iv (n_v vs 4)) := f19
  simp only [ar_0_16_2] at f22
  have fe_0_6_1 : w_fi ws (n_v vs 0) 6 = w_fi w1 (n_v vs 0) 6 := congrArg v_iv (s1.2 _ _)
  have fe_0_13_1 : w_fi ws (n_v vs 0) 13 = w_fi w1 (n_v vs 0) 13 := congrArg v_iv (s1.2 _ _)
  have fe_0_6_2 : w_fi w1 (n_v vs 0) 6 = w_fi w2 (n_v vs 0) 6 := congrArg v_iv (s2.2 _ _)
  have fe_0_13_2 : w_fi w1 (n_v vs 0) 13 = w_fi w2 (n_v vs 0) 13 := congrArg v_iv (s2.2 _ _)
  have hE_0_15_2 : ∀ j : Int, w_ei w1 (w_ar ws (n_v vs 0) 15) j = w_ei w2 (w_ar ws (n_v vs 0) 15) j := el_kp s2.1 r9 cr_0_15 (by decide)
  have hE_0_16_1 : ∀ j : Int, w_ei ws (w_ar ws (n_v vs 0) 16) j = w_ei w1 (w_ar ws (n_v vs 0) 16) j := el_kp s1.1 r13 cr_0_16 (by decide)
  have hE_0_16_2 : ∀ j : Int, 0 ≤ j → (j = v_iv (n_v vs 4) → w_ei w1 (w_ar ws (n_v vs 0) 16) j = v_iv (n_v vs 12)) ∧ (j ≠ v_iv (n_v vs 4) → w_ei w1 (w_ar ws (n_v vs 0) 16) j = w_ei w2 (w_ar ws (n_v vs 0) 16) j) := fun j hj => ⟨fun h => by unfold w_ei; rw [s2.1, if_pos ⟨ad_9.symm, by rw [h]⟩], fun h => by unfold w_ei; rw [s2.1, if_neg (fun e => h (by have := e.2; omega))]⟩
  have kz_0_6 := fdq_59 hD hth r0
  have kz_0_13 := fdq_253 hD hth r0
  have nf0 : fc_1 PRD (20, [1, 3, 20, 31, 32], [60, 2, 1, 552, 6, 13, 16]) ws (vs) := by
    refine ⟨nf_in hl rfl, sgq_1102 ?_⟩
    · show TFI (w_fi ws (n_v vs 1) 6) (w_fi ws (n_v vs 1) 13) (w_ei ws (w_ar ws (n_v vs 1) 16)) (v_iv (n_v vs 3)) (v_iv (n_v vs 20)) (v_iv (n_v vs 31)) (v_iv (n_v vs 32))
      rw [q1]
      exact vc_Ne_traceFaces_at_Ne_13_0 (v_iv (n_v vs 2)) (v_iv (n_v vs 3)) (v_iv (n_v vs 4)) (v_iv (n_v vs 5)) (v_iv (n_v vs 10)) (v_iv (n_v vs 12)) (v_iv (n_v vs 18)) (v_iv (n_v vs 20)) (v_iv (n_v vs 22)) (v_iv (n_v vs 31)) (v_iv (n_v vs 32)) (w_fi ws (n_v vs 0) 13) (w_fi ws (n_v vs 0) 6) (w_ei w2 (w_ar ws (n_v vs 0) 16)) (w_fi w2 (n_v vs 0) 6) (w_fi w2 (n_v vs 0) 13) (w_fi w1 (n_v vs 0) 6) (w_fi w1 (n_v vs 0) 13) (w_ei w1 (w_ar ws (n_v vs 0) 15)) (w_ei w2 (w_ar ws (n_v vs 0) 15)) (w_ei ws (w_ar ws (n_v vs 0) 16)) (w_ei w1 (w_ar ws (n_v vs 0) 16)) k2 k3 k4 k5 k10 k12 k18 k20 k22 k31 k32 g1 f4 f8 f10 f13 h19 f22 fe_0_6_1 fe_0_13_1 fe_0_6_2 fe_0_13_2 hE_0_15_2 hE_0_16_1 hE_0_16_2 kz_0_6 kz_0_13
  refine ⟨(fun _ h => (by cases h)), [], trivial, ?_, (fun _ h => (by cases h))⟩
  rw [List.append_nil]
  exact List.forall_mem_cons.mpr ⟨⟨show (20 : Nat) < 100 from by decide, nf0⟩, (fun _ h => (by cases h))⟩
set_option maxHeartbeats 4000000 in
theorem vc_Ne_traceFaces_at_Ne_14_r0 (x3 : Int) (x4 : Int) (x10 : Int) (x15 : Int) (x22 : Int) (x28 : Int) (faces_0 : Int) (edges_0 : Int) (faceOf_2 : Int → Int) (edges_2 : Int) (faces_2 : Int) (edges_1 : Int) (faces_1 : Int) (rowNode_1 : Int → Int) (rowNode_2 : Int → Int) (faceOf_0 : Int → Int) (faceOf_1 : Int → Int) (k4 : 0 ≤ x4 ∧ x4 ≤ 143) (k10 : (-1) ≤ x10 ∧ x10 ≤ (-1)) (k15 : 1 ≤ x15 ∧ x15 ≤ 1) (k22 : 0 ≤ x22 ∧ x22 ≤ 0) (k28 : 0 ≤ x28 ∧ x28 ≤ 255) (f7 : x22 = x4 % 2) (f14 : x15 = x4 % 2) (h18 : x10 = faceOf_2 (x4)) (fe_0_6_1 : edges_0 = edges_1) (fe_0_13_1 : faces_0 = faces_1) (fe_0_6_2 : edges_1 = edges_2) (fe_0_13_2 : faces_1 = faces_2) (hE_0_15_2 : ∀ j : Int, rowNode_1 j = rowNode_2 j) (hE_0_16_1 : ∀ j : Int, faceOf_0 j = faceOf_1 j) (kz_0_6 : 0 ≤ edges_0 ∧ edges_0 ≤ 72) (kz_0_13 : 0 ≤ faces_0 ∧ faces_0 ≤ 144) : 0 ≤ x28 ∧ x28 ≤ 143 := by
  subst fe_0_6_1
  subst fe_0_13_1
  subst fe_0_6_2
  subst fe_0_13_2
  have e_hE_0_15_2 := funext hE_0_15_2; subst e_hE_0_15_2
  have e_hE_0_16_1 := funext hE_0_16_1; subst e_hE_0_16_1
  first
    | omega
    | (have q := tfo_low ‹TFO _ _ _ _ _›; omega)
    | (skip; (first | subst h18 | skip); have q := tfc_lt (‹TFO _ _ _ _ _›).2.2.2.1 (e := x3) (by omega) (by omega) (by omega); have q2 := tfo_low ‹TFO _ _ _ _ _›; omega)
    | (skip; (first | subst h18 | skip); have q := (tfo_next (faces_zq := faces_0 + 1) (st_zq := x3 + 1) ‹TFI _ _ _ _ _ _ _› (by first | (left; omega) | (right; omega)) rfl rfl).2; have q2 := (‹TFI _ _ _ _ _ _ _›).2.2.1; omega)
    | (skip; (first | subst h18 | skip); have q := tfi_low ‹TFI _ _ _ _ _ _ _› (by omega) (by omega) (by omega); omega)
    | (have q := xor_one (x := x29) (a := x4) (b := x28) (by assumption) (by omega) (by omega) (by omega) (by omega) (by omega); split at q <;> omega)
  
def o_Ne_traceFaces_at_Ne_14 : or_T := (155, 29, [(0, (2, 0, 0, [5])), (1, (2, 0, 0, [5])), (2, (0, 0, 143, [])), (3, (0, 0, 143, [])), (4, (0, 0, 143, [])), (5, (0, 0, 143, [])), (6, (0, 2, 2, [])), (7, (0, 0, 72, [])), (8, (0, 1, 144, [])), (9, (2, 0, 0, [88])), (10, (0, -1, -1, [])), (11, (0, -1, -1, [])), (12, (0, 0, 143, [])), (13, (2, 0, 0, [87])), (14, (0, 1, 1, [])), (15, (0, 1, 1, [])), (18, (0, 0, 71, [])), (20, (0, 1, 144, [])), (21, (0, 1, 1, [])), (22, (0, 0, 0, [])), (24, (0, 0, 71, [])), (27, (0, 1, 1, [])), (28, (0, 0, 255, []))], [(9, [13, 1], [15]), (9, [12, 1], [13]), (9, [9, 1], [16]), (9, [7, 1], [6]), (16, [28, 4, 27], [2]), (11, [24, 4], [2]), (8, [22], [0]), (12, [22, 4], [2]), (16, [22, 4, 21], [0]), (6, [20, 2], [1]), (24, [0, 1], []), (100, [13, 2, 19], []), (11, [18, 4], [2]), (8, [15], [1]), (12, [15, 4], [2]), (16, [15, 4, 14], [0]), (100, [9, 4, 12], []), (7, [10, 11], [0]), (10, [10, 9, 4], []), (7, [5, 8], [2]), (3, [8, 6, 7], []), (20, [1, 3, 2, 4, 5], [60, 2, 1, 552, 6, 13, 16])], [(28, (0, 0, 143, []))], [], [], [], [(20, 2, 1, 1), (5, 8, -4294967296, -1), (5, 2, -4294967296, 0)])
theorem oo_Ne_traceFaces_at_Ne_14 {kA : Nat → ClassId} : or_ok PRD kA GG o_Ne_traceFaces_at_Ne_14 := by
  refine or_mk fun A ta ws vs hD hth hl => ?_
  intro t0 r0 t1 r1 t2 k2 t3 k3 t4 k4 t5 k5 t6 k6 t7 k7 t8 k8 t9 r9 t10 k10 t11 k11 t12 k12 t13 r13 t14 k14 t15 k15 t18 k18 t20 k20 t21 k21 t22 k22 t24 k24 t27 k27 t28 k28 d0 d1 d2 f0 f1 f2 f3 f4 f5 f6 f7 f8 f9 f10 ta1 w1 le1 s1 f12 f13 f14 f15 ta2 w2 le2 s2 f17 f18 f19 f20 f21
  replace f2 := shm_176 f2
  replace f10 := shm_5 f10
  have s1 : (∀ b j, w_el ws b j = if b = v_ad (n_v vs 13) ∧ j = (v_iv (n_v vs 2)).toNat then v_iv (n_v vs 19) else w_el w1 b j) ∧ ∀ b k, w_fd ws b k = w_fd w1 b k := s1.2
  have s2 : (∀ b j, w_el w1 b j = if b = v_ad (n_v vs 9) ∧ j = (v_iv (n_v vs 4)).toNat then v_iv (n_v vs 12) else w_el w2 b j) ∧ ∀ b k, w_fd w1 b k = w_fd w2 b k := s2.2
  replace f18 := shm_107 f18
  have q1 : n_v vs 1 = n_v vs 0 := f10.symm
  simp only [q1] at f2
  have cr_0_15 := fdq_255 hD hth r0
  have cr_0_16 := fdq_91 hD hth r0
  have ad_9 : v_ad (n_v vs 9) = w_ar ws (n_v vs 0) 16 := congrArg v_ad f2
  simp only [ad_9] at f18
  have h18 : v_iv (n_v vs 10) = w_ei w2 (w_ar ws (n_v vs 0) 16) (v_iv (n_v vs 4)) := f18
  have fe_0_6_1 : w_fi ws (n_v vs 0) 6 = w_fi w1 (n_v vs 0) 6 := congrArg v_iv (s1.2 _ _)
  have fe_0_13_1 : w_fi ws (n_v vs 0) 13 = w_fi w1 (n_v vs 0) 13 := congrArg v_iv (s1.2 _ _)
  have fe_0_6_2 : w_fi w1 (n_v vs 0) 6 = w_fi w2 (n_v vs 0) 6 := congrArg v_iv (s2.2 _ _)
  have fe_0_13_2 : w_fi w1 (n_v vs 0) 13 = w_fi w2 (n_v vs 0) 13 := congrArg v_iv (s2.2 _ _)
  have hE_0_15_2 : ∀ j : Int, w_ei w1 (w_ar ws (n_v vs 0) 15) j = w_ei w2 (w_ar ws (n_v vs 0) 15) j := el_kp s2.1 r9 cr_0_15 (by decide)
  have hE_0_16_1 : ∀ j : Int, w_ei ws (w_ar ws (n_v vs 0) 16) j = w_ei w1 (w_ar ws (n_v vs 0) 16) j := el_kp s1.1 r13 cr_0_16 (by decide)
  have kz_0_6 := fdq_59 hD hth r0
  have kz_0_13 := fdq_253 hD hth r0
  have hrf0 : 0 ≤ v_iv (n_v vs 28) ∧ v_iv (n_v vs 28) ≤ 143 := vc_Ne_traceFaces_at_Ne_14_r0 (v_iv (n_v vs 3)) (v_iv (n_v vs 4)) (v_iv (n_v vs 10)) (v_iv (n_v vs 15)) (v_iv (n_v vs 22)) (v_iv (n_v vs 28)) (w_fi ws (n_v vs 0) 13) (w_fi ws (n_v vs 0) 6) (w_ei w2 (w_ar ws (n_v vs 0) 16)) (w_fi w2 (n_v vs 0) 6) (w_fi w2 (n_v vs 0) 13) (w_fi w1 (n_v vs 0) 6) (w_fi w1 (n_v vs 0) 13) (w_ei w1 (w_ar ws (n_v vs 0) 15)) (w_ei w2 (w_ar ws (n_v vs 0) 15)) (w_ei ws (w_ar ws (n_v vs 0) 16)) (w_ei w1 (w_ar ws (n_v vs 0) 16)) k4 k10 k15 k22 k28 (shm_364 f7) (shm_364 f14) h18 fe_0_6_1 fe_0_13_1 fe_0_6_2 fe_0_13_2 hE_0_15_2 hE_0_16_1 kz_0_6 kz_0_13
  have rf28 : tv_ok ta (0, 0, 143, []) (n_v vs 28) := tv_in t28 (by first | omega | grind) (by first | omega | grind)
  refine ⟨List.forall_mem_cons.mpr ⟨rf28, (fun _ h => (by cases h))⟩, [], trivial, ?_, (fun _ h => (by cases h))⟩
  rw [List.append_nil]
  exact (fun _ h => (by cases h))
set_option maxHeartbeats 4000000 in
theorem vc_Ne_traceFaces_at_Ne_15_0 (x2 : Int) (x3 : Int) (x4 : Int) (x5 : Int) (x10 : Int) (x12 : Int) (x15 : Int) (x20 : Int) (x22 : Int) (x30 : Int) (x31 : Int) (faces_0 : Int) (edges_0 : Int) (faceOf_2 : Int → Int) (edges_2 : Int) (faces_2 : Int) (edges_1 : Int) (faces_1 : Int) (rowNode_1 : Int → Int) (rowNode_2 : Int → Int) (faceOf_0 : Int → Int) (faceOf_1 : Int → Int) (k2 : 0 ≤ x2 ∧ x2 ≤ 143) (k3 : 0 ≤ x3 ∧ x3 ≤ 143) (k4 : 0 ≤ x4 ∧ x4 ≤ 143) (k5 : 0 ≤ x5 ∧ x5 ≤ 143) (k10 : (-1) ≤ x10 ∧ x10 ≤ (-1)) (k12 : 0 ≤ x12 ∧ x12 ≤ 143) (k15 : 1 ≤ x15 ∧ x15 ≤ 1) (k20 : 1 ≤ x20 ∧ x20 ≤ 144) (k22 : 0 ≤ x22 ∧ x22 ≤ 0) (k30 : 1 ≤ x30 ∧ x30 ≤ 143) (k31 : 1 ≤ x31 ∧ x31 ≤ 144) (g1 : x12 = faces_0) (f4 : x31 = x5 + 1) (f8 : x22 = x4 % 2) (f10 : x20 = x2 + 1) (f15 : x15 = x4 % 2) (h19 : x10 = faceOf_2 (x4)) (f22 : TFI (edges_2) (faces_2) (faceOf_2) (x3) (x2) (x4) (x5)) (fe_0_6_1 : edges_0 = edges_1) (fe_0_13_1 : faces_0 = faces_1) (fe_0_6_2 : edges_1 = edges_2) (fe_0_13_2 : faces_1 = faces_2) (hE_0_15_2 : ∀ j : Int, rowNode_1 j = rowNode_2 j) (hE_0_16_1 : ∀ j : Int, faceOf_0 j = faceOf_1 j) (hE_0_16_2 : ∀ j : Int, 0 ≤ j → (j = x4 → faceOf_1 j = x12) ∧ (j ≠ x4 → faceOf_1 j = faceOf_2 j)) (kz_0_6 : 0 ≤ edges_0 ∧ edges_0 ≤ 72) (kz_0_13 : 0 ≤ faces_0 ∧ faces_0 ≤ 144) : TFI (edges_0) (faces_0) (faceOf_0) (x3) (x20) (x30) (x31) := by
  subst fe_0_6_1
  subst fe_0_13_1
  subst fe_0_6_2
  subst fe_0_13_2
  have e_hE_0_15_2 := funext hE_0_15_2; subst e_hE_0_15_2
  have e_hE_0_16_1 := funext hE_0_16_1; subst e_hE_0_16_1
  first
    | (skip; (first | subst h19 | skip); exact tfi_start ‹TFO _ _ _ _ _› (by omega) (by omega) (by omega) (by omega))
    | (skip; (first | subst h19 | skip); exact tfi_step ‹TFI _ _ _ _ _ _ _› (by assumption) rfl (by omega) (by omega) (by omega) (by omega) (by omega) (by omega))
  
def o_Ne_traceFaces_at_Ne_15 : or_T := (55, 32, [(0, (2, 0, 0, [5])), (1, (2, 0, 0, [5])), (2, (0, 0, 143, [])), (3, (0, 0, 143, [])), (4, (0, 0, 143, [])), (5, (0, 0, 143, [])), (6, (0, 2, 2, [])), (7, (0, 0, 72, [])), (8, (0, 1, 144, [])), (9, (2, 0, 0, [88])), (10, (0, -1, -1, [])), (11, (0, -1, -1, [])), (12, (0, 0, 143, [])), (13, (2, 0, 0, [87])), (14, (0, 1, 1, [])), (15, (0, 1, 1, [])), (18, (0, 0, 71, [])), (20, (0, 1, 144, [])), (21, (0, 1, 1, [])), (22, (0, 0, 0, [])), (24, (0, 0, 71, [])), (27, (0, 1, 1, [])), (28, (0, 0, 143, [])), (30, (0, 1, 143, [])), (31, (0, 1, 144, []))], [(9, [13, 1], [15]), (9, [12, 1], [13]), (9, [9, 1], [16]), (9, [7, 1], [6]), (6, [31, 5], [1]), (16, [28, 4, 27], [2]), (11, [24, 4], [2]), (8, [22], [0]), (12, [22, 4], [2]), (16, [22, 4, 21], [0]), (6, [20, 2], [1]), (24, [0, 1], []), (100, [13, 2, 19], []), (11, [18, 4], [2]), (8, [15], [1]), (12, [15, 4], [2]), (16, [15, 4, 14], [0]), (100, [9, 4, 12], []), (7, [10, 11], [0]), (10, [10, 9, 4], []), (7, [5, 8], [2]), (3, [8, 6, 7], []), (20, [1, 3, 2, 4, 5], [60, 2, 1, 552, 6, 13, 16])], [], [], [(20, [1, 3, 20, 30, 31], [60, 2, 1, 552, 6, 13, 16])], [], [(31, 5, 1, 1), (31, 8, -4294967296, 0), (31, 2, -4294967296, 1), (20, 2, 1, 1), (5, 8, -4294967296, -1), (5, 2, -4294967296, 0)])
theorem oo_Ne_traceFaces_at_Ne_15 {kA : Nat → ClassId} : or_ok PRD kA GG o_Ne_traceFaces_at_Ne_15 := by
  refine or_mk fun A ta ws vs hD hth hl => ?_
  intro t0 r0 t1 r1 t2 k2 t3 k3 t4 k4 t5 k5 t6 k6 t7 k7 t8 k8 t9 r9 t10 k10 t11 k11 t12 k12 t13 r13 t14 k14 t15 k15 t18 k18 t20 k20 t21 k21 t22 k22 t24 k24 t27 k27 t28 k28 t30 k30 t31 k31 d0 d1 d2 d3 d4 d5 f0 f1 f2 f3 f4 f5 f6 f7 f8 f9 f10 f11 ta1 w1 le1 s1 f13 f14 f15 f16 ta2 w2 le2 s2 f18 f19 f20 f21 f22
  replace f1 := shm_361 f1
  replace f2 := shm_176 f2
  replace f4 := shm_4 f4
  replace f8 := shm_364 f8
  replace f10 := shm_4 f10
  replace f11 := shm_5 f11
  have s1 : (∀ b j, w_el ws b j = if b = v_ad (n_v vs 13) ∧ j = (v_iv (n_v vs 2)).toNat then v_iv (n_v vs 19) else w_el w1 b j) ∧ ∀ b k, w_fd ws b k = w_fd w1 b k := s1.2
  replace f15 := shm_364 f15
  have s2 : (∀ b j, w_el w1 b j = if b = v_ad (n_v vs 9) ∧ j = (v_iv (n_v vs 4)).toNat then v_iv (n_v vs 12) else w_el w2 b j) ∧ ∀ b k, w_fd w1 b k = w_fd w2 b k := s2.2
  replace f19 := shm_107 f19
  replace f22 := shm_1102 f22
  have q1 : n_v vs 1 = n_v vs 0 := f11.symm
  simp only [q1] at f1 f2 f22
  have cr_0_15 := fdq_255 hD hth r0
  have ar_0_16_1 : w_ar w1 (n_v vs 0) 16 = w_ar ws (n_v vs 0) 16 := congrArg v_ad (s1.2 _ _).symm
  have ar_0_16_2 : w_ar w2 (n_v vs 0) 16 = w_ar ws (n_v vs 0) 16 := by rw [← ar_0_16_1]; show v_ad (w_fd w2 _ _) = v_ad (w_fd w1 _ _); rw [s2.2]
  have cr_0_16 := fdq_91 hD hth r0
  have ad_9 : v_ad (n_v vs 9) = w_ar ws (n_v vs 0) 16 := congrArg v_ad f2
  have g1 : v_iv (n_v vs 12) = w_fi ws (n_v vs 0) 13 := congrArg v_iv f1
  simp only [ad_9] at f19
  have h19 : v_iv (n_v vs 10) = w_ei w2 (w_ar ws (n_v vs 0) 16) (v_iv (n_v vs 4)) := f19
  simp only [ar_0_16_2] at f22
  have fe_0_6_1 : w_fi ws (n_v vs 0) 6 = w_fi w1 (n_v vs 0) 6 := congrArg v_iv (s1.2 _ _)
  have fe_0_13_1 : w_fi ws (n_v vs 0) 13 = w_fi w1 (n_v vs 0) 13 := congrArg v_iv (s1.2 _ _)
  have fe_0_6_2 : w_fi w1 (n_v vs 0) 6 = w_fi w2 (n_v vs 0) 6 := congrArg v_iv (s2.2 _ _)
  have fe_0_13_2 : w_fi w1 (n_v vs 0) 13 = w_fi w2 (n_v vs 0) 13 := congrArg v_iv (s2.2 _ _)
  have hE_0_15_2 : ∀ j : Int, w_ei w1 (w_ar ws (n_v vs 0) 15) j = w_ei w2 (w_ar ws (n_v vs 0) 15) j := el_kp s2.1 r9 cr_0_15 (by decide)
  have hE_0_16_1 : ∀ j : Int, w_ei ws (w_ar ws (n_v vs 0) 16) j = w_ei w1 (w_ar ws (n_v vs 0) 16) j := el_kp s1.1 r13 cr_0_16 (by decide)
  have hE_0_16_2 : ∀ j : Int, 0 ≤ j → (j = v_iv (n_v vs 4) → w_ei w1 (w_ar ws (n_v vs 0) 16) j = v_iv (n_v vs 12)) ∧ (j ≠ v_iv (n_v vs 4) → w_ei w1 (w_ar ws (n_v vs 0) 16) j = w_ei w2 (w_ar ws (n_v vs 0) 16) j) := fun j hj => ⟨fun h => by unfold w_ei; rw [s2.1, if_pos ⟨ad_9.symm, by rw [h]⟩], fun h => by unfold w_ei; rw [s2.1, if_neg (fun e => h (by have := e.2; omega))]⟩
  have kz_0_6 := fdq_59 hD hth r0
  have kz_0_13 := fdq_253 hD hth r0
  have nf0 : fc_1 PRD (20, [1, 3, 20, 30, 31], [60, 2, 1, 552, 6, 13, 16]) ws (vs) := by
    refine ⟨nf_in hl rfl, sgq_1102 ?_⟩
    · show TFI (w_fi ws (n_v vs 1) 6) (w_fi ws (n_v vs 1) 13) (w_ei ws (w_ar ws (n_v vs 1) 16)) (v_iv (n_v vs 3)) (v_iv (n_v vs 20)) (v_iv (n_v vs 30)) (v_iv (n_v vs 31))
      rw [q1]
      exact vc_Ne_traceFaces_at_Ne_15_0 (v_iv (n_v vs 2)) (v_iv (n_v vs 3)) (v_iv (n_v vs 4)) (v_iv (n_v vs 5)) (v_iv (n_v vs 10)) (v_iv (n_v vs 12)) (v_iv (n_v vs 15)) (v_iv (n_v vs 20)) (v_iv (n_v vs 22)) (v_iv (n_v vs 30)) (v_iv (n_v vs 31)) (w_fi ws (n_v vs 0) 13) (w_fi ws (n_v vs 0) 6) (w_ei w2 (w_ar ws (n_v vs 0) 16)) (w_fi w2 (n_v vs 0) 6) (w_fi w2 (n_v vs 0) 13) (w_fi w1 (n_v vs 0) 6) (w_fi w1 (n_v vs 0) 13) (w_ei w1 (w_ar ws (n_v vs 0) 15)) (w_ei w2 (w_ar ws (n_v vs 0) 15)) (w_ei ws (w_ar ws (n_v vs 0) 16)) (w_ei w1 (w_ar ws (n_v vs 0) 16)) k2 k3 k4 k5 k10 k12 k15 k20 k22 k30 k31 g1 f4 f8 f10 f15 h19 f22 fe_0_6_1 fe_0_13_1 fe_0_6_2 fe_0_13_2 hE_0_15_2 hE_0_16_1 hE_0_16_2 kz_0_6 kz_0_13
  refine ⟨(fun _ h => (by cases h)), [], trivial, ?_, (fun _ h => (by cases h))⟩
  rw [List.append_nil]
  exact List.forall_mem_cons.mpr ⟨⟨show (20 : Nat) < 100 from by decide, nf0⟩, (fun _ h => (by cases h))⟩
set_option maxHeartbeats 4000000 in
theorem vc_Ne_traceFaces_at_Ne_16_0 (x2 : Int) (x3 : Int) (x4 : Int) (x5 : Int) (x10 : Int) (x12 : Int) (x15 : Int) (x20 : Int) (x22 : Int) (x30 : Int) (x31 : Int) (faces_0 : Int) (edges_0 : Int) (faceOf_2 : Int → Int) (edges_2 : Int) (faces_2 : Int) (edges_1 : Int) (faces_1 : Int) (rowNode_1 : Int → Int) (rowNode_2 : Int → Int) (faceOf_0 : Int → Int) (faceOf_1 : Int → Int) (k2 : 0 ≤ x2 ∧ x2 ≤ 143) (k3 : 0 ≤ x3 ∧ x3 ≤ 143) (k4 : 0 ≤ x4 ∧ x4 ≤ 143) (k5 : 0 ≤ x5 ∧ x5 ≤ 143) (k10 : (-1) ≤ x10 ∧ x10 ≤ (-1)) (k12 : 0 ≤ x12 ∧ x12 ≤ 143) (k15 : 1 ≤ x15 ∧ x15 ≤ 1) (k20 : 1 ≤ x20 ∧ x20 ≤ 144) (k22 : 0 ≤ x22 ∧ x22 ≤ 0) (k30 : 0 ≤ x30 ∧ x30 ≤ 142) (k31 : 1 ≤ x31 ∧ x31 ≤ 144) (g1 : x12 = faces_0) (f4 : x31 = x5 + 1) (f8 : x22 = x4 % 2) (f10 : x20 = x2 + 1) (f15 : x15 = x4 % 2) (h19 : x10 = faceOf_2 (x4)) (f22 : TFI (edges_2) (faces_2) (faceOf_2) (x3) (x2) (x4) (x5)) (fe_0_6_1 : edges_0 = edges_1) (fe_0_13_1 : faces_0 = faces_1) (fe_0_6_2 : edges_1 = edges_2) (fe_0_13_2 : faces_1 = faces_2) (hE_0_15_2 : ∀ j : Int, rowNode_1 j = rowNode_2 j) (hE_0_16_1 : ∀ j : Int, faceOf_0 j = faceOf_1 j) (hE_0_16_2 : ∀ j : Int, 0 ≤ j → (j = x4 → faceOf_1 j = x12) ∧ (j ≠ x4 → faceOf_1 j = faceOf_2 j)) (kz_0_6 : 0 ≤ edges_0 ∧ edges_0 ≤ 72) (kz_0_13 : 0 ≤ faces_0 ∧ faces_0 ≤ 144) : TFI (edges_0) (faces_0) (faceOf_0) (x3) (x20) (x30) (x31) := by
  subst fe_0_6_1
  subst fe_0_13_1
  subst fe_0_6_2
  subst fe_0_13_2
  have e_hE_0_15_2 := funext hE_0_15_2; subst e_hE_0_15_2
  have e_hE_0_16_1 := funext hE_0_16_1; subst e_hE_0_16_1
  first
    | (skip; (first | subst h19 | skip); exact tfi_start ‹TFO _ _ _ _ _› (by omega) (by omega) (by omega) (by omega))
    | (skip; (first | subst h19 | skip); exact tfi_step ‹TFI _ _ _ _ _ _ _› (by assumption) rfl (by omega) (by omega) (by omega) (by omega) (by omega) (by omega))
  
def o_Ne_traceFaces_at_Ne_16 : or_T := (55, 32, [(0, (2, 0, 0, [5])), (1, (2, 0, 0, [5])), (2, (0, 0, 143, [])), (3, (0, 0, 143, [])), (4, (0, 0, 143, [])), (5, (0, 0, 143, [])), (6, (0, 2, 2, [])), (7, (0, 0, 72, [])), (8, (0, 1, 144, [])), (9, (2, 0, 0, [88])), (10, (0, -1, -1, [])), (11, (0, -1, -1, [])), (12, (0, 0, 143, [])), (13, (2, 0, 0, [87])), (14, (0, 1, 1, [])), (15, (0, 1, 1, [])), (18, (0, 0, 71, [])), (20, (0, 1, 144, [])), (21, (0, 1, 1, [])), (22, (0, 0, 0, [])), (24, (0, 0, 71, [])), (27, (0, 1, 1, [])), (28, (0, 0, 143, [])), (30, (0, 0, 142, [])), (31, (0, 1, 144, []))], [(9, [13, 1], [15]), (9, [12, 1], [13]), (9, [9, 1], [16]), (9, [7, 1], [6]), (6, [31, 5], [1]), (16, [28, 4, 27], [2]), (11, [24, 4], [2]), (8, [22], [0]), (12, [22, 4], [2]), (16, [22, 4, 21], [0]), (6, [20, 2], [1]), (24, [0, 1], []), (100, [13, 2, 19], []), (11, [18, 4], [2]), (8, [15], [1]), (12, [15, 4], [2]), (16, [15, 4, 14], [0]), (100, [9, 4, 12], []), (7, [10, 11], [0]), (10, [10, 9, 4], []), (7, [5, 8], [2]), (3, [8, 6, 7], []), (20, [1, 3, 2, 4, 5], [60, 2, 1, 552, 6, 13, 16])], [], [], [(20, [1, 3, 20, 30, 31], [60, 2, 1, 552, 6, 13, 16])], [], [(31, 5, 1, 1), (31, 8, -4294967296, 0), (31, 2, -4294967296, 1), (20, 2, 1, 1), (5, 8, -4294967296, -1), (5, 2, -4294967296, 0)])
theorem oo_Ne_traceFaces_at_Ne_16 {kA : Nat → ClassId} : or_ok PRD kA GG o_Ne_traceFaces_at_Ne_16 := by
  refine or_mk fun A ta ws vs hD hth hl => ?_
  intro t0 r0 t1 r1 t2 k2 t3 k3 t4 k4 t5 k5 t6 k6 t7 k7 t8 k8 t9 r9 t10 k10 t11 k11 t12 k12 t13 r13 t14 k14 t15 k15 t18 k18 t20 k20 t21 k21 t22 k22 t24 k24 t27 k27 t28 k28 t30 k30 t31 k31 d0 d1 d2 d3 d4 d5 f0 f1 f2 f3 f4 f5 f6 f7 f8 f9 f10 f11 ta1 w1 le1 s1 f13 f14 f15 f16 ta2 w2 le2 s2 f18 f19 f20 f21 f22
  replace f1 := shm_361 f1
  replace f2 := shm_176 f2
  replace f4 := shm_4 f4
  replace f8 := shm_364 f8
  replace f10 := shm_4 f10
  replace f11 := shm_5 f11
  have s1 : (∀ b j, w_el ws b j = if b = v_ad (n_v vs 13) ∧ j = (v_iv (n_v vs 2)).toNat then v_iv (n_v vs 19) else w_el w1 b j) ∧ ∀ b k, w_fd ws b k = w_fd w1 b k := s1.2
  replace f15 := shm_364 f15
  have s2 : (∀ b j, w_el w1 b j = if b = v_ad (n_v vs 9) ∧ j = (v_iv (n_v vs 4)).toNat then v_iv (n_v vs 12) else w_el w2 b j) ∧ ∀ b k, w_fd w1 b k = w_fd w2 b k := s2.2
  replace f19 := shm_107 f19
  replace f22 := shm_1102 f22
  have q1 : n_v vs 1 = n_v vs 0 := f11.symm
  simp only [q1] at f1 f2 f22
  have cr_0_15 := fdq_255 hD hth r0
  have ar_0_16_1 : w_ar w1 (n_v vs 0) 16 = w_ar ws (n_v vs 0) 16 := congrArg v_ad (s1.2 _ _).symm
  have ar_0_16_2 : w_ar w2 (n_v vs 0) 16 = w_ar ws (n_v vs 0) 16 := by rw [← ar_0_16_1]; show v_ad (w_fd w2 _ _) = v_ad (w_fd w1 _ _); rw [s2.2]
  have cr_0_16 := fdq_91 hD hth r0
  have ad_9 : v_ad (n_v vs 9) = w_ar ws (n_v vs 0) 16 := congrArg v_ad f2
  have g1 : v_iv (n_v vs 12) = w_fi ws (n_v vs 0) 13 := congrArg v_iv f1
  simp only [ad_9] at f19
  have h19 : v_iv (n_v vs 10) = w_ei w2 (w_ar ws (n_v vs 0) 16) (v_iv (n_v vs 4)) := f19
  simp only [ar_0_16_2] at f22
  have fe_0_6_1 : w_fi ws (n_v vs 0) 6 = w_fi w1 (n_v vs 0) 6 := congrArg v_iv (s1.2 _ _)
  have fe_0_13_1 : w_fi ws (n_v vs 0) 13 = w_fi w1 (n_v vs 0) 13 := congrArg v_iv (s1.2 _ _)
  have fe_0_6_2 : w_fi w1 (n_v vs 0) 6 = w_fi w2 (n_v vs 0) 6 := congrArg v_iv (s2.2 _ _)
  have fe_0_13_2 : w_fi w1 (n_v vs 0) 13 = w_fi w2 (n_v vs 0) 13 := congrArg v_iv (s2.2 _ _)
  have hE_0_15_2 : ∀ j : Int, w_ei w1 (w_ar ws (n_v vs 0) 15) j = w_ei w2 (w_ar ws (n_v vs 0) 15) j := el_kp s2.1 r9 cr_0_15 (by decide)
  have hE_0_16_1 : ∀ j : Int, w_ei ws (w_ar ws (n_v vs 0) 16) j = w_ei w1 (w_ar ws (n_v vs 0) 16) j := el_kp s1.1 r13 cr_0_16 (by decide)
  have hE_0_16_2 : ∀ j : Int, 0 ≤ j → (j = v_iv (n_v vs 4) → w_ei w1 (w_ar ws (n_v vs 0) 16) j = v_iv (n_v vs 12)) ∧ (j ≠ v_iv (n_v vs 4) → w_ei w1 (w_ar ws (n_v vs 0) 16) j = w_ei w2 (w_ar ws (n_v vs 0) 16) j) := fun j hj => ⟨fun h => by unfold w_ei; rw [s2.1, if_pos ⟨ad_9.symm, by rw [h]⟩], fun h => by unfold w_ei; rw [s2.1, if_neg (fun e => h (by have := e.2; omega))]⟩
  have kz_0_6 := fdq_59 hD hth r0
  have kz_0_13 := fdq_253 hD hth r0
  have nf0 : fc_1 PRD (20, [1, 3, 20, 30, 31], [60, 2, 1, 552, 6, 13, 16]) ws (vs) := by
    refine ⟨nf_in hl rfl, sgq_1102 ?_⟩
    · show TFI (w_fi ws (n_v vs 1) 6) (w_fi ws (n_v vs 1) 13) (w_ei ws (w_ar ws (n_v vs 1) 16)) (v_iv (n_v vs 3)) (v_iv (n_v vs 20)) (v_iv (n_v vs 30)) (v_iv (n_v vs 31))
      rw [q1]
      exact vc_Ne_traceFaces_at_Ne_16_0 (v_iv (n_v vs 2)) (v_iv (n_v vs 3)) (v_iv (n_v vs 4)) (v_iv (n_v vs 5)) (v_iv (n_v vs 10)) (v_iv (n_v vs 12)) (v_iv (n_v vs 15)) (v_iv (n_v vs 20)) (v_iv (n_v vs 22)) (v_iv (n_v vs 30)) (v_iv (n_v vs 31)) (w_fi ws (n_v vs 0) 13) (w_fi ws (n_v vs 0) 6) (w_ei w2 (w_ar ws (n_v vs 0) 16)) (w_fi w2 (n_v vs 0) 6) (w_fi w2 (n_v vs 0) 13) (w_fi w1 (n_v vs 0) 6) (w_fi w1 (n_v vs 0) 13) (w_ei w1 (w_ar ws (n_v vs 0) 15)) (w_ei w2 (w_ar ws (n_v vs 0) 15)) (w_ei ws (w_ar ws (n_v vs 0) 16)) (w_ei w1 (w_ar ws (n_v vs 0) 16)) k2 k3 k4 k5 k10 k12 k15 k20 k22 k30 k31 g1 f4 f8 f10 f15 h19 f22 fe_0_6_1 fe_0_13_1 fe_0_6_2 fe_0_13_2 hE_0_15_2 hE_0_16_1 hE_0_16_2 kz_0_6 kz_0_13
  refine ⟨(fun _ h => (by cases h)), [], trivial, ?_, (fun _ h => (by cases h))⟩
  rw [List.append_nil]
  exact List.forall_mem_cons.mpr ⟨⟨show (20 : Nat) < 100 from by decide, nf0⟩, (fun _ h => (by cases h))⟩
set_option maxHeartbeats 4000000 in
theorem vc_Ne_traceFaces_at_Ne_17_r0 (x2 : Int) (x3 : Int) (x4 : Int) (x5 : Int) (x10 : Int) (x15 : Int) (x18 : Int) (faces_0 : Int) (edges_0 : Int) (faceOf_1 : Int → Int) (edges_1 : Int) (faces_1 : Int) (k2 : 0 ≤ x2 ∧ x2 ≤ 144) (k3 : 0 ≤ x3 ∧ x3 ≤ 143) (k4 : 0 ≤ x4 ∧ x4 ≤ 143) (k5 : 0 ≤ x5 ∧ x5 ≤ 143) (k10 : (-1) ≤ x10 ∧ x10 ≤ (-1)) (k15 : 0 ≤ x15 ∧ x15 ≤ 0) (k18 : 0 ≤ x18 ∧ x18 ≤ 71) (f3 : x18 = x4 / 2) (f5 : x15 = x4 % 2) (h10 : x10 = faceOf_1 (x4)) (f13 : TFI (edges_1) (faces_1) (faceOf_1) (x3) (x2) (x4) (x5)) (fe_0_6_1 : edges_0 = edges_1) (fe_0_13_1 : faces_0 = faces_1) (kz_0_6 : 0 ≤ edges_0 ∧ edges_0 ≤ 72) (kz_0_13 : 0 ≤ faces_0 ∧ faces_0 ≤ 144) : 0 ≤ x2 ∧ x2 ≤ 143 := by
  subst fe_0_6_1
  subst fe_0_13_1
  first
    | omega
    | (have q := tfo_low ‹TFO _ _ _ _ _›; omega)
    | (skip; (first | subst h10 | skip); have q := tfc_lt (‹TFO _ _ _ _ _›).2.2.2.1 (e := x3) (by omega) (by omega) (by omega); have q2 := tfo_low ‹TFO _ _ _ _ _›; omega)
    | (skip; (first | subst h10 | skip); have q := (tfo_next (faces_zq := faces_0 + 1) (st_zq := x3 + 1) ‹TFI _ _ _ _ _ _ _› (by first | (left; omega) | (right; omega)) rfl rfl).2; have q2 := (‹TFI _ _ _ _ _ _ _›).2.2.1; omega)
    | (skip; (first | subst h10 | skip); have q := tfi_low ‹TFI _ _ _ _ _ _ _› (by omega) (by omega) (by omega); omega)
    | (have q := xor_one (x := x29) (a := x4) (b := x28) (by assumption) (by omega) (by omega) (by omega) (by omega) (by omega); split at q <;> omega)
  
def o_Ne_traceFaces_at_Ne_17 : or_T := (116, 20, [(0, (2, 0, 0, [5])), (1, (2, 0, 0, [5])), (2, (0, 0, 144, [])), (3, (0, 0, 143, [])), (4, (0, 0, 143, [])), (5, (0, 0, 143, [])), (6, (0, 2, 2, [])), (7, (0, 0, 72, [])), (8, (0, 1, 144, [])), (9, (2, 0, 0, [88])), (10, (0, -1, -1, [])), (11, (0, -1, -1, [])), (12, (0, 0, 143, [])), (14, (0, 1, 1, [])), (15, (0, 0, 0, [])), (18, (0, 0, 71, []))], [(9, [12, 1], [13]), (9, [9, 1], [16]), (9, [7, 1], [6]), (11, [18, 4], [2]), (8, [15], [0]), (12, [15, 4], [2]), (16, [15, 4, 14], [0]), (24, [0, 1], []), (100, [9, 4, 12], []), (7, [10, 11], [0]), (10, [10, 9, 4], []), (7, [5, 8], [2]), (3, [8, 6, 7], []), (20, [1, 3, 2, 4, 5], [60, 2, 1, 552, 6, 13, 16])], [(2, (0, 0, 143, []))], [], [], [], [(5, 8, -4294967296, -1), (5, 2, -4294967296, 0)])
theorem oo_Ne_traceFaces_at_Ne_17 {kA : Nat → ClassId} : or_ok PRD kA GG o_Ne_traceFaces_at_Ne_17 := by
  refine or_mk fun A ta ws vs hD hth hl => ?_
  intro t0 r0 t1 r1 t2 k2 t3 k3 t4 k4 t5 k5 t6 k6 t7 k7 t8 k8 t9 r9 t10 k10 t11 k11 t12 k12 t14 k14 t15 k15 t18 k18 d0 d1 f0 f1 f2 f3 f4 f5 f6 f7 ta1 w1 le1 s1 f9 f10 f11 f12 f13
  replace f1 := shm_176 f1
  replace f7 := shm_5 f7
  have s1 : (∀ b j, w_el ws b j = if b = v_ad (n_v vs 9) ∧ j = (v_iv (n_v vs 4)).toNat then v_iv (n_v vs 12) else w_el w1 b j) ∧ ∀ b k, w_fd ws b k = w_fd w1 b k := s1.2
  replace f10 := shm_107 f10
  replace f13 := shm_1102 f13
  have q1 : n_v vs 1 = n_v vs 0 := f7.symm
  simp only [q1] at f1 f13
  have ar_0_16_1 : w_ar w1 (n_v vs 0) 16 = w_ar ws (n_v vs 0) 16 := congrArg v_ad (s1.2 _ _).symm
  have ad_9 : v_ad (n_v vs 9) = w_ar ws (n_v vs 0) 16 := congrArg v_ad f1
  simp only [ad_9] at f10
  have h10 : v_iv (n_v vs 10) = w_ei w1 (w_ar ws (n_v vs 0) 16) (v_iv (n_v vs 4)) := f10
  simp only [ar_0_16_1] at f13
  have fe_0_6_1 : w_fi ws (n_v vs 0) 6 = w_fi w1 (n_v vs 0) 6 := congrArg v_iv (s1.2 _ _)
  have fe_0_13_1 : w_fi ws (n_v vs 0) 13 = w_fi w1 (n_v vs 0) 13 := congrArg v_iv (s1.2 _ _)
  have kz_0_6 := fdq_59 hD hth r0
  have kz_0_13 := fdq_253 hD hth r0
  have hrf0 : 0 ≤ v_iv (n_v vs 2) ∧ v_iv (n_v vs 2) ≤ 143 := vc_Ne_traceFaces_at_Ne_17_r0 (v_iv (n_v vs 2)) (v_iv (n_v vs 3)) (v_iv (n_v vs 4)) (v_iv (n_v vs 5)) (v_iv (n_v vs 10)) (v_iv (n_v vs 15)) (v_iv (n_v vs 18)) (w_fi ws (n_v vs 0) 13) (w_fi ws (n_v vs 0) 6) (w_ei w1 (w_ar ws (n_v vs 0) 16)) (w_fi w1 (n_v vs 0) 6) (w_fi w1 (n_v vs 0) 13) k2 k3 k4 k5 k10 k15 k18 (shm_585 f3) (shm_364 f5) h10 f13 fe_0_6_1 fe_0_13_1 kz_0_6 kz_0_13
  have rf2 : tv_ok ta (0, 0, 143, []) (n_v vs 2) := tv_in t2 (by first | omega | grind) (by first | omega | grind)
  refine ⟨List.forall_mem_cons.mpr ⟨rf2, (fun _ h => (by cases h))⟩, [], trivial, ?_, (fun _ h => (by cases h))⟩
  rw [List.append_nil]
  exact (fun _ h => (by cases h))
set_option maxHeartbeats 4000000 in
theorem vc_Ne_traceFaces_at_Ne_18_r0 (x3 : Int) (x4 : Int) (x10 : Int) (x15 : Int) (x22 : Int) (x28 : Int) (faces_0 : Int) (edges_0 : Int) (faceOf_2 : Int → Int) (edges_2 : Int) (faces_2 : Int) (edges_1 : Int) (faces_1 : Int) (rowNode_1 : Int → Int) (rowNode_2 : Int → Int) (faceOf_0 : Int → Int) (faceOf_1 : Int → Int) (k4 : 0 ≤ x4 ∧ x4 ≤ 143) (k10 : (-1) ≤ x10 ∧ x10 ≤ (-1)) (k15 : 0 ≤ x15 ∧ x15 ≤ 0) (k22 : 1 ≤ x22 ∧ x22 ≤ 1) (k28 : 0 ≤ x28 ∧ x28 ≤ 255) (f7 : x22 = x4 % 2) (f14 : x15 = x4 % 2) (h18 : x10 = faceOf_2 (x4)) (fe_0_6_1 : edges_0 = edges_1) (fe_0_13_1 : faces_0 = faces_1) (fe_0_6_2 : edges_1 = edges_2) (fe_0_13_2 : faces_1 = faces_2) (hE_0_15_2 : ∀ j : Int, rowNode_1 j = rowNode_2 j) (hE_0_16_1 : ∀ j : Int, faceOf_0 j = faceOf_1 j) (kz_0_6 : 0 ≤ edges_0 ∧ edges_0 ≤ 72) (kz_0_13 : 0 ≤ faces_0 ∧ faces_0 ≤ 144) : 0 ≤ x28 ∧ x28 ≤ 143 := by
  subst fe_0_6_1
  subst fe_0_13_1
  subst fe_0_6_2
  subst fe_0_13_2
  have e_hE_0_15_2 := funext hE_0_15_2; subst e_hE_0_15_2
  have e_hE_0_16_1 := funext hE_0_16_1; subst e_hE_0_16_1
  first
    | omega
    | (have q := tfo_low ‹TFO _ _ _ _ _›; omega)
    | (skip; (first | subst h18 | skip); have q := tfc_lt (‹TFO _ _ _ _ _›).2.2.2.1 (e := x3) (by omega) (by omega) (by omega); have q2 := tfo_low ‹TFO _ _ _ _ _›; omega)
    | (skip; (first | subst h18 | skip); have q := (tfo_next (faces_zq := faces_0 + 1) (st_zq := x3 + 1) ‹TFI _ _ _ _ _ _ _› (by first | (left; omega) | (right; omega)) rfl rfl).2; have q2 := (‹TFI _ _ _ _ _ _ _›).2.2.1; omega)
    | (skip; (first | subst h18 | skip); have q := tfi_low ‹TFI _ _ _ _ _ _ _› (by omega) (by omega) (by omega); omega)
    | (have q := xor_one (x := x29) (a := x4) (b := x28) (by assumption) (by omega) (by omega) (by omega) (by omega) (by omega); split at q <;> omega)
  
def o_Ne_traceFaces_at_Ne_18 : or_T := (155, 29, [(0, (2, 0, 0, [5])), (1, (2, 0, 0, [5])), (2, (0, 0, 143, [])), (3, (0, 0, 143, [])), (4, (0, 0, 143, [])), (5, (0, 0, 143, [])), (6, (0, 2, 2, [])), (7, (0, 0, 72, [])), (8, (0, 1, 144, [])), (9, (2, 0, 0, [88])), (10, (0, -1, -1, [])), (11, (0, -1, -1, [])), (12, (0, 0, 143, [])), (13, (2, 0, 0, [87])), (14, (0, 1, 1, [])), (15, (0, 0, 0, [])), (18, (0, 0, 71, [])), (20, (0, 1, 144, [])), (21, (0, 1, 1, [])), (22, (0, 1, 1, [])), (24, (0, 0, 71, [])), (27, (0, 1, 1, [])), (28, (0, 0, 255, []))], [(9, [13, 1], [15]), (9, [12, 1], [13]), (9, [9, 1], [16]), (9, [7, 1], [6]), (16, [28, 4, 27], [2]), (11, [24, 4], [2]), (8, [22], [1]), (12, [22, 4], [2]), (16, [22, 4, 21], [0]), (6, [20, 2], [1]), (24, [0, 1], []), (100, [13, 2, 19], []), (11, [18, 4], [2]), (8, [15], [0]), (12, [15, 4], [2]), (16, [15, 4, 14], [0]), (100, [9, 4, 12], []), (7, [10, 11], [0]), (10, [10, 9, 4], []), (7, [5, 8], [2]), (3, [8, 6, 7], []), (20, [1, 3, 2, 4, 5], [60, 2, 1, 552, 6, 13, 16])], [(28, (0, 0, 143, []))], [], [], [], [(20, 2, 1, 1), (5, 8, -4294967296, -1), (5, 2, -4294967296, 0)])
theorem oo_Ne_traceFaces_at_Ne_18 {kA : Nat → ClassId} : or_ok PRD kA GG o_Ne_traceFaces_at_Ne_18 := by
  refine or_mk fun A ta ws vs hD hth hl => ?_
  intro t0 r0 t1 r1 t2 k2 t3 k3 t4 k4 t5 k5 t6 k6 t7 k7 t8 k8 t9 r9 t10 k10 t11 k11 t12 k12 t13 r13 t14 k14 t15 k15 t18 k18 t20 k20 t21 k21 t22 k22 t24 k24 t27 k27 t28 k28 d0 d1 d2 f0 f1 f2 f3 f4 f5 f6 f7 f8 f9 f10 ta1 w1 le1 s1 f12 f13 f14 f15 ta2 w2 le2 s2 f17 f18 f19 f20 f21
  replace f2 := shm_176 f2
  replace f10 := shm_5 f10
  have s1 : (∀ b j, w_el ws b j = if b = v_ad (n_v vs 13) ∧ j = (v_iv (n_v vs 2)).toNat then v_iv (n_v vs 19) else w_el w1 b j) ∧ ∀ b k, w_fd ws b k = w_fd w1 b k := s1.2
  have s2 : (∀ b j, w_el w1 b j = if b = v_ad (n_v vs 9) ∧ j = (v_iv (n_v vs 4)).toNat then v_iv (n_v vs 12) else w_el w2 b j) ∧ ∀ b k, w_fd w1 b k = w_fd w2 b k := s2.2
  replace f18 := shm_107 f18
  have q1 : n_v vs 1 = n_v vs 0 := f10.symm
  simp only [q1] at f2
  have cr_0_15 := fdq_255 hD hth r0
  have cr_0_16 := fdq_91 hD hth r0
  have ad_9 : v_ad (n_v vs 9) = w_ar ws (n_v vs 0) 16 := congrArg v_ad f2
  simp only [ad_9] at f18
  have h18 : v_iv (n_v vs 10) = w_ei w2 (w_ar ws (n_v vs 0) 16) (v_iv (n_v vs 4)) := f18
  have fe_0_6_1 : w_fi ws (n_v vs 0) 6 = w_fi w1 (n_v vs 0) 6 := congrArg v_iv (s1.2 _ _)
  have fe_0_13_1 : w_fi ws (n_v vs 0) 13 = w_fi w1 (n_v vs 0) 13 := congrArg v_iv (s1.2 _ _)
  have fe_0_6_2 : w_fi w1 (n_v vs 0) 6 = w_fi w2 (n_v vs 0) 6 := congrArg v_iv (s2.2 _ _)
  have fe_0_13_2 : w_fi w1 (n_v vs 0) 13 = w_fi w2 (n_v vs 0) 13 := congrArg v_iv (s2.2 _ _)
  have hE_0_15_2 : ∀ j : Int, w_ei w1 (w_ar ws (n_v vs 0) 15) j = w_ei w2 (w_ar ws (n_v vs 0) 15) j := el_kp s2.1 r9 cr_0_15 (by decide)
  have hE_0_16_1 : ∀ j : Int, w_ei ws (w_ar ws (n_v vs 0) 16) j = w_ei w1 (w_ar ws (n_v vs 0) 16) j := el_kp s1.1 r13 cr_0_16 (by decide)
  have kz_0_6 := fdq_59 hD hth r0
  have kz_0_13 := fdq_253 hD hth r0
  have hrf0 : 0 ≤ v_iv (n_v vs 28) ∧ v_iv (n_v vs 28) ≤ 143 := vc_Ne_traceFaces_at_Ne_18_r0 (v_iv (n_v vs 3)) (v_iv (n_v vs 4)) (v_iv (n_v vs 10)) (v_iv (n_v vs 15)) (v_iv (n_v vs 22)) (v_iv (n_v vs 28)) (w_fi ws (n_v vs 0) 13) (w_fi ws (n_v vs 0) 6) (w_ei w2 (w_ar ws (n_v vs 0) 16)) (w_fi w2 (n_v vs 0) 6) (w_fi w2 (n_v vs 0) 13) (w_fi w1 (n_v vs 0) 6) (w_fi w1 (n_v vs 0) 13) (w_ei w1 (w_ar ws (n_v vs 0) 15)) (w_ei w2 (w_ar ws (n_v vs 0) 15)) (w_ei ws (w_ar ws (n_v vs 0) 16)) (w_ei w1 (w_ar ws (n_v vs 0) 16)) k4 k10 k15 k22 k28 (shm_364 f7) (shm_364 f14) h18 fe_0_6_1 fe_0_13_1 fe_0_6_2 fe_0_13_2 hE_0_15_2 hE_0_16_1 kz_0_6 kz_0_13
  have rf28 : tv_ok ta (0, 0, 143, []) (n_v vs 28) := tv_in t28 (by first | omega | grind) (by first | omega | grind)
  refine ⟨List.forall_mem_cons.mpr ⟨rf28, (fun _ h => (by cases h))⟩, [], trivial, ?_, (fun _ h => (by cases h))⟩
  rw [List.append_nil]
  exact (fun _ h => (by cases h))
set_option maxHeartbeats 4000000 in
theorem vc_Ne_traceFaces_at_Ne_19_0 (x2 : Int) (x3 : Int) (x4 : Int) (x5 : Int) (x10 : Int) (x12 : Int) (x15 : Int) (x20 : Int) (x22 : Int) (x30 : Int) (x31 : Int) (faces_0 : Int) (edges_0 : Int) (faceOf_2 : Int → Int) (edges_2 : Int) (faces_2 : Int) (edges_1 : Int) (faces_1 : Int) (rowNode_1 : Int → Int) (rowNode_2 : Int → Int) (faceOf_0 : Int → Int) (faceOf_1 : Int → Int) (k2 : 0 ≤ x2 ∧ x2 ≤ 143) (k3 : 0 ≤ x3 ∧ x3 ≤ 143) (k4 : 0 ≤ x4 ∧ x4 ≤ 143) (k5 : 0 ≤ x5 ∧ x5 ≤ 143) (k10 : (-1) ≤ x10 ∧ x10 ≤ (-1)) (k12 : 0 ≤ x12 ∧ x12 ≤ 143) (k15 : 0 ≤ x15 ∧ x15 ≤ 0) (k20 : 1 ≤ x20 ∧ x20 ≤ 144) (k22 : 1 ≤ x22 ∧ x22 ≤ 1) (k30 : 1 ≤ x30 ∧ x30 ≤ 143) (k31 : 1 ≤ x31 ∧ x31 ≤ 144) (g1 : x12 = faces_0) (f4 : x31 = x5 + 1) (f8 : x22 = x4 % 2) (f10 : x20 = x2 + 1) (f15 : x15 = x4 % 2) (h19 : x10 = faceOf_2 (x4)) (f22 : TFI (edges_2) (faces_2) (faceOf_2) (x3) (x2) (x4) (x5)) (fe_0_6_1 : edges_0 = edges_1) (fe_0_13_1 : faces_0 = faces_1) (fe_0_6_2 : edges_1 = edges_2) (fe_0_13_2 : faces_1 = faces_2) (hE_0_15_2 : ∀ j : Int, rowNode_1 j = rowNode_2 j) (hE_0_16_1 : ∀ j : Int, faceOf_0 j = faceOf_1 j) (hE_0_16_2 : ∀ j : Int, 0 ≤ j → (j = x4 → faceOf_1 j = x12) ∧ (j ≠ x4 → faceOf_1 j = faceOf_2 j)) (kz_0_6 : 0 ≤ edges_0 ∧ edges_0 ≤ 72) (kz_0_13 : 0 ≤ faces_0 ∧ faces_0 ≤ 144) : TFI (edges_0) (faces_0) (faceOf_0) (x3) (x20) (x30) (x31) := by
  subst fe_0_6_1
  subst fe_0_13_1
  subst fe_0_6_2
  subst fe_0_13_2
  have e_hE_0_15_2 := funext hE_0_15_2; subst e_hE_0_15_2
  have e_hE_0_16_1 := funext hE_0_16_1; subst e_hE_0_16_1
  first
    | (skip; (first | subst h19 | skip); exact tfi_start ‹TFO _ _ _ _ _› (by omega) (by omega) (by omega) (by omega))
    | (skip; (first | subst h19 | skip); exact tfi_step ‹TFI _ _ _ _ _ _ _› (by assumption) rfl (by omega) (by omega) (by omega) (by omega) (by omega) (by omega))
  
def o_Ne_traceFaces_at_Ne_19 : or_T := (55, 32, [(0, (2, 0, 0, [5])), (1, (2, 0, 0, [5])), (2, (0, 0, 143, [])), (3, (0, 0, 143, [])), (4, (0, 0, 143, [])), (5, (0, 0, 143, [])), (6, (0, 2, 2, [])), (7, (0, 0, 72, [])), (8, (0, 1, 144, [])), (9, (2, 0, 0, [88])), (10, (0, -1, -1, [])), (11, (0, -1, -1, [])), (12, (0, 0, 143, [])), (13, (2, 0, 0, [87])), (14, (0, 1, 1, [])), (15, (0, 0, 0, [])), (18, (0, 0, 71, [])), (20, (0, 1, 144, [])), (21, (0, 1, 1, [])), (22, (0, 1, 1, [])), (24, (0, 0, 71, [])), (27, (0, 1, 1, [])), (28, (0, 0, 143, [])), (30, (0, 1, 143, [])), (31, (0, 1, 144, []))], [(9, [13, 1], [15]), (9, [12, 1], [13]), (9, [9, 1], [16]), (9, [7, 1], [6]), (6, [31, 5], [1]), (16, [28, 4, 27], [2]), (11, [24, 4], [2]), (8, [22], [1]), (12, [22, 4], [2]), (16, [22, 4, 21], [0]), (6, [20, 2], [1]), (24, [0, 1], []), (100, [13, 2, 19], []), (11, [18, 4], [2]), (8, [15], [0]), (12, [15, 4], [2]), (16, [15, 4, 14], [0]), (100, [9, 4, 12], []), (7, [10, 11], [0]), (10, [10, 9, 4], []), (7, [5, 8], [2]), (3, [8, 6, 7], []), (20, [1, 3, 2, 4, 5], [60, 2, 1, 552, 6, 13, 16])], [], [], [(20, [1, 3, 20, 30, 31], [60, 2, 1, 552, 6, 13, 16])], [], [(31, 5, 1, 1), (31, 8, -4294967296, 0), (31, 2, -4294967296, 1), (20, 2, 1, 1), (5, 8, -4294967296, -1), (5, 2, -4294967296, 0)])
theorem oo_Ne_traceFaces_at_Ne_19 {kA : Nat → ClassId} : or_ok PRD kA GG o_Ne_traceFaces_at_Ne_19 := by
  refine or_mk fun A ta ws vs hD hth hl => ?_
  intro t0 r0 t1 r1 t2 k2 t3 k3 t4 k4 t5 k5 t6 k6 t7 k7 t8 k8 t9 r9 t10 k10 t11 k11 t12 k12 t13 r13 t14 k14 t15 k15 t18 k18 t20 k20 t21 k21 t22 k22 t24 k24 t27 k27 t28 k28 t30 k30 t31 k31 d0 d1 d2 d3 d4 d5 f0 f1 f2 f3 f4 f5 f6 f7 f8 f9 f10 f11 ta1 w1 le1 s1 f13 f14 f15 f16 ta2 w2 le2 s2 f18 f19 f20 f21 f22
  replace f1 := shm_361 f1
  replace f2 := shm_176 f2
  replace f4 := shm_4 f4
  replace f8 := shm_364 f8
  replace f10 := shm_4 f10
  replace f11 := shm_5 f11
  have s1 : (∀ b j, w_el ws b j = if b = v_ad (n_v vs 13) ∧ j = (v_iv (n_v vs 2)).toNat then v_iv (n_v vs 19) else w_el w1 b j) ∧ ∀ b k, w_fd ws b k = w_fd w1 b k := s1.2
  replace f15 := shm_364 f15
  have s2 : (∀ b j, w_el w1 b j = if b = v_ad (n_v vs 9) ∧ j = (v_iv (n_v vs 4)).toNat then v_iv (n_v vs 12) else w_el w2 b j) ∧ ∀ b k, w_fd w1 b k = w_fd w2 b k := s2.2
  replace f19 := shm_107 f19
  replace f22 := shm_1102 f22
  have q1 : n_v vs 1 = n_v vs 0 := f11.symm
  simp only [q1] at f1 f2 f22
  have cr_0_15 := fdq_255 hD hth r0
  have ar_0_16_1 : w_ar w1 (n_v vs 0) 16 = w_ar ws (n_v vs 0) 16 := congrArg v_ad (s1.2 _ _).symm
  have ar_0_16_2 : w_ar w2 (n_v vs 0) 16 = w_ar ws (n_v vs 0) 16 := by rw [← ar_0_16_1]; show v_ad (w_fd w2 _ _) = v_ad (w_fd w1 _ _); rw [s2.2]
  have cr_0_16 := fdq_91 hD hth r0
  have ad_9 : v_ad (n_v vs 9) = w_ar ws (n_v vs 0) 16 := congrArg v_ad f2
  have g1 : v_iv (n_v vs 12) = w_fi ws (n_v vs 0) 13 := congrArg v_iv f1
  simp only [ad_9] at f19
  have h19 : v_iv (n_v vs 10) = w_ei w2 (w_ar ws (n_v vs 0) 16) (v_iv (n_v vs 4)) := f19
  simp only [ar_0_16_2] at f22
  have fe_0_6_1 : w_fi ws (n_v vs 0) 6 = w_fi w1 (n_v vs 0) 6 := congrArg v_iv (s1.2 _ _)
  have fe_0_13_1 : w_fi ws (n_v vs 0) 13 = w_fi w1 (n_v vs 0) 13 := congrArg v_iv (s1.2 _ _)
  have fe_0_6_2 : w_fi w1 (n_v vs 0) 6 = w_fi w2 (n_v vs 0) 6 := congrArg v_iv (s2.2 _ _)
  have fe_0_13_2 : w_fi w1 (n_v vs 0) 13 = w_fi w2 (n_v vs 0) 13 := congrArg v_iv (s2.2 _ _)
  have hE_0_15_2 : ∀ j : Int, w_ei w1 (w_ar ws (n_v vs 0) 15) j = w_ei w2 (w_ar ws (n_v vs 0) 15) j := el_kp s2.1 r9 cr_0_15 (by decide)
  have hE_0_16_1 : ∀ j : Int, w_ei ws (w_ar ws (n_v vs 0) 16) j = w_ei w1 (w_ar ws (n_v vs 0) 16) j := el_kp s1.1 r13 cr_0_16 (by decide)
  have hE_0_16_2 : ∀ j : Int, 0 ≤ j → (j = v_iv (n_v vs 4) → w_ei w1 (w_ar ws (n_v vs 0) 16) j = v_iv (n_v vs 12)) ∧ (j ≠ v_iv (n_v vs 4) → w_ei w1 (w_ar ws (n_v vs 0) 16) j = w_ei w2 (w_ar ws (n_v vs 0) 16) j) := fun j hj => ⟨fun h => by unfold w_ei; rw [s2.1, if_pos ⟨ad_9.symm, by rw [h]⟩], fun h => by unfold w_ei; rw [s2.1, if_neg (fun e => h (by have := e.2; omega))]⟩
  have kz_0_6 := fdq_59 hD hth r0
  have kz_0_13 := fdq_253 hD hth r0
  have nf0 : fc_1 PRD (20, [1, 3, 20, 30, 31], [60, 2, 1, 552, 6, 13, 16]) ws (vs) := by
    refine ⟨nf_in hl rfl, sgq_1102 ?_⟩
    · show TFI (w_fi ws (n_v vs 1) 6) (w_fi ws (n_v vs 1) 13) (w_ei ws (w_ar ws (n_v vs 1) 16)) (v_iv (n_v vs 3)) (v_iv (n_v vs 20)) (v_iv (n_v vs 30)) (v_iv (n_v vs 31))
      rw [q1]
      exact vc_Ne_traceFaces_at_Ne_19_0 (v_iv (n_v vs 2)) (v_iv (n_v vs 3)) (v_iv (n_v vs 4)) (v_iv (n_v vs 5)) (v_iv (n_v vs 10)) (v_iv (n_v vs 12)) (v_iv (n_v vs 15)) (v_iv (n_v vs 20)) (v_iv (n_v vs 22)) (v_iv (n_v vs 30)) (v_iv (n_v vs 31)) (w_fi ws (n_v vs 0) 13) (w_fi ws (n_v vs 0) 6) (w_ei w2 (w_ar ws (n_v vs 0) 16)) (w_fi w2 (n_v vs 0) 6) (w_fi w2 (n_v vs 0) 13) (w_fi w1 (n_v vs 0) 6) (w_fi w1 (n_v vs 0) 13) (w_ei w1 (w_ar ws (n_v vs 0) 15)) (w_ei w2 (w_ar ws (n_v vs 0) 15)) (w_ei ws (w_ar ws (n_v vs 0) 16)) (w_ei w1 (w_ar ws (n_v vs 0) 16)) k2 k3 k4 k5 k10 k12 k15 k20 k22 k30 k31 g1 f4 f8 f10 f15 h19 f22 fe_0_6_1 fe_0_13_1 fe_0_6_2 fe_0_13_2 hE_0_15_2 hE_0_16_1 hE_0_16_2 kz_0_6 kz_0_13
  refine ⟨(fun _ h => (by cases h)), [], trivial, ?_, (fun _ h => (by cases h))⟩
  rw [List.append_nil]
  exact List.forall_mem_cons.mpr ⟨⟨show (20 : Nat) < 100 from by decide, nf0⟩, (fun _ h => (by cases h))⟩
set_option maxHeartbeats 4000000 in
theorem vc_Ne_traceFaces_at_Ne_20_0 (x2 : Int) (x3 : Int) (x4 : Int) (x5 : Int) (x10 : Int) (x12 : Int) (x15 : Int) (x20 : Int) (x22 : Int) (x30 : Int) (x31 : Int) (faces_0 : Int) (edges_0 : Int) (faceOf_2 : Int → Int) (edges_2 : Int) (faces_2 : Int) (edges_1 : Int) (faces_1 : Int) (rowNode_1 : Int → Int) (rowNode_2 : Int → Int) (faceOf_0 : Int → Int) (faceOf_1 : Int → Int) (k2 : 0 ≤ x2 ∧ x2 ≤ 143) (k3 : 0 ≤ x3 ∧ x3 ≤ 143) (k4 : 0 ≤ x4 ∧ x4 ≤ 143) (k5 : 0 ≤ x5 ∧ x5 ≤ 143) (k10 : (-1) ≤ x10 ∧ x10 ≤ (-1)) (k12 : 0 ≤ x12 ∧ x12 ≤ 143) (k15 : 0 ≤ x15 ∧ x15 ≤ 0) (k20 : 1 ≤ x20 ∧ x20 ≤ 144) (k22 : 1 ≤ x22 ∧ x22 ≤ 1) (k30 : 0 ≤ x30 ∧ x30 ≤ 142) (k31 : 1 ≤ x31 ∧ x31 ≤ 144) (g1 : x12 = faces_0) (f4 : x31 = x5 + 1) (f8 : x22 = x4 % 2) (f10 : x20 = x2 + 1) (f15 : x15 = x4 % 2) (h19 : x10 = faceOf_2 (x4)) (f22 : TFI (edges_2) (faces_2) (faceOf_2) (x3) (x2) (x4) (x5)) (fe_0_6_1 : edges_0 = edges_1) (fe_0_13_1 : faces_0 = faces_1) (fe_0_6_2 : edges_1 = edges_2) (fe_0_13_2 : faces_1 = faces_2) (hE_0_15_2 : ∀ j : Int, rowNode_1 j = rowNode_2 j) (hE_0_16_1 : ∀ j : Int, faceOf_0 j = faceOf_1 j) (hE_0_16_2 : ∀ j : Int, 0 ≤ j → (j = x4 → faceOf_1 j = x12) ∧ (j ≠ x4 → faceOf_1 j = faceOf_2 j)) (kz_0_6 : 0 ≤ edges_0 ∧ edges_0 ≤ 72) (kz_0_13 : 0 ≤ faces_0 ∧ faces_0 ≤ 144) : TFI (edges_0) (faces_0) (faceOf_0) (x3) (x20) (x30) (x31) := by
  subst fe_0_6_1
  subst fe_0_13_1
  subst fe_0_6_2
  subst fe_0_13_2
  have e_hE_0_15_2 := funext hE_0_15_2; subst e_hE_0_15_2
  have e_hE_0_16_1 := funext hE_0_16_1; subst e_hE_0_16_1
  first
    | (skip; (first | subst h19 | skip); exact tfi_start ‹TFO _ _ _ _ _› (by omega) (by omega) (by omega) (by omega))
    | (skip; (first | subst h19 | skip); exact tfi_step ‹TFI _ _ _ _ _ _ _› (by assumption) rfl (by omega) (by omega) (by omega) (by omega) (by omega) (by omega))
  
def o_Ne_traceFaces_at_Ne_20 : or_T := (55, 32, [(0, (2, 0, 0, [5])), (1, (2, 0, 0, [5])), (2, (0, 0, 143, [])), (3, (0, 0, 143, [])), (4, (0, 0, 143, [])), (5, (0, 0, 143, [])), (6, (0, 2, 2, [])), (7, (0, 0, 72, [])), (8, (0, 1, 144, [])), (9, (2, 0, 0, [88])), (10, (0, -1, -1, [])), (11, (0, -1, -1, [])), (12, (0, 0, 143, [])), (13, (2, 0, 0, [87])), (14, (0, 1, 1, [])), (15, (0, 0, 0, [])), (18, (0, 0, 71, [])), (20, (0, 1, 144, [])), (21, (0, 1, 1, [])), (22, (0, 1, 1, [])), (24, (0, 0, 71, [])), (27, (0, 1, 1, [])), (28, (0, 0, 143, [])), (30, (0, 0, 142, [])), (31, (0, 1, 144, []))], [(9, [13, 1], [15]), (9, [12, 1], [13]), (9, [9, 1], [16]), (9, [7, 1], [6]), (6, [31, 5], [1]), (16, [28, 4, 27], [2]), (11, [24, 4], [2]), (8, [22], [1]), (12, [22, 4], [2]), (16, [22, 4, 21], [0]), (6, [20, 2], [1]), (24, [0, 1], []), (100, [13, 2, 19], []), (11, [18, 4], [2]), (8, [15], [0]), (12, [15, 4], [2]), (16, [15, 4, 14], [0]), (100, [9, 4, 12], []), (7, [10, 11], [0]), (10, [10, 9, 4], []), (7, [5, 8], [2]), (3, [8, 6, 7], []), (20, [1, 3, 2, 4, 5], [60, 2, 1, 552, 6, 13, 16])], [], [], [(20, [1, 3, 20, 30, 31], [60, 2, 1, 552, 6, 13, 16])], [], [(31, 5, 1, 1), (31, 8, -4294967296, 0), (31, 2, -4294967296, 1), (20, 2, 1, 1), (5, 8, -4294967296, -1), (5, 2, -4294967296, 0)])
theorem oo_Ne_traceFaces_at_Ne_20 {kA : Nat → ClassId} : or_ok PRD kA GG o_Ne_traceFaces_at_Ne_20 := by
  refine or_mk fun A ta ws vs hD hth hl => ?_
  intro t0 r0 t1 r1 t2 k2 t3 k3 t4 k4 t5 k5 t6 k6 t7 k7 t8 k8 t9 r9 t10 k10 t11 k11 t12 k12 t13 r13 t14 k14 t15 k15 t18 k18 t20 k20 t21 k21 t22 k22 t24 k24 t27 k27 t28 k28 t30 k30 t31 k31 d0 d1 d2 d3 d4 d5 f0 f1 f2 f3 f4 f5 f6 f7 f8 f9 f10 f11 ta1 w1 le1 s1 f13 f14 f15 f16 ta2 w2 le2 s2 f18 f19 f20 f21 f22
  replace f1 := shm_361 f1
  replace f2 := shm_176 f2
  replace f4 := shm_4 f4
  replace f8 := shm_364 f8
  replace f10 := shm_4 f10
  replace f11 := shm_5 f11
  have s1 : (∀ b j, w_el ws b j = if b = v_ad (n_v vs 13) ∧ j = (v_iv (n_v vs 2)).toNat then v_iv (n_v vs 19) else w_el w1 b j) ∧ ∀ b k, w_fd ws b k = w_fd w1 b k := s1.2
  replace f15 := shm_364 f15
  have s2 : (∀ b j, w_el w1 b j = if b = v_ad (n_v vs 9) ∧ j = (v_iv (n_v vs 4)).toNat then v_iv (n_v vs 12) else w_el w2 b j) ∧ ∀ b k, w_fd w1 b k = w_fd w2 b k := s2.2
  replace f19 := shm_107 f19
  replace f22 := shm_1102 f22
  have q1 : n_v vs 1 = n_v vs 0 := f11.symm
  simp only [q1] at f1 f2 f22
  have cr_0_15 := fdq_255 hD hth r0
  have ar_0_16_1 : w_ar w1 (n_v vs 0) 16 = w_ar ws (n_v vs 0) 16 := congrArg v_ad (s1.2 _ _).symm
  have ar_0_16_2 : w_ar w2 (n_v vs 0) 16 = w_ar ws (n_v vs 0) 16 := by rw [← ar_0_16_1]; show v_ad (w_fd w2 _ _) = v_ad (w_fd w1 _ _); rw [s2.2]
  have cr_0_16 := fdq_91 hD hth r0
  have ad_9 : v_ad (n_v vs 9) = w_ar ws (n_v vs 0) 16 := congrArg v_ad f2
  have g1 : v_iv (n_v vs 12) = w_fi ws (n_v vs 0) 13 := congrArg v_iv f1
  simp only [ad_9] at f19
  have h19 : v_iv (n_v vs 10) = w_ei w2 (w_ar ws (n_v vs 0) 16) (v_iv (n_v vs 4)) := f19
  simp only [ar_0_16_2] at f22
  have fe_0_6_1 : w_fi ws (n_v vs 0) 6 = w_fi w1 (n_v vs 0) 6 := congrArg v_iv (s1.2 _ _)
  have fe_0_13_1 : w_fi ws (n_v vs 0) 13 = w_fi w1 (n_v vs 0) 13 := congrArg v_iv (s1.2 _ _)
  have fe_0_6_2 : w_fi w1 (n_v vs 0) 6 = w_fi w2 (n_v vs 0) 6 := congrArg v_iv (s2.2 _ _)
  have fe_0_13_2 : w_fi w1 (n_v vs 0) 13 = w_fi w2 (n_v vs 0) 13 := congrArg v_iv (s2.2 _ _)
  have hE_0_15_2 : ∀ j : Int, w_ei w1 (w_ar ws (n_v vs 0) 15) j = w_ei w2 (w_ar ws (n_v vs 0) 15) j := el_kp s2.1 r9 cr_0_15 (by decide)
  have hE_0_16_1 : ∀ j : Int, w_ei ws (w_ar ws (n_v vs 0) 16) j = w_ei w1 (w_ar ws (n_v vs 0) 16) j := el_kp s1.1 r13 cr_0_16 (by decide)
  have hE_0_16_2 : ∀ j : Int, 0 ≤ j → (j = v_iv (n_v vs 4) → w_ei w1 (w_ar ws (n_v vs 0) 16) j = v_iv (n_v vs 12)) ∧ (j ≠ v_iv (n_v vs 4) → w_ei w1 (w_ar ws (n_v vs 0) 16) j = w_ei w2 (w_ar ws (n_v vs 0) 16) j) := fun j hj => ⟨fun h => by unfold w_ei; rw [s2.1, if_pos ⟨ad_9.symm, by rw [h]⟩], fun h => by unfold w_ei; rw [s2.1, if_neg (fun e => h (by have := e.2; omega))]⟩
  have kz_0_6 := fdq_59 hD hth r0
  have kz_0_13 := fdq_253 hD hth r0
  have nf0 : fc_1 PRD (20, [1, 3, 20, 30, 31], [60, 2, 1, 552, 6, 13, 16]) ws (vs) := by
    refine ⟨nf_in hl rfl, sgq_1102 ?_⟩
    · show TFI (w_fi ws (n_v vs 1) 6) (w_fi ws (n_v vs 1) 13) (w_ei ws (w_ar ws (n_v vs 1) 16)) (v_iv (n_v vs 3)) (v_iv (n_v vs 20)) (v_iv (n_v vs 30)) (v_iv (n_v vs 31))
      rw [q1]
      exact vc_Ne_traceFaces_at_Ne_20_0 (v_iv (n_v vs 2)) (v_iv (n_v vs 3)) (v_iv (n_v vs 4)) (v_iv (n_v vs 5)) (v_iv (n_v vs 10)) (v_iv (n_v vs 12)) (v_iv (n_v vs 15)) (v_iv (n_v vs 20)) (v_iv (n_v vs 22)) (v_iv (n_v vs 30)) (v_iv (n_v vs 31)) (w_fi ws (n_v vs 0) 13) (w_fi ws (n_v vs 0) 6) (w_ei w2 (w_ar ws (n_v vs 0) 16)) (w_fi w2 (n_v vs 0) 6) (w_fi w2 (n_v vs 0) 13) (w_fi w1 (n_v vs 0) 6) (w_fi w1 (n_v vs 0) 13) (w_ei w1 (w_ar ws (n_v vs 0) 15)) (w_ei w2 (w_ar ws (n_v vs 0) 15)) (w_ei ws (w_ar ws (n_v vs 0) 16)) (w_ei w1 (w_ar ws (n_v vs 0) 16)) k2 k3 k4 k5 k10 k12 k15 k20 k22 k30 k31 g1 f4 f8 f10 f15 h19 f22 fe_0_6_1 fe_0_13_1 fe_0_6_2 fe_0_13_2 hE_0_15_2 hE_0_16_1 hE_0_16_2 kz_0_6 kz_0_13
  refine ⟨(fun _ h => (by cases h)), [], trivial, ?_, (fun _ h => (by cases h))⟩
  rw [List.append_nil]
  exact List.forall_mem_cons.mpr ⟨⟨show (20 : Nat) < 100 from by decide, nf0⟩, (fun _ h => (by cases h))⟩
set_option maxHeartbeats 4000000 in
theorem vc_Ne_traceFaces_at_Ne_21_r0 (x3 : Int) (x4 : Int) (x10 : Int) (x22 : Int) (x25 : Int) (x28 : Int) (x29 : Int) (faces_0 : Int) (edges_0 : Int) (faceOf_2 : Int → Int) (edges_2 : Int) (faces_2 : Int) (edges_1 : Int) (faces_1 : Int) (rowNode_1 : Int → Int) (rowNode_2 : Int → Int) (faceOf_0 : Int → Int) (faceOf_1 : Int → Int) (k4 : 0 ≤ x4 ∧ x4 ≤ 143) (k10 : (-1) ≤ x10 ∧ x10 ≤ (-1)) (k22 : 0 ≤ x22 ∧ x22 ≤ 0) (k25 : 0 ≤ x25 ∧ x25 ≤ 71) (k28 : 1 ≤ x28 ∧ x28 ≤ 1) (k29 : 0 ≤ x29 ∧ x29 ≤ 255) (f4 : bvp (x29) = bvp (x4) ^^^ bvp (x28)) (f5 : x25 = x4 / 2) (f7 : x22 = x4 % 2) (h18 : x10 = faceOf_2 (x4)) (fe_0_6_1 : edges_0 = edges_1) (fe_0_13_1 : faces_0 = faces_1) (fe_0_6_2 : edges_1 = edges_2) (fe_0_13_2 : faces_1 = faces_2) (hE_0_15_2 : ∀ j : Int, rowNode_1 j = rowNode_2 j) (hE_0_16_1 : ∀ j : Int, faceOf_0 j = faceOf_1 j) (kz_0_6 : 0 ≤ edges_0 ∧ edges_0 ≤ 72) (kz_0_13 : 0 ≤ faces_0 ∧ faces_0 ≤ 144) : 0 ≤ x29 ∧ x29 ≤ 143 := by
  subst fe_0_6_1
  subst fe_0_13_1
  subst fe_0_6_2
  subst fe_0_13_2
  have e_hE_0_15_2 := funext hE_0_15_2; subst e_hE_0_15_2
  have e_hE_0_16_1 := funext hE_0_16_1; subst e_hE_0_16_1
  first
    | omega
    | (have q := tfo_low ‹TFO _ _ _ _ _›; omega)
    | (skip; (first | subst h18 | skip); have q := tfc_lt (‹TFO _ _ _ _ _›).2.2.2.1 (e := x3) (by omega) (by omega) (by omega); have q2 := tfo_low ‹TFO _ _ _ _ _›; omega)
    | (skip; (first | subst h18 | skip); have q := (tfo_next (faces_zq := faces_0 + 1) (st_zq := x3 + 1) ‹TFI _ _ _ _ _ _ _› (by first | (left; omega) | (right; omega)) rfl rfl).2; have q2 := (‹TFI _ _ _ _ _ _ _›).2.2.1; omega)
    | (skip; (first | subst h18 | skip); have q := tfi_low ‹TFI _ _ _ _ _ _ _› (by omega) (by omega) (by omega); omega)
    | (have q := xor_one (x := x29) (a := x4) (b := x28) (by assumption) (by omega) (by omega) (by omega) (by omega) (by omega); split at q <;> omega)
  
def o_Ne_traceFaces_at_Ne_21 : or_T := (155, 30, [(0, (2, 0, 0, [5])), (1, (2, 0, 0, [5])), (2, (0, 0, 143, [])), (3, (0, 0, 143, [])), (4, (0, 0, 143, [])), (5, (0, 0, 143, [])), (6, (0, 2, 2, [])), (7, (0, 0, 72, [])), (8, (0, 1, 144, [])), (9, (2, 0, 0, [88])), (10, (0, -1, -1, [])), (11, (0, -1, -1, [])), (12, (0, 0, 143, [])), (13, (2, 0, 0, [87])), (14, (0, 1, 1, [])), (15, (0, 0, 0, [])), (18, (0, 0, 71, [])), (20, (0, 1, 144, [])), (21, (0, 1, 1, [])), (22, (0, 0, 0, [])), (25, (0, 0, 71, [])), (28, (0, 1, 1, [])), (29, (0, 0, 255, []))], [(9, [13, 1], [15]), (9, [12, 1], [13]), (9, [9, 1], [16]), (9, [7, 1], [6]), (16, [29, 4, 28], [2]), (11, [25, 4], [2]), (8, [22], [0]), (12, [22, 4], [2]), (16, [22, 4, 21], [0]), (6, [20, 2], [1]), (24, [0, 1], []), (100, [13, 2, 19], []), (11, [18, 4], [2]), (8, [15], [0]), (12, [15, 4], [2]), (16, [15, 4, 14], [0]), (100, [9, 4, 12], []), (7, [10, 11], [0]), (10, [10, 9, 4], []), (7, [5, 8], [2]), (3, [8, 6, 7], []), (20, [1, 3, 2, 4, 5], [60, 2, 1, 552, 6, 13, 16])], [(29, (0, 0, 143, []))], [], [], [], [(20, 2, 1, 1), (5, 8, -4294967296, -1), (5, 2, -4294967296, 0)])
theorem oo_Ne_traceFaces_at_Ne_21 {kA : Nat → ClassId} : or_ok PRD kA GG o_Ne_traceFaces_at_Ne_21 := by
  refine or_mk fun A ta ws vs hD hth hl => ?_
  intro t0 r0 t1 r1 t2 k2 t3 k3 t4 k4 t5 k5 t6 k6 t7 k7 t8 k8 t9 r9 t10 k10 t11 k11 t12 k12 t13 r13 t14 k14 t15 k15 t18 k18 t20 k20 t21 k21 t22 k22 t25 k25 t28 k28 t29 k29 d0 d1 d2 f0 f1 f2 f3 f4 f5 f6 f7 f8 f9 f10 ta1 w1 le1 s1 f12 f13 f14 f15 ta2 w2 le2 s2 f17 f18 f19 f20 f21
  replace f2 := shm_176 f2
  replace f10 := shm_5 f10
  have s1 : (∀ b j, w_el ws b j = if b = v_ad (n_v vs 13) ∧ j = (v_iv (n_v vs 2)).toNat then v_iv (n_v vs 19) else w_el w1 b j) ∧ ∀ b k, w_fd ws b k = w_fd w1 b k := s1.2
  have s2 : (∀ b j, w_el w1 b j = if b = v_ad (n_v vs 9) ∧ j = (v_iv (n_v vs 4)).toNat then v_iv (n_v vs 12) else w_el w2 b j) ∧ ∀ b k, w_fd w1 b k = w_fd w2 b k := s2.2
  replace f18 := shm_107 f18
  have q1 : n_v vs 1 = n_v vs 0 := f10.symm
  simp only [q1] at f2
  have cr_0_15 := fdq_255 hD hth r0
  have cr_0_16 := fdq_91 hD hth r0
  have ad_9 : v_ad (n_v vs 9) = w_ar ws (n_v vs 0) 16 := congrArg v_ad f2
  simp only [ad_9] at f18
  have h18 : v_iv (n_v vs 10) = w_ei w2 (w_ar ws (n_v vs 0) 16) (v_iv (n_v vs 4)) := f18
  have fe_0_6_1 : w_fi ws (n_v vs 0) 6 = w_fi w1 (n_v vs 0) 6 := congrArg v_iv (s1.2 _ _)
  have fe_0_13_1 : w_fi ws (n_v vs 0) 13 = w_fi w1 (n_v vs 0) 13 := congrArg v_iv (s1.2 _ _)
  have fe_0_6_2 : w_fi w1 (n_v vs 0) 6 = w_fi w2 (n_v vs 0) 6 := congrArg v_iv (s2.2 _ _)
  have fe_0_13_2 : w_fi w1 (n_v vs 0) 13 = w_fi w2 (n_v vs 0) 13 := congrArg v_iv (s2.2 _ _)
  have hE_0_15_2 : ∀ j : Int, w_ei w1 (w_ar ws (n_v vs 0) 15) j = w_ei w2 (w_ar ws (n_v vs 0) 15) j := el_kp s2.1 r9 cr_0_15 (by decide)
  have hE_0_16_1 : ∀ j : Int, w_ei ws (w_ar ws (n_v vs 0) 16) j = w_ei w1 (w_ar ws (n_v vs 0) 16) j := el_kp s1.1 r13 cr_0_16 (by decide)
  have kz_0_6 := fdq_59 hD hth r0
  have kz_0_13 := fdq_253 hD hth r0
  have hrf0 : 0 ≤ v_iv (n_v vs 29) ∧ v_iv (n_v vs 29) ≤ 143 := vc_Ne_traceFaces_at_Ne_21_r0 (v_iv (n_v vs 3)) (v_iv (n_v vs 4)) (v_iv (n_v vs 10)) (v_iv (n_v vs 22)) (v_iv (n_v vs 25)) (v_iv (n_v vs 28)) (v_iv (n_v vs 29)) (w_fi ws (n_v vs 0) 13) (w_fi ws (n_v vs 0) 6) (w_ei w2 (w_ar ws (n_v vs 0) 16)) (w_fi w2 (n_v vs 0) 6) (w_fi w2 (n_v vs 0) 13) (w_fi w1 (n_v vs 0) 6) (w_fi w1 (n_v vs 0) 13) (w_ei w1 (w_ar ws (n_v vs 0) 15)) (w_ei w2 (w_ar ws (n_v vs 0) 15)) (w_ei ws (w_ar ws (n_v vs 0) 16)) (w_ei w1 (w_ar ws (n_v vs 0) 16)) k4 k10 k22 k25 k28 k29 (shm_33 f4) (shm_585 f5) (shm_364 f7) h18 fe_0_6_1 fe_0_13_1 fe_0_6_2 fe_0_13_2 hE_0_15_2 hE_0_16_1 kz_0_6 kz_0_13
  have rf29 : tv_ok ta (0, 0, 143, []) (n_v vs 29) := tv_in t29 (by first | omega | grind) (by first | omega | grind)
  refine ⟨List.forall_mem_cons.mpr ⟨rf29, (fun _ h => (by cases h))⟩, [], trivial, ?_, (fun _ h => (by cases h))⟩
  rw [List.append_nil]
  exact (fun _ h => (by cases h))
set_option maxHeartbeats 4000000 in
theorem vc_Ne_traceFaces_at_Ne_22_0 (x2 : Int) (x3 : Int) (x4 : Int) (x5 : Int) (x10 : Int) (x12 : Int) (x18 : Int) (x20 : Int) (x22 : Int) (x31 : Int) (x32 : Int) (faces_0 : Int) (edges_0 : Int) (faceOf_2 : Int → Int) (edges_2 : Int) (faces_2 : Int) (edges_1 : Int) (faces_1 : Int) (rowNode_1 : Int → Int) (rowNode_2 : Int → Int) (faceOf_0 : Int → Int) (faceOf_1 : Int → Int) (k2 : 0 ≤ x2 ∧ x2 ≤ 143) (k3 : 0 ≤ x3 ∧ x3 ≤ 143) (k4 : 0 ≤ x4 ∧ x4 ≤ 143) (k5 : 0 ≤ x5 ∧ x5 ≤ 143) (k10 : (-1) ≤ x10 ∧ x10 ≤ (-1)) (k12 : 0 ≤ x12 ∧ x12 ≤ 143) (k18 : 0 ≤ x18 ∧ x18 ≤ 71) (k20 : 1 ≤ x20 ∧ x20 ≤ 144) (k22 : 0 ≤ x22 ∧ x22 ≤ 0) (k31 : 1 ≤ x31 ∧ x31 ≤ 143) (k32 : 1 ≤ x32 ∧ x32 ≤ 144) (g1 : x12 = faces_0) (f4 : x32 = x5 + 1) (f8 : x22 = x4 % 2) (f10 : x20 = x2 + 1) (f13 : x18 = x4 / 2) (h19 : x10 = faceOf_2 (x4)) (f22 : TFI (edges_2) (faces_2) (faceOf_2) (x3) (x2) (x4) (x5)) (fe_0_6_1 : edges_0 = edges_1) (fe_0_13_1 : faces_0 = faces_1) (fe_0_6_2 : edges_1 = edges_2) (fe_0_13_2 : faces_1 = faces_2) (hE_0_15_2 : ∀ j : Int, rowNode_1 j = rowNode_2 j) (hE_0_16_1 : ∀ j : Int, faceOf_0 j = faceOf_1 j) (hE_0_16_2 : ∀ j : Int, 0 ≤ j → (j = x4 → faceOf_1 j = x12) ∧ (j ≠ x4 → faceOf_1 j = faceOf_2 j)) (kz_0_6 : 0 ≤ edges_0 ∧ edges_0 ≤ 72) (kz_0_13 : 0 ≤ faces_0 ∧ faces_0 ≤ 144) : TFI (edges_0) (faces_0) (faceOf_0) (x3) (x20) (x31) (x32) := by
  subst fe_0_6_1
  subst fe_0_13_1
  subst fe_0_6_2
  subst fe_0_13_2
  have e_hE_0_15_2 := funext hE_0_15_2; subst e_hE_0_15_2
  have e_hE_0_16_1 := funext hE_0_16_1; subst e_hE_0_16_1
  first
    | (skip; (first | subst h19 | skip); exact tfi_start ‹TFO _ _ _ _ _› (by omega) (by omega) (by omega) (by omega))
    | (skip; (first | subst h19 | skip); exact tfi_step ‹TFI _ _ _ _ _ _ _› (by assumption) rfl (by omega) (by omega) (by omega) (by omega) (by omega) (by omega))
  
def o_Ne_traceFaces_at_Ne_22 : or_T := (55, 33, [(0, (2, 0, 0, [5])), (1, (2, 0, 0, [5])), (2, (0, 0, 143, [])), (3, (0, 0, 143, [])), (4, (0, 0, 143, [])), (5, (0, 0, 143, [])), (6, (0, 2, 2, [])), (7, (0, 0, 72, [])), (8, (0, 1, 144, [])), (9, (2, 0, 0, [88])), (10, (0, -1, -1, [])), (11, (0, -1, -1, [])), (12, (0, 0, 143, [])), (13, (2, 0, 0, [87])), (14, (0, 1, 1, [])), (15, (0, 0, 0, [])), (18, (0, 0, 71, [])), (20, (0, 1, 144, [])), (21, (0, 1, 1, [])), (22, (0, 0, 0, [])), (25, (0, 0, 71, [])), (28, (0, 1, 1, [])), (29, (0, 0, 143, [])), (31, (0, 1, 143, [])), (32, (0, 1, 144, []))], [(9, [13, 1], [15]), (9, [12, 1], [13]), (9, [9, 1], [16]), (9, [7, 1], [6]), (6, [32, 5], [1]), (16, [29, 4, 28], [2]), (11, [25, 4], [2]), (8, [22], [0]), (12, [22, 4], [2]), (16, [22, 4, 21], [0]), (6, [20, 2], [1]), (24, [0, 1], []), (100, [13, 2, 19], []), (11, [18, 4], [2]), (8, [15], [0]), (12, [15, 4], [2]), (16, [15, 4, 14], [0]), (100, [9, 4, 12], []), (7, [10, 11], [0]), (10, [10, 9, 4], []), (7, [5, 8], [2]), (3, [8, 6, 7], []), (20, [1, 3, 2, 4, 5], [60, 2, 1, 552, 6, 13, 16])], [], [], [(20, [1, 3, 20, 31, 32], [60, 2, 1, 552, 6, 13, 16])], [], [(32, 5, 1, 1), (32, 8, -4294967296, 0), (32, 2, -4294967296, 1), (20, 2, 1, 1), (5, 8, -4294967296, -1), (5, 2, -4294967296, 0)])
theorem oo_Ne_traceFaces_at_Ne_22 {kA : Nat → ClassId} : or_ok PRD kA GG o_Ne_traceFaces_at_Ne_22 := by
  refine or_mk fun A ta ws vs hD hth hl => ?_
  intro t0 r0 t1 r1 t2 k2 t3 k3 t4 k4 t5 k5 t6 k6 t7 k7 t8 k8 t9 r9 t10 k10 t11 k11 t12 k12 t13 r13 t14 k14 t15 k15 t18 k18 t20 k20 t21 k21 t22 k22 t25 k25 t28 k28 t29 k29 t31 k31 t32 k32 d0 d1 d2 d3 d4 d5 f0 f1 f2 f3 f4 f5 f6 f7 f8 f9 f10 f11 ta1 w1 le1 s1 f13 f14 f15 f16 ta2 w2 le2 s2 f18 f19 f20 f21 f22
  replace f1 := shm_361 f1
  replace f2 := shm_176 f2
  replace f4 := shm_4 f4
  replace f8 := shm_364 f8
  replace f10 := shm_4 f10
  replace f11 := shm_5 f11
  have s1 : (∀ b j, w_el ws b j = if b = v_ad (n_v vs 13) ∧ j = (v_iv (n_v vs 2)).toNat then v_iv (n_v vs 19) else w_el w1 b j) ∧ ∀ b k, w_fd ws b k = w_fd w1 b k := s1.2
  replace f13 := shm_585 f13
  have s2 : (∀ b j, w_el w1 b j = if b = v_ad (n_v vs 9) ∧ j = (v_iv (n_v vs 4)).toNat then v_iv (n_v vs 12) else w_el w2 b j) ∧ ∀ b k, w_fd w1 b k = w_fd w2 b k := s2.2
  replace f19 := shm_107 f19
  replace f22 := shm_1102 f22
  have q1 : n_v vs 1 = n_v vs 0 := f11.symm
  simp only [q1] at f1 f2 f22
  have cr_0_15 := fdq_255 hD hth r0
  have ar_0_16_1 : w_ar w1 (n_v vs 0) 16 = w_ar ws (n_v vs 0) 16 := congrArg v_ad (s1.2 _ _).symm
  have ar_0_16_2 : w_ar w2 (n_v vs 0) 16 = w_ar ws (n_v vs 0) 16 := by rw [← ar_0_16_1]; show v_ad (w_fd w2 _ _) = v_ad (w_fd w1 _ _); rw [s2.2]
  have cr_0_16 := fdq_91 hD hth r0
  have ad_9 : v_ad (n_v vs 9) = w_ar ws (n_v vs 0) 16 := congrArg v_ad f2
  have g1 : v_iv (n_v vs 12) = w_fi ws (n_v vs 0) 13 := congrArg v_iv f1
  simp only [ad_9] at f19
  have h19 : v_iv (n_v vs 10) = w_ei w2 (w_ar ws (n_v vs 0) 16) (v_iv (n_v vs 4)) := f19
  simp only [ar_0_16_2] at f22
  have fe_0_6_1 : w_fi ws (n_v vs 0) 6 = w_fi w1 (n_v vs 0) 6 := congrArg v_iv (s1.2 _ _)
  have fe_0_13_1 : w_fi ws (n_v vs 0) 13 = w_fi w1 (n_v vs 0) 13 := congrArg v_iv (s1.2 _ _)
  have fe_0_6_2 : w_fi w1 (n_v vs 0) 6 = w_fi w2 (n_v vs 0) 6 := congrArg v_iv (s2.2 _ _)
  have fe_0_13_2 : w_fi w1 (n_v vs 0) 13 = w_fi w2 (n_v vs 0) 13 := congrArg v_iv (s2.2 _ _)
  have hE_0_15_2 : ∀ j : Int, w_ei w1 (w_ar ws (n_v vs 0) 15) j = w_ei w2 (w_ar ws (n_v vs 0) 15) j := el_kp s2.1 r9 cr_0_15 (by decide)
  have hE_0_16_1 : ∀ j : Int, w_ei ws (w_ar ws (n_v vs 0) 16) j = w_ei w1 (w_ar ws (n_v vs 0) 16) j := el_kp s1.1 r13 cr_0_16 (by decide)
  have hE_0_16_2 : ∀ j : Int, 0 ≤ j → (j = v_iv (n_v vs 4) → w_ei w1 (w_ar ws (n_v vs 0) 16) j = v_iv (n_v vs 12)) ∧ (j ≠ v_iv (n_v vs 4) → w_ei w1 (w_ar ws (n_v vs 0) 16) j = w_ei w2 (w_ar ws (n_v vs 0) 16) j) := fun j hj => ⟨fun h => by unfold w_ei; rw [s2.1, if_pos ⟨ad_9.symm, by rw [h]⟩], fun h => by unfold w_ei; rw [s2.1, if_neg (fun e => h (by have := e.2; omega))]⟩
  have kz_0_6 := fdq_59 hD hth r0
  have kz_0_13 := fdq_253 hD hth r0
  have nf0 : fc_1 PRD (20, [1, 3, 20, 31, 32], [60, 2, 1, 552, 6, 13, 16]) ws (vs) := by
    refine ⟨nf_in hl rfl, sgq_1102 ?_⟩
    · show TFI (w_fi ws (n_v vs 1) 6) (w_fi ws (n_v vs 1) 13) (w_ei ws (w_ar ws (n_v vs 1) 16)) (v_iv (n_v vs 3)) (v_iv (n_v vs 20)) (v_iv (n_v vs 31)) (v_iv (n_v vs 32))
      rw [q1]
      exact vc_Ne_traceFaces_at_Ne_22_0 (v_iv (n_v vs 2)) (v_iv (n_v vs 3)) (v_iv (n_v vs 4)) (v_iv (n_v vs 5)) (v_iv (n_v vs 10)) (v_iv (n_v vs 12)) (v_iv (n_v vs 18)) (v_iv (n_v vs 20)) (v_iv (n_v vs 22)) (v_iv (n_v vs 31)) (v_iv (n_v vs 32)) (w_fi ws (n_v vs 0) 13) (w_fi ws (n_v vs 0) 6) (w_ei w2 (w_ar ws (n_v vs 0) 16)) (w_fi w2 (n_v vs 0) 6) (w_fi w2 (n_v vs 0) 13) (w_fi w1 (n_v vs 0) 6) (w_fi w1 (n_v vs 0) 13) (w_ei w1 (w_ar ws (n_v vs 0) 15)) (w_ei w2 (w_ar ws (n_v vs 0) 15)) (w_ei ws (w_ar ws (n_v vs 0) 16)) (w_ei w1 (w_ar ws (n_v vs 0) 16)) k2 k3 k4 k5 k10 k12 k18 k20 k22 k31 k32 g1 f4 f8 f10 f13 h19 f22 fe_0_6_1 fe_0_13_1 fe_0_6_2 fe_0_13_2 hE_0_15_2 hE_0_16_1 hE_0_16_2 kz_0_6 kz_0_13
  refine ⟨(fun _ h => (by cases h)), [], trivial, ?_, (fun _ h => (by cases h))⟩
  rw [List.append_nil]
  exact List.forall_mem_cons.mpr ⟨⟨show (20 : Nat) < 100 from by decide, nf0⟩, (fun _ h => (by cases h))⟩
set_option maxHeartbeats 4000000 in
theorem vc_Ne_traceFaces_at_Ne_23_0 (x2 : Int) (x3 : Int) (x4 : Int) (x5 : Int) (x10 : Int) (x12 : Int) (x18 : Int) (x20 : Int) (x22 : Int) (x31 : Int) (x32 : Int) (faces_0 : Int) (edges_0 : Int) (faceOf_2 : Int → Int) (edges_2 : Int) (faces_2 : Int) (edges_1 : Int) (faces_1 : Int) (rowNode_1 : Int → Int) (rowNode_2 : Int → Int) (faceOf_0 : Int → Int) (faceOf_1 : Int → Int) (k2 : 0 ≤ x2 ∧ x2 ≤ 143) (k3 : 0 ≤ x3 ∧ x3 ≤ 143) (k4 : 0 ≤ x4 ∧ x4 ≤ 143) (k5 : 0 ≤ x5 ∧ x5 ≤ 143) (k10 : (-1) ≤ x10 ∧ x10 ≤ (-1)) (k12 : 0 ≤ x12 ∧ x12 ≤ 143) (k18 : 0 ≤ x18 ∧ x18 ≤ 71) (k20 : 1 ≤ x20 ∧ x20 ≤ 144) (k22 : 0 ≤ x22 ∧ x22 ≤ 0) (k31 : 0 ≤ x31 ∧ x31 ≤ 142) (k32 : 1 ≤ x32 ∧ x32 ≤ 144) (g1 : x12 = faces_0) (f4 : x32 = x5 + 1) (f8 : x22 = x4 % 2) (f10 : x20 = x2 + 1) (f13 : x18 = x4 / 2) (h19 : x10 = faceOf_2 (x4)) (f22 : TFI (edges_2) (faces_2) (faceOf_2) (x3) (x2) (x4) (x5)) (fe_0_6_1 : edges_0 = edges_1) (fe_0_13_1 : faces_0 = faces_1) (fe_0_6_2 : edges_1 = edges_2) (fe_0_13_2 : faces_1 = faces_2) (hE_0_15_2 : ∀ j : Int, rowNode_1 j = rowNode_2 j) (hE_0_16_1 : ∀ j : Int, faceOf_0 j = faceOf_1 j) (hE_0_16_2 : ∀ j : Int, 0 ≤ j → (j = x4 → faceOf_1 j = x12) ∧ (j ≠ x4 → faceOf_1 j = faceOf_2 j)) (kz_0_6 : 0 ≤ edges_0 ∧ edges_0 ≤ 72) (kz_0_13 : 0 ≤ faces_0 ∧ faces_0 ≤ 144) : TFI (edges_0) (faces_0) (faceOf_0) (x3) (x20) (x31) (x32) := by
  subst fe_0_6_1
  subst fe_0_13_1
  subst fe_0_6_2
  subst fe_0_13_2
  have e_hE_0_15_2 := funext hE_0_15_2; subst e_hE_0_15_2
  have e_hE_0_16_1 := funext hE_0_16_1; subst e_hE_0_16_1
  first
    | (skip; (first | subst h19 | skip); exact tfi_start ‹TFO _ _ _ _ _› (by omega) (by omega) (by omega) (by omega))
    | (skip; (first | subst h19 | skip); exact tfi_step ‹TFI _ _ _ _ _ _ _› (by assumption) rfl (by omega) (by omega) (by omega) (by omega) (by omega) (by omega))
  
def o_Ne_traceFaces_at_Ne_23 : or_T := (55, 33, [(0, (2, 0, 0, [5])), (1, (2, 0, 0, [5])), (2, (0, 0, 143, [])), (3, (0, 0, 143, [])), (4, (0, 0, 143, [])), (5, (0, 0, 143, [])), (6, (0, 2, 2, [])), (7, (0, 0, 72, [])), (8, (0, 1, 144, [])), (9, (2, 0, 0, [88])), (10, (0, -1, -1, [])), (11, (0, -1, -1, [])), (12, (0, 0, 143, [])), (13, (2, 0, 0, [87])), (14, (0, 1, 1, [])), (15, (0, 0, 0, [])), (18, (0, 0, 71, [])), (20, (0, 1, 144, [])), (21, (0, 1, 1, [])), (22, (0, 0, 0, [])), (25, (0, 0, 71, [])), (28, (0, 1, 1, [])), (29, (0, 0, 143, [])), (31, (0, 0, 142, [])), (32, (0, 1, 144, []))], [(9, [13, 1], [15]), (9, [12, 1], [13]), (9, [9, 1], [16]), (9, [7, 1], [6]), (6, [32, 5], [1]), (16, [29, 4, 28], [2]), (11, [25, 4], [2]), (8, [22], [0]), (12, [22, 4], [2]), (16, [22, 4, 21], [0]), (6, [20, 2], [1]), (24, [0, 1], []), (100, [13, 2, 19], []), (11, [18, 4], [2]), (8, [15], [0]), (12, [15, 4], [2]), (16, [15, 4, 14], [0]), (100, [9, 4, 12], []), (7, [10, 11], [0]), (10, [10, 9, 4], []), (7, [5, 8], [2]), (3, [8, 6, 7], []), (20, [1, 3, 2, 4, 5], [60, 2, 1, 552, 6, 13, 16])], [], [], [(20, [1, 3, 20, 31, 32], [60, 2, 1, 552, 6, 13, 16])], [], [(32, 5, 1, 1), (32, 8, -4294967296, 0), (32, 2, -4294967296, 1), (20, 2, 1, 1), (5, 8, -4294967296, -1), (5, 2, -4294967296, 0)])
theorem oo_Ne_traceFaces_at_Ne_23 {kA : Nat → ClassId} : or_ok PRD kA GG o_Ne_traceFaces_at_Ne_23 := by
  refine or_mk fun A ta ws vs hD hth hl => ?_
  intro t0 r0 t1 r1 t2 k2 t3 k3 t4 k4 t5 k5 t6 k6 t7 k7 t8 k8 t9 r9 t10 k10 t11 k11 t12 k12 t13 r13 t14 k14 t15 k15 t18 k18 t20 k20 t21 k21 t22 k22 t25 k25 t28 k28 t29 k29 t31 k31 t32 k32 d0 d1 d2 d3 d4 d5 f0 f1 f2 f3 f4 f5 f6 f7 f8 f9 f10 f11 ta1 w1 le1 s1 f13 f14 f15 f16 ta2 w2 le2 s2 f18 f19 f20 f21 f22
  replace f1 := shm_361 f1
  replace f2 := shm_176 f2
  replace f4 := shm_4 f4
  replace f8 := shm_364 f8
  replace f10 := shm_4 f10
  replace f11 := shm_5 f11
  have s1 : (∀ b j, w_el ws b j = if b = v_ad (n_v vs 13) ∧ j = (v_iv (n_v vs 2)).toNat then v_iv (n_v vs 19) else w_el w1 b j) ∧ ∀ b k, w_fd ws b k = w_fd w1 b k := s1.2
  replace f13 := shm_585 f13
  have s2 : (∀ b j, w_el w1 b j = if b = v_ad (n_v vs 9) ∧ j = (v_iv (n_v vs 4)).toNat then v_iv (n_v vs 12) else w_el w2 b j) ∧ ∀ b k, w_fd w1 b k = w_fd w2 b k := s2.2
  replace f19 := shm_107 f19
  replace f22 := shm_1102 f22
  have q1 : n_v vs 1 = n_v vs 0 := f11.symm
  simp only [q1] at f1 f2 f22
  have cr_0_15 := fdq_255 hD hth r0
  have ar_0_16_1 : w_ar w1 (n_v vs 0) 16 = w_ar ws (n_v vs 0) 16 := congrArg v_ad (s1.2 _ _).symm
  have ar_0_16_2 : w_ar w2 (n_v vs 0) 16 = w_ar ws (n_v vs 0) 16 := by rw [← ar_0_16_1]; show v_ad (w_fd w2 _ _) = v_ad (w_fd w1 _ _); rw [s2.2]
  have cr_0_16 := fdq_91 hD hth r0
  have ad_9 : v_ad (n_v vs 9) = w_ar ws (n_v vs 0) 16 := congrArg v_ad f2
  have g1 : v_iv (n_v vs 12) = w_fi ws (n_v vs 0) 13 := congrArg v_iv f1
  simp only [ad_9] at f19
  have h19 : v_iv (n_v vs 10) = w_ei w2 (w_ar ws (n_v vs 0) 16) (v_iv (n_v vs 4)) := f19
  simp only [ar_0_16_2] at f22
  have fe_0_6_1 : w_fi ws (n_v vs 0) 6 = w_fi w1 (n_v vs 0) 6 := congrArg v_iv (s1.2 _ _)
  have fe_0_13_1 : w_fi ws (n_v vs 0) 13 = w_fi w1 (n_v vs 0) 13 := congrArg v_iv (s1.2 _ _)
  have fe_0_6_2 : w_fi w1 (n_v vs 0) 6 = w_fi w2 (n_v vs 0) 6 := congrArg v_iv (s2.2 _ _)
  have fe_0_13_2 : w_fi w1 (n_v vs 0) 13 = w_fi w2 (n_v vs 0) 13 := congrArg v_iv (s2.2 _ _)
  have hE_0_15_2 : ∀ j : Int, w_ei w1 (w_ar ws (n_v vs 0) 15) j = w_ei w2 (w_ar ws (n_v vs 0) 15) j := el_kp s2.1 r9 cr_0_15 (by decide)
  have hE_0_16_1 : ∀ j : Int, w_ei ws (w_ar ws (n_v vs 0) 16) j = w_ei w1 (w_ar ws (n_v vs 0) 16) j := el_kp s1.1 r13 cr_0_16 (by decide)
  have hE_0_16_2 : ∀ j : Int, 0 ≤ j → (j = v_iv (n_v vs 4) → w_ei w1 (w_ar ws (n_v vs 0) 16) j = v_iv (n_v vs 12)) ∧ (j ≠ v_iv (n_v vs 4) → w_ei w1 (w_ar ws (n_v vs 0) 16) j = w_ei w2 (w_ar ws (n_v vs 0) 16) j) := fun j hj => ⟨fun h => by unfold w_ei; rw [s2.1, if_pos ⟨ad_9.symm, by rw [h]⟩], fun h => by unfold w_ei; rw [s2.1, if_neg (fun e => h (by have := e.2; omega))]⟩
  have kz_0_6 := fdq_59 hD hth r0
  have kz_0_13 := fdq_253 hD hth r0
  have nf0 : fc_1 PRD (20, [1, 3, 20, 31, 32], [60, 2, 1, 552, 6, 13, 16]) ws (vs) := by
    refine ⟨nf_in hl rfl, sgq_1102 ?_⟩
    · show TFI (w_fi ws (n_v vs 1) 6) (w_fi ws (n_v vs 1) 13) (w_ei ws (w_ar ws (n_v vs 1) 16)) (v_iv (n_v vs 3)) (v_iv (n_v vs 20)) (v_iv (n_v vs 31)) (v_iv (n_v vs 32))
      rw [q1]
      exact vc_Ne_traceFaces_at_Ne_23_0 (v_iv (n_v vs 2)) (v_iv (n_v vs 3)) (v_iv (n_v vs 4)) (v_iv (n_v vs 5)) (v_iv (n_v vs 10)) (v_iv (n_v vs 12)) (v_iv (n_v vs 18)) (v_iv (n_v vs 20)) (v_iv (n_v vs 22)) (v_iv (n_v vs 31)) (v_iv (n_v vs 32)) (w_fi ws (n_v vs 0) 13) (w_fi ws (n_v vs 0) 6) (w_ei w2 (w_ar ws (n_v vs 0) 16)) (w_fi w2 (n_v vs 0) 6) (w_fi w2 (n_v vs 0) 13) (w_fi w1 (n_v vs 0) 6) (w_fi w1 (n_v vs 0) 13) (w_ei w1 (w_ar ws (n_v vs 0) 15)) (w_ei w2 (w_ar ws (n_v vs 0) 15)) (w_ei ws (w_ar ws (n_v vs 0) 16)) (w_ei w1 (w_ar ws (n_v vs 0) 16)) k2 k3 k4 k5 k10 k12 k18 k20 k22 k31 k32 g1 f4 f8 f10 f13 h19 f22 fe_0_6_1 fe_0_13_1 fe_0_6_2 fe_0_13_2 hE_0_15_2 hE_0_16_1 hE_0_16_2 kz_0_6 kz_0_13
  refine ⟨(fun _ h => (by cases h)), [], trivial, ?_, (fun _ h => (by cases h))⟩
  rw [List.append_nil]
  exact List.forall_mem_cons.mpr ⟨⟨show (20 : Nat) < 100 from by decide, nf0⟩, (fun _ h => (by cases h))⟩
def n_Ne_traceFaces_at_Ne_an : List an_T := [(17, [(0, (2, 0, 0, [5])), (1, (0, 0, 144, [])), (2, (0, 0, 144, []))], [], (0, 0), [(0, 0, 99983), (1, 3, 144), (0, 0, 100000), (0, 0, 0), (0, 0, 0)], [(4, 3, (Int.negSucc 999999999999), 143)], [((0, 13), (0, 0, 144, []))], [(2, 0, 0, [5])], 0, [], [(20, [1, 3, 2], [60, 2, 1, 551, 6, 13, 16]), (24, [0, 1], [])]), (55, [(0, (2, 0, 0, [5])), (1, (0, 0, 144, [])), (2, (0, 0, 143, [])), (3, (0, 0, 143, [])), (4, (0, 0, 144, []))], [], (0, 0), [(0, 0, 99983), (1, 3, 144), (0, 0, 99945), (1, 2, 144), (0, 0, 100000)], [(5, 2, (Int.negSucc 999999999999), 0)], [], [(2, 0, 0, [5])], 0, [], [(20, [1, 3, 2, 4, 5], [60, 2, 1, 552, 6, 13, 16]), (24, [0, 1], [])])]
def t_Ne_traceFaces_at_Ne_ct : ct_L := [(1, 84, e_Ne_endAt), (39, 64, e_jArr_fill1_v64)]
set_option maxRecDepth 100000 in
theorem c_Ne_traceFaces_at_Ne {l : Launch} {D : va_G} {kA : Nat → ClassId} (h_Ne_endAt : ct_ok PRD l D kA GG y_Ne_endAt z_Ne_endAt e_Ne_endAt) : ct_ok PRD l D kA GG y_Ne_traceFaces_at_Ne z_Ne_traceFaces_at_Ne e_Ne_traceFaces_at_Ne := chk_all_ok (FT := [(31, 5, 6), (34, 5, 7), (37, 5, 8), (46, 5, 11), (52, 5, 13), (55, 5, 14), (58, 5, 15), (61, 5, 16)]) (PT := [(52, 5, 13, .int)]) (CT := t_Ne_traceFaces_at_Ne_ct) (KT := []) (NT := []) (AN := n_Ne_traceFaces_at_Ne_an) (OT := [o_Ne_traceFaces_at_Ne_0, o_Ne_traceFaces_at_Ne_1, o_Ne_traceFaces_at_Ne_2, o_Ne_traceFaces_at_Ne_3, o_Ne_traceFaces_at_Ne_4, o_Ne_traceFaces_at_Ne_5, o_Ne_traceFaces_at_Ne_6, o_Ne_traceFaces_at_Ne_7, o_Ne_traceFaces_at_Ne_8, o_Ne_traceFaces_at_Ne_9, o_Ne_traceFaces_at_Ne_10, o_Ne_traceFaces_at_Ne_11, o_Ne_traceFaces_at_Ne_12, o_Ne_traceFaces_at_Ne_13, o_Ne_traceFaces_at_Ne_14, o_Ne_traceFaces_at_Ne_15, o_Ne_traceFaces_at_Ne_16, o_Ne_traceFaces_at_Ne_17, o_Ne_traceFaces_at_Ne_18, o_Ne_traceFaces_at_Ne_19, o_Ne_traceFaces_at_Ne_20, o_Ne_traceFaces_at_Ne_21, o_Ne_traceFaces_at_Ne_22, o_Ne_traceFaces_at_Ne_23]) 5 796 (List.forall_mem_cons.mpr ⟨oo_Ne_traceFaces_at_Ne_0, List.forall_mem_cons.mpr ⟨oo_Ne_traceFaces_at_Ne_1, List.forall_mem_cons.mpr ⟨oo_Ne_traceFaces_at_Ne_2, List.forall_mem_cons.mpr ⟨oo_Ne_traceFaces_at_Ne_3, List.forall_mem_cons.mpr ⟨oo_Ne_traceFaces_at_Ne_4, List.forall_mem_cons.mpr ⟨oo_Ne_traceFaces_at_Ne_5, List.forall_mem_cons.mpr ⟨oo_Ne_traceFaces_at_Ne_6, List.forall_mem_cons.mpr ⟨oo_Ne_traceFaces_at_Ne_7, List.forall_mem_cons.mpr ⟨oo_Ne_traceFaces_at_Ne_8, List.forall_mem_cons.mpr ⟨oo_Ne_traceFaces_at_Ne_9, List.forall_mem_cons.mpr ⟨oo_Ne_traceFaces_at_Ne_10, List.forall_mem_cons.mpr ⟨oo_Ne_traceFaces_at_Ne_11, List.forall_mem_cons.mpr ⟨oo_Ne_traceFaces_at_Ne_12, List.forall_mem_cons.mpr ⟨oo_Ne_traceFaces_at_Ne_13, List.forall_mem_cons.mpr ⟨oo_Ne_traceFaces_at_Ne_14, List.forall_mem_cons.mpr ⟨oo_Ne_traceFaces_at_Ne_15, List.forall_mem_cons.mpr ⟨oo_Ne_traceFaces_at_Ne_16, List.forall_mem_cons.mpr ⟨oo_Ne_traceFaces_at_Ne_17, List.forall_mem_cons.mpr ⟨oo_Ne_traceFaces_at_Ne_18, List.forall_mem_cons.mpr ⟨oo_Ne_traceFaces_at_Ne_19, List.forall_mem_cons.mpr ⟨oo_Ne_traceFaces_at_Ne_20, List.forall_mem_cons.mpr ⟨oo_Ne_traceFaces_at_Ne_21, List.forall_mem_cons.mpr ⟨oo_Ne_traceFaces_at_Ne_22, List.forall_mem_cons.mpr ⟨oo_Ne_traceFaces_at_Ne_23, List.forall_mem_nil _⟩⟩⟩⟩⟩⟩⟩⟩⟩⟩⟩⟩⟩⟩⟩⟩⟩⟩⟩⟩⟩⟩⟩⟩) (by decide +kernel) ⟨List.forall_mem_cons.mpr ⟨gf_Ne_31, List.forall_mem_cons.mpr ⟨gf_Ne_34, List.forall_mem_cons.mpr ⟨gf_Ne_37, List.forall_mem_cons.mpr ⟨gf_Ne_46, List.forall_mem_cons.mpr ⟨gf_Ne_52, List.forall_mem_cons.mpr ⟨gf_Ne_55, List.forall_mem_cons.mpr ⟨gf_Ne_58, List.forall_mem_cons.mpr ⟨gf_Ne_61, List.forall_mem_nil _⟩⟩⟩⟩⟩⟩⟩⟩, List.forall_mem_cons.mpr ⟨pf_Ne_52, List.forall_mem_nil _⟩, List.forall_mem_cons.mpr ⟨cl_virtual (y := y_Ne_endAt) (ci := 5) rfl rfl ⟨_, _, rfl⟩ (by decide +kernel) h_Ne_endAt wm_1138 wm_6 wm_1151 wm_1136 wm_1137 ⟨by decide, by decide, by decide +kernel⟩ (by decide), List.forall_mem_cons.mpr ⟨cl_static (y := y_jArr_fill1) c_jArr_fill1_v64 wm_55 wm_4 wm_1061 wm_54 ⟨by decide, by decide, by decide +kernel⟩ (by decide), List.forall_mem_nil _⟩⟩, List.forall_mem_nil _, List.forall_mem_nil _, GG_pl⟩ (by decide +kernel)

set_option maxHeartbeats 4000000 in
theorem vc_Ne_traceFaces_at_Np_0_0 (x1 : Int) (x2 : Int) (x4 : Int) (x5 : Int) (faces_0 : Int) (faceOf_0 : Int → Int) (edges_0 : Int) (k1 : 0 ≤ x1 ∧ x1 ≤ 0) (k2 : 0 ≤ x2 ∧ x2 ≤ 0) (k4 : (-1) ≤ x4 ∧ x4 ≤ (-1)) (k5 : 0 ≤ x5 ∧ x5 ≤ 0) (g1 : x1 = faces_0) (hT2 : ∀ j : Int, 0 ≤ j → j < x4 + 145 → (-1) ≤ faceOf_0 j ∧ faceOf_0 j ≤ (-1)) (kz_0_6 : 0 ≤ edges_0 ∧ edges_0 ≤ 72) (kz_0_13 : 0 ≤ faces_0 ∧ faces_0 ≤ 144) : TFO (edges_0) (faces_0) (faceOf_0) (x5) (x2) := by
  first
    | exact tfo_start (fun w a b => by first | (have q := hT0 w a (by omega); omega) | (have q := hT1 w a (by omega); omega) | (have q := hT2 w a (by omega); omega) | (have q := hT3 w a (by omega); omega) | (have q := hT4 w a (by omega); omega)) (by omega) (by omega) (by omega)
    | (skip; exact tfo_skip ‹TFO _ _ _ _ _› (by omega) (by omega))
    | (skip; exact (tfo_next ‹TFI _ _ _ _ _ _ _› (by first | (left; omega) | (right; omega)) (by omega) (by omega)).1)
  
def o_Ne_traceFaces_at_Np_0 : or_T := (17, 6, [(0, (2, 0, 0, [149])), (1, (0, 0, 0, [])), (2, (0, 0, 0, [])), (4, (0, -1, -1, [])), (5, (0, 0, 0, []))], [(9, [3, 0], [16]), (9, [1, 0], [13]), (20, [3, 4], [8, -1, -1, 145])], [], [], [(20, [0, 5, 2], [60, 2, 1, 551, 6, 13, 16]), (24, [0, 0], [])], [], [])
theorem oo_Ne_traceFaces_at_Np_0 {kA : Nat → ClassId} : or_ok PRD kA GG o_Ne_traceFaces_at_Np_0 := by
  refine or_mk fun A ta ws vs hD hth hl => ?_
  intro t0 r0 t1 k1 t2 k2 t4 k4 t5 k5 f0 f1 f2
  replace f0 := shm_176 f0
  replace f1 := shm_361 f1
  replace f2 := shm_31 f2
  have ad_3 : v_ad (n_v vs 3) = w_ar ws (n_v vs 0) 16 := congrArg v_ad f0
  have g1 : v_iv (n_v vs 1) = w_fi ws (n_v vs 0) 13 := congrArg v_iv f1
  have hT2 : ∀ j : Int, 0 ≤ j → j < v_iv (n_v vs 4) + 145 → (-1) ≤ w_ei ws (w_ar ws (n_v vs 0) 16) j ∧ w_ei ws (w_ar ws (n_v vs 0) 16) j ≤ (-1) := fun j h0 h1 => by have h2 := f2 j.toNat (by omega); rw [ad_3] at h2; exact h2
  have kz_0_6 := fdq_62 hD hth r0
  have kz_0_13 := fdq_257 hD hth r0
  have nf0 : fc_1 PRD (20, [0, 5, 2], [60, 2, 1, 551, 6, 13, 16]) ws (vs) := ⟨nf_in hl rfl, sgq_1099 (vc_Ne_traceFaces_at_Np_0_0 (v_iv (n_v vs 1)) (v_iv (n_v vs 2)) (v_iv (n_v vs 4)) (v_iv (n_v vs 5)) (w_fi ws (n_v vs 0) 13) (w_ei ws (w_ar ws (n_v vs 0) 16)) (w_fi ws (n_v vs 0) 6) k1 k2 k4 k5 g1 hT2 kz_0_6 kz_0_13)⟩
  have nf1 : fc_1 PRD (24, [0, 0], []) ws (vs) := by
    refine ⟨nf_in hl rfl, sgq_1 ?_⟩
    · show n_v vs 0 = n_v vs 0
      first | rfl | simp only [true_and]
  refine ⟨(fun _ h => (by cases h)), [], trivial, ?_, (fun _ h => (by cases h))⟩
  rw [List.append_nil]
  exact List.forall_mem_cons.mpr ⟨⟨show (20 : Nat) < 100 from by decide, nf0⟩, List.forall_mem_cons.mpr ⟨⟨show (24 : Nat) < 100 from by decide, nf1⟩, (fun _ h => (by cases h))⟩⟩
set_option maxHeartbeats 4000000 in
theorem vc_Ne_traceFaces_at_Np_1_0 (x2 : Int) (x3 : Int) (x6 : Int) (x7 : Int) (edges_0 : Int) (faces_0 : Int) (faceOf_0 : Int → Int) (faceOf_1 : Int → Int) (edges_1 : Int) (faces_1 : Int) (k2 : 0 ≤ x2 ∧ x2 ≤ 144) (k3 : 0 ≤ x3 ∧ x3 ≤ 144) (k6 : 0 ≤ x6 ∧ x6 ≤ 72) (k7 : 0 ≤ x7 ∧ x7 ≤ 144) (d0 : x7 + 0 ≤ x3 ∧ x3 ≤ x7 + 4294967296) (g1 : x6 = edges_0) (f7 : x7 = 2 * x6) (f8 : TFO (edges_1) (faces_1) (faceOf_1) (x3) (x2)) (fe_0_6_1 : edges_0 = edges_1) (fe_0_13_1 : faces_0 = faces_1) (hE_0_16_1 : ∀ j : Int, faceOf_0 j = faceOf_1 j) (kz_0_6 : 0 ≤ edges_0 ∧ edges_0 ≤ 72) (kz_0_13 : 0 ≤ faces_0 ∧ faces_0 ≤ 144) : FAD (edges_0) (faceOf_0) := by
  subst fe_0_6_1
  subst fe_0_13_1
  have e_hE_0_16_1 := funext hE_0_16_1; subst e_hE_0_16_1
  exact fad_of ‹TFO _ _ _ _ _› (by omega)
def o_Ne_traceFaces_at_Np_1 : or_T := (194, 9, [(0, (2, 0, 0, [149])), (2, (0, 0, 144, [])), (3, (0, 0, 144, [])), (5, (0, 2, 2, [])), (6, (0, 0, 72, [])), (7, (0, 0, 144, [])), (8, (2, 0, 0, [146]))], [(9, [6, 1], [6]), (24, [0, 1], []), (100, [8, 4, 2], []), (3, [7, 5, 6], []), (20, [1, 3, 2], [60, 2, 1, 551, 6, 13, 16])], [], [], [(20, [0], [60, 1, 1, 553, 6, 16])], [], [(3, 7, 0, 4294967296)])
theorem oo_Ne_traceFaces_at_Np_1 {kA : Nat → ClassId} : or_ok PRD kA GG o_Ne_traceFaces_at_Np_1 := by
  refine or_mk fun A ta ws vs hD hth hl => ?_
  intro t0 r0 t2 k2 t3 k3 t5 k5 t6 k6 t7 k7 t8 r8 d0 f1 f4 ta1 w1 le1 s1 f7 f8
  replace f1 := shm_111 f1
  replace f4 := shm_5 f4
  have s1 : (∀ b j, w_el ws b j = if b = v_ad (n_v vs 8) ∧ j = (v_iv (n_v vs 4)).toNat then v_iv (n_v vs 2) else w_el w1 b j) ∧ ∀ b k, w_fd ws b k = w_fd w1 b k := s1.2
  replace f7 := shm_38 f7
  rw [show v_iv (n_v vs 5) = 2 from by omega] at f7
  replace f8 := shm_1099 f8
  have q1 : n_v vs 1 = n_v vs 0 := f4.symm
  simp only [q1] at f1 f8
  have ar_0_16_1 : w_ar w1 (n_v vs 0) 16 = w_ar ws (n_v vs 0) 16 := congrArg v_ad (s1.2 _ _).symm
  have cr_0_16 := fdq_256 hD hth r0
  have g1 : v_iv (n_v vs 6) = w_fi ws (n_v vs 0) 6 := congrArg v_iv f1
  simp only [ar_0_16_1] at f8
  have fe_0_6_1 : w_fi ws (n_v vs 0) 6 = w_fi w1 (n_v vs 0) 6 := congrArg v_iv (s1.2 _ _)
  have fe_0_13_1 : w_fi ws (n_v vs 0) 13 = w_fi w1 (n_v vs 0) 13 := congrArg v_iv (s1.2 _ _)
  have hE_0_16_1 : ∀ j : Int, w_ei ws (w_ar ws (n_v vs 0) 16) j = w_ei w1 (w_ar ws (n_v vs 0) 16) j := el_kp s1.1 r8 cr_0_16 (by decide)
  have kz_0_6 := fdq_62 hD hth r0
  have kz_0_13 := fdq_257 hD hth r0
  have nf0 : fc_1 PRD (20, [0], [60, 1, 1, 553, 6, 16]) ws (vs) := ⟨nf_in hl rfl, sgq_1100 (vc_Ne_traceFaces_at_Np_1_0 (v_iv (n_v vs 2)) (v_iv (n_v vs 3)) (v_iv (n_v vs 6)) (v_iv (n_v vs 7)) (w_fi ws (n_v vs 0) 6) (w_fi ws (n_v vs 0) 13) (w_ei ws (w_ar ws (n_v vs 0) 16)) (w_ei w1 (w_ar ws (n_v vs 0) 16)) (w_fi w1 (n_v vs 0) 6) (w_fi w1 (n_v vs 0) 13) k2 k3 k6 k7 d0 g1 f7 f8 fe_0_6_1 fe_0_13_1 hE_0_16_1 kz_0_6 kz_0_13)⟩
  refine ⟨(fun _ h => (by cases h)), [], trivial, ?_, (fun _ h => (by cases h))⟩
  rw [List.append_nil]
  exact List.forall_mem_cons.mpr ⟨⟨show (20 : Nat) < 100 from by decide, nf0⟩, (fun _ h => (by cases h))⟩
set_option maxHeartbeats 4000000 in
theorem vc_Ne_traceFaces_at_Np_2_r0 (x2 : Int) (x3 : Int) (x4 : Int) (x9 : Int) (faces_0 : Int) (faceOf_0 : Int → Int) (edges_0 : Int) (k2 : 0 ≤ x2 ∧ x2 ≤ 144) (k3 : 0 ≤ x3 ∧ x3 ≤ 143) (k9 : (-1) ≤ x9 ∧ x9 ≤ (-1)) (h2 : x9 = faceOf_0 (x3)) (f7 : TFO (edges_0) (faces_0) (faceOf_0) (x3) (x2)) (kz_0_6 : 0 ≤ edges_0 ∧ edges_0 ≤ 72) (kz_0_13 : 0 ≤ faces_0 ∧ faces_0 ≤ 144) : 0 ≤ x2 ∧ x2 ≤ 143 := by
  first
    | omega
    | (have q := tfo_low ‹TFO _ _ _ _ _›; omega)
    | (skip; (first | subst h2 | skip); have q := tfc_lt (‹TFO _ _ _ _ _›).2.2.2.1 (e := x3) (by omega) (by omega) (by omega); have q2 := tfo_low ‹TFO _ _ _ _ _›; omega)
    | (skip; (first | subst h2 | skip); have q := (tfo_next (faces_zq := faces_0 + 1) (st_zq := x3 + 1) ‹TFI _ _ _ _ _ _ _› (by first | (left; omega) | (right; omega)) rfl rfl).2; have q2 := (‹TFI _ _ _ _ _ _ _›).2.2.1; omega)
    | (skip; (first | subst h2 | skip); have q := tfi_low ‹TFI _ _ _ _ _ _ _› (by omega) (by omega) (by omega); omega)
    | (have q := xor_one (x := x29) (a := x4) (b := x28) (by assumption) (by omega) (by omega) (by omega) (by omega) (by omega); split at q <;> omega)
  
def o_Ne_traceFaces_at_Np_2 : or_T := (49, 12, [(0, (2, 0, 0, [149])), (1, (2, 0, 0, [149])), (2, (0, 0, 144, [])), (3, (0, 0, 143, [])), (4, (0, 0, 144, [])), (5, (0, 2, 2, [])), (6, (0, 0, 72, [])), (7, (0, 1, 144, [])), (8, (2, 0, 0, [148])), (9, (0, -1, -1, [])), (10, (0, -1, -1, []))], [(9, [4, 1], [13]), (7, [9, 10], [0]), (10, [9, 8, 3], []), (9, [8, 1], [16]), (7, [3, 7], [2]), (3, [7, 5, 6], []), (9, [6, 1], [6]), (20, [1, 3, 2], [60, 2, 1, 551, 6, 13, 16]), (24, [0, 1], [])], [(2, (0, 0, 143, []))], [], [], [], [(3, 7, -4294967296, -1), (4, 3, -4294967296, 143)])
theorem oo_Ne_traceFaces_at_Np_2 {kA : Nat → ClassId} : or_ok PRD kA GG o_Ne_traceFaces_at_Np_2 := by
  refine or_mk fun A ta ws vs hD hth hl => ?_
  intro t0 r0 t1 r1 t2 k2 t3 k3 t4 k4 t5 k5 t6 k6 t7 k7 t8 r8 t9 k9 t10 k10 d0 d1 f0 f1 f2 f3 f4 f5 f6 f7 f8
  replace f2 := shm_107 f2
  replace f3 := shm_176 f3
  replace f7 := shm_1099 f7
  replace f8 := shm_5 f8
  have q1 : n_v vs 1 = n_v vs 0 := f8.symm
  simp only [q1] at f3 f7
  have ad_8 : v_ad (n_v vs 8) = w_ar ws (n_v vs 0) 16 := congrArg v_ad f3
  simp only [ad_8] at f2
  have h2 : v_iv (n_v vs 9) = w_ei ws (w_ar ws (n_v vs 0) 16) (v_iv (n_v vs 3)) := f2
  have kz_0_6 := fdq_62 hD hth r0
  have kz_0_13 := fdq_257 hD hth r0
  have hrf0 : 0 ≤ v_iv (n_v vs 2) ∧ v_iv (n_v vs 2) ≤ 143 := vc_Ne_traceFaces_at_Np_2_r0 (v_iv (n_v vs 2)) (v_iv (n_v vs 3)) (v_iv (n_v vs 4)) (v_iv (n_v vs 9)) (w_fi ws (n_v vs 0) 13) (w_ei ws (w_ar ws (n_v vs 0) 16)) (w_fi ws (n_v vs 0) 6) k2 k3 k9 h2 f7 kz_0_6 kz_0_13
  have rf2 : tv_ok ta (0, 0, 143, []) (n_v vs 2) := tv_in t2 (by first | omega | grind) (by first | omega | grind)
  refine ⟨List.forall_mem_cons.mpr ⟨rf2, (fun _ h => (by cases h))⟩, [], trivial, ?_, (fun _ h => (by cases h))⟩
  rw [List.append_nil]
  exact (fun _ h => (by cases h))
set_option maxHeartbeats 4000000 in
theorem vc_Ne_traceFaces_at_Np_3_0 (x2 : Int) (x3 : Int) (x6 : Int) (x7 : Int) (x9 : Int) (x12 : Int) (edges_0 : Int) (faces_0 : Int) (faceOf_0 : Int → Int) (faceOf_1 : Int → Int) (edges_1 : Int) (faces_1 : Int) (k2 : 0 ≤ x2 ∧ x2 ≤ 143) (k3 : 0 ≤ x3 ∧ x3 ≤ 143) (k6 : 0 ≤ x6 ∧ x6 ≤ 72) (k7 : 1 ≤ x7 ∧ x7 ≤ 144) (k9 : (-1) ≤ x9 ∧ x9 ≤ (-1)) (k12 : 0 ≤ x12 ∧ x12 ≤ 0) (d0 : x7 + (-4294967296) ≤ x3 ∧ x3 ≤ x7 + (-1)) (g2 : x6 = edges_0) (h8 : x9 = faceOf_1 (x3)) (f10 : x7 = 2 * x6) (f11 : TFO (edges_1) (faces_1) (faceOf_1) (x3) (x2)) (fe_0_6_1 : edges_0 = edges_1) (fe_0_13_1 : faces_0 = faces_1) (hE_0_16_1 : ∀ j : Int, faceOf_0 j = faceOf_1 j) (kz_0_6 : 0 ≤ edges_0 ∧ edges_0 ≤ 72) (kz_0_13 : 0 ≤ faces_0 ∧ faces_0 ≤ 144) : TFI (edges_0) (faces_0) (faceOf_0) (x3) (x2) (x3) (x12) := by
  subst fe_0_6_1
  subst fe_0_13_1
  have e_hE_0_16_1 := funext hE_0_16_1; subst e_hE_0_16_1
  first
    | (skip; (first | subst h8 | skip); exact tfi_start ‹TFO _ _ _ _ _› (by omega) (by omega) (by omega) (by omega))
    | (skip; (first | subst h8 | skip); exact tfi_step ‹TFI _ _ _ _ _ _ _› (by assumption) rfl (by omega) (by omega) (by omega) (by omega) (by omega) (by omega))
  
def o_Ne_traceFaces_at_Np_3 : or_T := (55, 13, [(0, (2, 0, 0, [149])), (2, (0, 0, 143, [])), (3, (0, 0, 143, [])), (5, (0, 2, 2, [])), (6, (0, 0, 72, [])), (7, (0, 1, 144, [])), (9, (0, -1, -1, [])), (11, (2, 0, 0, [146])), (12, (0, 0, 0, []))], [(9, [8, 1], [16]), (9, [6, 1], [6]), (24, [0, 1], []), (100, [11, 4, 2], []), (10, [9, 8, 3], []), (3, [7, 5, 6], []), (20, [1, 3, 2], [60, 2, 1, 551, 6, 13, 16])], [], [], [(20, [1, 3, 2, 3, 12], [60, 2, 1, 552, 6, 13, 16])], [], [(3, 7, -4294967296, -1)])
theorem oo_Ne_traceFaces_at_Np_3 {kA : Nat → ClassId} : or_ok PRD kA GG o_Ne_traceFaces_at_Np_3 := by
  refine or_mk fun A ta ws vs hD hth hl => ?_
  intro t0 r0 t2 k2 t3 k3 t5 k5 t6 k6 t7 k7 t9 k9 t11 r11 t12 k12 d0 f1 f2 f5 ta1 w1 le1 s1 f8 f10 f11
  replace f1 := shm_176 f1
  replace f2 := shm_111 f2
  replace f5 := shm_5 f5
  have s1 : (∀ b j, w_el ws b j = if b = v_ad (n_v vs 11) ∧ j = (v_iv (n_v vs 4)).toNat then v_iv (n_v vs 2) else w_el w1 b j) ∧ ∀ b k, w_fd ws b k = w_fd w1 b k := s1.2
  replace f8 := shm_107 f8
  replace f10 := shm_38 f10
  rw [show v_iv (n_v vs 5) = 2 from by omega] at f10
  replace f11 := shm_1099 f11
  have q1 : n_v vs 1 = n_v vs 0 := f5.symm
  simp only [q1] at f1 f2 f11
  have ar_0_16_1 : w_ar w1 (n_v vs 0) 16 = w_ar ws (n_v vs 0) 16 := congrArg v_ad (s1.2 _ _).symm
  have cr_0_16 := fdq_256 hD hth r0
  have ad_8 : v_ad (n_v vs 8) = w_ar ws (n_v vs 0) 16 := congrArg v_ad f1
  have g2 : v_iv (n_v vs 6) = w_fi ws (n_v vs 0) 6 := congrArg v_iv f2
  simp only [ad_8] at f8
  have h8 : v_iv (n_v vs 9) = w_ei w1 (w_ar ws (n_v vs 0) 16) (v_iv (n_v vs 3)) := f8
  simp only [ar_0_16_1] at f11
  have fe_0_6_1 : w_fi ws (n_v vs 0) 6 = w_fi w1 (n_v vs 0) 6 := congrArg v_iv (s1.2 _ _)
  have fe_0_13_1 : w_fi ws (n_v vs 0) 13 = w_fi w1 (n_v vs 0) 13 := congrArg v_iv (s1.2 _ _)
  have hE_0_16_1 : ∀ j : Int, w_ei ws (w_ar ws (n_v vs 0) 16) j = w_ei w1 (w_ar ws (n_v vs 0) 16) j := el_kp s1.1 r11 cr_0_16 (by decide)
  have kz_0_6 := fdq_62 hD hth r0
  have kz_0_13 := fdq_257 hD hth r0
  have nf0 : fc_1 PRD (20, [1, 3, 2, 3, 12], [60, 2, 1, 552, 6, 13, 16]) ws (vs) := by
    refine ⟨nf_in hl rfl, sgq_1101 ?_⟩
    · show TFI (w_fi ws (n_v vs 1) 6) (w_fi ws (n_v vs 1) 13) (w_ei ws (w_ar ws (n_v vs 1) 16)) (v_iv (n_v vs 3)) (v_iv (n_v vs 2)) (v_iv (n_v vs 3)) (v_iv (n_v vs 12))
      rw [q1]
      exact vc_Ne_traceFaces_at_Np_3_0 (v_iv (n_v vs 2)) (v_iv (n_v vs 3)) (v_iv (n_v vs 6)) (v_iv (n_v vs 7)) (v_iv (n_v vs 9)) (v_iv (n_v vs 12)) (w_fi ws (n_v vs 0) 6) (w_fi ws (n_v vs 0) 13) (w_ei ws (w_ar ws (n_v vs 0) 16)) (w_ei w1 (w_ar ws (n_v vs 0) 16)) (w_fi w1 (n_v vs 0) 6) (w_fi w1 (n_v vs 0) 13) k2 k3 k6 k7 k9 k12 d0 g2 h8 f10 f11 fe_0_6_1 fe_0_13_1 hE_0_16_1 kz_0_6 kz_0_13
  refine ⟨(fun _ h => (by cases h)), [], trivial, ?_, (fun _ h => (by cases h))⟩
  rw [List.append_nil]
  exact List.forall_mem_cons.mpr ⟨⟨show (20 : Nat) < 100 from by decide, nf0⟩, (fun _ h => (by cases h))⟩
set_option maxHeartbeats 4000000 in
theorem vc_Ne_traceFaces_at_Np_4_0 (x2 : Int) (x3 : Int) (x9 : Int) (x11 : Int) (faces_0 : Int) (faceOf_0 : Int → Int) (edges_0 : Int) (k2 : 0 ≤ x2 ∧ x2 ≤ 144) (k3 : 0 ≤ x3 ∧ x3 ≤ 143) (k9 : 0 ≤ x9 ∧ x9 ≤ 143) (k11 : 1 ≤ x11 ∧ x11 ≤ 144) (f1 : x11 = x3 + 1) (h3 : x9 = faceOf_0 (x3)) (f8 : TFO (edges_0) (faces_0) (faceOf_0) (x3) (x2)) (kz_0_6 : 0 ≤ edges_0 ∧ edges_0 ≤ 72) (kz_0_13 : 0 ≤ faces_0 ∧ faces_0 ≤ 144) : TFO (edges_0) (faces_0) (faceOf_0) (x11) (x2) := by
  first
    | exact tfo_start (fun w a b => by first | (have q := hT0 w a (by omega); omega) | (have q := hT1 w a (by omega); omega) | (have q := hT2 w a (by omega); omega) | (have q := hT3 w a (by omega); omega) | (have q := hT4 w a (by omega); omega)) (by omega) (by omega) (by omega)
    | (skip; (first | subst h3 | skip); exact tfo_skip ‹TFO _ _ _ _ _› (by omega) (by omega))
    | (skip; (first | subst h3 | skip); exact (tfo_next ‹TFI _ _ _ _ _ _ _› (by first | (left; omega) | (right; omega)) (by omega) (by omega)).1)
  
def o_Ne_traceFaces_at_Np_4 : or_T := (17, 12, [(0, (2, 0, 0, [149])), (2, (0, 0, 144, [])), (3, (0, 0, 143, [])), (9, (0, 0, 143, [])), (11, (0, 1, 144, []))], [(6, [11, 3], [1]), (10, [9, 8, 3], []), (9, [8, 1], [16]), (20, [1, 3, 2], [60, 2, 1, 551, 6, 13, 16]), (24, [0, 1], [])], [], [], [(20, [1, 11, 2], [60, 2, 1, 551, 6, 13, 16])], [], [])
theorem oo_Ne_traceFaces_at_Np_4 {kA : Nat → ClassId} : or_ok PRD kA GG o_Ne_traceFaces_at_Np_4 := by
  refine or_mk fun A ta ws vs hD hth hl => ?_
  intro t0 r0 t2 k2 t3 k3 t9 k9 t11 k11 f1 f3 f4 f8 f9
  replace f1 := shm_4 f1
  replace f3 := shm_107 f3
  replace f4 := shm_176 f4
  replace f8 := shm_1099 f8
  replace f9 := shm_5 f9
  have q1 : n_v vs 1 = n_v vs 0 := f9.symm
  simp only [q1] at f4 f8
  have ad_8 : v_ad (n_v vs 8) = w_ar ws (n_v vs 0) 16 := congrArg v_ad f4
  simp only [ad_8] at f3
  have h3 : v_iv (n_v vs 9) = w_ei ws (w_ar ws (n_v vs 0) 16) (v_iv (n_v vs 3)) := f3
  have kz_0_6 := fdq_62 hD hth r0
  have kz_0_13 := fdq_257 hD hth r0
  have nf0 : fc_1 PRD (20, [1, 11, 2], [60, 2, 1, 551, 6, 13, 16]) ws (vs) := by
    refine ⟨nf_in hl rfl, sgq_1099 ?_⟩
    · show TFO (w_fi ws (n_v vs 1) 6) (w_fi ws (n_v vs 1) 13) (w_ei ws (w_ar ws (n_v vs 1) 16)) (v_iv (n_v vs 11)) (v_iv (n_v vs 2))
      rw [q1]
      exact vc_Ne_traceFaces_at_Np_4_0 (v_iv (n_v vs 2)) (v_iv (n_v vs 3)) (v_iv (n_v vs 9)) (v_iv (n_v vs 11)) (w_fi ws (n_v vs 0) 13) (w_ei ws (w_ar ws (n_v vs 0) 16)) (w_fi ws (n_v vs 0) 6) k2 k3 k9 k11 f1 h3 f8 kz_0_6 kz_0_13
  refine ⟨(fun _ h => (by cases h)), [], trivial, ?_, (fun _ h => (by cases h))⟩
  rw [List.append_nil]
  exact List.forall_mem_cons.mpr ⟨⟨show (20 : Nat) < 100 from by decide, nf0⟩, (fun _ h => (by cases h))⟩
set_option maxHeartbeats 4000000 in
theorem vc_Ne_traceFaces_at_Np_5_r0 (x2 : Int) (x3 : Int) (x4 : Int) (x5 : Int) (x7 : Int) (x8 : Int) (x9 : Int) (x11 : Int) (faces_0 : Int) (edges_0 : Int) (faceOf_0 : Int → Int) (k2 : 0 ≤ x2 ∧ x2 ≤ 144) (k3 : 0 ≤ x3 ∧ x3 ≤ 143) (k4 : 0 ≤ x4 ∧ x4 ≤ 143) (k5 : 0 ≤ x5 ∧ x5 ≤ 144) (k7 : 0 ≤ x7 ∧ x7 ≤ 72) (k8 : 0 ≤ x8 ∧ x8 ≤ 144) (k9 : 0 ≤ x9 ∧ x9 ≤ 144) (k11 : 1 ≤ x11 ∧ x11 ≤ 145) (d0 : x9 + 1 ≤ x11 ∧ x11 ≤ x9 + 1) (d1 : x8 + 0 ≤ x5 ∧ x5 ≤ x8 + 4294967296) (g1 : x9 = faces_0) (f3 : x8 = 2 * x7) (g4 : x7 = edges_0) (f5 : TFI (edges_0) (faces_0) (faceOf_0) (x3) (x2) (x4) (x5)) (kz_0_6 : 0 ≤ edges_0 ∧ edges_0 ≤ 72) (kz_0_13 : 0 ≤ faces_0 ∧ faces_0 ≤ 144) : 1 ≤ x11 ∧ x11 ≤ 144 := by
  first
    | omega
    | (have q := tfo_low ‹TFO _ _ _ _ _›; omega)
    | (skip; have q := tfc_lt (‹TFO _ _ _ _ _›).2.2.2.1 (e := x3) (by omega) (by omega) (by omega); have q2 := tfo_low ‹TFO _ _ _ _ _›; omega)
    | (skip; have q := (tfo_next (faces_zq := faces_0 + 1) (st_zq := x3 + 1) ‹TFI _ _ _ _ _ _ _› (by first | (left; omega) | (right; omega)) rfl rfl).2; have q2 := (‹TFI _ _ _ _ _ _ _›).2.2.1; omega)
    | (skip; have q := tfi_low ‹TFI _ _ _ _ _ _ _› (by omega) (by omega) (by omega); omega)
    | (have q := xor_one (x := x29) (a := x4) (b := x28) (by assumption) (by omega) (by omega) (by omega) (by omega) (by omega); split at q <;> omega)
  
def o_Ne_traceFaces_at_Np_5 : or_T := (175, 12, [(0, (2, 0, 0, [149])), (1, (2, 0, 0, [149])), (2, (0, 0, 144, [])), (3, (0, 0, 143, [])), (4, (0, 0, 143, [])), (5, (0, 0, 144, [])), (6, (0, 2, 2, [])), (7, (0, 0, 72, [])), (8, (0, 0, 144, [])), (9, (0, 0, 144, [])), (10, (0, 1, 1, [])), (11, (0, 1, 145, []))], [(1, [11, 9, 10], []), (9, [9, 1], [13]), (7, [5, 8], [3]), (3, [8, 6, 7], []), (9, [7, 1], [6]), (20, [1, 3, 2, 4, 5], [60, 2, 1, 552, 6, 13, 16]), (24, [0, 1], [])], [(11, (0, 1, 144, []))], [], [], [], [(11, 9, 1, 1), (5, 8, 0, 4294967296), (5, 2, -4294967296, 0)])
theorem oo_Ne_traceFaces_at_Np_5 {kA : Nat → ClassId} : or_ok PRD kA GG o_Ne_traceFaces_at_Np_5 := by
  refine or_mk fun A ta ws vs hD hth hl => ?_
  intro t0 r0 t1 r1 t2 k2 t3 k3 t4 k4 t5 k5 t6 k6 t7 k7 t8 k8 t9 k9 t10 k10 t11 k11 d0 d1 d2 f0 f1 f2 f3 f4 f5 f6
  replace f1 := shm_361 f1
  replace f3 := shm_38 f3
  rw [show v_iv (n_v vs 6) = 2 from by omega] at f3
  replace f4 := shm_111 f4
  replace f5 := shm_1102 f5
  replace f6 := shm_5 f6
  have q1 : n_v vs 1 = n_v vs 0 := f6.symm
  simp only [q1] at f1 f4 f5
  have g1 : v_iv (n_v vs 9) = w_fi ws (n_v vs 0) 13 := congrArg v_iv f1
  have g4 : v_iv (n_v vs 7) = w_fi ws (n_v vs 0) 6 := congrArg v_iv f4
  have kz_0_6 := fdq_62 hD hth r0
  have kz_0_13 := fdq_257 hD hth r0
  have hrf0 : 1 ≤ v_iv (n_v vs 11) ∧ v_iv (n_v vs 11) ≤ 144 := vc_Ne_traceFaces_at_Np_5_r0 (v_iv (n_v vs 2)) (v_iv (n_v vs 3)) (v_iv (n_v vs 4)) (v_iv (n_v vs 5)) (v_iv (n_v vs 7)) (v_iv (n_v vs 8)) (v_iv (n_v vs 9)) (v_iv (n_v vs 11)) (w_fi ws (n_v vs 0) 13) (w_fi ws (n_v vs 0) 6) (w_ei ws (w_ar ws (n_v vs 0) 16)) k2 k3 k4 k5 k7 k8 k9 k11 d0 d1 g1 f3 g4 f5 kz_0_6 kz_0_13
  have rf11 : tv_ok ta (0, 1, 144, []) (n_v vs 11) := tv_in t11 (by first | omega | grind) (by first | omega | grind)
  refine ⟨List.forall_mem_cons.mpr ⟨rf11, (fun _ h => (by cases h))⟩, [], trivial, ?_, (fun _ h => (by cases h))⟩
  rw [List.append_nil]
  exact (fun _ h => (by cases h))
set_option maxHeartbeats 4000000 in
theorem vc_Ne_traceFaces_at_Np_6_0 (x2 : Int) (x3 : Int) (x4 : Int) (x5 : Int) (x7 : Int) (x8 : Int) (x9 : Int) (x11 : Int) (x12 : Int) (faces_0 : Int) (edges_0 : Int) (faces_1 : Int) (faceOf_1 : Int → Int) (edges_1 : Int) (faceOf_0 : Int → Int) (k2 : 0 ≤ x2 ∧ x2 ≤ 144) (k3 : 0 ≤ x3 ∧ x3 ≤ 143) (k4 : 0 ≤ x4 ∧ x4 ≤ 143) (k5 : 0 ≤ x5 ∧ x5 ≤ 144) (k7 : 0 ≤ x7 ∧ x7 ≤ 72) (k8 : 0 ≤ x8 ∧ x8 ≤ 144) (k9 : 0 ≤ x9 ∧ x9 ≤ 144) (k11 : 1 ≤ x11 ∧ x11 ≤ 144) (k12 : 1 ≤ x12 ∧ x12 ≤ 144) (d1 : x9 + 1 ≤ x11 ∧ x11 ≤ x9 + 1) (d2 : x8 + 0 ≤ x5 ∧ x5 ≤ x8 + 4294967296) (g0 : x11 = faces_0) (g1 : x7 = edges_0) (f2 : x12 = x3 + 1) (g6 : x9 = faces_1) (f8 : x8 = 2 * x7) (f9 : TFI (edges_1) (faces_1) (faceOf_1) (x3) (x2) (x4) (x5)) (fe_0_6_1 : edges_0 = edges_1) (hE_0_16_1 : ∀ j : Int, faceOf_0 j = faceOf_1 j) (kz_0_6 : 0 ≤ edges_0 ∧ edges_0 ≤ 72) (kz_0_13 : 0 ≤ faces_0 ∧ faces_0 ≤ 144) : TFO (edges_0) (faces_0) (faceOf_0) (x12) (x2) := by
  subst fe_0_6_1
  have e_hE_0_16_1 := funext hE_0_16_1; subst e_hE_0_16_1
  first
    | exact tfo_start (fun w a b => by first | (have q := hT0 w a (by omega); omega) | (have q := hT1 w a (by omega); omega) | (have q := hT2 w a (by omega); omega) | (have q := hT3 w a (by omega); omega) | (have q := hT4 w a (by omega); omega)) (by omega) (by omega) (by omega)
    | (skip; exact tfo_skip ‹TFO _ _ _ _ _› (by omega) (by omega))
    | (skip; exact (tfo_next ‹TFI _ _ _ _ _ _ _› (by first | (left; omega) | (right; omega)) (by omega) (by omega)).1)
  
def o_Ne_traceFaces_at_Np_6 : or_T := (17, 13, [(0, (2, 0, 0, [149])), (2, (0, 0, 144, [])), (3, (0, 0, 143, [])), (4, (0, 0, 143, [])), (5, (0, 0, 144, [])), (6, (0, 2, 2, [])), (7, (0, 0, 72, [])), (8, (0, 0, 144, [])), (9, (0, 0, 144, [])), (11, (0, 1, 144, [])), (12, (0, 1, 144, []))], [(9, [11, 1], [13]), (9, [7, 1], [6]), (6, [12, 3], [1]), (24, [0, 1], []), (101, [1, 11], [13]), (9, [9, 1], [13]), (3, [8, 6, 7], []), (20, [1, 3, 2, 4, 5], [60, 2, 1, 552, 6, 13, 16])], [], [], [(20, [1, 12, 2], [60, 2, 1, 551, 6, 13, 16])], [], [(11, 9, 1, 1), (5, 8, 0, 4294967296)])
theorem oo_Ne_traceFaces_at_Np_6 {kA : Nat → ClassId} : or_ok PRD kA GG o_Ne_traceFaces_at_Np_6 := by
  refine or_mk fun A ta ws vs hD hth hl => ?_
  intro t0 r0 t2 k2 t3 k3 t4 k4 t5 k5 t6 k6 t7 k7 t8 k8 t9 k9 t11 k11 t12 k12 d1 d2 f0 f1 f2 f3 ta1 w1 le1 s1 f6 f8 f9
  replace f0 := shm_361 f0
  replace f1 := shm_111 f1
  replace f2 := shm_4 f2
  replace f3 := shm_5 f3
  have s1 : (∀ b j, w_el ws b j = w_el w1 b j) ∧ ∀ b j, w_fd ws b j = if b = v_ad (n_v vs 1) ∧ j = 13 then n_v vs 11 else w_fd w1 b j := s1.2
  replace f6 := shm_361 f6
  replace f8 := shm_38 f8
  rw [show v_iv (n_v vs 6) = 2 from by omega] at f8
  replace f9 := shm_1102 f9
  have q1 : n_v vs 1 = n_v vs 0 := f3.symm
  simp only [q1] at f0 f1
  rw [q1] at s1
  simp only [q1] at f6 f9
  have ar_0_16_1 : w_ar w1 (n_v vs 0) 16 = w_ar ws (n_v vs 0) 16 := by show v_ad (w_fd w1 _ _) = v_ad (w_fd ws _ _); rw [s1.2, if_neg (fun e => absurd e.2 (by decide))]
  have g0 : v_iv (n_v vs 11) = w_fi ws (n_v vs 0) 13 := congrArg v_iv f0
  have g1 : v_iv (n_v vs 7) = w_fi ws (n_v vs 0) 6 := congrArg v_iv f1
  have g6 : v_iv (n_v vs 9) = w_fi w1 (n_v vs 0) 13 := congrArg v_iv f6
  simp only [ar_0_16_1] at f9
  have fe_0_6_1 : w_fi ws (n_v vs 0) 6 = w_fi w1 (n_v vs 0) 6 := by show v_iv (w_fd _ _ _) = v_iv (w_fd _ _ _); rw [s1.2, if_neg (fun e => absurd e.2 (by decide))]
  have hE_0_16_1 : ∀ j : Int, w_ei ws (w_ar ws (n_v vs 0) 16) j = w_ei w1 (w_ar ws (n_v vs 0) 16) j := fun j => s1.1 _ _
  have kz_0_6 := fdq_62 hD hth r0
  have kz_0_13 := fdq_257 hD hth r0
  have nf0 : fc_1 PRD (20, [1, 12, 2], [60, 2, 1, 551, 6, 13, 16]) ws (vs) := by
    refine ⟨nf_in hl rfl, sgq_1099 ?_⟩
    · show TFO (w_fi ws (n_v vs 1) 6) (w_fi ws (n_v vs 1) 13) (w_ei ws (w_ar ws (n_v vs 1) 16)) (v_iv (n_v vs 12)) (v_iv (n_v vs 2))
      rw [q1]
      exact vc_Ne_traceFaces_at_Np_6_0 (v_iv (n_v vs 2)) (v_iv (n_v vs 3)) (v_iv (n_v vs 4)) (v_iv (n_v vs 5)) (v_iv (n_v vs 7)) (v_iv (n_v vs 8)) (v_iv (n_v vs 9)) (v_iv (n_v vs 11)) (v_iv (n_v vs 12)) (w_fi ws (n_v vs 0) 13) (w_fi ws (n_v vs 0) 6) (w_fi w1 (n_v vs 0) 13) (w_ei w1 (w_ar ws (n_v vs 0) 16)) (w_fi w1 (n_v vs 0) 6) (w_ei ws (w_ar ws (n_v vs 0) 16)) k2 k3 k4 k5 k7 k8 k9 k11 k12 d1 d2 g0 g1 f2 g6 f8 f9 fe_0_6_1 hE_0_16_1 kz_0_6 kz_0_13
  refine ⟨(fun _ h => (by cases h)), [], trivial, ?_, (fun _ h => (by cases h))⟩
  rw [List.append_nil]
  exact List.forall_mem_cons.mpr ⟨⟨show (20 : Nat) < 100 from by decide, nf0⟩, (fun _ h => (by cases h))⟩
set_option maxHeartbeats 4000000 in
theorem vc_Ne_traceFaces_at_Np_7_r0 (x2 : Int) (x3 : Int) (x4 : Int) (x5 : Int) (x10 : Int) (x12 : Int) (x14 : Int) (faces_0 : Int) (faceOf_0 : Int → Int) (edges_0 : Int) (k2 : 0 ≤ x2 ∧ x2 ≤ 144) (k3 : 0 ≤ x3 ∧ x3 ≤ 143) (k4 : 0 ≤ x4 ∧ x4 ≤ 143) (k5 : 0 ≤ x5 ∧ x5 ≤ 143) (k10 : 0 ≤ x10 ∧ x10 ≤ 143) (k12 : 0 ≤ x12 ∧ x12 ≤ 144) (k14 : 1 ≤ x14 ∧ x14 ≤ 145) (d0 : x12 + 1 ≤ x14 ∧ x14 ≤ x12 + 1) (g1 : x12 = faces_0) (h3 : x10 = faceOf_0 (x4)) (f8 : TFI (edges_0) (faces_0) (faceOf_0) (x3) (x2) (x4) (x5)) (kz_0_6 : 0 ≤ edges_0 ∧ edges_0 ≤ 72) (kz_0_13 : 0 ≤ faces_0 ∧ faces_0 ≤ 144) : 1 ≤ x14 ∧ x14 ≤ 144 := by
  first
    | omega
    | (have q := tfo_low ‹TFO _ _ _ _ _›; omega)
    | (skip; (first | subst h3 | skip); have q := tfc_lt (‹TFO _ _ _ _ _›).2.2.2.1 (e := x3) (by omega) (by omega) (by omega); have q2 := tfo_low ‹TFO _ _ _ _ _›; omega)
    | (skip; (first | subst h3 | skip); have q := (tfo_next (faces_zq := faces_0 + 1) (st_zq := x3 + 1) ‹TFI _ _ _ _ _ _ _› (by first | (left; omega) | (right; omega)) rfl rfl).2; have q2 := (‹TFI _ _ _ _ _ _ _›).2.2.1; omega)
    | (skip; (first | subst h3 | skip); have q := tfi_low ‹TFI _ _ _ _ _ _ _› (by omega) (by omega) (by omega); omega)
    | (have q := xor_one (x := x29) (a := x4) (b := x28) (by assumption) (by omega) (by omega) (by omega) (by omega) (by omega); split at q <;> omega)
  
def o_Ne_traceFaces_at_Np_7 : or_T := (175, 15, [(0, (2, 0, 0, [149])), (1, (2, 0, 0, [149])), (2, (0, 0, 144, [])), (3, (0, 0, 143, [])), (4, (0, 0, 143, [])), (5, (0, 0, 143, [])), (6, (0, 2, 2, [])), (7, (0, 0, 72, [])), (8, (0, 1, 144, [])), (9, (2, 0, 0, [148])), (10, (0, 0, 143, [])), (11, (0, -1, -1, [])), (12, (0, 0, 144, [])), (13, (0, 1, 1, [])), (14, (0, 1, 145, []))], [(1, [14, 12, 13], []), (9, [12, 1], [13]), (7, [10, 11], [1]), (10, [10, 9, 4], []), (9, [9, 1], [16]), (7, [5, 8], [2]), (3, [8, 6, 7], []), (9, [7, 1], [6]), (20, [1, 3, 2, 4, 5], [60, 2, 1, 552, 6, 13, 16]), (24, [0, 1], [])], [(14, (0, 1, 144, []))], [], [], [], [(14, 12, 1, 1), (5, 8, -4294967296, -1), (5, 2, -4294967296, 0)])
theorem oo_Ne_traceFaces_at_Np_7 {kA : Nat → ClassId} : or_ok PRD kA GG o_Ne_traceFaces_at_Np_7 := by
  refine or_mk fun A ta ws vs hD hth hl => ?_
  intro t0 r0 t1 r1 t2 k2 t3 k3 t4 k4 t5 k5 t6 k6 t7 k7 t8 k8 t9 r9 t10 k10 t11 k11 t12 k12 t13 k13 t14 k14 d0 d1 d2 f0 f1 f2 f3 f4 f5 f6 f7 f8 f9
  replace f1 := shm_361 f1
  replace f3 := shm_107 f3
  replace f4 := shm_176 f4
  replace f8 := shm_1102 f8
  replace f9 := shm_5 f9
  have q1 : n_v vs 1 = n_v vs 0 := f9.symm
  simp only [q1] at f1 f4 f8
  have ad_9 : v_ad (n_v vs 9) = w_ar ws (n_v vs 0) 16 := congrArg v_ad f4
  have g1 : v_iv (n_v vs 12) = w_fi ws (n_v vs 0) 13 := congrArg v_iv f1
  simp only [ad_9] at f3
  have h3 : v_iv (n_v vs 10) = w_ei ws (w_ar ws (n_v vs 0) 16) (v_iv (n_v vs 4)) := f3
  have kz_0_6 := fdq_62 hD hth r0
  have kz_0_13 := fdq_257 hD hth r0
  have hrf0 : 1 ≤ v_iv (n_v vs 14) ∧ v_iv (n_v vs 14) ≤ 144 := vc_Ne_traceFaces_at_Np_7_r0 (v_iv (n_v vs 2)) (v_iv (n_v vs 3)) (v_iv (n_v vs 4)) (v_iv (n_v vs 5)) (v_iv (n_v vs 10)) (v_iv (n_v vs 12)) (v_iv (n_v vs 14)) (w_fi ws (n_v vs 0) 13) (w_ei ws (w_ar ws (n_v vs 0) 16)) (w_fi ws (n_v vs 0) 6) k2 k3 k4 k5 k10 k12 k14 d0 g1 h3 f8 kz_0_6 kz_0_13
  have rf14 : tv_ok ta (0, 1, 144, []) (n_v vs 14) := tv_in t14 (by first | omega | grind) (by first | omega | grind)
  refine ⟨List.forall_mem_cons.mpr ⟨rf14, (fun _ h => (by cases h))⟩, [], trivial, ?_, (fun _ h => (by cases h))⟩
  rw [List.append_nil]
  exact (fun _ h => (by cases h))
set_option maxHeartbeats 4000000 in
theorem vc_Ne_traceFaces_at_Np_8_0 (x2 : Int) (x3 : Int) (x4 : Int) (x5 : Int) (x10 : Int) (x12 : Int) (x14 : Int) (x15 : Int) (faces_0 : Int) (edges_0 : Int) (faces_1 : Int) (faceOf_1 : Int → Int) (edges_1 : Int) (faceOf_0 : Int → Int) (k2 : 0 ≤ x2 ∧ x2 ≤ 144) (k3 : 0 ≤ x3 ∧ x3 ≤ 143) (k4 : 0 ≤ x4 ∧ x4 ≤ 143) (k5 : 0 ≤ x5 ∧ x5 ≤ 143) (k10 : 0 ≤ x10 ∧ x10 ≤ 143) (k12 : 0 ≤ x12 ∧ x12 ≤ 144) (k14 : 1 ≤ x14 ∧ x14 ≤ 144) (k15 : 1 ≤ x15 ∧ x15 ≤ 144) (d1 : x12 + 1 ≤ x14 ∧ x14 ≤ x12 + 1) (g0 : x14 = faces_0) (f3 : x15 = x3 + 1) (g7 : x12 = faces_1) (h9 : x10 = faceOf_1 (x4)) (f12 : TFI (edges_1) (faces_1) (faceOf_1) (x3) (x2) (x4) (x5)) (fe_0_6_1 : edges_0 = edges_1) (hE_0_16_1 : ∀ j : Int, faceOf_0 j = faceOf_1 j) (kz_0_6 : 0 ≤ edges_0 ∧ edges_0 ≤ 72) (kz_0_13 : 0 ≤ faces_0 ∧ faces_0 ≤ 144) : TFO (edges_0) (faces_0) (faceOf_0) (x15) (x2) := by
  subst fe_0_6_1
  have e_hE_0_16_1 := funext hE_0_16_1; subst e_hE_0_16_1
  first
    | exact tfo_start (fun w a b => by first | (have q := hT0 w a (by omega); omega) | (have q := hT1 w a (by omega); omega) | (have q := hT2 w a (by omega); omega) | (have q := hT3 w a (by omega); omega) | (have q := hT4 w a (by omega); omega)) (by omega) (by omega) (by omega)
    | (skip; (first | subst h9 | skip); exact tfo_skip ‹TFO _ _ _ _ _› (by omega) (by omega))
    | (skip; (first | subst h9 | skip); exact (tfo_next ‹TFI _ _ _ _ _ _ _› (by first | (left; omega) | (right; omega)) (by omega) (by omega)).1)
  
def o_Ne_traceFaces_at_Np_8 : or_T := (17, 16, [(0, (2, 0, 0, [149])), (2, (0, 0, 144, [])), (3, (0, 0, 143, [])), (4, (0, 0, 143, [])), (5, (0, 0, 143, [])), (10, (0, 0, 143, [])), (12, (0, 0, 144, [])), (14, (0, 1, 144, [])), (15, (0, 1, 144, []))], [(9, [14, 1], [13]), (9, [9, 1], [16]), (6, [15, 3], [1]), (24, [0, 1], []), (101, [1, 14], [13]), (9, [12, 1], [13]), (10, [10, 9, 4], []), (20, [1, 3, 2, 4, 5], [60, 2, 1, 552, 6, 13, 16])], [], [], [(20, [1, 15, 2], [60, 2, 1, 551, 6, 13, 16])], [], [(14, 12, 1, 1)])
theorem oo_Ne_traceFaces_at_Np_8 {kA : Nat → ClassId} : or_ok PRD kA GG o_Ne_traceFaces_at_Np_8 := by
  refine or_mk fun A ta ws vs hD hth hl => ?_
  intro t0 r0 t2 k2 t3 k3 t4 k4 t5 k5 t10 k10 t12 k12 t14 k14 t15 k15 d1 f0 f1 f3 f4 ta1 w1 le1 s1 f7 f9 f12
  replace f0 := shm_361 f0
  replace f1 := shm_176 f1
  replace f3 := shm_4 f3
  replace f4 := shm_5 f4
  have s1 : (∀ b j, w_el ws b j = w_el w1 b j) ∧ ∀ b j, w_fd ws b j = if b = v_ad (n_v vs 1) ∧ j = 13 then n_v vs 14 else w_fd w1 b j := s1.2
  replace f7 := shm_361 f7
  replace f9 := shm_107 f9
  replace f12 := shm_1102 f12
  have q1 : n_v vs 1 = n_v vs 0 := f4.symm
  simp only [q1] at f0 f1
  rw [q1] at s1
  simp only [q1] at f7 f12
  have ar_0_16_1 : w_ar w1 (n_v vs 0) 16 = w_ar ws (n_v vs 0) 16 := by show v_ad (w_fd w1 _ _) = v_ad (w_fd ws _ _); rw [s1.2, if_neg (fun e => absurd e.2 (by decide))]
  have ad_9 : v_ad (n_v vs 9) = w_ar ws (n_v vs 0) 16 := congrArg v_ad f1
  have g0 : v_iv (n_v vs 14) = w_fi ws (n_v vs 0) 13 := congrArg v_iv f0
  have g7 : v_iv (n_v vs 12) = w_fi w1 (n_v vs 0) 13 := congrArg v_iv f7
  simp only [ad_9] at f9
  have h9 : v_iv (n_v vs 10) = w_ei w1 (w_ar ws (n_v vs 0) 16) (v_iv (n_v vs 4)) := f9
  simp only [ar_0_16_1] at f12
  have fe_0_6_1 : w_fi ws (n_v vs 0) 6 = w_fi w1 (n_v vs 0) 6 := by show v_iv (w_fd _ _ _) = v_iv (w_fd _ _ _); rw [s1.2, if_neg (fun e => absurd e.2 (by decide))]
  have hE_0_16_1 : ∀ j : Int, w_ei ws (w_ar ws (n_v vs 0) 16) j = w_ei w1 (w_ar ws (n_v vs 0) 16) j := fun j => s1.1 _ _
  have kz_0_6 := fdq_62 hD hth r0
  have kz_0_13 := fdq_257 hD hth r0
  have nf0 : fc_1 PRD (20, [1, 15, 2], [60, 2, 1, 551, 6, 13, 16]) ws (vs) := by
    refine ⟨nf_in hl rfl, sgq_1099 ?_⟩
    · show TFO (w_fi ws (n_v vs 1) 6) (w_fi ws (n_v vs 1) 13) (w_ei ws (w_ar ws (n_v vs 1) 16)) (v_iv (n_v vs 15)) (v_iv (n_v vs 2))
      rw [q1]
      exact vc_Ne_traceFaces_at_Np_8_0 (v_iv (n_v vs 2)) (v_iv (n_v vs 3)) (v_iv (n_v vs 4)) (v_iv (n_v vs 5)) (v_iv (n_v vs 10)) (v_iv (n_v vs 12)) (v_iv (n_v vs 14)) (v_iv (n_v vs 15)) (w_fi ws (n_v vs 0) 13) (w_fi ws (n_v vs 0) 6) (w_fi w1 (n_v vs 0) 13) (w_ei w1 (w_ar ws (n_v vs 0) 16)) (w_fi w1 (n_v vs 0) 6) (w_ei ws (w_ar ws (n_v vs 0) 16)) k2 k3 k4 k5 k10 k12 k14 k15 d1 g0 f3 g7 h9 f12 fe_0_6_1 hE_0_16_1 kz_0_6 kz_0_13
  refine ⟨(fun _ h => (by cases h)), [], trivial, ?_, (fun _ h => (by cases h))⟩
  rw [List.append_nil]
  exact List.forall_mem_cons.mpr ⟨⟨show (20 : Nat) < 100 from by decide, nf0⟩, (fun _ h => (by cases h))⟩
set_option maxHeartbeats 4000000 in
theorem vc_Ne_traceFaces_at_Np_9_r0 (x2 : Int) (x3 : Int) (x4 : Int) (x5 : Int) (x10 : Int) (x12 : Int) (faces_0 : Int) (faceOf_0 : Int → Int) (edges_0 : Int) (k2 : 0 ≤ x2 ∧ x2 ≤ 144) (k3 : 0 ≤ x3 ∧ x3 ≤ 143) (k4 : 0 ≤ x4 ∧ x4 ≤ 143) (k5 : 0 ≤ x5 ∧ x5 ≤ 143) (k10 : (-1) ≤ x10 ∧ x10 ≤ (-1)) (k12 : 0 ≤ x12 ∧ x12 ≤ 144) (g0 : x12 = faces_0) (h3 : x10 = faceOf_0 (x4)) (f7 : TFI (edges_0) (faces_0) (faceOf_0) (x3) (x2) (x4) (x5)) (kz_0_6 : 0 ≤ edges_0 ∧ edges_0 ≤ 72) (kz_0_13 : 0 ≤ faces_0 ∧ faces_0 ≤ 144) : 0 ≤ x12 ∧ x12 ≤ 143 := by
  first
    | omega
    | (have q := tfo_low ‹TFO _ _ _ _ _›; omega)
    | (skip; (first | subst h3 | skip); have q := tfc_lt (‹TFO _ _ _ _ _›).2.2.2.1 (e := x3) (by omega) (by omega) (by omega); have q2 := tfo_low ‹TFO _ _ _ _ _›; omega)
    | (skip; (first | subst h3 | skip); have q := (tfo_next (faces_zq := faces_0 + 1) (st_zq := x3 + 1) ‹TFI _ _ _ _ _ _ _› (by first | (left; omega) | (right; omega)) rfl rfl).2; have q2 := (‹TFI _ _ _ _ _ _ _›).2.2.1; omega)
    | (skip; (first | subst h3 | skip); have q := tfi_low ‹TFI _ _ _ _ _ _ _› (by omega) (by omega) (by omega); omega)
    | (have q := xor_one (x := x29) (a := x4) (b := x28) (by assumption) (by omega) (by omega) (by omega) (by omega) (by omega); split at q <;> omega)
  
def o_Ne_traceFaces_at_Np_9 : or_T := (85, 13, [(0, (2, 0, 0, [149])), (1, (2, 0, 0, [149])), (2, (0, 0, 144, [])), (3, (0, 0, 143, [])), (4, (0, 0, 143, [])), (5, (0, 0, 143, [])), (6, (0, 2, 2, [])), (7, (0, 0, 72, [])), (8, (0, 1, 144, [])), (9, (2, 0, 0, [148])), (10, (0, -1, -1, [])), (11, (0, -1, -1, [])), (12, (0, 0, 144, []))], [(9, [12, 1], [13]), (9, [9, 1], [16]), (7, [10, 11], [0]), (10, [10, 9, 4], []), (7, [5, 8], [2]), (3, [8, 6, 7], []), (9, [7, 1], [6]), (20, [1, 3, 2, 4, 5], [60, 2, 1, 552, 6, 13, 16]), (24, [0, 1], [])], [(12, (0, 0, 143, []))], [], [], [], [(5, 8, -4294967296, -1), (5, 2, -4294967296, 0)])
theorem oo_Ne_traceFaces_at_Np_9 {kA : Nat → ClassId} : or_ok PRD kA GG o_Ne_traceFaces_at_Np_9 := by
  refine or_mk fun A ta ws vs hD hth hl => ?_
  intro t0 r0 t1 r1 t2 k2 t3 k3 t4 k4 t5 k5 t6 k6 t7 k7 t8 k8 t9 r9 t10 k10 t11 k11 t12 k12 d0 d1 f0 f1 f2 f3 f4 f5 f6 f7 f8
  replace f0 := shm_361 f0
  replace f1 := shm_176 f1
  replace f3 := shm_107 f3
  replace f7 := shm_1102 f7
  replace f8 := shm_5 f8
  have q1 : n_v vs 1 = n_v vs 0 := f8.symm
  simp only [q1] at f0 f1 f7
  have ad_9 : v_ad (n_v vs 9) = w_ar ws (n_v vs 0) 16 := congrArg v_ad f1
  have g0 : v_iv (n_v vs 12) = w_fi ws (n_v vs 0) 13 := congrArg v_iv f0
  simp only [ad_9] at f3
  have h3 : v_iv (n_v vs 10) = w_ei ws (w_ar ws (n_v vs 0) 16) (v_iv (n_v vs 4)) := f3
  have kz_0_6 := fdq_62 hD hth r0
  have kz_0_13 := fdq_257 hD hth r0
  have hrf0 : 0 ≤ v_iv (n_v vs 12) ∧ v_iv (n_v vs 12) ≤ 143 := vc_Ne_traceFaces_at_Np_9_r0 (v_iv (n_v vs 2)) (v_iv (n_v vs 3)) (v_iv (n_v vs 4)) (v_iv (n_v vs 5)) (v_iv (n_v vs 10)) (v_iv (n_v vs 12)) (w_fi ws (n_v vs 0) 13) (w_ei ws (w_ar ws (n_v vs 0) 16)) (w_fi ws (n_v vs 0) 6) k2 k3 k4 k5 k10 k12 g0 h3 f7 kz_0_6 kz_0_13
  have rf12 : tv_ok ta (0, 0, 143, []) (n_v vs 12) := tv_in t12 (by first | omega | grind) (by first | omega | grind)
  refine ⟨List.forall_mem_cons.mpr ⟨rf12, (fun _ h => (by cases h))⟩, [], trivial, ?_, (fun _ h => (by cases h))⟩
  rw [List.append_nil]
  exact (fun _ h => (by cases h))
set_option maxHeartbeats 4000000 in
theorem vc_Ne_traceFaces_at_Np_10_r0 (x2 : Int) (x3 : Int) (x4 : Int) (x5 : Int) (x10 : Int) (x15 : Int) (x18 : Int) (faces_0 : Int) (edges_0 : Int) (faceOf_1 : Int → Int) (edges_1 : Int) (faces_1 : Int) (k2 : 0 ≤ x2 ∧ x2 ≤ 144) (k3 : 0 ≤ x3 ∧ x3 ≤ 143) (k4 : 0 ≤ x4 ∧ x4 ≤ 143) (k5 : 0 ≤ x5 ∧ x5 ≤ 143) (k10 : (-1) ≤ x10 ∧ x10 ≤ (-1)) (k15 : 1 ≤ x15 ∧ x15 ≤ 1) (k18 : 0 ≤ x18 ∧ x18 ≤ 71) (f3 : x18 = x4 / 2) (f5 : x15 = x4 % 2) (h10 : x10 = faceOf_1 (x4)) (f13 : TFI (edges_1) (faces_1) (faceOf_1) (x3) (x2) (x4) (x5)) (fe_0_6_1 : edges_0 = edges_1) (fe_0_13_1 : faces_0 = faces_1) (kz_0_6 : 0 ≤ edges_0 ∧ edges_0 ≤ 72) (kz_0_13 : 0 ≤ faces_0 ∧ faces_0 ≤ 144) : 0 ≤ x2 ∧ x2 ≤ 143 := by
  subst fe_0_6_1
  subst fe_0_13_1
  first
    | omega
    | (have q := tfo_low ‹TFO _ _ _ _ _›; omega)
    | (skip; (first | subst h10 | skip); have q := tfc_lt (‹TFO _ _ _ _ _›).2.2.2.1 (e := x3) (by omega) (by omega) (by omega); have q2 := tfo_low ‹TFO _ _ _ _ _›; omega)
    | (skip; (first | subst h10 | skip); have q := (tfo_next (faces_zq := faces_0 + 1) (st_zq := x3 + 1) ‹TFI _ _ _ _ _ _ _› (by first | (left; omega) | (right; omega)) rfl rfl).2; have q2 := (‹TFI _ _ _ _ _ _ _›).2.2.1; omega)
    | (skip; (first | subst h10 | skip); have q := tfi_low ‹TFI _ _ _ _ _ _ _› (by omega) (by omega) (by omega); omega)
    | (have q := xor_one (x := x29) (a := x4) (b := x28) (by assumption) (by omega) (by omega) (by omega) (by omega) (by omega); split at q <;> omega)
  
def o_Ne_traceFaces_at_Np_10 : or_T := (116, 20, [(0, (2, 0, 0, [149])), (1, (2, 0, 0, [149])), (2, (0, 0, 144, [])), (3, (0, 0, 143, [])), (4, (0, 0, 143, [])), (5, (0, 0, 143, [])), (6, (0, 2, 2, [])), (7, (0, 0, 72, [])), (8, (0, 1, 144, [])), (9, (2, 0, 0, [148])), (10, (0, -1, -1, [])), (11, (0, -1, -1, [])), (12, (0, 0, 143, [])), (14, (0, 1, 1, [])), (15, (0, 1, 1, [])), (18, (0, 0, 71, []))], [(9, [12, 1], [13]), (9, [9, 1], [16]), (9, [7, 1], [6]), (11, [18, 4], [2]), (8, [15], [1]), (12, [15, 4], [2]), (16, [15, 4, 14], [0]), (24, [0, 1], []), (100, [9, 4, 12], []), (7, [10, 11], [0]), (10, [10, 9, 4], []), (7, [5, 8], [2]), (3, [8, 6, 7], []), (20, [1, 3, 2, 4, 5], [60, 2, 1, 552, 6, 13, 16])], [(2, (0, 0, 143, []))], [], [], [], [(5, 8, -4294967296, -1), (5, 2, -4294967296, 0)])
theorem oo_Ne_traceFaces_at_Np_10 {kA : Nat → ClassId} : or_ok PRD kA GG o_Ne_traceFaces_at_Np_10 := by
  refine or_mk fun A ta ws vs hD hth hl => ?_
  intro t0 r0 t1 r1 t2 k2 t3 k3 t4 k4 t5 k5 t6 k6 t7 k7 t8 k8 t9 r9 t10 k10 t11 k11 t12 k12 t14 k14 t15 k15 t18 k18 d0 d1 f0 f1 f2 f3 f4 f5 f6 f7 ta1 w1 le1 s1 f9 f10 f11 f12 f13
  replace f1 := shm_176 f1
  replace f7 := shm_5 f7
  have s1 : (∀ b j, w_el ws b j = if b = v_ad (n_v vs 9) ∧ j = (v_iv (n_v vs 4)).toNat then v_iv (n_v vs 12) else w_el w1 b j) ∧ ∀ b k, w_fd ws b k = w_fd w1 b k := s1.2
  replace f10 := shm_107 f10
  replace f13 := shm_1102 f13
  have q1 : n_v vs 1 = n_v vs 0 := f7.symm
  simp only [q1] at f1 f13
  have ar_0_16_1 : w_ar w1 (n_v vs 0) 16 = w_ar ws (n_v vs 0) 16 := congrArg v_ad (s1.2 _ _).symm
  have ad_9 : v_ad (n_v vs 9) = w_ar ws (n_v vs 0) 16 := congrArg v_ad f1
  simp only [ad_9] at f10
  have h10 : v_iv (n_v vs 10) = w_ei w1 (w_ar ws (n_v vs 0) 16) (v_iv (n_v vs 4)) := f10
  simp only [ar_0_16_1] at f13
  have fe_0_6_1 : w_fi ws (n_v vs 0) 6 = w_fi w1 (n_v vs 0) 6 := congrArg v_iv (s1.2 _ _)
  have fe_0_13_1 : w_fi ws (n_v vs 0) 13 = w_fi w1 (n_v vs 0) 13 := congrArg v_iv (s1.2 _ _)
  have kz_0_6 := fdq_62 hD hth r0
  have kz_0_13 := fdq_257 hD hth r0
  have hrf0 : 0 ≤ v_iv (n_v vs 2) ∧ v_iv (n_v vs 2) ≤ 143 := vc_Ne_traceFaces_at_Np_10_r0 (v_iv (n_v vs 2)) (v_iv (n_v vs 3)) (v_iv (n_v vs 4)) (v_iv (n_v vs 5)) (v_iv (n_v vs 10)) (v_iv (n_v vs 15)) (v_iv (n_v vs 18)) (w_fi ws (n_v vs 0) 13) (w_fi ws (n_v vs 0) 6) (w_ei w1 (w_ar ws (n_v vs 0) 16)) (w_fi w1 (n_v vs 0) 6) (w_fi w1 (n_v vs 0) 13) k2 k3 k4 k5 k10 k15 k18 (shm_585 f3) (shm_364 f5) h10 f13 fe_0_6_1 fe_0_13_1 kz_0_6 kz_0_13
  have rf2 : tv_ok ta (0, 0, 143, []) (n_v vs 2) := tv_in t2 (by first | omega | grind) (by first | omega | grind)
  refine ⟨List.forall_mem_cons.mpr ⟨rf2, (fun _ h => (by cases h))⟩, [], trivial, ?_, (fun _ h => (by cases h))⟩
  rw [List.append_nil]
  exact (fun _ h => (by cases h))
set_option maxHeartbeats 4000000 in
theorem vc_Ne_traceFaces_at_Np_11_r0 (x3 : Int) (x4 : Int) (x10 : Int) (x22 : Int) (x25 : Int) (x28 : Int) (x29 : Int) (faces_0 : Int) (edges_0 : Int) (faceOf_2 : Int → Int) (edges_2 : Int) (faces_2 : Int) (edges_1 : Int) (faces_1 : Int) (rowNode_1 : Int → Int) (rowNode_2 : Int → Int) (faceOf_0 : Int → Int) (faceOf_1 : Int → Int) (k4 : 0 ≤ x4 ∧ x4 ≤ 143) (k10 : (-1) ≤ x10 ∧ x10 ≤ (-1)) (k22 : 1 ≤ x22 ∧ x22 ≤ 1) (k25 : 0 ≤ x25 ∧ x25 ≤ 71) (k28 : 1 ≤ x28 ∧ x28 ≤ 1) (k29 : 0 ≤ x29 ∧ x29 ≤ 255) (f4 : bvp (x29) = bvp (x4) ^^^ bvp (x28)) (f5 : x25 = x4 / 2) (f7 : x22 = x4 % 2) (h18 : x10 = faceOf_2 (x4)) (fe_0_6_1 : edges_0 = edges_1) (fe_0_13_1 : faces_0 = faces_1) (fe_0_6_2 : edges_1 = edges_2) (fe_0_13_2 : faces_1 = faces_2) (hE_0_15_2 : ∀ j : Int, rowNode_1 j = rowNode_2 j) (hE_0_16_1 : ∀ j : Int, faceOf_0 j = faceOf_1 j) (kz_0_6 : 0 ≤ edges_0 ∧ edges_0 ≤ 72) (kz_0_13 : 0 ≤ faces_0 ∧ faces_0 ≤ 144) : 0 ≤ x29 ∧ x29 ≤ 143 := by
  subst fe_0_6_1
  subst fe_0_13_1
  subst fe_0_6_2
  subst fe_0_13_2
  have e_hE_0_15_2 := funext hE_0_15_2; subst e_hE_0_15_2
  have e_hE_0_16_1 := funext hE_0_16_1; subst e_hE_0_16_1
  first
    | omega
    | (have q := tfo_low ‹TFO _ _ _ _ _›; omega)
    | (skip; (first | subst h18 | skip); have q := tfc_lt (‹TFO _ _ _ _ _›).2.2.2.1 (e := x3) (by omega) (by omega) (by omega); have q2 := tfo_low ‹TFO _ _ _ _ _›; omega)
    | (skip; (first | subst h18 | skip); have q := (tfo_next (faces_zq := faces_0 + 1) (st_zq := x3 + 1) ‹TFI _ _ _ _ _ _ _› (by first | (left; omega) | (right; omega)) rfl rfl).2; have q2 := (‹TFI _ _ _ _ _ _ _›).2.2.1; omega)
    | (skip; (first | subst h18 | skip); have q := tfi_low ‹TFI _ _ _ _ _ _ _› (by omega) (by omega) (by omega); omega)
    | (have q := xor_one (x := x29) (a := x4) (b := x28) (by assumption) (by omega) (by omega) (by omega) (by omega) (by omega); split at q <;> omega)
  
def o_Ne_traceFaces_at_Np_11 : or_T := (155, 30, [(0, (2, 0, 0, [149])), (1, (2, 0, 0, [149])), (2, (0, 0, 143, [])), (3, (0, 0, 143, [])), (4, (0, 0, 143, [])), (5, (0, 0, 143, [])), (6, (0, 2, 2, [])), (7, (0, 0, 72, [])), (8, (0, 1, 144, [])), (9, (2, 0, 0, [148])), (10, (0, -1, -1, [])), (11, (0, -1, -1, [])), (12, (0, 0, 143, [])), (13, (2, 0, 0, [147])), (14, (0, 1, 1, [])), (15, (0, 1, 1, [])), (18, (0, 0, 71, [])), (20, (0, 1, 144, [])), (21, (0, 1, 1, [])), (22, (0, 1, 1, [])), (25, (0, 0, 71, [])), (28, (0, 1, 1, [])), (29, (0, 0, 255, []))], [(9, [13, 1], [15]), (9, [12, 1], [13]), (9, [9, 1], [16]), (9, [7, 1], [6]), (16, [29, 4, 28], [2]), (11, [25, 4], [2]), (8, [22], [1]), (12, [22, 4], [2]), (16, [22, 4, 21], [0]), (6, [20, 2], [1]), (24, [0, 1], []), (100, [13, 2, 19], []), (11, [18, 4], [2]), (8, [15], [1]), (12, [15, 4], [2]), (16, [15, 4, 14], [0]), (100, [9, 4, 12], []), (7, [10, 11], [0]), (10, [10, 9, 4], []), (7, [5, 8], [2]), (3, [8, 6, 7], []), (20, [1, 3, 2, 4, 5], [60, 2, 1, 552, 6, 13, 16])], [(29, (0, 0, 143, []))], [], [], [], [(20, 2, 1, 1), (5, 8, -4294967296, -1), (5, 2, -4294967296, 0)])
theorem oo_Ne_traceFaces_at_Np_11 {kA : Nat → ClassId} : or_ok PRD kA GG o_Ne_traceFaces_at_Np_11 := by
  refine or_mk fun A ta ws vs hD hth hl => ?_
  intro t0 r0 t1 r1 t2 k2 t3 k3 t4 k4 t5 k5 t6 k6 t7 k7 t8 k8 t9 r9 t10 k10 t11 k11 t12 k12 t13 r13 t14 k14 t15 k15 t18 k18 t20 k20 t21 k21 t22 k22 t25 k25 t28 k28 t29 k29 d0 d1 d2 f0 f1 f2 f3 f4 f5 f6 f7 f8 f9 f10 ta1 w1 le1 s1 f12 f13 f14 f15 ta2 w2 le2 s2 f17 f18 f19 f20 f21
  replace f2 := shm_176 f2
  replace f10 := shm_5 f10
  have s1 : (∀ b j, w_el ws b j = if b = v_ad (n_v vs 13) ∧ j = (v_iv (n_v vs 2)).toNat then v_iv (n_v vs 19) else w_el w1 b j) ∧ ∀ b k, w_fd ws b k = w_fd w1 b k := s1.2
  have s2 : (∀ b j, w_el w1 b j = if b = v_ad (n_v vs 9) ∧ j = (v_iv (n_v vs 4)).toNat then v_iv (n_v vs 12) else w_el w2 b j) ∧ ∀ b k, w_fd w1 b k = w_fd w2 b k := s2.2
  replace f18 := shm_107 f18
  have q1 : n_v vs 1 = n_v vs 0 := f10.symm
  simp only [q1] at f2
  have cr_0_15 := fdq_259 hD hth r0
  have cr_0_16 := fdq_256 hD hth r0
  have ad_9 : v_ad (n_v vs 9) = w_ar ws (n_v vs 0) 16 := congrArg v_ad f2
  simp only [ad_9] at f18
  have h18 : v_iv (n_v vs 10) = w_ei w2 (w_ar ws (n_v vs 0) 16) (v_iv (n_v vs 4)) := f18
  have fe_0_6_1 : w_fi ws (n_v vs 0) 6 = w_fi w1 (n_v vs 0) 6 := congrArg v_iv (s1.2 _ _)
  have fe_0_13_1 : w_fi ws (n_v vs 0) 13 = w_fi w1 (n_v vs 0) 13 := congrArg v_iv (s1.2 _ _)
  have fe_0_6_2 : w_fi w1 (n_v vs 0) 6 = w_fi w2 (n_v vs 0) 6 := congrArg v_iv (s2.2 _ _)
  have fe_0_13_2 : w_fi w1 (n_v vs 0) 13 = w_fi w2 (n_v vs 0) 13 := congrArg v_iv (s2.2 _ _)
  have hE_0_15_2 : ∀ j : Int, w_ei w1 (w_ar ws (n_v vs 0) 15) j = w_ei w2 (w_ar ws (n_v vs 0) 15) j := el_kp s2.1 r9 cr_0_15 (by decide)
  have hE_0_16_1 : ∀ j : Int, w_ei ws (w_ar ws (n_v vs 0) 16) j = w_ei w1 (w_ar ws (n_v vs 0) 16) j := el_kp s1.1 r13 cr_0_16 (by decide)
  have kz_0_6 := fdq_62 hD hth r0
  have kz_0_13 := fdq_257 hD hth r0
  have hrf0 : 0 ≤ v_iv (n_v vs 29) ∧ v_iv (n_v vs 29) ≤ 143 := vc_Ne_traceFaces_at_Np_11_r0 (v_iv (n_v vs 3)) (v_iv (n_v vs 4)) (v_iv (n_v vs 10)) (v_iv (n_v vs 22)) (v_iv (n_v vs 25)) (v_iv (n_v vs 28)) (v_iv (n_v vs 29)) (w_fi ws (n_v vs 0) 13) (w_fi ws (n_v vs 0) 6) (w_ei w2 (w_ar ws (n_v vs 0) 16)) (w_fi w2 (n_v vs 0) 6) (w_fi w2 (n_v vs 0) 13) (w_fi w1 (n_v vs 0) 6) (w_fi w1 (n_v vs 0) 13) (w_ei w1 (w_ar ws (n_v vs 0) 15)) (w_ei w2 (w_ar ws (n_v vs 0) 15)) (w_ei ws (w_ar ws (n_v vs 0) 16)) (w_ei w1 (w_ar ws (n_v vs 0) 16)) k4 k10 k22 k25 k28 k29 (shm_33 f4) (shm_585 f5) (shm_364 f7) h18 fe_0_6_1 fe_0_13_1 fe_0_6_2 fe_0_13_2 hE_0_15_2 hE_0_16_1 kz_0_6 kz_0_13
  have rf29 : tv_ok ta (0, 0, 143, []) (n_v vs 29) := tv_in t29 (by first | omega | grind) (by first | omega | grind)
  refine ⟨List.forall_mem_cons.mpr ⟨rf29, (fun _ h => (by cases h))⟩, [], trivial, ?_, (fun _ h => (by cases h))⟩
  rw [List.append_nil]
  exact (fun _ h => (by cases h))
set_option maxHeartbeats 4000000 in
theorem vc_Ne_traceFaces_at_Np_12_0 (x2 : Int) (x3 : Int) (x4 : Int) (x5 : Int) (x10 : Int) (x12 : Int) (x18 : Int) (x20 : Int) (x22 : Int) (x31 : Int) (x32 : Int) (faces_0 : Int) (edges_0 : Int) (faceOf_2 : Int → Int) (edges_2 : Int) (faces_2 : Int) (edges_1 : Int) (faces_1 : Int) (rowNode_1 : Int → Int) (rowNode_2 : Int → Int) (faceOf_0 : Int → Int) (faceOf_1 : Int → Int) (k2 : 0 ≤ x2 ∧ x2 ≤ 143) (k3 : 0 ≤ x3 ∧ x3 ≤ 143) (k4 : 0 ≤ x4 ∧ x4 ≤ 143) (k5 : 0 ≤ x5 ∧ x5 ≤ 143) (k10 : (-1) ≤ x10 ∧ x10 ≤ (-1)) (k12 : 0 ≤ x12 ∧ x12 ≤ 143) (k18 : 0 ≤ x18 ∧ x18 ≤ 71) (k20 : 1 ≤ x20 ∧ x20 ≤ 144) (k22 : 1 ≤ x22 ∧ x22 ≤ 1) (k31 : 1 ≤ x31 ∧ x31 ≤ 143) (k32 : 1 ≤ x32 ∧ x32 ≤ 144) (g1 : x12 = faces_0) (f4 : x32 = x5 + 1) (f8 : x22 = x4 % 2) (f10 : x20 = x2 + 1) (f13 : x18 = x4 / 2) (h19 : x10 = faceOf_2 (x4)) (f22 : TFI (edges_2) (faces_2) (faceOf_2) (x3) (x2) (x4) (x5)) (fe_0_6_1 : edges_0 = edges_1) (fe_0_13_1 : faces_0 = faces_1) (fe_0_6_2 : edges_1 = edges_2) (fe_0_13_2 : faces_1 = faces_2) (hE_0_15_2 : ∀ j : Int, rowNode_1 j = rowNode_2 j) (hE_0_16_1 : ∀ j : Int, faceOf_0 j = faceOf_1 j) (hE_0_16_2 : ∀ j : Int, 0 ≤ j → (j = x4 → faceOf_1 j = x12) ∧ (j ≠ x4 → faceOf_1 j = faceOf_2 j)) (kz_0_6 : 0 ≤ edges_0 ∧ edges_0 ≤ 72) (kz_0_13 : 0 ≤ faces_0 ∧ faces_0 ≤ 144) : TFI (edges_0) (faces_0) (faceOf_0) (x3) (x20) (x31) (x32) := by
  subst fe_0_6_1
  subst fe_0_13_1
  subst fe_0_6_2
  subst fe_0_13_2
  have e_hE_0_15_2 := funext hE_0_15_2; subst e_hE_0_15_2
  have e_hE_0_16_1 := funext hE_0_16_1; subst e_hE_0_16_1
  first
    | (skip; (first | subst h19 | skip); exact tfi_start ‹TFO _ _ _ _ _› (by omega) (by omega) (by omega) (by omega))
    | (skip; (first | subst h19 | skip); exact tfi_step ‹TFI _ _ _ _ _ _ _› (by assumption) rfl (by omega) (by omega) (by omega) (by omega) (by omega) (by omega))
  
def o_Ne_traceFaces_at_Np_12 : or_T := (55, 33, [(0, (2, 0, 0, [149])), (1, (2, 0, 0, [149])), (2, (0, 0, 143, [])), (3, (0, 0, 143, [])), (4, (0, 0, 143, [])), (5, (0, 0, 143, [])), (6, (0, 2, 2, [])), (7, (0, 0, 72, [])), (8, (0, 1, 144, [])), (9, (2, 0, 0, [148])), (10, (0, -1, -1, [])), (11, (0, -1, -1, [])), (12, (0, 0, 143, [])), (13, (2, 0, 0, [147])), (14, (0, 1, 1, [])), (15, (0, 1, 1, [])), (18, (0, 0, 71, [])), (20, (0, 1, 144, [])), (21, (0, 1, 1, [])), (22, (0, 1, 1, [])), (25, (0, 0, 71, [])), (28, (0, 1, 1, [])), (29, (0, 0, 143, [])), (31, (0, 1, 143, [])), (32, (0, 1, 144, []))], [(9, [13, 1], [15]), (9, [12, 1], [13]), (9, [9, 1], [16]), (9, [7, 1], [6]), (6, [32, 5], [1]), (16, [29, 4, 28], [2]), (11, [25, 4], [2]), (8, [22], [1]), (12, [22, 4], [2]), (16, [22, 4, 21], [0]), (6, [20, 2], [1]), (24, [0, 1], []), (100, [13, 2, 19], []), (11, [18, 4], [2]), (8, [15], [1]), (12, [15, 4], [2]), (16, [15, 4, 14], [0]), (100, [9, 4, 12], []), (7, [10, 11], [0]), (10, [10, 9, 4], []), (7, [5, 8], [2]), (3, [8, 6, 7], []), (20, [1, 3, 2, 4, 5], [60, 2, 1, 552, 6, 13, 16])], [], [], [(20, [1, 3, 20, 31, 32], [60, 2, 1, 552, 6, 13, 16])], [], [(32, 5, 1, 1), (32, 8, -4294967296, 0), (32, 2, -4294967296, 1), (20, 2, 1, 1), (5, 8, -4294967296, -1), (5, 2, -4294967296, 0)])
theorem oo_Ne_traceFaces_at_Np_12 {kA : Nat → ClassId} : or_ok PRD kA GG o_Ne_traceFaces_at_Np_12 := by
  refine or_mk fun A ta ws vs hD hth hl => ?_
  intro t0 r0 t1 r1 t2 k2 t3 k3 t4 k4 t5 k5 t6 k6 t7 k7 t8 k8 t9 r9 t10 k10 t11 k11 t12 k12 t13 r13 t14 k14 t15 k15 t18 k18 t20 k20 t21 k21 t22 k22 t25 k25 t28 k28 t29 k29 t31 k31 t32 k32 d0 d1 d2 d3 d4 d5 f0 f1 f2 f3 f4 f5 f6 f7 f8 f9 f10 f11 ta1 w1 le1 s1 f13 f14 f15 f16 ta2 w2 le2 s2 f18 f19 f20 f21 f22
  replace f1 := shm_361 f1
  replace f2 := shm_176 f2
  replace f4 := shm_4 f4
  replace f8 := shm_364 f8
  replace f10 := shm_4 f10
  replace f11 := shm_5 f11
  have s1 : (∀ b j, w_el ws b j = if b = v_ad (n_v vs 13) ∧ j = (v_iv (n_v vs 2)).toNat then v_iv (n_v vs 19) else w_el w1 b j) ∧ ∀ b k, w_fd ws b k = w_fd w1 b k := s1.2
  replace f13 := shm_585 f13
  have s2 : (∀ b j, w_el w1 b j = if b = v_ad (n_v vs 9) ∧ j = (v_iv (n_v vs 4)).toNat then v_iv (n_v vs 12) else w_el w2 b j) ∧ ∀ b k, w_fd w1 b k = w_fd w2 b k := s2.2
  replace f19 := shm_107 f19
  replace f22 := shm_1102 f22
  have q1 : n_v vs 1 = n_v vs 0 := f11.symm
  simp only [q1] at f1 f2 f22
  have cr_0_15 := fdq_259 hD hth r0
  have ar_0_16_1 : w_ar w1 (n_v vs 0) 16 = w_ar ws (n_v vs 0) 16 := congrArg v_ad (s1.2 _ _).symm
  have ar_0_16_2 : w_ar w2 (n_v vs 0) 16 = w_ar ws (n_v vs 0) 16 := by rw [← ar_0_16_1]; show v_ad (w_fd w2 _ _) = v_ad (w_fd w1 _ _); rw [s2.2]
  have cr_0_16 := fdq_256 hD hth r0
  have ad_9 : v_ad (n_v vs 9) = w_ar ws (n_v vs 0) 16 := congrArg v_ad f2
  have g1 : v_iv (n_v vs 12) = w_fi ws (n_v vs 0) 13 := congrArg v_iv f1
  simp only [ad_9] at f19
  have h19 : v_iv (n_v vs 10) = w_ei w2 (w_ar ws (n_v vs 0) 16) (v_iv (n_v vs 4)) := f19
  simp only [ar_0_16_2] at f22
  have fe_0_6_1 : w_fi ws (n_v vs 0) 6 = w_fi w1 (n_v vs 0) 6 := congrArg v_iv (s1.2 _ _)
  have fe_0_13_1 : w_fi ws (n_v vs 0) 13 = w_fi w1 (n_v vs 0) 13 := congrArg v_iv (s1.2 _ _)
  have fe_0_6_2 : w_fi w1 (n_v vs 0) 6 = w_fi w2 (n_v vs 0) 6 := congrArg v_iv (s2.2 _ _)
  have fe_0_13_2 : w_fi w1 (n_v vs 0) 13 = w_fi w2 (n_v vs 0) 13 := congrArg v_iv (s2.2 _ _)
  have hE_0_15_2 : ∀ j : Int, w_ei w1 (w_ar ws (n_v vs 0) 15) j = w_ei w2 (w_ar ws (n_v vs 0) 15) j := el_kp s2.1 r9 cr_0_15 (by decide)
  have hE_0_16_1 : ∀ j : Int, w_ei ws (w_ar ws (n_v vs 0) 16) j = w_ei w1 (w_ar ws (n_v vs 0) 16) j := el_kp s1.1 r13 cr_0_16 (by decide)
  have hE_0_16_2 : ∀ j : Int, 0 ≤ j → (j = v_iv (n_v vs 4) → w_ei w1 (w_ar ws (n_v vs 0) 16) j = v_iv (n_v vs 12)) ∧ (j ≠ v_iv (n_v vs 4) → w_ei w1 (w_ar ws (n_v vs 0) 16) j = w_ei w2 (w_ar ws (n_v vs 0) 16) j) := fun j hj => ⟨fun h => by unfold w_ei; rw [s2.1, if_pos ⟨ad_9.symm, by rw [h]⟩], fun h => by unfold w_ei; rw [s2.1, if_neg (fun e => h (by have := e.2; omega))]⟩
  have kz_0_6 := fdq_62 hD hth r0
  have kz_0_13 := fdq_257 hD hth r0
  have nf0 : fc_1 PRD (20, [1, 3, 20, 31, 32], [60, 2, 1, 552, 6, 13, 16]) ws (vs) := by
    refine ⟨nf_in hl rfl, sgq_1102 ?_⟩
    · show TFI (w_fi ws (n_v vs 1) 6) (w_fi ws (n_v vs 1) 13) (w_ei ws (w_ar ws (n_v vs 1) 16)) (v_iv (n_v vs 3)) (v_iv (n_v vs 20)) (v_iv (n_v vs 31)) (v_iv (n_v vs 32))
      rw [q1]
      exact vc_Ne_traceFaces_at_Np_12_0 (v_iv (n_v vs 2)) (v_iv (n_v vs 3)) (v_iv (n_v vs 4)) (v_iv (n_v vs 5)) (v_iv (n_v vs 10)) (v_iv (n_v vs 12)) (v_iv (n_v vs 18)) (v_iv (n_v vs 20)) (v_iv (n_v vs 22)) (v_iv (n_v vs 31)) (v_iv (n_v vs 32)) (w_fi ws (n_v vs 0) 13) (w_fi ws (n_v vs 0) 6) (w_ei w2 (w_ar ws (n_v vs 0) 16)) (w_fi w2 (n_v vs 0) 6) (w_fi w2 (n_v vs 0) 13) (w_fi w1 (n_v vs 0) 6) (w_fi w1 (n_v vs 0) 13) (w_ei w1 (w_ar ws (n_v vs 0) 15)) (w_ei w2 (w_ar ws (n_v vs 0) 15)) (w_ei ws (w_ar ws (n_v vs 0) 16)) (w_ei w1 (w_ar ws (n_v vs 0) 16)) k2 k3 k4 k5 k10 k12 k18 k20 k22 k31 k32 g1 f4 f8 f10 f13 h19 f22 fe_0_6_1 fe_0_13_1 fe_0_6_2 fe_0_13_2 hE_0_15_2 hE_0_16_1 hE_0_16_2 kz_0_6 kz_0_13
  refine ⟨(fun _ h => (by cases h)), [], trivial, ?_, (fun _ h => (by cases h))⟩
  rw [List.append_nil]
  exact List.forall_mem_cons.mpr ⟨⟨show (20 : Nat) < 100 from by decide, nf0⟩, (fun _ h => (by cases h))⟩
set_option maxHeartbeats 4000000 in
theorem vc_Ne_traceFaces_at_Np_13_0 (x2 : Int) (x3 : Int) (x4 : Int) (x5 : Int) (x10 : Int) (x12 : Int) (x18 : Int) (x20 : Int) (x22 : Int) (x31 : Int) (x32 : Int) (faces_0 : Int) (edges_0 : Int) (faceOf_2 : Int → Int) (edges_2 : Int) (faces_2 : Int) (edges_1 : Int) (faces_1 : Int) (rowNode_1 : Int → Int) (rowNode_2 : Int → Int) (faceOf_0 : Int → Int) (faceOf_1 : Int → Int) (k2 : 0 ≤ x2 ∧ x2 ≤ 143) (k3 : 0 ≤ x3 ∧ x3 ≤ 143) (k4 : 0 ≤ x4 ∧ x4 ≤ 143) (k5 : 0 ≤ x5 ∧ x5 ≤ 143) (k10 : (-1) ≤ x10 ∧ x10 ≤ (-1)) (k12 : 0 ≤ x12 ∧ x12 ≤ 143) (k18 : 0 ≤ x18 ∧ x18 ≤ 71) (k20 : 1 ≤ x20 ∧ x20 ≤ 144) (k22 : 1 ≤ x22 ∧ x22 ≤ 1) (k31 : 0 ≤ x31 ∧ x31 ≤ 142) (k32 : 1 ≤ x32 ∧ x32 ≤ 144) (g1 : x12 = faces_0) (f4 : x32 = x5 + 1) (f8 : x22 = x4 % 2) (f10 : x20 = x2 + 1) (f13 : x18 = x4 / 2) (h19 : x10 = faceOf_2 (x4)) (f22 : TFI (edges_2) (faces_2) (faceOf_2) (x3) (x2) (x4) (x5)) (fe_0_6_1 : edges_0 = edges_1) (fe_0_13_1 : faces_0 = faces_1) (fe_0_6_2 : edges_1 = edges_2) (fe_0_13_2 : faces_1 = faces_2) (hE_0_15_2 : ∀ j : Int, rowNode_1 j = rowNode_2 j) (hE_0_16_1 : ∀ j : Int, faceOf_0 j = faceOf_1 j) (hE_0_16_2 : ∀ j : Int, 0 ≤ j → (j = x4 → faceOf_1 j = x12) ∧ (j ≠ x4 → faceOf_1 j = faceOf_2 j)) (kz_0_6 : 0 ≤ edges_0 ∧ edges_0 ≤ 72) (kz_0_13 : 0 ≤ faces_0 ∧ faces_0 ≤ 144) : TFI (edges_0) (faces_0) (faceOf_0) (x3) (x20) (x31) (x32) := by
  subst fe_0_6_1
  subst fe_0_13_1
  subst fe_0_6_2
  subst fe_0_13_2
  have e_hE_0_15_2 := funext hE_0_15_2; subst e_hE_0_15_2
  have e_hE_0_16_1 := funext hE_0_16_1; subst e_hE_0_16_1
  first
    | (skip; (first | subst h19 | skip); exact tfi_start ‹TFO _ _ _ _ _› (by omega) (by omega) (by omega) (by omega))
    | (skip; (first | subst h19 | skip); exact tfi_step ‹TFI _ _ _ _ _ _ _› (by assumption) rfl (by omega) (by omega) (by omega) (by omega) (by omega) (by omega))
  
def o_Ne_traceFaces_at_Np_13 : or_T := (55, 33, [(0, (2, 0, 0, [149])), (1, (2, 0, 0, [149])), (2, (0, 0, 143, [])), (3, (0, 0, 143, [])), (4, (0, 0, 143, [])), (5, (0, 0, 143, [])), (6, (0, 2, 2, [])), (7, (0, 0, 72, [])), (8, (0, 1, 144, [])), (9, (2, 0, 0, [148])), (10, (0, -1, -1, [])), (11, (0, -1, -1, [])), (12, (0, 0, 143, [])), (13, (2, 0, 0, [147])), (14, (0, 1, 1, [])), (15, (0, 1, 1, [])), (18, (0, 0, 71, [])), (20, (0, 1, 144, [])), (21, (0, 1, 1, [])), (22, (0, 1, 1, [])), (25, (0, 0, 71, [])), (28, (0, 1, 1, [])), (29, (0, 0, 143, [])), (31, (0, 0, 142, [])), (32, (0, 1, 144, []))], [(9, [13, 1], [15]), (9, [12, 1], [13]), (9, [9, 1], [16]), (9, [7, 1], [6]), (6, [32, 5], [1]), (16, [29, 4, 28], [2]), (11, [25, 4], [2]), (8, [22], [1]), (12, [22, 4], [2]), (16, [22, 4, 21], [0]), (6, [20, 2], [1]), (24, [0, 1], []), (100, [13, 2, 19], []), (11, [18, 4], [2]), (8, [15], [1]), (12, [15, 4], [2]), (16, [15, 4, 14], [0]), (100, [9, 4, 12], []), (7, [10, 11], [0]), (10, [10, 9, 4], []), (7, [5, 8], [2]), (3, [8, 6, 7], []), (20, [1, 3, 2, 4, 5], [60, 2, 1, 552, 6, 13, 16])], [], [], [(20, [1, 3, 20, 31, 32], [60, 2, 1, 552, 6, 13, 16])], [], [(32, 5, 1, 1), (32, 8, -4294967296, 0), (32, 2, -4294967296, 1), (20, 2, 1, 1), (5, 8, -4294967296, -1), (5, 2, -4294967296, 0)])
theorem oo_Ne_traceFaces_at_Np_13 {kA : Nat → ClassId} : or_ok PRD kA GG o_Ne_traceFaces_at_Np_13 := by
  refine or_mk fun A ta ws vs hD hth hl => ?_
  intro t0 r0 t1 r1 t2 k2 t3 k3 t4 k4 t5 k5 t6 k6 t7 k7 t8 k8 t9 r9 t10 k10 t11 k11 t12 k12 t13 r13 t14 k14 t15 k15 t18 k18 t20 k20 t21 k21 t22 k22 t25 k25 t28 k28 t29 k29 t31 k31 t32 k32 d0 d1 d2 d3 d4 d5 f0 f1 f2 f3 f4 f5 f6 f7 f8 f9 f10 f11 ta1 w1 le1 s1 f13 f14 f15 f16 ta2 w2 le2 s2 f18 f19 f20 f21 f22
  replace f1 := shm_361 f1
  replace f2 := shm_176 f2
  replace f4 := shm_4 f4
  replace f8 := shm_364 f8
  replace f10 := shm_4 f10
  replace f11 := shm_5 f11
  have s1 : (∀ b j, w_el ws b j = if b = v_ad (n_v vs 13) ∧ j = (v_iv (n_v vs 2)).toNat then v_iv (n_v vs 19) else w_el w1 b j) ∧ ∀ b k, w_fd ws b k = w_fd w1 b k := s1.2
  replace f13 := shm_585 f13
  have s2 : (∀ b j, w_el w1 b j = if b = v_ad (n_v vs 9) ∧ j = (v_iv (n_v vs 4)).toNat then v_iv (n_v vs 12) else w_el w2 b j) ∧ ∀ b k, w_fd w1 b k = w_fd w2 b k := s2.2
  replace f19 := shm_107 f19
  replace f22 := shm_1102 f22
  have q1 : n_v vs 1 = n_v vs 0 := f11.symm
  simp only [q1] at f1 f2 f22
  have cr_0_15 := fdq_259 hD hth r0
  have ar_0_16_1 : w_ar w1 (n_v vs 0) 16 = w_ar ws (n_v vs 0) 16 := congrArg v_ad (s1.2 _ _).symm
  have ar_0_16_2 : w_ar w2 (n_v vs 0) 16 = w_ar ws (n_v vs 0) 16 := by rw [← ar_0_16_1]; show v_ad (w_fd w2 _ _) = v_ad (w_fd w1 _ _); rw [s2.2]
  have cr_0_16 := fdq_256 hD hth r0
  have ad_9 : v_ad (n_v vs 9) = w_ar ws (n_v vs 0) 16 := congrArg v_ad f2
  have g1 : v_iv (n_v vs 12) = w_fi ws (n_v vs 0) 13 := congrArg v_iv f1
  simp only [ad_9] at f19
  have h19 : v_iv (n_v vs 10) = w_ei w2 (w_ar ws (n_v vs 0) 16) (v_iv (n_v vs 4)) := f19
  simp only [ar_0_16_2] at f22
  have fe_0_6_1 : w_fi ws (n_v vs 0) 6 = w_fi w1 (n_v vs 0) 6 := congrArg v_iv (s1.2 _ _)
  have fe_0_13_1 : w_fi ws (n_v vs 0) 13 = w_fi w1 (n_v vs 0) 13 := congrArg v_iv (s1.2 _ _)
  have fe_0_6_2 : w_fi w1 (n_v vs 0) 6 = w_fi w2 (n_v vs 0) 6 := congrArg v_iv (s2.2 _ _)
  have fe_0_13_2 : w_fi w1 (n_v vs 0) 13 = w_fi w2 (n_v vs 0) 13 := congrArg v_iv (s2.2 _ _)
  have hE_0_15_2 : ∀ j : Int, w_ei w1 (w_ar ws (n_v vs 0) 15) j = w_ei w2 (w_ar ws (n_v vs 0) 15) j := el_kp s2.1 r9 cr_0_15 (by decide)
  have hE_0_16_1 : ∀ j : Int, w_ei ws (w_ar ws (n_v vs 0) 16) j = w_ei w1 (w_ar ws (n_v vs 0) 16) j := el_kp s1.1 r13 cr_0_16 (by decide)
  have hE_0_16_2 : ∀ j : Int, 0 ≤ j → (j = v_iv (n_v vs 4) → w_ei w1 (w_ar ws (n_v vs 0) 16) j = v_iv (n_v vs 12)) ∧ (j ≠ v_iv (n_v vs 4) → w_ei w1 (w_ar ws (n_v vs 0) 16) j = w_ei w2 (w_ar ws (n_v vs 0) 16) j) := fun j hj => ⟨fun h => by unfold w_ei; rw [s2.1, if_pos ⟨ad_9.symm, by rw [h]⟩], fun h => by unfold w_ei; rw [s2.1, if_neg (fun e => h (by have := e.2; omega))]⟩
  have kz_0_6 := fdq_62 hD hth r0
  have kz_0_13 := fdq_257 hD hth r0
  have nf0 : fc_1 PRD (20, [1, 3, 20, 31, 32], [60, 2, 1, 552, 6, 13, 16]) ws (vs) := by
    refine ⟨nf_in hl rfl, sgq_1102 ?_⟩
    · show TFI (w_fi ws (n_v vs 1) 6) (w_fi ws (n_v vs 1) 13) (w_ei ws (w_ar ws (n_v vs 1) 16)) (v_iv (n_v vs 3)) (v_iv (n_v vs 20)) (v_iv (n_v vs 31)) (v_iv (n_v vs 32))
      rw [q1]
      exact vc_Ne_traceFaces_at_Np_13_0 (v_iv (n_v vs 2)) (v_iv (n_v vs 3)) (v_iv (n_v vs 4)) (v_iv (n_v vs 5)) (v_iv (n_v vs 10)) (v_iv (n_v vs 12)) (v_iv (n_v vs 18)) (v_iv (n_v vs 20)) (v_iv (n_v vs 22)) (v_iv (n_v vs 31)) (v_iv (n_v vs 32)) (w_fi ws (n_v vs 0) 13) (w_fi ws (n_v vs 0) 6) (w_ei w2 (w_ar ws (n_v vs 0) 16)) (w_fi w2 (n_v vs 0) 6) (w_fi w2 (n_v vs 0) 13) (w_fi w1 (n_v vs 0) 6) (w_fi w1 (n_v vs 0) 13) (w_ei w1 (w_ar ws (n_v vs 0) 15)) (w_ei w2 (w_ar ws (n_v vs 0) 15)) (w_ei ws (w_ar ws (n_v vs 0) 16)) (w_ei w1 (w_ar ws (n_v vs 0) 16)) k2 k3 k4 k5 k10 k12 k18 k20 k22 k31 k32 g1 f4 f8 f10 f13 h19 f22 fe_0_6_1 fe_0_13_1 fe_0_6_2 fe_0_13_2 hE_0_15_2 hE_0_16_1 hE_0_16_2 kz_0_6 kz_0_13
  refine ⟨(fun _ h => (by cases h)), [], trivial, ?_, (fun _ h => (by cases h))⟩
  rw [List.append_nil]
  exact List.forall_mem_cons.mpr ⟨⟨show (20 : Nat) < 100 from by decide, nf0⟩, (fun _ h => (by cases h))⟩
set_option maxHeartbeats 4000000 in
theorem vc_Ne_traceFaces_at_Np_14_r0 (x3 : Int) (x4 : Int) (x10 : Int) (x15 : Int) (x22 : Int) (x28 : Int) (faces_0 : Int) (edges_0 : Int) (faceOf_2 : Int → Int) (edges_2 : Int) (faces_2 : Int) (edges_1 : Int) (faces_1 : Int) (rowNode_1 : Int → Int) (rowNode_2 : Int → Int) (faceOf_0 : Int → Int) (faceOf_1 : Int → Int) (k4 : 0 ≤ x4 ∧ x4 ≤ 143) (k10 : (-1) ≤ x10 ∧ x10 ≤ (-1)) (k15 : 1 ≤ x15 ∧ x15 ≤ 1) (k22 : 0 ≤ x22 ∧ x22 ≤ 0) (k28 : 0 ≤ x28 ∧ x28 ≤ 255) (f7 : x22 = x4 % 2) (f14 : x15 = x4 % 2) (h18 : x10 = faceOf_2 (x4)) (fe_0_6_1 : edges_0 = edges_1) (fe_0_13_1 : faces_0 = faces_1) (fe_0_6_2 : edges_1 = edges_2) (fe_0_13_2 : faces_1 = faces_2) (hE_0_15_2 : ∀ j : Int, rowNode_1 j = rowNode_2 j) (hE_0_16_1 : ∀ j : Int, faceOf_0 j = faceOf_1 j) (kz_0_6 : 0 ≤ edges_0 ∧ edges_0 ≤ 72) (kz_0_13 : 0 ≤ faces_0 ∧ faces_0 ≤ 144) : 0 ≤ x28 ∧ x28 ≤ 143 := by
  subst fe_0_6_1
  subst fe_0_13_1
  subst fe_0_6_2
  subst fe_0_13_2
  have e_hE_0_15_2 := funext hE_0_15_2; subst e_hE_0_15_2
  have e_hE_0_16_1 := funext hE_0_16_1; subst e_hE_0_16_1
  first
    | omega
    | (have q := tfo_low ‹TFO _ _ _ _ _›; omega)
    | (skip; (first | subst h18 | skip); have q := tfc_lt (‹TFO _ _ _ _ _›).2.2.2.1 (e := x3) (by omega) (by omega) (by omega); have q2 := tfo_low ‹TFO _ _ _ _ _›; omega)
    | (skip; (first | subst h18 | skip); have q := (tfo_next (faces_zq := faces_0 + 1) (st_zq := x3 + 1) ‹TFI _ _ _ _ _ _ _› (by first | (left; omega) | (right; omega)) rfl rfl).2; have q2 := (‹TFI _ _ _ _ _ _ _›).2.2.1; omega)
    | (skip; (first | subst h18 | skip); have q := tfi_low ‹TFI _ _ _ _ _ _ _› (by omega) (by omega) (by omega); omega)
    | (have q := xor_one (x := x29) (a := x4) (b := x28) (by assumption) (by omega) (by omega) (by omega) (by omega) (by omega); split at q <;> omega)
  
def o_Ne_traceFaces_at_Np_14 : or_T := (155, 29, [(0, (2, 0, 0, [149])), (1, (2, 0, 0, [149])), (2, (0, 0, 143, [])), (3, (0, 0, 143, [])), (4, (0, 0, 143, [])), (5, (0, 0, 143, [])), (6, (0, 2, 2, [])), (7, (0, 0, 72, [])), (8, (0, 1, 144, [])), (9, (2, 0, 0, [148])), (10, (0, -1, -1, [])), (11, (0, -1, -1, [])), (12, (0, 0, 143, [])), (13, (2, 0, 0, [147])), (14, (0, 1, 1, [])), (15, (0, 1, 1, [])), (18, (0, 0, 71, [])), (20, (0, 1, 144, [])), (21, (0, 1, 1, [])), (22, (0, 0, 0, [])), (24, (0, 0, 71, [])), (27, (0, 1, 1, [])), (28, (0, 0, 255, []))], [(9, [13, 1], [15]), (9, [12, 1], [13]), (9, [9, 1], [16]), (9, [7, 1], [6]), (16, [28, 4, 27], [2]), (11, [24, 4], [2]), (8, [22], [0]), (12, [22, 4], [2]), (16, [22, 4, 21], [0]), (6, [20, 2], [1]), (24, [0, 1], []), (100, [13, 2, 19], []), (11, [18, 4], [2]), (8, [15], [1]), (12, [15, 4], [2]), (16, [15, 4, 14], [0]), (100, [9, 4, 12], []), (7, [10, 11], [0]), (10, [10, 9, 4], []), (7, [5, 8], [2]), (3, [8, 6, 7], []), (20, [1, 3, 2, 4, 5], [60, 2, 1, 552, 6, 13, 16])], [(28, (0, 0, 143, []))], [], [], [], [(20, 2, 1, 1), (5, 8, -4294967296, -1), (5, 2, -4294967296, 0)])
theorem oo_Ne_traceFaces_at_Np_14 {kA : Nat → ClassId} : or_ok PRD kA GG o_Ne_traceFaces_at_Np_14 := by
  refine or_mk fun A ta ws vs hD hth hl => ?_
  intro t0 r0 t1 r1 t2 k2 t3 k3 t4 k4 t5 k5 t6 k6 t7 k7 t8 k8 t9 r9 t10 k10 t11 k11 t12 k12 t13 r13 t14 k14 t15 k15 t18 k18 t20 k20 t21 k21 t22 k22 t24 k24 t27 k27 t28 k28 d0 d1 d2 f0 f1 f2 f3 f4 f5 f6 f7 f8 f9 f10 ta1 w1 le1 s1 f12 f13 f14 f15 ta2 w2 le2 s2 f17 f18 f19 f20 f21
  replace f2 := shm_176 f2
  replace f10 := shm_5 f10
  have s1 : (∀ b j, w_el ws b j = if b = v_ad (n_v vs 13) ∧ j = (v_iv (n_v vs 2)).toNat then v_iv (n_v vs 19) else w_el w1 b j) ∧ ∀ b k, w_fd ws b k = w_fd w1 b k := s1.2
  have s2 : (∀ b j, w_el w1 b j = if b = v_ad (n_v vs 9) ∧ j = (v_iv (n_v vs 4)).toNat then v_iv (n_v vs 12) else w_el w2 b j) ∧ ∀ b k, w_fd w1 b k = w_fd w2 b k := s2.2
  replace f18 := shm_107 f18
  have q1 : n_v vs 1 = n_v vs 0 := f10.symm
  simp only [q1] at f2
  have cr_0_15 := fdq_259 hD hth r0
  have cr_0_16 := fdq_256 hD hth r0
  have ad_9 : v_ad (n_v vs 9) = w_ar ws (n_v vs 0) 16 := congrArg v_ad f2
  simp only [ad_9] at f18
  have h18 : v_iv (n_v vs 10) = w_ei w2 (w_ar ws (n_v vs 0) 16) (v_iv (n_v vs 4)) := f18
  have fe_0_6_1 : w_fi ws (n_v vs 0) 6 = w_fi w1 (n_v vs 0) 6 := congrArg v_iv (s1.2 _ _)
  have fe_0_13_1 : w_fi ws (n_v vs 0) 13 = w_fi w1 (n_v vs 0) 13 := congrArg v_iv (s1.2 _ _)
  have fe_0_6_2 : w_fi w1 (n_v vs 0) 6 = w_fi w2 (n_v vs 0) 6 := congrArg v_iv (s2.2 _ _)
  have fe_0_13_2 : w_fi w1 (n_v vs 0) 13 = w_fi w2 (n_v vs 0) 13 := congrArg v_iv (s2.2 _ _)
  have hE_0_15_2 : ∀ j : Int, w_ei w1 (w_ar ws (n_v vs 0) 15) j = w_ei w2 (w_ar ws (n_v vs 0) 15) j := el_kp s2.1 r9 cr_0_15 (by decide)
  have hE_0_16_1 : ∀ j : Int, w_ei ws (w_ar ws (n_v vs 0) 16) j = w_ei w1 (w_ar ws (n_v vs 0) 16) j := el_kp s1.1 r13 cr_0_16 (by decide)
  have kz_0_6 := fdq_62 hD hth r0
  have kz_0_13 := fdq_257 hD hth r0
  have hrf0 : 0 ≤ v_iv (n_v vs 28) ∧ v_iv (n_v vs 28) ≤ 143 := vc_Ne_traceFaces_at_Np_14_r0 (v_iv (n_v vs 3)) (v_iv (n_v vs 4)) (v_iv (n_v vs 10)) (v_iv (n_v vs 15)) (v_iv (n_v vs 22)) (v_iv (n_v vs 28)) (w_fi ws (n_v vs 0) 13) (w_fi ws (n_v vs 0) 6) (w_ei w2 (w_ar ws (n_v vs 0) 16)) (w_fi w2 (n_v vs 0) 6) (w_fi w2 (n_v vs 0) 13) (w_fi w1 (n_v vs 0) 6) (w_fi w1 (n_v vs 0) 13) (w_ei w1 (w_ar ws (n_v vs 0) 15)) (w_ei w2 (w_ar ws (n_v vs 0) 15)) (w_ei ws (w_ar ws (n_v vs 0) 16)) (w_ei w1 (w_ar ws (n_v vs 0) 16)) k4 k10 k15 k22 k28 (shm_364 f7) (shm_364 f14) h18 fe_0_6_1 fe_0_13_1 fe_0_6_2 fe_0_13_2 hE_0_15_2 hE_0_16_1 kz_0_6 kz_0_13
  have rf28 : tv_ok ta (0, 0, 143, []) (n_v vs 28) := tv_in t28 (by first | omega | grind) (by first | omega | grind)
  refine ⟨List.forall_mem_cons.mpr ⟨rf28, (fun _ h => (by cases h))⟩, [], trivial, ?_, (fun _ h => (by cases h))⟩
  rw [List.append_nil]
  exact (fun _ h => (by cases h))
set_option maxHeartbeats 4000000 in
theorem vc_Ne_traceFaces_at_Np_15_0 (x2 : Int) (x3 : Int) (x4 : Int) (x5 : Int) (x10 : Int) (x12 : Int) (x15 : Int) (x20 : Int) (x22 : Int) (x30 : Int) (x31 : Int) (faces_0 : Int) (edges_0 : Int) (faceOf_2 : Int → Int) (edges_2 : Int) (faces_2 : Int) (edges_1 : Int) (faces_1 : Int) (rowNode_1 : Int → Int) (rowNode_2 : Int → Int) (faceOf_0 : Int → Int) (faceOf_1 : Int → Int) (k2 : 0 ≤ x2 ∧ x2 ≤ 143) (k3 : 0 ≤ x3 ∧ x3 ≤ 143) (k4 : 0 ≤ x4 ∧ x4 ≤ 143) (k5 : 0 ≤ x5 ∧ x5 ≤ 143) (k10 : (-1) ≤ x10 ∧ x10 ≤ (-1)) (k12 : 0 ≤ x12 ∧ x12 ≤ 143) (k15 : 1 ≤ x15 ∧ x15 ≤ 1) (k20 : 1 ≤ x20 ∧ x20 ≤ 144) (k22 : 0 ≤ x22 ∧ x22 ≤ 0) (k30 : 1 ≤ x30 ∧ x30 ≤ 143) (k31 : 1 ≤ x31 ∧ x31 ≤ 144) (g1 : x12 = faces_0) (f4 : x31 = x5 + 1) (f8 : x22 = x4 % 2) (f10 : x20 = x2 + 1) (f15 : x15 = x4 % 2) (h19 : x10 = faceOf_2 (x4)) (f22 : TFI (edges_2) (faces_2) (faceOf_2) (x3) (x2) (x4) (x5)) (fe_0_6_1 : edges_0 = edges_1) (fe_0_13_1 : faces_0 = faces_1) (fe_0_6_2 : edges_1 = edges_2) (fe_0_13_2 : faces_1 = faces_2) (hE_0_15_2 : ∀ j : Int, rowNode_1 j = rowNode_2 j) (hE_0_16_1 : ∀ j : Int, faceOf_0 j = faceOf_1 j) (hE_0_16_2 : ∀ j : Int, 0 ≤ j → (j = x4 → faceOf_1 j = x12) ∧ (j ≠ x4 → faceOf_1 j = faceOf_2 j)) (kz_0_6 : 0 ≤ edges_0 ∧ edges_0 ≤ 72) (kz_0_13 : 0 ≤ faces_0 ∧ faces_0 ≤ 144) : TFI (edges_0) (faces_0) (faceOf_0) (x3) (x20) (x30) (x31) := by
  subst fe_0_6_1
  subst fe_0_13_1
  subst fe_0_6_2
  subst fe_0_13_2
  have e_hE_0_15_2 := funext hE_0_15_2; subst e_hE_0_15_2
  have e_hE_0_16_1 := funext hE_0_16_1; subst e_hE_0_16_1
  first
    | (skip; (first | subst h19 | skip); exact tfi_start ‹TFO _ _ _ _ _› (by omega) (by omega) (by omega) (by omega))
    | (skip; (first | subst h19 | skip); exact tfi_step ‹TFI _ _ _ _ _ _ _› (by assumption) rfl (by omega) (by omega) (by omega) (by omega) (by omega) (by omega))
  
def o_Ne_traceFaces_at_Np_15 : or_T := (55, 32, [(0, (2, 0, 0, [149])), (1, (2, 0, 0, [149])), (2, (0, 0, 143, [])), (3, (0, 0, 143, [])), (4, (0, 0, 143, [])), (5, (0, 0, 143, [])), (6, (0, 2, 2, [])), (7, (0, 0, 72, [])), (8, (0, 1, 144, [])), (9, (2, 0, 0, [148])), (10, (0, -1, -1, [])), (11, (0, -1, -1, [])), (12, (0, 0, 143, [])), (13, (2, 0, 0, [147])), (14, (0, 1, 1, [])), (15, (0, 1, 1, [])), (18, (0, 0, 71, [])), (20, (0, 1, 144, [])), (21, (0, 1, 1, [])), (22, (0, 0, 0, [])), (24, (0, 0, 71, [])), (27, (0, 1, 1, [])), (28, (0, 0, 143, [])), (30, (0, 1, 143, [])), (31, (0, 1, 144, []))], [(9, [13, 1], [15]), (9, [12, 1], [13]), (9, [9, 1], [16]), (9, [7, 1], [6]), (6, [31, 5], [1]), (16, [28, 4, 27], [2]), (11, [24, 4], [2]), (8, [22], [0]), (12, [22, 4], [2]), (16, [22, 4, 21], [0]), (6, [20, 2], [1]), (24, [0, 1], []), (100, [13, 2, 19], []), (11, [18, 4], [2]), (8, [15], [1]), (12, [15, 4], [2]), (16, [15, 4, 14], [0]), (100, [9, 4, 12], []), (7, [10, 11], [0]), (10, [10, 9, 4], []), (7, [5, 8], [2]), (3, [8, 6, 7], []), (20, [1, 3, 2, 4, 5], [60, 2, 1, 552, 6, 13, 16])], [], [], [(20, [1, 3, 20, 30, 31], [60, 2, 1, 552, 6, 13, 16])], [], [(31, 5, 1, 1), (31, 8, -4294967296, 0), (31, 2, -4294967296, 1), (20, 2, 1, 1), (5, 8, -4294967296, -1), (5, 2, -4294967296, 0)])
theorem oo_Ne_traceFaces_at_Np_15 {kA : Nat → ClassId} : or_ok PRD kA GG o_Ne_traceFaces_at_Np_15 := by
  refine or_mk fun A ta ws vs hD hth hl => ?_
  intro t0 r0 t1 r1 t2 k2 t3 k3 t4 k4 t5 k5 t6 k6 t7 k7 t8 k8 t9 r9 t10 k10 t11 k11 t12 k12 t13 r13 t14 k14 t15 k15 t18 k18 t20 k20 t21 k21 t22 k22 t24 k24 t27 k27 t28 k28 t30 k30 t31 k31 d0 d1 d2 d3 d4 d5 f0 f1 f2 f3 f4 f5 f6 f7 f8 f9 f10 f11 ta1 w1 le1 s1 f13 f14 f15 f16 ta2 w2 le2 s2 f18 f19 f20 f21 f22
  replace f1 := shm_361 f1
  replace f2 := shm_176 f2
  replace f4 := shm_4 f4
  replace f8 := shm_364 f8
  replace f10 := shm_4 f10
  replace f11 := shm_5 f11
  have s1 : (∀ b j, w_el ws b j = if b = v_ad (n_v vs 13) ∧ j = (v_iv (n_v vs 2)).toNat then v_iv (n_v vs 19) else w_el w1 b j) ∧ ∀ b k, w_fd ws b k = w_fd w1 b k := s1.2
  replace f15 := shm_364 f15
  have s2 : (∀ b j, w_el w1 b j = if b = v_ad (n_v vs 9) ∧ j = (v_iv (n_v vs 4)).toNat then v_iv (n_v vs 12) else w_el w2 b j) ∧ ∀ b k, w_fd w1 b k = w_fd w2 b k := s2.2
  replace f19 := shm_107 f19
  replace f22 := shm_1102 f22
  have q1 : n_v vs 1 = n_v vs 0 := f11.symm
  simp only [q1] at f1 f2 f22
  have cr_0_15 := fdq_259 hD hth r0
  have ar_0_16_1 : w_ar w1 (n_v vs 0) 16 = w_ar ws (n_v vs 0) 16 := congrArg v_ad (s1.2 _ _).symm
  have ar_0_16_2 : w_ar w2 (n_v vs 0) 16 = w_ar ws (n_v vs 0) 16 := by rw [← ar_0_16_1]; show v_ad (w_fd w2 _ _) = v_ad (w_fd w1 _ _); rw [s2.2]
  have cr_0_16 := fdq_256 hD hth r0
  have ad_9 : v_ad (n_v vs 9) = w_ar ws (n_v vs 0) 16 := congrArg v_ad f2
  have g1 : v_iv (n_v vs 12) = w_fi ws (n_v vs 0) 13 := congrArg v_iv f1
  simp only [ad_9] at f19
  have h19 : v_iv (n_v vs 10) = w_ei w2 (w_ar ws (n_v vs 0) 16) (v_iv (n_v vs 4)) := f19
  simp only [ar_0_16_2] at f22
  have fe_0_6_1 : w_fi ws (n_v vs 0) 6 = w_fi w1 (n_v vs 0) 6 := congrArg v_iv (s1.2 _ _)
  have fe_0_13_1 : w_fi ws (n_v vs 0) 13 = w_fi w1 (n_v vs 0) 13 := congrArg v_iv (s1.2 _ _)
  have fe_0_6_2 : w_fi w1 (n_v vs 0) 6 = w_fi w2 (n_v vs 0) 6 := congrArg v_iv (s2.2 _ _)
  have fe_0_13_2 : w_fi w1 (n_v vs 0) 13 = w_fi w2 (n_v vs 0) 13 := congrArg v_iv (s2.2 _ _)
  have hE_0_15_2 : ∀ j : Int, w_ei w1 (w_ar ws (n_v vs 0) 15) j = w_ei w2 (w_ar ws (n_v vs 0) 15) j := el_kp s2.1 r9 cr_0_15 (by decide)
  have hE_0_16_1 : ∀ j : Int, w_ei ws (w_ar ws (n_v vs 0) 16) j = w_ei w1 (w_ar ws (n_v vs 0) 16) j := el_kp s1.1 r13 cr_0_16 (by decide)
  have hE_0_16_2 : ∀ j : Int, 0 ≤ j → (j = v_iv (n_v vs 4) → w_ei w1 (w_ar ws (n_v vs 0) 16) j = v_iv (n_v vs 12)) ∧ (j ≠ v_iv (n_v vs 4) → w_ei w1 (w_ar ws (n_v vs 0) 16) j = w_ei w2 (w_ar ws (n_v vs 0) 16) j) := fun j hj => ⟨fun h => by unfold w_ei; rw [s2.1, if_pos ⟨ad_9.symm, by rw [h]⟩], fun h => by unfold w_ei; rw [s2.1, if_neg (fun e => h (by have := e.2; omega))]⟩
  have kz_0_6 := fdq_62 hD hth r0
  have kz_0_13 := fdq_257 hD hth r0
  have nf0 : fc_1 PRD (20, [1, 3, 20, 30, 31], [60, 2, 1, 552, 6, 13, 16]) ws (vs) := by
    refine ⟨nf_in hl rfl, sgq_1102 ?_⟩
    · show TFI (w_fi ws (n_v vs 1) 6) (w_fi ws (n_v vs 1) 13) (w_ei ws (w_ar ws (n_v vs 1) 16)) (v_iv (n_v vs 3)) (v_iv (n_v vs 20)) (v_iv (n_v vs 30)) (v_iv (n_v vs 31))
      rw [q1]
      exact vc_Ne_traceFaces_at_Np_15_0 (v_iv (n_v vs 2)) (v_iv (n_v vs 3)) (v_iv (n_v vs 4)) (v_iv (n_v vs 5)) (v_iv (n_v vs 10)) (v_iv (n_v vs 12)) (v_iv (n_v vs 15)) (v_iv (n_v vs 20)) (v_iv (n_v vs 22)) (v_iv (n_v vs 30)) (v_iv (n_v vs 31)) (w_fi ws (n_v vs 0) 13) (w_fi ws (n_v vs 0) 6) (w_ei w2 (w_ar ws (n_v vs 0) 16)) (w_fi w2 (n_v vs 0) 6) (w_fi w2 (n_v vs 0) 13) (w_fi w1 (n_v vs 0) 6) (w_fi w1 (n_v vs 0) 13) (w_ei w1 (w_ar ws (n_v vs 0) 15)) (w_ei w2 (w_ar ws (n_v vs 0) 15)) (w_ei ws (w_ar ws (n_v vs 0) 16)) (w_ei w1 (w_ar ws (n_v vs 0) 16)) k2 k3 k4 k5 k10 k12 k15 k20 k22 k30 k31 g1 f4 f8 f10 f15 h19 f22 fe_0_6_1 fe_0_13_1 fe_0_6_2 fe_0_13_2 hE_0_15_2 hE_0_16_1 hE_0_16_2 kz_0_6 kz_0_13
  refine ⟨(fun _ h => (by cases h)), [], trivial, ?_, (fun _ h => (by cases h))⟩
  rw [List.append_nil]
  exact List.forall_mem_cons.mpr ⟨⟨show (20 : Nat) < 100 from by decide, nf0⟩, (fun _ h => (by cases h))⟩
set_option maxHeartbeats 4000000 in
theorem vc_Ne_traceFaces_at_Np_16_0 (x2 : Int) (x3 : Int) (x4 : Int) (x5 : Int) (x10 : Int) (x12 : Int) (x15 : Int) (x20 : Int) (x22 : Int) (x30 : Int) (x31 : Int) (faces_0 : Int) (edges_0 : Int) (faceOf_2 : Int → Int) (edges_2 : Int) (faces_2 : Int) (edges_1 : Int) (faces_1 : Int) (rowNode_1 : Int → Int) (rowNode_2 : Int → Int) (faceOf_0 : Int → Int) (faceOf_1 : Int → Int) (k2 : 0 ≤ x2 ∧ x2 ≤ 143) (k3 : 0 ≤ x3 ∧ x3 ≤ 143) (k4 : 0 ≤ x4 ∧ x4 ≤ 143) (k5 : 0 ≤ x5 ∧ x5 ≤ 143) (k10 : (-1) ≤ x10 ∧ x10 ≤ (-1)) (k12 : 0 ≤ x12 ∧ x12 ≤ 143) (k15 : 1 ≤ x15 ∧ x15 ≤ 1) (k20 : 1 ≤ x20 ∧ x20 ≤ 144) (k22 : 0 ≤ x22 ∧ x22 ≤ 0) (k30 : 0 ≤ x30 ∧ x30 ≤ 142) (k31 : 1 ≤ x31 ∧ x31 ≤ 144) (g1 : x12 = faces_0) (f4 : x31 = x5 + 1) (f8 : x22 = x4 % 2) (f10 : x20 = x2 + 1) (f15 : x15 = x4 % 2) (h19 : x10 = faceOf_2 (x4)) (f22 : TFI (edges_2) (faces_2) (faceOf_2) (x3) (x2) (x4) (x5)) (fe_0_6_1 : edges_0 = edges_1) (fe_0_13_1 : faces_0 = faces_1) (fe_0_6_2 : edges_1 = edges_2) (fe_0_13_2 : faces_1 = faces_2) (hE_0_15_2 : ∀ j : Int, rowNode_1 j = rowNode_2 j) (hE_0_16_1 : ∀ j : Int, faceOf_0 j = faceOf_1 j) (hE_0_16_2 : ∀ j : Int, 0 ≤ j → (j = x4 → faceOf_1 j = x12) ∧ (j ≠ x4 → faceOf_1 j = faceOf_2 j)) (kz_0_6 : 0 ≤ edges_0 ∧ edges_0 ≤ 72) (kz_0_13 : 0 ≤ faces_0 ∧ faces_0 ≤ 144) : TFI (edges_0) (faces_0) (faceOf_0) (x3) (x20) (x30) (x31) := by
  subst fe_0_6_1
  subst fe_0_13_1
  subst fe_0_6_2
  subst fe_0_13_2
  have e_hE_0_15_2 := funext hE_0_15_2; subst e_hE_0_15_2
  have e_hE_0_16_1 := funext hE_0_16_1; subst e_hE_0_16_1
  first
    | (skip; (first | subst h19 | skip); exact tfi_start ‹TFO _ _ _ _ _› (by omega) (by omega) (by omega) (by omega))
    | (skip; (first | subst h19 | skip); exact tfi_step ‹TFI _ _ _ _ _ _ _› (by assumption) rfl (by omega) (by omega) (by omega) (by omega) (by omega) (by omega))
  
def o_Ne_traceFaces_at_Np_16 : or_T := (55, 32, [(0, (2, 0, 0, [149])), (1, (2, 0, 0, [149])), (2, (0, 0, 143, [])), (3, (0, 0, 143, [])), (4, (0, 0, 143, [])), (5, (0, 0, 143, [])), (6, (0, 2, 2, [])), (7, (0, 0, 72, [])), (8, (0, 1, 144, [])), (9, (2, 0, 0, [148])), (10, (0, -1, -1, [])), (11, (0, -1, -1, [])), (12, (0, 0, 143, [])), (13, (2, 0, 0, [147])), (14, (0, 1, 1, [])), (15, (0, 1, 1, [])), (18, (0, 0, 71, [])), (20, (0, 1, 144, [])), (21, (0, 1, 1, [])), (22, (0, 0, 0, [])), (24, (0, 0, 71, [])), (27, (0, 1, 1, [])), (28, (0, 0, 143, [])), (30, (0, 0, 142, [])), (31, (0, 1, 144, []))], [(9, [13, 1], [15]), (9, [12, 1], [13]), (9, [9, 1], [16]), (9, [7, 1], [6]), (6, [31, 5], [1]), (16, [28, 4, 27], [2]), (11, [24, 4], [2]), (8, [22], [0]), (12, [22, 4], [2]), (16, [22, 4, 21], [0]), (6, [20, 2], [1]), (24, [0, 1], []), (100, [13, 2, 19], []), (11, [18, 4], [2]), (8, [15], [1]), (12, [15, 4], [2]), (16, [15, 4, 14], [0]), (100, [9, 4, 12], []), (7, [10, 11], [0]), (10, [10, 9, 4], []), (7, [5, 8], [2]), (3, [8, 6, 7], []), (20, [1, 3, 2, 4, 5], [60, 2, 1, 552, 6, 13, 16])], [], [], [(20, [1, 3, 20, 30, 31], [60, 2, 1, 552, 6, 13, 16])], [], [(31, 5, 1, 1), (31, 8, -4294967296, 0), (31, 2, -4294967296, 1), (20, 2, 1, 1), (5, 8, -4294967296, -1), (5, 2, -4294967296, 0)])
theorem oo_Ne_traceFaces_at_Np_16 {kA : Nat → ClassId} : or_ok PRD kA GG o_Ne_traceFaces_at_Np_16 := by
  refine or_mk fun A ta ws vs hD hth hl => ?_
  intro t0 r0 t1 r1 t2 k2 t3 k3 t4 k4 t5 k5 t6 k6 t7 k7 t8 k8 t9 r9 t10 k10 t11 k11 t12 k12 t13 r13 t14 k14 t15 k15 t18 k18 t20 k20 t21 k21 t22 k22 t24 k24 t27 k27 t28 k28 t30 k30 t31 k31 d0 d1 d2 d3 d4 d5 f0 f1 f2 f3 f4 f5 f6 f7 f8 f9 f10 f11 ta1 w1 le1 s1 f13 f14 f15 f16 ta2 w2 le2 s2 f18 f19 f20 f21 f22
  replace f1 := shm_361 f1
  replace f2 := shm_176 f2
  replace f4 := shm_4 f4
  replace f8 := shm_364 f8
  replace f10 := shm_4 f10
  replace f11 := shm_5 f11
  have s1 : (∀ b j, w_el ws b j = if b = v_ad (n_v vs 13) ∧ j = (v_iv (n_v vs 2)).toNat then v_iv (n_v vs 19) else w_el w1 b j) ∧ ∀ b k, w_fd ws b k = w_fd w1 b k := s1.2
  replace f15 := shm_364 f15
  have s2 : (∀ b j, w_el w1 b j = if b = v_ad (n_v vs 9) ∧ j = (v_iv (n_v vs 4)).toNat then v_iv (n_v vs 12) else w_el w2 b j) ∧ ∀ b k, w_fd w1 b k = w_fd w2 b k := s2.2
  replace f19 := shm_107 f19
  replace f22 := shm_1102 f22
  have q1 : n_v vs 1 = n_v vs 0 := f11.symm
  simp only [q1] at f1 f2 f22
  have cr_0_15 := fdq_259 hD hth r0
  have ar_0_16_1 : w_ar w1 (n_v vs 0) 16 = w_ar ws (n_v vs 0) 16 := congrArg v_ad (s1.2 _ _).symm
  have ar_0_16_2 : w_ar w2 (n_v vs 0) 16 = w_ar ws (n_v vs 0) 16 := by rw [← ar_0_16_1]; show v_ad (w_fd w2 _ _) = v_ad (w_fd w1 _ _); rw [s2.2]
  have cr_0_16 := fdq_256 hD hth r0
  have ad_9 : v_ad (n_v vs 9) = w_ar ws (n_v vs 0) 16 := congrArg v_ad f2
  have g1 : v_iv (n_v vs 12) = w_fi ws (n_v vs 0) 13 := congrArg v_iv f1
  simp only [ad_9] at f19
  have h19 : v_iv (n_v vs 10) = w_ei w2 (w_ar ws (n_v vs 0) 16) (v_iv (n_v vs 4)) := f19
  simp only [ar_0_16_2] at f22
  have fe_0_6_1 : w_fi ws (n_v vs 0) 6 = w_fi w1 (n_v vs 0) 6 := congrArg v_iv (s1.2 _ _)
  have fe_0_13_1 : w_fi ws (n_v vs 0) 13 = w_fi w1 (n_v vs 0) 13 := congrArg v_iv (s1.2 _ _)
  have fe_0_6_2 : w_fi w1 (n_v vs 0) 6 = w_fi w2 (n_v vs 0) 6 := congrArg v_iv (s2.2 _ _)
  have fe_0_13_2 : w_fi w1 (n_v vs 0) 13 = w_fi w2 (n_v vs 0) 13 := congrArg v_iv (s2.2 _ _)
  have hE_0_15_2 : ∀ j : Int, w_ei w1 (w_ar ws (n_v vs 0) 15) j = w_ei w2 (w_ar ws (n_v vs 0) 15) j := el_kp s2.1 r9 cr_0_15 (by decide)
  have hE_0_16_1 : ∀ j : Int, w_ei ws (w_ar ws (n_v vs 0) 16) j = w_ei w1 (w_ar ws (n_v vs 0) 16) j := el_kp s1.1 r13 cr_0_16 (by decide)
  have hE_0_16_2 : ∀ j : Int, 0 ≤ j → (j = v_iv (n_v vs 4) → w_ei w1 (w_ar ws (n_v vs 0) 16) j = v_iv (n_v vs 12)) ∧ (j ≠ v_iv (n_v vs 4) → w_ei w1 (w_ar ws (n_v vs 0) 16) j = w_ei w2 (w_ar ws (n_v vs 0) 16) j) := fun j hj => ⟨fun h => by unfold w_ei; rw [s2.1, if_pos ⟨ad_9.symm, by rw [h]⟩], fun h => by unfold w_ei; rw [s2.1, if_neg (fun e => h (by have := e.2; omega))]⟩
  have kz_0_6 := fdq_62 hD hth r0
  have kz_0_13 := fdq_257 hD hth r0
  have nf0 : fc_1 PRD (20, [1, 3, 20, 30, 31], [60, 2, 1, 552, 6, 13, 16]) ws (vs) := by
    refine ⟨nf_in hl rfl, sgq_1102 ?_⟩
    · show TFI (w_fi ws (n_v vs 1) 6) (w_fi ws (n_v vs 1) 13) (w_ei ws (w_ar ws (n_v vs 1) 16)) (v_iv (n_v vs 3)) (v_iv (n_v vs 20)) (v_iv (n_v vs 30)) (v_iv (n_v vs 31))
      rw [q1]
      exact vc_Ne_traceFaces_at_Np_16_0 (v_iv (n_v vs 2)) (v_iv (n_v vs 3)) (v_iv (n_v vs 4)) (v_iv (n_v vs 5)) (v_iv (n_v vs 10)) (v_iv (n_v vs 12)) (v_iv (n_v vs 15)) (v_iv (n_v vs 20)) (v_iv (n_v vs 22)) (v_iv (n_v vs 30)) (v_iv (n_v vs 31)) (w_fi ws (n_v vs 0) 13) (w_fi ws (n_v vs 0) 6) (w_ei w2 (w_ar ws (n_v vs 0) 16)) (w_fi w2 (n_v vs 0) 6) (w_fi w2 (n_v vs 0) 13) (w_fi w1 (n_v vs 0) 6) (w_fi w1 (n_v vs 0) 13) (w_ei w1 (w_ar ws (n_v vs 0) 15)) (w_ei w2 (w_ar ws (n_v vs 0) 15)) (w_ei ws (w_ar ws (n_v vs 0) 16)) (w_ei w1 (w_ar ws (n_v vs 0) 16)) k2 k3 k4 k5 k10 k12 k15 k20 k22 k30 k31 g1 f4 f8 f10 f15 h19 f22 fe_0_6_1 fe_0_13_1 fe_0_6_2 fe_0_13_2 hE_0_15_2 hE_0_16_1 hE_0_16_2 kz_0_6 kz_0_13
  refine ⟨(fun _ h => (by cases h)), [], trivial, ?_, (fun _ h => (by cases h))⟩
  rw [List.append_nil]
  exact List.forall_mem_cons.mpr ⟨⟨show (20 : Nat) < 100 from by decide, nf0⟩, (fun _ h => (by cases h))⟩
set_option maxHeartbeats 4000000 in
theorem vc_Ne_traceFaces_at_Np_17_r0 (x2 : Int) (x3 : Int) (x4 : Int) (x5 : Int) (x10 : Int) (x15 : Int) (x18 : Int) (faces_0 : Int) (edges_0 : Int) (faceOf_1 : Int → Int) (edges_1 : Int) (faces_1 : Int) (k2 : 0 ≤ x2 ∧ x2 ≤ 144) (k3 : 0 ≤ x3 ∧ x3 ≤ 143) (k4 : 0 ≤ x4 ∧ x4 ≤ 143) (k5 : 0 ≤ x5 ∧ x5 ≤ 143) (k10 : (-1) ≤ x10 ∧ x10 ≤ (-1)) (k15 : 0 ≤ x15 ∧ x15 ≤ 0) (k18 : 0 ≤ x18 ∧ x18 ≤ 71) (f3 : x18 = x4 / 2) (f5 : x15 = x4 % 2) (h10 : x10 = faceOf_1 (x4)) (f13 : TFI (edges_1) (faces_1) (faceOf_1) (x3) (x2) (x4) (x5)) (fe_0_6_1 : edges_0 = edges_1) (fe_0_13_1 : faces_0 = faces_1) (kz_0_6 : 0 ≤ edges_0 ∧ edges_0 ≤ 72) (kz_0_13 : 0 ≤ faces_0 ∧ faces_0 ≤ 144) : 0 ≤ x2 ∧ x2 ≤ 143 := by
  subst fe_0_6_1
  subst fe_0_13_1
  first
    | omega
    | (have q := tfo_low ‹TFO _ _ _ _ _›; omega)
    | (skip; (first | subst h10 | skip); have q := tfc_lt (‹TFO _ _ _ _ _›).2.2.2.1 (e := x3) (by omega) (by omega) (by omega); have q2 := tfo_low ‹TFO _ _ _ _ _›; omega)
    | (skip; (first | subst h10 | skip); have q := (tfo_next (faces_zq := faces_0 + 1) (st_zq := x3 + 1) ‹TFI _ _ _ _ _ _ _› (by first | (left; omega) | (right; omega)) rfl rfl).2; have q2 := (‹TFI _ _ _ _ _ _ _›).2.2.1; omega)
    | (skip; (first | subst h10 | skip); have q := tfi_low ‹TFI _ _ _ _ _ _ _› (by omega) (by omega) (by omega); omega)
    | (have q := xor_one (x := x29) (a := x4) (b := x28) (by assumption) (by omega) (by omega) (by omega) (by omega) (by omega); split at q <;> omega)
  
def o_Ne_traceFaces_at_Np_17 : or_T := (116, 20, [(0, (2, 0, 0, [149])), (1, (2, 0, 0, [149])), (2, (0, 0, 144, [])), (3, (0, 0, 143, [])), (4, (0, 0, 143, [])), (5, (0, 0, 143, [])), (6, (0, 2, 2, [])), (7, (0, 0, 72, [])), (8, (0, 1, 144, [])), (9, (2, 0, 0, [148])), (10, (0, -1, -1, [])), (11, (0, -1, -1, [])), (12, (0, 0, 143, [])), (14, (0, 1, 1, [])), (15, (0, 0, 0, [])), (18, (0, 0, 71, []))], [(9, [12, 1], [13]), (9, [9, 1], [16]), (9, [7, 1], [6]), (11, [18, 4], [2]), (8, [15], [0]), (12, [15, 4], [2]), (16, [15, 4, 14], [0]), (24, [0, 1], []), (100, [9, 4, 12], []), (7, [10, 11], [0]), (10, [10, 9, 4], []), (7, [5, 8], [2]), (3, [8, 6, 7], []), (20, [1, 3, 2, 4, 5], [60, 2, 1, 552, 6, 13, 16])], [(2, (0, 0, 143, []))], [], [], [], [(5, 8, -4294967296, -1), (5, 2, -4294967296, 0)])
theorem oo_Ne_traceFaces_at_Np_17 {kA : Nat → ClassId} : or_ok PRD kA GG o_Ne_traceFaces_at_Np_17 := by
  refine or_mk fun A ta ws vs hD hth hl => ?_
  intro t0 r0 t1 r1 t2 k2 t3 k3 t4 k4 t5 k5 t6 k6 t7 k7 t8 k8 t9 r9 t10 k10 t11 k11 t12 k12 t14 k14 t15 k15 t18 k18 d0 d1 f0 f1 f2 f3 f4 f5 f6 f7 ta1 w1 le1 s1 f9 f10 f11 f12 f13
  replace f1 := shm_176 f1
  replace f7 := shm_5 f7
  have s1 : (∀ b j, w_el ws b j = if b = v_ad (n_v vs 9) ∧ j = (v_iv (n_v vs 4)).toNat then v_iv (n_v vs 12) else w_el w1 b j) ∧ ∀ b k, w_fd ws b k = w_fd w1 b k := s1.2
  replace f10 := shm_107 f10
  replace f13 := shm_1102 f13
  have q1 : n_v vs 1 = n_v vs 0 := f7.symm
  simp only [q1] at f1 f13
  have ar_0_16_1 : w_ar w1 (n_v vs 0) 16 = w_ar ws (n_v vs 0) 16 := congrArg v_ad (s1.2 _ _).symm
  have ad_9 : v_ad (n_v vs 9) = w_ar ws (n_v vs 0) 16 := congrArg v_ad f1
  simp only [ad_9] at f10
  have h10 : v_iv (n_v vs 10) = w_ei w1 (w_ar ws (n_v vs 0) 16) (v_iv (n_v vs 4)) := f10
  simp only [ar_0_16_1] at f13
  have fe_0_6_1 : w_fi ws (n_v vs 0) 6 = w_fi w1 (n_v vs 0) 6 := congrArg v_iv (s1.2 _ _)
  have fe_0_13_1 : w_fi ws (n_v vs 0) 13 = w_fi w1 (n_v vs 0) 13 := congrArg v_iv (s1.2 _ _)
  have kz_0_6 := fdq_62 hD hth r0
  have kz_0_13 := fdq_257 hD hth r0
  have hrf0 : 0 ≤ v_iv (n_v vs 2) ∧ v_iv (n_v vs 2) ≤ 143 := vc_Ne_traceFaces_at_Np_17_r0 (v_iv (n_v vs 2)) (v_iv (n_v vs 3)) (v_iv (n_v vs 4)) (v_iv (n_v vs 5)) (v_iv (n_v vs 10)) (v_iv (n_v vs 15)) (v_iv (n_v vs 18)) (w_fi ws (n_v vs 0) 13) (w_fi ws (n_v vs 0) 6) (w_ei w1 (w_ar ws (n_v vs 0) 16)) (w_fi w1 (n_v vs 0) 6) (w_fi w1 (n_v vs 0) 13) k2 k3 k4 k5 k10 k15 k18 (shm_585 f3) (shm_364 f5) h10 f13 fe_0_6_1 fe_0_13_1 kz_0_6 kz_0_13
  have rf2 : tv_ok ta (0, 0, 143, []) (n_v vs 2) := tv_in t2 (by first | omega | grind) (by first | omega | grind)
  refine ⟨List.forall_mem_cons.mpr ⟨rf2, (fun _ h => (by cases h))⟩, [], trivial, ?_, (fun _ h => (by cases h))⟩
  rw [List.append_nil]
  exact (fun _ h => (by cases h))
set_option maxHeartbeats 4000000 in
theorem vc_Ne_traceFaces_at_Np_18_r0 (x3 : Int) (x4 : Int) (x10 : Int) (x15 : Int) (x22 : Int) (x28 : Int) (faces_0 : Int) (edges_0 : Int) (faceOf_2 : Int → Int) (edges_2 : Int) (faces_2 : Int) (edges_1 : Int) (faces_1 : Int) (rowNode_1 : Int → Int) (rowNode_2 : Int → Int) (faceOf_0 : Int → Int) (faceOf_1 : Int → Int) (k4 : 0 ≤ x4 ∧ x4 ≤ 143) (k10 : (-1) ≤ x10 ∧ x10 ≤ (-1)) (k15 : 0 ≤ x15 ∧ x15 ≤ 0) (k22 : 1 ≤ x22 ∧ x22 ≤ 1) (k28 : 0 ≤ x28 ∧ x28 ≤ 255) (f7 : x22 = x4 % 2) (f14 : x15 = x4 % 2) (h18 : x10 = faceOf_2 (x4)) (fe_0_6_1 : edges_0 = edges_1) (fe_0_13_1 : faces_0 = faces_1) (fe_0_6_2 : edges_1 = edges_2) (fe_0_13_2 : faces_1 = faces_2) (hE_0_15_2 : ∀ j : Int, rowNode_1 j = rowNode_2 j) (hE_0_16_1 : ∀ j : Int, faceOf_0 j = faceOf_1 j) (kz_0_6 : 0 ≤ edges_0 ∧ edges_0 ≤ 72) (kz_0_13 : 0 ≤ faces_0 ∧ faces_0 ≤ 144) : 0 ≤ x28 ∧ x28 ≤ 143 := by
  subst fe_0_6_1
  subst fe_0_13_1
  subst fe_0_6_2
  subst fe_0_13_2
  have e_hE_0_15_2 := funext hE_0_15_2; subst e_hE_0_15_2
  have e_hE_0_16_1 := funext hE_0_16_1; subst e_hE_0_16_1
  first
    | omega
    | (have q := tfo_low ‹TFO _ _ _ _ _›; omega)
    | (skip; (first | subst h18 | skip); have q := tfc_lt (‹TFO _ _ _ _ _›).2.2.2.1 (e := x3) (by omega) (by omega) (by omega); have q2 := tfo_low ‹TFO _ _ _ _ _›; omega)
    | (skip; (first | subst h18 | skip); have q := (tfo_next (faces_zq := faces_0 + 1) (st_zq := x3 + 1) ‹TFI _ _ _ _ _ _ _› (by first | (left; omega) | (right; omega)) rfl rfl).2; have q2 := (‹TFI _ _ _ _ _ _ _›).2.2.1; omega)
    | (skip; (first | subst h18 | skip); have q := tfi_low ‹TFI _ _ _ _ _ _ _› (by omega) (by omega) (by omega); omega)
    | (have q := xor_one (x := x29) (a := x4) (b := x28) (by assumption) (by omega) (by omega) (by omega) (by omega) (by omega); split at q <;> omega)
  
def o_Ne_traceFaces_at_Np_18 : or_T := (155, 29, [(0, (2, 0, 0, [149])), (1, (2, 0, 0, [149])), (2, (0, 0, 143, [])), (3, (0, 0, 143, [])), (4, (0, 0, 143, [])), (5, (0, 0, 143, [])), (6, (0, 2, 2, [])), (7, (0, 0, 72, [])), (8, (0, 1, 144, [])), (9, (2, 0, 0, [148])), (10, (0, -1, -1, [])), (11, (0, -1, -1, [])), (12, (0, 0, 143, [])), (13, (2, 0, 0, [147])), (14, (0, 1, 1, [])), (15, (0, 0, 0, [])), (18, (0, 0, 71, [])), (20, (0, 1, 144, [])), (21, (0, 1, 1, [])), (22, (0, 1, 1, [])), (24, (0, 0, 71, [])), (27, (0, 1, 1, [])), (28, (0, 0, 255, []))], [(9, [13, 1], [15]), (9, [12, 1], [13]), (9, [9, 1], [16]), (9, [7, 1], [6]), (16, [28, 4, 27], [2]), (11, [24, 4], [2]), (8, [22], [1]), (12, [22, 4], [2]), (16, [22, 4, 21], [0]), (6, [20, 2], [1]), (24, [0, 1], []), (100, [13, 2, 19], []), (11, [18, 4], [2]), (8, [15], [0]), (12, [15, 4], [2]), (16, [15, 4, 14], [0]), (100, [9, 4, 12], []), (7, [10, 11], [0]), (10, [10, 9, 4], []), (7, [5, 8], [2]), (3, [8, 6, 7], []), (20, [1, 3, 2, 4, 5], [60, 2, 1, 552, 6, 13, 16])], [(28, (0, 0, 143, []))], [], [], [], [(20, 2, 1, 1), (5, 8, -4294967296, -1), (5, 2, -4294967296, 0)])
theorem oo_Ne_traceFaces_at_Np_18 {kA : Nat → ClassId} : or_ok PRD kA GG o_Ne_traceFaces_at_Np_18 := by
  refine or_mk fun A ta ws vs hD hth hl => ?_
  intro t0 r0 t1 r1 t2 k2 t3 k3 t4 k4 t5 k5 t6 k6 t7 k7 t8 k8 t9 r9 t10 k10 t11 k11 t12 k12 t13 r13 t14 k14 t15 k15 t18 k18 t20 k20 t21 k21 t22 k22 t24 k24 t27 k27 t28 k28 d0 d1 d2 f0 f1 f2 f3 f4 f5 f6 f7 f8 f9 f10 ta1 w1 le1 s1 f12 f13 f14 f15 ta2 w2 le2 s2 f17 f18 f19 f20 f21
  replace f2 := shm_176 f2
  replace f10 := shm_5 f10
  have s1 : (∀ b j, w_el ws b j = if b = v_ad (n_v vs 13) ∧ j = (v_iv (n_v vs 2)).toNat then v_iv (n_v vs 19) else w_el w1 b j) ∧ ∀ b k, w_fd ws b k = w_fd w1 b k := s1.2
  have s2 : (∀ b j, w_el w1 b j = if b = v_ad (n_v vs 9) ∧ j = (v_iv (n_v vs 4)).toNat then v_iv (n_v vs 12) else w_el w2 b j) ∧ ∀ b k, w_fd w1 b k = w_fd w2 b k := s2.2
  replace f18 := shm_107 f18
  have q1 : n_v vs 1 = n_v vs 0 := f10.symm
  simp only [q1] at f2
  have cr_0_15 := fdq_259 hD hth r0
  have cr_0_16 := fdq_256 hD hth r0
  have ad_9 : v_ad (n_v vs 9) = w_ar ws (n_v vs 0) 16 := congrArg v_ad f2
  simp only [ad_9] at f18
  have h18 : v_iv (n_v vs 10) = w_ei w2 (w_ar ws (n_v vs 0) 16) (v_iv (n_v vs 4)) := f18
  have fe_0_6_1 : w_fi ws (n_v vs 0) 6 = w_fi w1 (n_v vs 0) 6 := congrArg v_iv (s1.2 _ _)
  have fe_0_13_1 : w_fi ws (n_v vs 0) 13 = w_fi w1 (n_v vs 0) 13 := congrArg v_iv (s1.2 _ _)
  have fe_0_6_2 : w_fi w1 (n_v vs 0) 6 = w_fi w2 (n_v vs 0) 6 := congrArg v_iv (s2.2 _ _)
  have fe_0_13_2 : w_fi w1 (n_v vs 0) 13 = w_fi w2 (n_v vs 0) 13 := congrArg v_iv (s2.2 _ _)
  have hE_0_15_2 : ∀ j : Int, w_ei w1 (w_ar ws (n_v vs 0) 15) j = w_ei w2 (w_ar ws (n_v vs 0) 15) j := el_kp s2.1 r9 cr_0_15 (by decide)
  have hE_0_16_1 : ∀ j : Int, w_ei ws (w_ar ws (n_v vs 0) 16) j = w_ei w1 (w_ar ws (n_v vs 0) 16) j := el_kp s1.1 r13 cr_0_16 (by decide)
  have kz_0_6 := fdq_62 hD hth r0
  have kz_0_13 := fdq_257 hD hth r0
  have hrf0 : 0 ≤ v_iv (n_v vs 28) ∧ v_iv (n_v vs 28) ≤ 143 := vc_Ne_traceFaces_at_Np_18_r0 (v_iv (n_v vs 3)) (v_iv (n_v vs 4)) (v_iv (n_v vs 10)) (v_iv (n_v vs 15)) (v_iv (n_v vs 22)) (v_iv (n_v vs 28)) (w_fi ws (n_v vs 0) 13) (w_fi ws (n_v vs 0) 6) (w_ei w2 (w_ar ws (n_v vs 0) 16)) (w_fi w2 (n_v vs 0) 6) (w_fi w2 (n_v vs 0) 13) (w_fi w1 (n_v vs 0) 6) (w_fi w1 (n_v vs 0) 13) (w_ei w1 (w_ar ws (n_v vs 0) 15)) (w_ei w2 (w_ar ws (n_v vs 0) 15)) (w_ei ws (w_ar ws (n_v vs 0) 16)) (w_ei w1 (w_ar ws (n_v vs 0) 16)) k4 k10 k15 k22 k28 (shm_364 f7) (shm_364 f14) h18 fe_0_6_1 fe_0_13_1 fe_0_6_2 fe_0_13_2 hE_0_15_2 hE_0_16_1 kz_0_6 kz_0_13
  have rf28 : tv_ok ta (0, 0, 143, []) (n_v vs 28) := tv_in t28 (by first | omega | grind) (by first | omega | grind)
  refine ⟨List.forall_mem_cons.mpr ⟨rf28, (fun _ h => (by cases h))⟩, [], trivial, ?_, (fun _ h => (by cases h))⟩
  rw [List.append_nil]
  exact (fun _ h => (by cases h))
set_option maxHeartbeats 4000000 in
theorem vc_Ne_traceFaces_at_Np_19_0 (x2 : Int) (x3 : Int) (x4 : Int) (x5 : Int) (x10 : Int) (x12 : Int) (x15 : Int) (x20 : Int) (x22 : Int) (x30 : Int) (x31 : Int) (faces_0 : Int) (edges_0 : Int) (faceOf_2 : Int → Int) (edges_2 : Int) (faces_2 : Int) (edges_1 : Int) (faces_1 : Int) (rowNode_1 : Int → Int) (rowNode_2 : Int → Int) (faceOf_0 : Int → Int) (faceOf_1 : Int → Int) (k2 : 0 ≤ x2 ∧ x2 ≤ 143) (k3 : 0 ≤ x3 ∧ x3 ≤ 143) (k4 : 0 ≤ x4 ∧ x4 ≤ 143) (k5 : 0 ≤ x5 ∧ x5 ≤ 143) (k10 : (-1) ≤ x10 ∧ x10 ≤ (-1)) (k12 : 0 ≤ x12 ∧ x12 ≤ 143) (k15 : 0 ≤ x15 ∧ x15 ≤ 0) (k20 : 1 ≤ x20 ∧ x20 ≤ 144) (k22 : 1 ≤ x22 ∧ x22 ≤ 1) (k30 : 1 ≤ x30 ∧ x30 ≤ 143) (k31 : 1 ≤ x31 ∧ x31 ≤ 144) (g1 : x12 = faces_0) (f4 : x31 = x5 + 1) (f8 : x22 = x4 % 2) (f10 : x20 = x2 + 1) (f15 : x15 = x4 % 2) (h19 : x10 = faceOf_2 (x4)) (f22 : TFI (edges_2) (faces_2) (faceOf_2) (x3) (x2) (x4) (x5)) (fe_0_6_1 : edges_0 = edges_1) (fe_0_13_1 : faces_0 = faces_1) (fe_0_6_2 : edges_1 = edges_2) (fe_0_13_2 : faces_1 = faces_2) (hE_0_15_2 : ∀ j : Int, rowNode_1 j = rowNode_2 j) (hE_0_16_1 : ∀ j : Int, faceOf_0 j = faceOf_1 j) (hE_0_16_2 : ∀ j : Int, 0 ≤ j → (j = x4 → faceOf_1 j = x12) ∧ (j ≠ x4 → faceOf_1 j = faceOf_2 j)) (kz_0_6 : 0 ≤ edges_0 ∧ edges_0 ≤ 72) (kz_0_13 : 0 ≤ faces_0 ∧ faces_0 ≤ 144) : TFI (edges_0) (faces_0) (faceOf_0) (x3) (x20) (x30) (x31) := by
  subst fe_0_6_1
  subst fe_0_13_1
  subst fe_0_6_2
  subst fe_0_13_2
  have e_hE_0_15_2 := funext hE_0_15_2; subst e_hE_0_15_2
  have e_hE_0_16_1 := funext hE_0_16_1; subst e_hE_0_16_1
  first
    | (skip; (first | subst h19 | skip); exact tfi_start ‹TFO _ _ _ _ _› (by omega) (by omega) (by omega) (by omega))
    | (skip; (first | subst h19 | skip); exact tfi_step ‹TFI _ _ _ _ _ _ _› (by assumption) rfl (by omega) (by omega) (by omega) (by omega) (by omega) (by omega))
  
def o_Ne_traceFaces_at_Np_19 : or_T := (55, 32, [(0, (2, 0, 0, [149])), (1, (2, 0, 0, [149])), (2, (0, 0, 143, [])), (3, (0, 0, 143, [])), (4, (0, 0, 143, [])), (5, (0, 0, 143, [])), (6, (0, 2, 2, [])), (7, (0, 0, 72, [])), (8, (0, 1, 144, [])), (9, (2, 0, 0, [148])), (10, (0, -1, -1, [])), (11, (0, -1, -1, [])), (12, (0, 0, 143, [])), (13, (2, 0, 0, [147])), (14, (0, 1, 1, [])), (15, (0, 0, 0, [])), (18, (0, 0, 71, [])), (20, (0, 1, 144, [])), (21, (0, 1, 1, [])), (22, (0, 1, 1, [])), (24, (0, 0, 71, [])), (27, (0, 1, 1, [])), (28, (0, 0, 143, [])), (30, (0, 1, 143, [])), (31, (0, 1, 144, []))], [(9, [13, 1], [15]), (9, [12, 1], [13]), (9, [9, 1], [16]), (9, [7, 1], [6]), (6, [31, 5], [1]), (16, [28, 4, 27], [2]), (11, [24, 4], [2]), (8, [22], [1]), (12, [22, 4], [2]), (16, [22, 4, 21], [0]), (6, [20, 2], [1]), (24, [0, 1], []), (100, [13, 2, 19], []), (11, [18, 4], [2]), (8, [15], [0]), (12, [15, 4], [2]), (16, [15, 4, 14], [0]), (100, [9, 4, 12], []), (7, [10, 11], [0]), (10, [10, 9, 4], []), (7, [5, 8], [2]), (3, [8, 6, 7], []), (20, [1, 3, 2, 4, 5], [60, 2, 1, 552, 6, 13, 16])], [], [], [(20, [1, 3, 20, 30, 31], [60, 2, 1, 552, 6, 13, 16])], [], [(31, 5, 1, 1), (31, 8, -4294967296, 0), (31, 2, -4294967296, 1), (20, 2, 1, 1), (5, 8, -4294967296, -1), (5, 2, -4294967296, 0)])
theorem oo_Ne_traceFaces_at_Np_19 {kA : Nat → ClassId} : or_ok PRD kA GG o_Ne_traceFaces_at_Np_19 := by
  refine or_mk fun A ta ws vs hD hth hl => ?_
  intro t0 r0 t1 r1 t2 k2 t3 k3 t4 k4 t5 k5 t6 k6 t7 k7 t8 k8 t9 r9 t10 k10 t11 k11 t12 k12 t13 r13 t14 k14 t15 k15 t18 k18 t20 k20 t21 k21 t22 k22 t24 k24 t27 k27 t28 k28 t30 k30 t31 k31 d0 d1 d2 d3 d4 d5 f0 f1 f2 f3 f4 f5 f6 f7 f8 f9 f10 f11 ta1 w1 le1 s1 f13 f14 f15 f16 ta2 w2 le2 s2 f18 f19 f20 f21 f22
  replace f1 := shm_361 f1
  replace f2 := shm_176 f2
  replace f4 := shm_4 f4
  replace f8 := shm_364 f8
  replace f10 := shm_4 f10
  replace f11 := shm_5 f11
  have s1 : (∀ b j, w_el ws b j = if b = v_ad (n_v vs 13) ∧ j = (v_iv (n_v vs 2)).toNat then v_iv (n_v vs 19) else w_el w1 b j) ∧ ∀ b k, w_fd ws b k = w_fd w1 b k := s1.2
  replace f15 := shm_364 f15
  have s2 : (∀ b j, w_el w1 b j = if b = v_ad (n_v vs 9) ∧ j = (v_iv (n_v vs 4)).toNat then v_iv (n_v vs 12) else w_el w2 b j) ∧ ∀ b k, w_fd w1 b k = w_fd w2 b k := s2.2
  replace f19 := shm_107 f19
  replace f22 := shm_1102 f22
  have q1 : n_v vs 1 = n_v vs 0 := f11.symm
  simp only [q1] at f1 f2 f22
  have cr_0_15 := fdq_259 hD hth r0
  have ar_0_16_1 : w_ar w1 (n_v vs 0) 16 = w_ar ws (n_v vs 0) 16 := congrArg v_ad (s1.2 _ _).symm
  have ar_0_16_2 : w_ar w2 (n_v vs 0) 16 = w_ar ws (n_v vs 0) 16 := by rw [← ar_0_16_1]; show v_ad (w_fd w2 _ _) = v_ad (w_fd w1 _ _); rw [s2.2]
  have cr_0_16 := fdq_256 hD hth r0
  have ad_9 : v_ad (n_v vs 9) = w_ar ws (n_v vs 0) 16 := congrArg v_ad f2
  have g1 : v_iv (n_v vs 12) = w_fi ws (n_v vs 0) 13 := congrArg v_iv f1
  simp only [ad_9] at f19
  have h19 : v_iv (n_v vs 10) = w_ei w2 (w_ar ws (n_v vs 0) 16) (v_iv (n_v vs 4)) := f19
  simp only [ar_0_16_2] at f22
  have fe_0_6_1 : w_fi ws (n_v vs 0) 6 = w_fi w1 (n_v vs 0) 6 := congrArg v_iv (s1.2 _ _)
  have fe_0_13_1 : w_fi ws (n_v vs 0) 13 = w_fi w1 (n_v vs 0) 13 := congrArg v_iv (s1.2 _ _)
  have fe_0_6_2 : w_fi w1 (n_v vs 0) 6 = w_fi w2 (n_v vs 0) 6 := congrArg v_iv (s2.2 _ _)
  have fe_0_13_2 : w_fi w1 (n_v vs 0) 13 = w_fi w2 (n_v vs 0) 13 := congrArg v_iv (s2.2 _ _)
  have hE_0_15_2 : ∀ j : Int, w_ei w1 (w_ar ws (n_v vs 0) 15) j = w_ei w2 (w_ar ws (n_v vs 0) 15) j := el_kp s2.1 r9 cr_0_15 (by decide)
  have hE_0_16_1 : ∀ j : Int, w_ei ws (w_ar ws (n_v vs 0) 16) j = w_ei w1 (w_ar ws (n_v vs 0) 16) j := el_kp s1.1 r13 cr_0_16 (by decide)
  have hE_0_16_2 : ∀ j : Int, 0 ≤ j → (j = v_iv (n_v vs 4) → w_ei w1 (w_ar ws (n_v vs 0) 16) j = v_iv (n_v vs 12)) ∧ (j ≠ v_iv (n_v vs 4) → w_ei w1 (w_ar ws (n_v vs 0) 16) j = w_ei w2 (w_ar ws (n_v vs 0) 16) j) := fun j hj => ⟨fun h => by unfold w_ei; rw [s2.1, if_pos ⟨ad_9.symm, by rw [h]⟩], fun h => by unfold w_ei; rw [s2.1, if_neg (fun e => h (by have := e.2; omega))]⟩
  have kz_0_6 := fdq_62 hD hth r0
  have kz_0_13 := fdq_257 hD hth r0
  have nf0 : fc_1 PRD (20, [1, 3, 20, 30, 31], [60, 2, 1, 552, 6, 13, 16]) ws (vs) := by
    refine ⟨nf_in hl rfl, sgq_1102 ?_⟩
    · show TFI (w_fi ws (n_v vs 1) 6) (w_fi ws (n_v vs 1) 13) (w_ei ws (w_ar ws (n_v vs 1) 16)) (v_iv (n_v vs 3)) (v_iv (n_v vs 20)) (v_iv (n_v vs 30)) (v_iv (n_v vs 31))
      rw [q1]
      exact vc_Ne_traceFaces_at_Np_19_0 (v_iv (n_v vs 2)) (v_iv (n_v vs 3)) (v_iv (n_v vs 4)) (v_iv (n_v vs 5)) (v_iv (n_v vs 10)) (v_iv (n_v vs 12)) (v_iv (n_v vs 15)) (v_iv (n_v vs 20)) (v_iv (n_v vs 22)) (v_iv (n_v vs 30)) (v_iv (n_v vs 31)) (w_fi ws (n_v vs 0) 13) (w_fi ws (n_v vs 0) 6) (w_ei w2 (w_ar ws (n_v vs 0) 16)) (w_fi w2 (n_v vs 0) 6) (w_fi w2 (n_v vs 0) 13) (w_fi w1 (n_v vs 0) 6) (w_fi w1 (n_v vs 0) 13) (w_ei w1 (w_ar ws (n_v vs 0) 15)) (w_ei w2 (w_ar ws (n_v vs 0) 15)) (w_ei ws (w_ar ws (n_v vs 0) 16)) (w_ei w1 (w_ar ws (n_v vs 0) 16)) k2 k3 k4 k5 k10 k12 k15 k20 k22 k30 k31 g1 f4 f8 f10 f15 h19 f22 fe_0_6_1 fe_0_13_1 fe_0_6_2 fe_0_13_2 hE_0_15_2 hE_0_16_1 hE_0_16_2 kz_0_6 kz_0_13
  refine ⟨(fun _ h => (by cases h)), [], trivial, ?_, (fun _ h => (by cases h))⟩
  rw [List.append_nil]
  exact List.forall_mem_cons.mpr ⟨⟨show (20 : Nat) < 100 from by decide, nf0⟩, (fun _ h => (by cases h))⟩
set_option maxHeartbeats 4000000 in
theorem vc_Ne_traceFaces_at_Np_20_0 (x2 : Int) (x3 : Int) (x4 : Int) (x5 : Int) (x10 : Int) (x12 : Int) (x15 : Int) (x20 : Int) (x22 : Int) (x30 : Int) (x31 : Int) (faces_0 : Int) (edges_0 : Int) (faceOf_2 : Int → Int) (edges_2 : Int) (faces_2 : Int) (edges_1 : Int) (faces_1 : Int) (rowNode_1 : Int → Int) (rowNode_2 : Int → Int) (faceOf_0 : Int → Int) (faceOf_1 : Int → Int) (k2 : 0 ≤ x2 ∧ x2 ≤ 143) (k3 : 0 ≤ x3 ∧ x3 ≤ 143) (k4 : 0 ≤ x4 ∧ x4 ≤ 143) (k5 : 0 ≤ x5 ∧ x5 ≤ 143) (k10 : (-1) ≤ x10 ∧ x10 ≤ (-1)) (k12 : 0 ≤ x12 ∧ x12 ≤ 143) (k15 : 0 ≤ x15 ∧ x15 ≤ 0) (k20 : 1 ≤ x20 ∧ x20 ≤ 144) (k22 : 1 ≤ x22 ∧ x22 ≤ 1) (k30 : 0 ≤ x30 ∧ x30 ≤ 142) (k31 : 1 ≤ x31 ∧ x31 ≤ 144) (g1 : x12 = faces_0) (f4 : x31 = x5 + 1) (f8 : x22 = x4 % 2) (f10 : x20 = x2 + 1) (f15 : x15 = x4 % 2) (h19 : x10 = faceOf_2 (x4)) (f22 : TFI (edges_2) (faces_2) (faceOf_2) (x3) (x2) (x4) (x5)) (fe_0_6_1 : edges_0 = edges_1) (fe_0_13_1 : faces_0 = faces_1) (fe_0_6_2 : edges_1 = edges_2) (fe_0_13_2 : faces_1 = faces_2) (hE_0_15_2 : ∀ j : Int, rowNode_1 j = rowNode_2 j) (hE_0_16_1 : ∀ j : Int, faceOf_0 j = faceOf_1 j) (hE_0_16_2 : ∀ j : Int, 0 ≤ j → (j = x4 → faceOf_1 j = x12) ∧ (j ≠ x4 → faceOf_1 j = faceOf_2 j)) (kz_0_6 : 0 ≤ edges_0 ∧ edges_0 ≤ 72) (kz_0_13 : 0 ≤ faces_0 ∧ faces_0 ≤ 144) : TFI (edges_0) (faces_0) (faceOf_0) (x3) (x20) (x30) (x31) := by
  subst fe_0_6_1
  subst fe_0_13_1
  subst fe_0_6_2
  subst fe_0_13_2
  have e_hE_0_15_2 := funext hE_0_15_2; subst e_hE_0_15_2
  have e_hE_0_16_1 := funext hE_0_16_1; subst e_hE_0_16_1
  first
    | (skip; (first | subst h19 | skip); exact tfi_start ‹TFO _ _ _ _ _› (by omega) (by omega) (by omega) (by omega))
    | (skip; (first | subst h19 | skip); exact tfi_step ‹TFI _ _ _ _ _ _ _› (by assumption) rfl (by omega) (by omega) (by omega) (by omega) (by omega) (by omega))
  
def o_Ne_traceFaces_at_Np_20 : or_T := (55, 32, [(0, (2, 0, 0, [149])), (1, (2, 0, 0, [149])), (2, (0, 0, 143, [])), (3, (0, 0, 143, [])), (4, (0, 0, 143, [])), (5, (0, 0, 143, [])), (6, (0, 2, 2, [])), (7, (0, 0, 72, [])), (8, (0, 1, 144, [])), (9, (2, 0, 0, [148])), (10, (0, -1, -1, [])), (11, (0, -1, -1, [])), (12, (0, 0, 143, [])), (13, (2, 0, 0, [147])), (14, (0, 1, 1, [])), (15, (0, 0, 0, [])), (18, (0, 0, 71, [])), (20, (0, 1, 144, [])), (21, (0, 1, 1, [])), (22, (0, 1, 1, [])), (24, (0, 0, 71, [])), (27, (0, 1, 1, [])), (28, (0, 0, 143, [])), (30, (0, 0, 142, [])), (31, (0, 1, 144, []))], [(9, [13, 1], [15]), (9, [12, 1], [13]), (9, [9, 1], [16]), (9, [7, 1], [6]), (6, [31, 5], [1]), (16, [28, 4, 27], [2]), (11, [24, 4], [2]), (8, [22], [1]), (12, [22, 4], [2]), (16, [22, 4, 21], [0]), (6, [20, 2], [1]), (24, [0, 1], []), (100, [13, 2, 19], []), (11, [18, 4], [2]), (8, [15], [0]), (12, [15, 4], [2]), (16, [15, 4, 14], [0]), (100, [9, 4, 12], []), (7, [10, 11], [0]), (10, [10, 9, 4], []), (7, [5, 8], [2]), (3, [8, 6, 7], []), (20, [1, 3, 2, 4, 5], [60, 2, 1, 552, 6, 13, 16])], [], [], [(20, [1, 3, 20, 30, 31], [60, 2, 1, 552, 6, 13, 16])], [], [(31, 5, 1, 1), (31, 8, -4294967296, 0), (31, 2, -4294967296, 1), (20, 2, 1, 1), (5, 8, -4294967296, -1), (5, 2, -4294967296, 0)])
theorem oo_Ne_traceFaces_at_Np_20 {kA : Nat → ClassId} : or_ok PRD kA GG o_Ne_traceFaces_at_Np_20 := by
  refine or_mk fun A ta ws vs hD hth hl => ?_
  intro t0 r0 t1 r1 t2 k2 t3 k3 t4 k4 t5 k5 t6 k6 t7 k7 t8 k8 t9 r9 t10 k10 t11 k11 t12 k12 t13 r13 t14 k14 t15 k15 t18 k18 t20 k20 t21 k21 t22 k22 t24 k24 t27 k27 t28 k28 t30 k30 t31 k31 d0 d1 d2 d3 d4 d5 f0 f1 f2 f3 f4 f5 f6 f7 f8 f9 f10 f11 ta1 w1 le1 s1 f13 f14 f15 f16 ta2 w2 le2 s2 f18 f19 f20 f21 f22
  replace f1 := shm_361 f1
  replace f2 := shm_176 f2
  replace f4 := shm_4 f4
  replace f8 := shm_364 f8
  replace f10 := shm_4 f10
  replace f11 := shm_5 f11
  have s1 : (∀ b j, w_el ws b j = if b = v_ad (n_v vs 13) ∧ j = (v_iv (n_v vs 2)).toNat then v_iv (n_v vs 19) else w_el w1 b j) ∧ ∀ b k, w_fd ws b k = w_fd w1 b k := s1.2
  replace f15 := shm_364 f15
  have s2 : (∀ b j, w_el w1 b j = if b = v_ad (n_v vs 9) ∧ j = (v_iv (n_v vs 4)).toNat then v_iv (n_v vs 12) else w_el w2 b j) ∧ ∀ b k, w_fd w1 b k = w_fd w2 b k := s2.2
  replace f19 := shm_107 f19
  replace f22 := shm_1102 f22
  have q1 : n_v vs 1 = n_v vs 0 := f11.symm
  simp only [q1] at f1 f2 f22
  have cr_0_15 := fdq_259 hD hth r0
  have ar_0_16_1 : w_ar w1 (n_v vs 0) 16 = w_ar ws (n_v vs 0) 16 := congrArg v_ad (s1.2 _ _).symm
  have ar_0_16_2 : w_ar w2 (n_v vs 0) 16 = w_ar ws (n_v vs 0) 16 := by rw [← ar_0_16_1]; show v_ad (w_fd w2 _ _) = v_ad (w_fd w1 _ _); rw [s2.2]
  have cr_0_16 := fdq_256 hD hth r0
  have ad_9 : v_ad (n_v vs 9) = w_ar ws (n_v vs 0) 16 := congrArg v_ad f2
  have g1 : v_iv (n_v vs 12) = w_fi ws (n_v vs 0) 13 := congrArg v_iv f1
  simp only [ad_9] at f19
  have h19 : v_iv (n_v vs 10) = w_ei w2 (w_ar ws (n_v vs 0) 16) (v_iv (n_v vs 4)) := f19
  simp only [ar_0_16_2] at f22
  have fe_0_6_1 : w_fi ws (n_v vs 0) 6 = w_fi w1 (n_v vs 0) 6 := congrArg v_iv (s1.2 _ _)
  have fe_0_13_1 : w_fi ws (n_v vs 0) 13 = w_fi w1 (n_v vs 0) 13 := congrArg v_iv (s1.2 _ _)
  have fe_0_6_2 : w_fi w1 (n_v vs 0) 6 = w_fi w2 (n_v vs 0) 6 := congrArg v_iv (s2.2 _ _)
  have fe_0_13_2 : w_fi w1 (n_v vs 0) 13 = w_fi w2 (n_v vs 0) 13 := congrArg v_iv (s2.2 _ _)
  have hE_0_15_2 : ∀ j : Int, w_ei w1 (w_ar ws (n_v vs 0) 15) j = w_ei w2 (w_ar ws (n_v vs 0) 15) j := el_kp s2.1 r9 cr_0_15 (by decide)
  have hE_0_16_1 : ∀ j : Int, w_ei ws (w_ar ws (n_v vs 0) 16) j = w_ei w1 (w_ar ws (n_v vs 0) 16) j := el_kp s1.1 r13 cr_0_16 (by decide)
  have hE_0_16_2 : ∀ j : Int, 0 ≤ j → (j = v_iv (n_v vs 4) → w_ei w1 (w_ar ws (n_v vs 0) 16) j = v_iv (n_v vs 12)) ∧ (j ≠ v_iv (n_v vs 4) → w_ei w1 (w_ar ws (n_v vs 0) 16) j = w_ei w2 (w_ar ws (n_v vs 0) 16) j) := fun j hj => ⟨fun h => by unfold w_ei; rw [s2.1, if_pos ⟨ad_9.symm, by rw [h]⟩], fun h => by unfold w_ei; rw [s2.1, if_neg (fun e => h (by have := e.2; omega))]⟩
  have kz_0_6 := fdq_62 hD hth r0
  have kz_0_13 := fdq_257 hD hth r0
  have nf0 : fc_1 PRD (20, [1, 3, 20, 30, 31], [60, 2, 1, 552, 6, 13, 16]) ws (vs) := by
    refine ⟨nf_in hl rfl, sgq_1102 ?_⟩
    · show TFI (w_fi ws (n_v vs 1) 6) (w_fi ws (n_v vs 1) 13) (w_ei ws (w_ar ws (n_v vs 1) 16)) (v_iv (n_v vs 3)) (v_iv (n_v vs 20)) (v_iv (n_v vs 30)) (v_iv (n_v vs 31))
      rw [q1]
      exact vc_Ne_traceFaces_at_Np_20_0 (v_iv (n_v vs 2)) (v_iv (n_v vs 3)) (v_iv (n_v vs 4)) (v_iv (n_v vs 5)) (v_iv (n_v vs 10)) (v_iv (n_v vs 12)) (v_iv (n_v vs 15)) (v_iv (n_v vs 20)) (v_iv (n_v vs 22)) (v_iv (n_v vs 30)) (v_iv (n_v vs 31)) (w_fi ws (n_v vs 0) 13) (w_fi ws (n_v vs 0) 6) (w_ei w2 (w_ar ws (n_v vs 0) 16)) (w_fi w2 (n_v vs 0) 6) (w_fi w2 (n_v vs 0) 13) (w_fi w1 (n_v vs 0) 6) (w_fi w1 (n_v vs 0) 13) (w_ei w1 (w_ar ws (n_v vs 0) 15)) (w_ei w2 (w_ar ws (n_v vs 0) 15)) (w_ei ws (w_ar ws (n_v vs 0) 16)) (w_ei w1 (w_ar ws (n_v vs 0) 16)) k2 k3 k4 k5 k10 k12 k15 k20 k22 k30 k31 g1 f4 f8 f10 f15 h19 f22 fe_0_6_1 fe_0_13_1 fe_0_6_2 fe_0_13_2 hE_0_15_2 hE_0_16_1 hE_0_16_2 kz_0_6 kz_0_13
  refine ⟨(fun _ h => (by cases h)), [], trivial, ?_, (fun _ h => (by cases h))⟩
  rw [List.append_nil]
  exact List.forall_mem_cons.mpr ⟨⟨show (20 : Nat) < 100 from by decide, nf0⟩, (fun _ h => (by cases h))⟩
set_option maxHeartbeats 4000000 in
theorem vc_Ne_traceFaces_at_Np_21_r0 (x3 : Int) (x4 : Int) (x10 : Int) (x22 : Int) (x25 : Int) (x28 : Int) (x29 : Int) (faces_0 : Int) (edges_0 : Int) (faceOf_2 : Int → Int) (edges_2 : Int) (faces_2 : Int) (edges_1 : Int) (faces_1 : Int) (rowNode_1 : Int → Int) (rowNode_2 : Int → Int) (faceOf_0 : Int → Int) (faceOf_1 : Int → Int) (k4 : 0 ≤ x4 ∧ x4 ≤ 143) (k10 : (-1) ≤ x10 ∧ x10 ≤ (-1)) (k22 : 0 ≤ x22 ∧ x22 ≤ 0) (k25 : 0 ≤ x25 ∧ x25 ≤ 71) (k28 : 1 ≤ x28 ∧ x28 ≤ 1) (k29 : 0 ≤ x29 ∧ x29 ≤ 255) (f4 : bvp (x29) = bvp (x4) ^^^ bvp (x28)) (f5 : x25 = x4 / 2) (f7 : x22 = x4 % 2) (h18 : x10 = faceOf_2 (x4)) (fe_0_6_1 : edges_0 = edges_1) (fe_0_13_1 : faces_0 = faces_1) (fe_0_6_2 : edges_1 = edges_2) (fe_0_13_2 : faces_1 = faces_2) (hE_0_15_2 : ∀ j : Int, rowNode_1 j = rowNode_2 j) (hE_0_16_1 : ∀ j : Int, faceOf_0 j = faceOf_1 j) (kz_0_6 : 0 ≤ edges_0 ∧ edges_0 ≤ 72) (kz_0_13 : 0 ≤ faces_0 ∧ faces_0 ≤ 144) : 0 ≤ x29 ∧ x29 ≤ 143 := by
  subst fe_0_6_1
  subst fe_0_13_1
  subst fe_0_6_2
  subst fe_0_13_2
  have e_hE_0_15_2 := funext hE_0_15_2; subst e_hE_0_15_2
  have e_hE_0_16_1 := funext hE_0_16_1; subst e_hE_0_16_1
  first
    | omega
    | (have q := tfo_low ‹TFO _ _ _ _ _›; omega)
    | (skip; (first | subst h18 | skip); have q := tfc_lt (‹TFO _ _ _ _ _›).2.2.2.1 (e := x3) (by omega) (by omega) (by omega); have q2 := tfo_low ‹TFO _ _ _ _ _›; omega)
    | (skip; (first | subst h18 | skip); have q := (tfo_next (faces_zq := faces_0 + 1) (st_zq := x3 + 1) ‹TFI _ _ _ _ _ _ _› (by first | (left; omega) | (right; omega)) rfl rfl).2; have q2 := (‹TFI _ _ _ _ _ _ _›).2.2.1; omega)
    | (skip; (first | subst h18 | skip); have q := tfi_low ‹TFI _ _ _ _ _ _ _› (by omega) (by omega) (by omega); omega)
    | (have q := xor_one (x := x29) (a := x4) (b := x28) (by assumption) (by omega) (by omega) (by omega) (by omega) (by omega); split at q <;> omega)
  
def o_Ne_traceFaces_at_Np_21 : or_T := (155, 30, [(0, (2, 0, 0, [149])), (1, (2, 0, 0, [149])), (2, (0, 0, 143, [])), (3, (0, 0, 143, [])), (4, (0, 0, 143, [])), (5, (0, 0, 143, [])), (6, (0, 2, 2, [])), (7, (0, 0, 72, [])), (8, (0, 1, 144, [])), (9, (2, 0, 0, [148])), (10, (0, -1, -1, [])), (11, (0, -1, -1, [])), (12, (0, 0, 143, [])), (13, (2, 0, 0, [147])), (14, (0, 1, 1, [])), (15, (0, 0, 0, [])), (18, (0, 0, 71, [])), (20, (0, 1, 144, [])), (21, (0, 1, 1, [])), (22, (0, 0, 0, [])), (25, (0, 0, 71, [])), (28, (0, 1, 1, [])), (29, (0, 0, 255, []))], [(9, [13, 1], [15]), (9, [12, 1], [13]), (9, [9, 1], [16]), (9, [7, 1], [6]), (16, [29, 4, 28], [2]), (11, [25, 4], [2]), (8, [22], [0]), (12, [22, 4], [2]), (16, [22, 4, 21], [0]), (6, [20, 2], [1]), (24, [0, 1], []), (100, [13, 2, 19], []), (11, [18, 4], [2]), (8, [15], [0]), (12, [15, 4], [2]), (16, [15, 4, 14], [0]), (100, [9, 4, 12], []), (7, [10, 11], [0]), (10, [10, 9, 4], []), (7, [5, 8], [2]), (3, [8, 6, 7], []), (20, [1, 3, 2, 4, 5], [60, 2, 1, 552, 6, 13, 16])], [(29, (0, 0, 143, []))], [], [], [], [(20, 2, 1, 1), (5, 8, -4294967296, -1), (5, 2, -4294967296, 0)])
theorem oo_Ne_traceFaces_at_Np_21 {kA : Nat → ClassId} : or_ok PRD kA GG o_Ne_traceFaces_at_Np_21 := by
  refine or_mk fun A ta ws vs hD hth hl => ?_
  intro t0 r0 t1 r1 t2 k2 t3 k3 t4 k4 t5 k5 t6 k6 t7 k7 t8 k8 t9 r9 t10 k10 t11 k11 t12 k12 t13 r13 t14 k14 t15 k15 t18 k18 t20 k20 t21 k21 t22 k22 t25 k25 t28 k28 t29 k29 d0 d1 d2 f0 f1 f2 f3 f4 f5 f6 f7 f8 f9 f10 ta1 w1 le1 s1 f12 f13 f14 f15 ta2 w2 le2 s2 f17 f18 f19 f20 f21
  replace f2 := shm_176 f2
  replace f10 := shm_5 f10
  have s1 : (∀ b j, w_el ws b j = if b = v_ad (n_v vs 13) ∧ j = (v_iv (n_v vs 2)).toNat then v_iv (n_v vs 19) else w_el w1 b j) ∧ ∀ b k, w_fd ws b k = w_fd w1 b k := s1.2
  have s2 : (∀ b j, w_el w1 b j = if b = v_ad (n_v vs 9) ∧ j = (v_iv (n_v vs 4)).toNat then v_iv (n_v vs 12) else w_el w2 b j) ∧ ∀ b k, w_fd w1 b k = w_fd w2 b k := s2.2
  replace f18 := shm_107 f18
  have q1 : n_v vs 1 = n_v vs 0 := f10.symm
  simp only [q1] at f2
  have cr_0_15 := fdq_259 hD hth r0
  have cr_0_16 := fdq_256 hD hth r0
  have ad_9 : v_ad (n_v vs 9) = w_ar ws (n_v vs 0) 16 := congrArg v_ad f2
  simp only [ad_9] at f18
  have h18 : v_iv (n_v vs 10) = w_ei w2 (w_ar ws (n_v vs 0) 16) (v_iv (n_v vs 4)) := f18
  have fe_0_6_1 : w_fi ws (n_v vs 0) 6 = w_fi w1 (n_v vs 0) 6 := congrArg v_iv (s1.2 _ _)
  have fe_0_13_1 : w_fi ws (n_v vs 0) 13 = w_fi w1 (n_v vs 0) 13 := congrArg v_iv (s1.2 _ _)
  have fe_0_6_2 : w_fi w1 (n_v vs 0) 6 = w_fi w2 (n_v vs 0) 6 := congrArg v_iv (s2.2 _ _)
  have fe_0_13_2 : w_fi w1 (n_v vs 0) 13 = w_fi w2 (n_v vs 0) 13 := congrArg v_iv (s2.2 _ _)
  have hE_0_15_2 : ∀ j : Int, w_ei w1 (w_ar ws (n_v vs 0) 15) j = w_ei w2 (w_ar ws (n_v vs 0) 15) j := el_kp s2.1 r9 cr_0_15 (by decide)
  have hE_0_16_1 : ∀ j : Int, w_ei ws (w_ar ws (n_v vs 0) 16) j = w_ei w1 (w_ar ws (n_v vs 0) 16) j := el_kp s1.1 r13 cr_0_16 (by decide)
  have kz_0_6 := fdq_62 hD hth r0
  have kz_0_13 := fdq_257 hD hth r0
  have hrf0 : 0 ≤ v_iv (n_v vs 29) ∧ v_iv (n_v vs 29) ≤ 143 := vc_Ne_traceFaces_at_Np_21_r0 (v_iv (n_v vs 3)) (v_iv (n_v vs 4)) (v_iv (n_v vs 10)) (v_iv (n_v vs 22)) (v_iv (n_v vs 25)) (v_iv (n_v vs 28)) (v_iv (n_v vs 29)) (w_fi ws (n_v vs 0) 13) (w_fi ws (n_v vs 0) 6) (w_ei w2 (w_ar ws (n_v vs 0) 16)) (w_fi w2 (n_v vs 0) 6) (w_fi w2 (n_v vs 0) 13) (w_fi w1 (n_v vs 0) 6) (w_fi w1 (n_v vs 0) 13) (w_ei w1 (w_ar ws (n_v vs 0) 15)) (w_ei w2 (w_ar ws (n_v vs 0) 15)) (w_ei ws (w_ar ws (n_v vs 0) 16)) (w_ei w1 (w_ar ws (n_v vs 0) 16)) k4 k10 k22 k25 k28 k29 (shm_33 f4) (shm_585 f5) (shm_364 f7) h18 fe_0_6_1 fe_0_13_1 fe_0_6_2 fe_0_13_2 hE_0_15_2 hE_0_16_1 kz_0_6 kz_0_13
  have rf29 : tv_ok ta (0, 0, 143, []) (n_v vs 29) := tv_in t29 (by first | omega | grind) (by first | omega | grind)
  refine ⟨List.forall_mem_cons.mpr ⟨rf29, (fun _ h => (by cases h))⟩, [], trivial, ?_, (fun _ h => (by cases h))⟩
  rw [List.append_nil]
  exact (fun _ h => (by cases h))
set_option maxHeartbeats 4000000 in
theorem vc_Ne_traceFaces_at_Np_22_0 (x2 : Int) (x3 : Int) (x4 : Int) (x5 : Int) (x10 : Int) (x12 : Int) (x18 : Int) (x20 : Int) (x22 : Int) (x31 : Int) (x32 : Int) (faces_0 : Int) (edges_0 : Int) (faceOf_2 : Int → Int) (edges_2 : Int) (faces_2 : Int) (edges_1 : Int) (faces_1 : Int) (rowNode_1 : Int → Int) (rowNode_2 : Int → Int) (faceOf_0 : Int → Int) (faceOf_1 : Int → Int) (k2 : 0 ≤ x2 ∧ x2 ≤ 143) (k3 : 0 ≤ x3 ∧ x3 ≤ 143) (k4 : 0 ≤ x4 ∧ x4 ≤ 143) (k5 : 0 ≤ x5 ∧ x5 ≤ 143) (k10 : (-1) ≤ x10 ∧ x10 ≤ (-1)) (k12 : 0 ≤ x12 ∧ x12 ≤ 143) (k18 : 0 ≤ x18 ∧ x18 ≤ 71) (k20 : 1 ≤ x20 ∧ x20 ≤ 144) (k22 : 0 ≤ x22 ∧ x22 ≤ 0) (k31 : 1 ≤ x31 ∧ x31 ≤ 143) (k32 : 1 ≤ x32 ∧ x32 ≤ 144) (g1 : x12 = faces_0) (f4 : x32 = x5 + 1) (f8 : x22 = x4 % 2) (f10 : x20 = x2 + 1) (f13 : x18 = x4 / 2) (h19 : x10 = faceOf_2 (x4)) (f22 : TFI (edges_2) (faces_2) (faceOf_2) (x3) (x2) (x4) (x5)) (fe_0_6_1 : edges_0 = edges_1) (fe_0_13_1 : faces_0 = faces_1) (fe_0_6_2 : edges_1 = edges_2) (fe_0_13_2 : faces_1 = faces_2) (hE_0_15_2 : ∀ j : Int, rowNode_1 j = rowNode_2 j) (hE_0_16_1 : ∀ j : Int, faceOf_0 j = faceOf_1 j) (hE_0_16_2 : ∀ j : Int, 0 ≤ j → (j = x4 → faceOf_1 j = x12) ∧ (j ≠ x4 → faceOf_1 j = faceOf_2 j)) (kz_0_6 : 0 ≤ edges_0 ∧ edges_0 ≤ 72) (kz_0_13 : 0 ≤ faces_0 ∧ faces_0 ≤ 144) : TFI (edges_0) (faces_0) (faceOf_0) (x3) (x20) (x31) (x32) := by
  subst fe_0_6_1
  subst fe_0_13_1
  subst fe_0_6_2
  subst fe_0_13_2
  have e_hE_0_15_2 := funext hE_0_15_2; subst e_hE_0_15_2
  have e_hE_0_16_1 := funext hE_0_16_1; subst e_hE_0_16_1
  first
    | (skip; (first | subst h19 | skip); exact tfi_start ‹TFO _ _ _ _ _› (by omega) (by omega) (by omega) (by omega))
    | (skip; (first | subst h19 | skip); exact tfi_step ‹TFI _ _ _ _ _ _ _› (by assumption) rfl (by omega) (by omega) (by omega) (by omega) (by omega) (by omega))
  
def o_Ne_traceFaces_at_Np_22 : or_T := (55, 33, [(0, (2, 0, 0, [149])), (1, (2, 0, 0, [149])), (2, (0, 0, 143, [])), (3, (0, 0, 143, [])), (4, (0, 0, 143, [])), (5, (0, 0, 143, [])), (6, (0, 2, 2, [])), (7, (0, 0, 72, [])), (8, (0, 1, 144, [])), (9, (2, 0, 0, [148])), (10, (0, -1, -1, [])), (11, (0, -1, -1, [])), (12, (0, 0, 143, [])), (13, (2, 0, 0, [147])), (14, (0, 1, 1, [])), (15, (0, 0, 0, [])), (18, (0, 0, 71, [])), (20, (0, 1, 144, [])), (21, (0, 1, 1, [])), (22, (0, 0, 0, [])), (25, (0, 0, 71, [])), (28, (0, 1, 1, [])), (29, (0, 0, 143, [])), (31, (0, 1, 143, [])), (32, (0, 1, 144, []))], [(9, [13, 1], [15]), (9, [12, 1], [13]), (9, [9, 1], [16]), (9, [7, 1], [6]), (6, [32, 5], [1]), (16, [29, 4, 28], [2]), (11, [25, 4], [2]), (8, [22], [0]), (12, [22, 4], [2]), (16, [22, 4, 21], [0]), (6, [20, 2], [1]), (24, [0, 1], []), (100, [13, 2, 19], []), (11, [18, 4], [2]), (8, [15], [0]), (12, [15, 4], [2]), (16, [15, 4, 14], [0]), (100, [9, 4, 12], []), (7, [10, 11], [0]), (10, [10, 9, 4], []), (7, [5, 8], [2]), (3, [8, 6, 7], []), (20, [1, 3, 2, 4, 5], [60, 2, 1, 552, 6, 13, 16])], [], [], [(20, [1, 3, 20, 31, 32], [60, 2, 1, 552, 6, 13, 16])], [], [(32, 5, 1, 1), (32, 8, -4294967296, 0), (32, 2, -4294967296, 1), (20, 2, 1, 1), (5, 8, -4294967296, -1), (5, 2, -4294967296, 0)])
theorem oo_Ne_traceFaces_at_Np_22 {kA : Nat → ClassId} : or_ok PRD kA GG o_Ne_traceFaces_at_Np_22 := by
  refine or_mk fun A ta ws vs hD hth hl => ?_
  intro t0 r0 t1 r1 t2 k2 t3 k3 t4 k4 t5 k5 t6 k6 t7 k7 t8 k8 t9 r9 t10 k10 t11 k11 t12 k12 t13 r13 t14 k14 t15 k15 t18 k18 t20 k20 t21 k21 t22 k22 t25 k25 t28 k28 t29 k29 t31 k31 t32 k32 d0 d1 d2 d3 d4 d5 f0 f1 f2 f3 f4 f5 f6 f7 f8 f9 f10 f11 ta1 w1 le1 s1 f13 f14 f15 f16 ta2 w2 le2 s2 f18 f19 f20 f21 f22
  replace f1 := shm_361 f1
  replace f2 := shm_176 f2
  replace f4 := shm_4 f4
  replace f8 := shm_364 f8
  replace f10 := shm_4 f10
  replace f11 := shm_5 f11
  have s1 : (∀ b j, w_el ws b j = if b = v_ad (n_v vs 13) ∧ j = (v_iv (n_v vs 2)).toNat then v_iv (n_v vs 19) else w_el w1 b j) ∧ ∀ b k, w_fd ws b k = w_fd w1 b k := s1.2
  replace f13 := shm_585 f13
  have s2 : (∀ b j, w_el w1 b j = if b = v_ad (n_v vs 9) ∧ j = (v_iv (n_v vs 4)).toNat then v_iv (n_v vs 12) else w_el w2 b j) ∧ ∀ b k, w_fd w1 b k = w_fd w2 b k := s2.2
  replace f19 := shm_107 f19
  replace f22 := shm_1102 f22
  have q1 : n_v vs 1 = n_v vs 0 := f11.symm
  simp only [q1] at f1 f2 f22
  have cr_0_15 := fdq_259 hD hth r0
  have ar_0_16_1 : w_ar w1 (n_v vs 0) 16 = w_ar ws (n_v vs 0) 16 := congrArg v_ad (s1.2 _ _).symm
  have ar_0_16_2 : w_ar w2 (n_v vs 0) 16 = w_ar ws (n_v vs 0) 16 := by rw [← ar_0_16_1]; show v_ad (w_fd w2 _ _) = v_ad (w_fd w1 _ _); rw [s2.2]
  have cr_0_16 := fdq_256 hD hth r0
  have ad_9 : v_ad (n_v vs 9) = w_ar ws (n_v vs 0) 16 := congrArg v_ad f2
  have g1 : v_iv (n_v vs 12) = w_fi ws (n_v vs 0) 13 := congrArg v_iv f1
  simp only [ad_9] at f19
  have h19 : v_iv (n_v vs 10) = w_ei w2 (w_ar ws (n_v vs 0) 16) (v_iv (n_v vs 4)) := f19
  simp only [ar_0_16_2] at f22
  have fe_0_6_1 : w_fi ws (n_v vs 0) 6 = w_fi w1 (n_v vs 0) 6 := congrArg v_iv (s1.2 _ _)
  have fe_0_13_1 : w_fi ws (n_v vs 0) 13 = w_fi w1 (n_v vs 0) 13 := congrArg v_iv (s1.2 _ _)
  have fe_0_6_2 : w_fi w1 (n_v vs 0) 6 = w_fi w2 (n_v vs 0) 6 := congrArg v_iv (s2.2 _ _)
  have fe_0_13_2 : w_fi w1 (n_v vs 0) 13 = w_fi w2 (n_v vs 0) 13 := congrArg v_iv (s2.2 _ _)
  have hE_0_15_2 : ∀ j : Int, w_ei w1 (w_ar ws (n_v vs 0) 15) j = w_ei w2 (w_ar ws (n_v vs 0) 15) j := el_kp s2.1 r9 cr_0_15 (by decide)
  have hE_0_16_1 : ∀ j : Int, w_ei ws (w_ar ws (n_v vs 0) 16) j = w_ei w1 (w_ar ws (n_v vs 0) 16) j := el_kp s1.1 r13 cr_0_16 (by decide)
  have hE_0_16_2 : ∀ j : Int, 0 ≤ j → (j = v_iv (n_v vs 4) → w_ei w1 (w_ar ws (n_v vs 0) 16) j = v_iv (n_v vs 12)) ∧ (j ≠ v_iv (n_v vs 4) → w_ei w1 (w_ar ws (n_v vs 0) 16) j = w_ei w2 (w_ar ws (n_v vs 0) 16) j) := fun j hj => ⟨fun h => by unfold w_ei; rw [s2.1, if_pos ⟨ad_9.symm, by rw [h]⟩], fun h => by unfold w_ei; rw [s2.1, if_neg (fun e => h (by have := e.2; omega))]⟩
  have kz_0_6 := fdq_62 hD hth r0
  have kz_0_13 := fdq_257 hD hth r0
  have nf0 : fc_1 PRD (20, [1, 3, 20, 31, 32], [60, 2, 1, 552, 6, 13, 16]) ws (vs) := by
    refine ⟨nf_in hl rfl, sgq_1102 ?_⟩
    · show TFI (w_fi ws (n_v vs 1) 6) (w_fi ws (n_v vs 1) 13) (w_ei ws (w_ar ws (n_v vs 1) 16)) (v_iv (n_v vs 3)) (v_iv (n_v vs 20)) (v_iv (n_v vs 31)) (v_iv (n_v vs 32))
      rw [q1]
      exact vc_Ne_traceFaces_at_Np_22_0 (v_iv (n_v vs 2)) (v_iv (n_v vs 3)) (v_iv (n_v vs 4)) (v_iv (n_v vs 5)) (v_iv (n_v vs 10)) (v_iv (n_v vs 12)) (v_iv (n_v vs 18)) (v_iv (n_v vs 20)) (v_iv (n_v vs 22)) (v_iv (n_v vs 31)) (v_iv (n_v vs 32)) (w_fi ws (n_v vs 0) 13) (w_fi ws (n_v vs 0) 6) (w_ei w2 (w_ar ws (n_v vs 0) 16)) (w_fi w2 (n_v vs 0) 6) (w_fi w2 (n_v vs 0) 13) (w_fi w1 (n_v vs 0) 6) (w_fi w1 (n_v vs 0) 13) (w_ei w1 (w_ar ws (n_v vs 0) 15)) (w_ei w2 (w_ar ws (n_v vs 0) 15)) (w_ei ws (w_ar ws (n_v vs 0) 16)) (w_ei w1 (w_ar ws (n_v vs 0) 16)) k2 k3 k4 k5 k10 k12 k18 k20 k22 k31 k32 g1 f4 f8 f10 f13 h19 f22 fe_0_6_1 fe_0_13_1 fe_0_6_2 fe_0_13_2 hE_0_15_2 hE_0_16_1 hE_0_16_2 kz_0_6 kz_0_13
  refine ⟨(fun _ h => (by cases h)), [], trivial, ?_, (fun _ h => (by cases h))⟩
  rw [List.append_nil]
  exact List.forall_mem_cons.mpr ⟨⟨show (20 : Nat) < 100 from by decide, nf0⟩, (fun _ h => (by cases h))⟩
set_option maxHeartbeats 4000000 in
theorem vc_Ne_traceFaces_at_Np_23_0 (x2 : Int) (x3 : Int) (x4 : Int) (x5 : Int) (x10 : Int) (x12 : Int) (x18 : Int) (x20 : Int) (x22 : Int) (x31 : Int) (x32 : Int) (faces_0 : Int) (edges_0 : Int) (faceOf_2 : Int → Int) (edges_2 : Int) (faces_2 : Int) (edges_1 : Int) (faces_1 : Int) (rowNode_1 : Int → Int) (rowNode_2 : Int → Int) (faceOf_0 : Int → Int) (faceOf_1 : Int → Int) (k2 : 0 ≤ x2 ∧ x2 ≤ 143) (k3 : 0 ≤ x3 ∧ x3 ≤ 143) (k4 : 0 ≤ x4 ∧ x4 ≤ 143) (k5 : 0 ≤ x5 ∧ x5 ≤ 143) (k10 : (-1) ≤ x10 ∧ x10 ≤ (-1)) (k12 : 0 ≤ x12 ∧ x12 ≤ 143) (k18 : 0 ≤ x18 ∧ x18 ≤ 71) (k20 : 1 ≤ x20 ∧ x20 ≤ 144) (k22 : 0 ≤ x22 ∧ x22 ≤ 0) (k31 : 0 ≤ x31 ∧ x31 ≤ 142) (k32 : 1 ≤ x32 ∧ x32 ≤ 144) (g1 : x12 = faces_0) (f4 : x32 = x5 + 1) (f8 : x22 = x4 % 2) (f10 : x20 = x2 + 1) (f13 : x18 = x4 / 2) (h19 : x10 = faceOf_2 (x4)) (f22 : TFI (edges_2) (faces_2) (faceOf_2) (x3) (x2) (x4) (x5)) (fe_0_6_1 : edges_0 = edges_1) (fe_0_13_1 : faces_0 = faces_1) (fe_0_6_2 : edges_1 = edges_2) (fe_0_13_2 : faces_1 = faces_2) (hE_0_15_2 : ∀ j : Int, rowNode_1 j = rowNode_2 j) (hE_0_16_1 : ∀ j : Int, faceOf_0 j = faceOf_1 j) (hE_0_16_2 : ∀ j : Int, 0 ≤ j → (j = x4 → faceOf_1 j = x12) ∧ (j ≠ x4 → faceOf_1 j = faceOf_2 j)) (kz_0_6 : 0 ≤ edges_0 ∧ edges_0 ≤ 72) (kz_0_13 : 0 ≤ faces_0 ∧ faces_0 ≤ 144) : TFI (edges_0) (faces_0) (faceOf_0) (x3) (x20) (x31) (x32) := by
  subst fe_0_6_1
  subst fe_0_13_1
  subst fe_0_6_2
  subst fe_0_13_2
  have e_hE_0_15_2 := funext hE_0_15_2; subst e_hE_0_15_2
  have e_hE_0_16_1 := funext hE_0_16_1; subst e_hE_0_16_1
  first
    | (skip; (first | subst h19 | skip); exact tfi_start ‹TFO _ _ _ _ _› (by omega) (by omega) (by omega) (by omega))
    | (skip; (first | subst h19 | skip); exact tfi_step ‹TFI _ _ _ _ _ _ _› (by assumption) rfl (by omega) (by omega) (by omega) (by omega) (by omega) (by omega))
  
def o_Ne_traceFaces_at_Np_23 : or_T := (55, 33, [(0, (2, 0, 0, [149])), (1, (2, 0, 0, [149])), (2, (0, 0, 143, [])), (3, (0, 0, 143, [])), (4, (0, 0, 143, [])), (5, (0, 0, 143, [])), (6, (0, 2, 2, [])), (7, (0, 0, 72, [])), (8, (0, 1, 144, [])), (9, (2, 0, 0, [148])), (10, (0, -1, -1, [])), (11, (0, -1, -1, [])), (12, (0, 0, 143, [])), (13, (2, 0, 0, [147])), (14, (0, 1, 1, [])), (15, (0, 0, 0, [])), (18, (0, 0, 71, [])), (20, (0, 1, 144, [])), (21, (0, 1, 1, [])), (22, (0, 0, 0, [])), (25, (0, 0, 71, [])), (28, (0, 1, 1, [])), (29, (0, 0, 143, [])), (31, (0, 0, 142, [])), (32, (0, 1, 144, []))], [(9, [13, 1], [15]), (9, [12, 1], [13]), (9, [9, 1], [16]), (9, [7, 1], [6]), (6, [32, 5], [1]), (16, [29, 4, 28], [2]), (11, [25, 4], [2]), (8, [22], [0]), (12, [22, 4], [2]), (16, [22, 4, 21], [0]), (6, [20, 2], [1]), (24, [0, 1], []), (100, [13, 2, 19], []), (11, [18, 4], [2]), (8, [15], [0]), (12, [15, 4], [2]), (16, [15, 4, 14], [0]), (100, [9, 4, 12], []), (7, [10, 11], [0]), (10, [10, 9, 4], []), (7, [5, 8], [2]), (3, [8, 6, 7], []), (20, [1, 3, 2, 4, 5], [60, 2, 1, 552, 6, 13, 16])], [], [], [(20, [1, 3, 20, 31, 32], [60, 2, 1, 552, 6, 13, 16])], [], [(32, 5, 1, 1), (32, 8, -4294967296, 0), (32, 2, -4294967296, 1), (20, 2, 1, 1), (5, 8, -4294967296, -1), (5, 2, -4294967296, 0)])
theorem oo_Ne_traceFaces_at_Np_23 {kA : Nat → ClassId} : or_ok PRD kA GG o_Ne_traceFaces_at_Np_23 := by
  refine or_mk fun A ta ws vs hD hth hl => ?_
  intro t0 r0 t1 r1 t2 k2 t3 k3 t4 k4 t5 k5 t6 k6 t7 k7 t8 k8 t9 r9 t10 k10 t11 k11 t12 k12 t13 r13 t14 k14 t15 k15 t18 k18 t20 k20 t21 k21 t22 k22 t25 k25 t28 k28 t29 k29 t31 k31 t32 k32 d0 d1 d2 d3 d4 d5 f0 f1 f2 f3 f4 f5 f6 f7 f8 f9 f10 f11 ta1 w1 le1 s1 f13 f14 f15 f16 ta2 w2 le2 s2 f18 f19 f20 f21 f22
  replace f1 := shm_361 f1
  replace f2 := shm_176 f2
  replace f4 := shm_4 f4
  replace f8 := shm_364 f8
  replace f10 := shm_4 f10
  replace f11 := shm_5 f11
  have s1 : (∀ b j, w_el ws b j = if b = v_ad (n_v vs 13) ∧ j = (v_iv (n_v vs 2)).toNat then v_iv (n_v vs 19) else w_el w1 b j) ∧ ∀ b k, w_fd ws b k = w_fd w1 b k := s1.2
  replace f13 := shm_585 f13
  have s2 : (∀ b j, w_el w1 b j = if b = v_ad (n_v vs 9) ∧ j = (v_iv (n_v vs 4)).toNat then v_iv (n_v vs 12) else w_el w2 b j) ∧ ∀ b k, w_fd w1 b k = w_fd w2 b k := s2.2
  replace f19 := shm_107 f19
  replace f22 := shm_1102 f22
  have q1 : n_v vs 1 = n_v vs 0 := f11.symm
  simp only [q1] at f1 f2 f22
  have cr_0_15 := fdq_259 hD hth r0
  have ar_0_16_1 : w_ar w1 (n_v vs 0) 16 = w_ar ws (n_v vs 0) 16 := congrArg v_ad (s1.2 _ _).symm
  have ar_0_16_2 : w_ar w2 (n_v vs 0) 16 = w_ar ws (n_v vs 0) 16 := by rw [← ar_0_16_1]; show v_ad (w_fd w2 _ _) = v_ad (w_fd w1 _ _); rw [s2.2]
  have cr_0_16 := fdq_256 hD hth r0
  have ad_9 : v_ad (n_v vs 9) = w_ar ws (n_v vs 0) 16 := congrArg v_ad f2
  have g1 : v_iv (n_v vs 12) = w_fi ws (n_v vs 0) 13 := congrArg v_iv f1
  simp only [ad_9] at f19
  have h19 : v_iv (n_v vs 10) = w_ei w2 (w_ar ws (n_v vs 0) 16) (v_iv (n_v vs 4)) := f19
  simp only [ar_0_16_2] at f22
  have fe_0_6_1 : w_fi ws (n_v vs 0) 6 = w_fi w1 (n_v vs 0) 6 := congrArg v_iv (s1.2 _ _)
  have fe_0_13_1 : w_fi ws (n_v vs 0) 13 = w_fi w1 (n_v vs 0) 13 := congrArg v_iv (s1.2 _ _)
  have fe_0_6_2 : w_fi w1 (n_v vs 0) 6 = w_fi w2 (n_v vs 0) 6 := congrArg v_iv (s2.2 _ _)
  have fe_0_13_2 : w_fi w1 (n_v vs 0) 13 = w_fi w2 (n_v vs 0) 13 := congrArg v_iv (s2.2 _ _)
  have hE_0_15_2 : ∀ j : Int, w_ei w1 (w_ar ws (n_v vs 0) 15) j = w_ei w2 (w_ar ws (n_v vs 0) 15) j := el_kp s2.1 r9 cr_0_15 (by decide)
  have hE_0_16_1 : ∀ j : Int, w_ei ws (w_ar ws (n_v vs 0) 16) j = w_ei w1 (w_ar ws (n_v vs 0) 16) j := el_kp s1.1 r13 cr_0_16 (by decide)
  have hE_0_16_2 : ∀ j : Int, 0 ≤ j → (j = v_iv (n_v vs 4) → w_ei w1 (w_ar ws (n_v vs 0) 16) j = v_iv (n_v vs 12)) ∧ (j ≠ v_iv (n_v vs 4) → w_ei w1 (w_ar ws (n_v vs 0) 16) j = w_ei w2 (w_ar ws (n_v vs 0) 16) j) := fun j hj => ⟨fun h => by unfold w_ei; rw [s2.1, if_pos ⟨ad_9.symm, by rw [h]⟩], fun h => by unfold w_ei; rw [s2.1, if_neg (fun e => h (by have := e.2; omega))]⟩
  have kz_0_6 := fdq_62 hD hth r0
  have kz_0_13 := fdq_257 hD hth r0
  have nf0 : fc_1 PRD (20, [1, 3, 20, 31, 32], [60, 2, 1, 552, 6, 13, 16]) ws (vs) := by
    refine ⟨nf_in hl rfl, sgq_1102 ?_⟩
    · show TFI (w_fi ws (n_v vs 1) 6) (w_fi ws (n_v vs 1) 13) (w_ei ws (w_ar ws (n_v vs 1) 16)) (v_iv (n_v vs 3)) (v_iv (n_v vs 20)) (v_iv (n_v vs 31)) (v_iv (n_v vs 32))
      rw [q1]
      exact vc_Ne_traceFaces_at_Np_23_0 (v_iv (n_v vs 2)) (v_iv (n_v vs 3)) (v_iv (n_v vs 4)) (v_iv (n_v vs 5)) (v_iv (n_v vs 10)) (v_iv (n_v vs 12)) (v_iv (n_v vs 18)) (v_iv (n_v vs 20)) (v_iv (n_v vs 22)) (v_iv (n_v vs 31)) (v_iv (n_v vs 32)) (w_fi ws (n_v vs 0) 13) (w_fi ws (n_v vs 0) 6) (w_ei w2 (w_ar ws (n_v vs 0) 16)) (w_fi w2 (n_v vs 0) 6) (w_fi w2 (n_v vs 0) 13) (w_fi w1 (n_v vs 0) 6) (w_fi w1 (n_v vs 0) 13) (w_ei w1 (w_ar ws (n_v vs 0) 15)) (w_ei w2 (w_ar ws (n_v vs 0) 15)) (w_ei ws (w_ar ws (n_v vs 0) 16)) (w_ei w1 (w_ar ws (n_v vs 0) 16)) k2 k3 k4 k5 k10 k12 k18 k20 k22 k31 k32 g1 f4 f8 f10 f13 h19 f22 fe_0_6_1 fe_0_13_1 fe_0_6_2 fe_0_13_2 hE_0_15_2 hE_0_16_1 hE_0_16_2 kz_0_6 kz_0_13
  refine ⟨(fun _ h => (by cases h)), [], trivial, ?_, (fun _ h => (by cases h))⟩
  rw [List.append_nil]
  exact List.forall_mem_cons.mpr ⟨⟨show (20 : Nat) < 100 from by decide, nf0⟩, (fun _ h => (by cases h))⟩
def n_Ne_traceFaces_at_Np_an : List an_T := [(17, [(0, (2, 0, 0, [149])), (1, (0, 0, 144, [])), (2, (0, 0, 144, []))], [], (0, 0), [(0, 0, 99983), (1, 3, 144), (0, 0, 100000), (0, 0, 0), (0, 0, 0)], [(4, 3, (Int.negSucc 999999999999), 143)], [((0, 13), (0, 0, 144, []))], [(2, 0, 0, [149])], 0, [], [(20, [1, 3, 2], [60, 2, 1, 551, 6, 13, 16]), (24, [0, 1], [])]), (55, [(0, (2, 0, 0, [149])), (1, (0, 0, 144, [])), (2, (0, 0, 143, [])), (3, (0, 0, 143, [])), (4, (0, 0, 144, []))], [], (0, 0), [(0, 0, 99983), (1, 3, 144), (0, 0, 99945), (1, 2, 144), (0, 0, 100000)], [(5, 2, (Int.negSucc 999999999999), 0)], [], [(2, 0, 0, [149])], 0, [], [(20, [1, 3, 2, 4, 5], [60, 2, 1, 552, 6, 13, 16]), (24, [0, 1], [])])]
def t_Ne_traceFaces_at_Np_ct : ct_L := [(1, 84, e_Ne_endAt), (39, 64, e_jArr_fill1_v65)]
set_option maxRecDepth 100000 in
theorem c_Ne_traceFaces_at_Np {l : Launch} {D : va_G} {kA : Nat → ClassId} (h_Ne_endAt : ct_ok PRD l D kA GG y_Ne_endAt z_Ne_endAt e_Ne_endAt) : ct_ok PRD l D kA GG y_Ne_traceFaces_at_Np z_Ne_traceFaces_at_Np e_Ne_traceFaces_at_Np := chk_all_ok (FT := [(31, 5, 6), (34, 5, 7), (37, 5, 8), (46, 5, 11), (52, 5, 13), (55, 5, 14), (58, 5, 15), (61, 5, 16)]) (PT := [(52, 5, 13, .int)]) (CT := t_Ne_traceFaces_at_Np_ct) (KT := []) (NT := []) (AN := n_Ne_traceFaces_at_Np_an) (OT := [o_Ne_traceFaces_at_Np_0, o_Ne_traceFaces_at_Np_1, o_Ne_traceFaces_at_Np_2, o_Ne_traceFaces_at_Np_3, o_Ne_traceFaces_at_Np_4, o_Ne_traceFaces_at_Np_5, o_Ne_traceFaces_at_Np_6, o_Ne_traceFaces_at_Np_7, o_Ne_traceFaces_at_Np_8, o_Ne_traceFaces_at_Np_9, o_Ne_traceFaces_at_Np_10, o_Ne_traceFaces_at_Np_11, o_Ne_traceFaces_at_Np_12, o_Ne_traceFaces_at_Np_13, o_Ne_traceFaces_at_Np_14, o_Ne_traceFaces_at_Np_15, o_Ne_traceFaces_at_Np_16, o_Ne_traceFaces_at_Np_17, o_Ne_traceFaces_at_Np_18, o_Ne_traceFaces_at_Np_19, o_Ne_traceFaces_at_Np_20, o_Ne_traceFaces_at_Np_21, o_Ne_traceFaces_at_Np_22, o_Ne_traceFaces_at_Np_23]) 5 796 (List.forall_mem_cons.mpr ⟨oo_Ne_traceFaces_at_Np_0, List.forall_mem_cons.mpr ⟨oo_Ne_traceFaces_at_Np_1, List.forall_mem_cons.mpr ⟨oo_Ne_traceFaces_at_Np_2, List.forall_mem_cons.mpr ⟨oo_Ne_traceFaces_at_Np_3, List.forall_mem_cons.mpr ⟨oo_Ne_traceFaces_at_Np_4, List.forall_mem_cons.mpr ⟨oo_Ne_traceFaces_at_Np_5, List.forall_mem_cons.mpr ⟨oo_Ne_traceFaces_at_Np_6, List.forall_mem_cons.mpr ⟨oo_Ne_traceFaces_at_Np_7, List.forall_mem_cons.mpr ⟨oo_Ne_traceFaces_at_Np_8, List.forall_mem_cons.mpr ⟨oo_Ne_traceFaces_at_Np_9, List.forall_mem_cons.mpr ⟨oo_Ne_traceFaces_at_Np_10, List.forall_mem_cons.mpr ⟨oo_Ne_traceFaces_at_Np_11, List.forall_mem_cons.mpr ⟨oo_Ne_traceFaces_at_Np_12, List.forall_mem_cons.mpr ⟨oo_Ne_traceFaces_at_Np_13, List.forall_mem_cons.mpr ⟨oo_Ne_traceFaces_at_Np_14, List.forall_mem_cons.mpr ⟨oo_Ne_traceFaces_at_Np_15, List.forall_mem_cons.mpr ⟨oo_Ne_traceFaces_at_Np_16, List.forall_mem_cons.mpr ⟨oo_Ne_traceFaces_at_Np_17, List.forall_mem_cons.mpr ⟨oo_Ne_traceFaces_at_Np_18, List.forall_mem_cons.mpr ⟨oo_Ne_traceFaces_at_Np_19, List.forall_mem_cons.mpr ⟨oo_Ne_traceFaces_at_Np_20, List.forall_mem_cons.mpr ⟨oo_Ne_traceFaces_at_Np_21, List.forall_mem_cons.mpr ⟨oo_Ne_traceFaces_at_Np_22, List.forall_mem_cons.mpr ⟨oo_Ne_traceFaces_at_Np_23, List.forall_mem_nil _⟩⟩⟩⟩⟩⟩⟩⟩⟩⟩⟩⟩⟩⟩⟩⟩⟩⟩⟩⟩⟩⟩⟩⟩) (by decide +kernel) ⟨List.forall_mem_cons.mpr ⟨gf_Ne_31, List.forall_mem_cons.mpr ⟨gf_Ne_34, List.forall_mem_cons.mpr ⟨gf_Ne_37, List.forall_mem_cons.mpr ⟨gf_Ne_46, List.forall_mem_cons.mpr ⟨gf_Ne_52, List.forall_mem_cons.mpr ⟨gf_Ne_55, List.forall_mem_cons.mpr ⟨gf_Ne_58, List.forall_mem_cons.mpr ⟨gf_Ne_61, List.forall_mem_nil _⟩⟩⟩⟩⟩⟩⟩⟩, List.forall_mem_cons.mpr ⟨pf_Ne_52, List.forall_mem_nil _⟩, List.forall_mem_cons.mpr ⟨cl_virtual (y := y_Ne_endAt) (ci := 5) rfl rfl ⟨_, _, rfl⟩ (by decide +kernel) h_Ne_endAt wm_1138 wm_6 wm_1151 wm_1136 wm_1137 ⟨by decide, by decide, by decide +kernel⟩ (by decide), List.forall_mem_cons.mpr ⟨cl_static (y := y_jArr_fill1) c_jArr_fill1_v65 wm_55 wm_4 wm_1061 wm_54 ⟨by decide, by decide, by decide +kernel⟩ (by decide), List.forall_mem_nil _⟩⟩, List.forall_mem_nil _, List.forall_mem_nil _, GG_pl⟩ (by decide +kernel)

set_option maxHeartbeats 4000000 in
theorem vc_Ne_traceFaces_at_Nq_0_0 (x1 : Int) (x2 : Int) (x4 : Int) (x5 : Int) (faces_0 : Int) (faceOf_0 : Int → Int) (edges_0 : Int) (k1 : 0 ≤ x1 ∧ x1 ≤ 0) (k2 : 0 ≤ x2 ∧ x2 ≤ 0) (k4 : (-1) ≤ x4 ∧ x4 ≤ (-1)) (k5 : 0 ≤ x5 ∧ x5 ≤ 0) (g1 : x1 = faces_0) (hT2 : ∀ j : Int, 0 ≤ j → j < x4 + 145 → (-1) ≤ faceOf_0 j ∧ faceOf_0 j ≤ (-1)) (kz_0_6 : 0 ≤ edges_0 ∧ edges_0 ≤ 72) (kz_0_13 : 0 ≤ faces_0 ∧ faces_0 ≤ 144) : TFO (edges_0) (faces_0) (faceOf_0) (x5) (x2) := by
  first
    | exact tfo_start (fun w a b => by first | (have q := hT0 w a (by omega); omega) | (have q := hT1 w a (by omega); omega) | (have q := hT2 w a (by omega); omega) | (have q := hT3 w a (by omega); omega) | (have q := hT4 w a (by omega); omega)) (by omega) (by omega) (by omega)
    | (skip; exact tfo_skip ‹TFO _ _ _ _ _› (by omega) (by omega))
    | (skip; exact (tfo_next ‹TFI _ _ _ _ _ _ _› (by first | (left; omega) | (right; omega)) (by omega) (by omega)).1)
  
def o_Ne_traceFaces_at_Nq_0 : or_T := (17, 6, [(0, (2, 0, 0, [294])), (1, (0, 0, 0, [])), (2, (0, 0, 0, [])), (4, (0, -1, -1, [])), (5, (0, 0, 0, []))], [(9, [3, 0], [16]), (9, [1, 0], [13]), (20, [3, 4], [8, -1, -1, 145])], [], [], [(20, [0, 5, 2], [60, 2, 1, 551, 6, 13, 16]), (24, [0, 0], [])], [], [])
theorem oo_Ne_traceFaces_at_Nq_0 {kA : Nat → ClassId} : or_ok PRD kA GG o_Ne_traceFaces_at_Nq_0 := by
  refine or_mk fun A ta ws vs hD hth hl => ?_
  intro t0 r0 t1 k1 t2 k2 t4 k4 t5 k5 f0 f1 f2
  replace f0 := shm_176 f0
  replace f1 := shm_361 f1
  replace f2 := shm_31 f2
  have ad_3 : v_ad (n_v vs 3) = w_ar ws (n_v vs 0) 16 := congrArg v_ad f0
  have g1 : v_iv (n_v vs 1) = w_fi ws (n_v vs 0) 13 := congrArg v_iv f1
  have hT2 : ∀ j : Int, 0 ≤ j → j < v_iv (n_v vs 4) + 145 → (-1) ≤ w_ei ws (w_ar ws (n_v vs 0) 16) j ∧ w_ei ws (w_ar ws (n_v vs 0) 16) j ≤ (-1) := fun j h0 h1 => by have h2 := f2 j.toNat (by omega); rw [ad_3] at h2; exact h2
  have kz_0_6 := fdq_225 hD hth r0
  have kz_0_13 := fdq_261 hD hth r0
  have nf0 : fc_1 PRD (20, [0, 5, 2], [60, 2, 1, 551, 6, 13, 16]) ws (vs) := ⟨nf_in hl rfl, sgq_1099 (vc_Ne_traceFaces_at_Nq_0_0 (v_iv (n_v vs 1)) (v_iv (n_v vs 2)) (v_iv (n_v vs 4)) (v_iv (n_v vs 5)) (w_fi ws (n_v vs 0) 13) (w_ei ws (w_ar ws (n_v vs 0) 16)) (w_fi ws (n_v vs 0) 6) k1 k2 k4 k5 g1 hT2 kz_0_6 kz_0_13)⟩
  have nf1 : fc_1 PRD (24, [0, 0], []) ws (vs) := by
    refine ⟨nf_in hl rfl, sgq_1 ?_⟩
    · show n_v vs 0 = n_v vs 0
      first | rfl | simp only [true_and]
  refine ⟨(fun _ h => (by cases h)), [], trivial, ?_, (fun _ h => (by cases h))⟩
  rw [List.append_nil]
  exact List.forall_mem_cons.mpr ⟨⟨show (20 : Nat) < 100 from by decide, nf0⟩, List.forall_mem_cons.mpr ⟨⟨show (24 : Nat) < 100 from by decide, nf1⟩, (fun _ h => (by cases h))⟩⟩
set_option maxHeartbeats 4000000 in
theorem vc_Ne_traceFaces_at_Nq_1_0 (x2 : Int) (x3 : Int) (x6 : Int) (x7 : Int) (edges_0 : Int) (faces_0 : Int) (faceOf_0 : Int → Int) (faceOf_1 : Int → Int) (edges_1 : Int) (faces_1 : Int) (k2 : 0 ≤ x2 ∧ x2 ≤ 144) (k3 : 0 ≤ x3 ∧ x3 ≤ 144) (k6 : 0 ≤ x6 ∧ x6 ≤ 72) (k7 : 0 ≤ x7 ∧ x7 ≤ 144) (d0 : x7 + 0 ≤ x3 ∧ x3 ≤ x7 + 4294967296) (g1 : x6 = edges_0) (f7 : x7 = 2 * x6) (f8 : TFO (edges_1) (faces_1) (faceOf_1) (x3) (x2)) (fe_0_6_1 : edges_0 = edges_1) (fe_0_13_1 : faces_0 = faces_1) (hE_0_16_1 : ∀ j : Int, faceOf_0 j = faceOf_1 j) (kz_0_6 : 0 ≤ edges_0 ∧ edges_0 ≤ 72) (kz_0_13 : 0 ≤ faces_0 ∧ faces_0 ≤ 144) : FAD (edges_0) (faceOf_0) := by
  subst fe_0_6_1
  subst fe_0_13_1
  have e_hE_0_16_1 := funext hE_0_16_1; subst e_hE_0_16_1
  exact fad_of ‹TFO _ _ _ _ _› (by omega)
def o_Ne_traceFaces_at_Nq_1 : or_T := (194, 9, [(0, (2, 0, 0, [294])), (2, (0, 0, 144, [])), (3, (0, 0, 144, [])), (5, (0, 2, 2, [])), (6, (0, 0, 72, [])), (7, (0, 0, 144, [])), (8, (2, 0, 0, [291]))], [(9, [6, 1], [6]), (24, [0, 1], []), (100, [8, 4, 2], []), (3, [7, 5, 6], []), (20, [1, 3, 2], [60, 2, 1, 551, 6, 13, 16])], [], [], [(20, [0], [60, 1, 1, 553, 6, 16])], [], [(3, 7, 0, 4294967296)])
theorem oo_Ne_traceFaces_at_Nq_1 {kA : Nat → ClassId} : or_ok PRD kA GG o_Ne_traceFaces_at_Nq_1 := by
  refine or_mk fun A ta ws vs hD hth hl => ?_
  intro t0 r0 t2 k2 t3 k3 t5 k5 t6 k6 t7 k7 t8 r8 d0 f1 f4 ta1 w1 le1 s1 f7 f8
  replace f1 := shm_111 f1
  replace f4 := shm_5 f4
  have s1 : (∀ b j, w_el ws b j = if b = v_ad (n_v vs 8) ∧ j = (v_iv (n_v vs 4)).toNat then v_iv (n_v vs 2) else w_el w1 b j) ∧ ∀ b k, w_fd ws b k = w_fd w1 b k := s1.2
  replace f7 := shm_38 f7
  rw [show v_iv (n_v vs 5) = 2 from by omega] at f7
  replace f8 := shm_1099 f8
  have q1 : n_v vs 1 = n_v vs 0 := f4.symm
  simp only [q1] at f1 f8
  have ar_0_16_1 : w_ar w1 (n_v vs 0) 16 = w_ar ws (n_v vs 0) 16 := congrArg v_ad (s1.2 _ _).symm
  have cr_0_16 := fdq_260 hD hth r0
  have g1 : v_iv (n_v vs 6) = w_fi ws (n_v vs 0) 6 := congrArg v_iv f1
  simp only [ar_0_16_1] at f8
  have fe_0_6_1 : w_fi ws (n_v vs 0) 6 = w_fi w1 (n_v vs 0) 6 := congrArg v_iv (s1.2 _ _)
  have fe_0_13_1 : w_fi ws (n_v vs 0) 13 = w_fi w1 (n_v vs 0) 13 := congrArg v_iv (s1.2 _ _)
  have hE_0_16_1 : ∀ j : Int, w_ei ws (w_ar ws (n_v vs 0) 16) j = w_ei w1 (w_ar ws (n_v vs 0) 16) j := el_kp s1.1 r8 cr_0_16 (by decide)
  have kz_0_6 := fdq_225 hD hth r0
  have kz_0_13 := fdq_261 hD hth r0
  have nf0 : fc_1 PRD (20, [0], [60, 1, 1, 553, 6, 16]) ws (vs) := ⟨nf_in hl rfl, sgq_1100 (vc_Ne_traceFaces_at_Nq_1_0 (v_iv (n_v vs 2)) (v_iv (n_v vs 3)) (v_iv (n_v vs 6)) (v_iv (n_v vs 7)) (w_fi ws (n_v vs 0) 6) (w_fi ws (n_v vs 0) 13) (w_ei ws (w_ar ws (n_v vs 0) 16)) (w_ei w1 (w_ar ws (n_v vs 0) 16)) (w_fi w1 (n_v vs 0) 6) (w_fi w1 (n_v vs 0) 13) k2 k3 k6 k7 d0 g1 f7 f8 fe_0_6_1 fe_0_13_1 hE_0_16_1 kz_0_6 kz_0_13)⟩
  refine ⟨(fun _ h => (by cases h)), [], trivial, ?_, (fun _ h => (by cases h))⟩
  rw [List.append_nil]
  exact List.forall_mem_cons.mpr ⟨⟨show (20 : Nat) < 100 from by decide, nf0⟩, (fun _ h => (by cases h))⟩
set_option maxHeartbeats 4000000 in
theorem vc_Ne_traceFaces_at_Nq_2_r0 (x2 : Int) (x3 : Int) (x4 : Int) (x9 : Int) (faces_0 : Int) (faceOf_0 : Int → Int) (edges_0 : Int) (k2 : 0 ≤ x2 ∧ x2 ≤ 144) (k3 : 0 ≤ x3 ∧ x3 ≤ 143) (k9 : (-1) ≤ x9 ∧ x9 ≤ (-1)) (h2 : x9 = faceOf_0 (x3)) (f7 : TFO (edges_0) (faces_0) (faceOf_0) (x3) (x2)) (kz_0_6 : 0 ≤ edges_0 ∧ edges_0 ≤ 72) (kz_0_13 : 0 ≤ faces_0 ∧ faces_0 ≤ 144) : 0 ≤ x2 ∧ x2 ≤ 143 := by
  first
    | omega
    | (have q := tfo_low ‹TFO _ _ _ _ _›; omega)
    | (skip; (first | subst h2 | skip); have q := tfc_lt (‹TFO _ _ _ _ _›).2.2.2.1 (e := x3) (by omega) (by omega) (by omega); have q2 := tfo_low ‹TFO _ _ _ _ _›; omega)
    | (skip; (first | subst h2 | skip); have q := (tfo_next (faces_zq := faces_0 + 1) (st_zq := x3 + 1) ‹TFI _ _ _ _ _ _ _› (by first | (left; omega) | (right; omega)) rfl rfl).2; have q2 := (‹TFI _ _ _ _ _ _ _›).2.2.1; omega)
    | (skip; (first | subst h2 | skip); have q := tfi_low ‹TFI _ _ _ _ _ _ _› (by omega) (by omega) (by omega); omega)
    | (have q := xor_one (x := x29) (a := x4) (b := x28) (by assumption) (by omega) (by omega) (by omega) (by omega) (by omega); split at q <;> omega)
  
def o_Ne_traceFaces_at_Nq_2 : or_T := (49, 12, [(0, (2, 0, 0, [294])), (1, (2, 0, 0, [294])), (2, (0, 0, 144, [])), (3, (0, 0, 143, [])), (4, (0, 0, 144, [])), (5, (0, 2, 2, [])), (6, (0, 0, 72, [])), (7, (0, 1, 144, [])), (8, (2, 0, 0, [293])), (9, (0, -1, -1, [])), (10, (0, -1, -1, []))], [(9, [4, 1], [13]), (7, [9, 10], [0]), (10, [9, 8, 3], []), (9, [8, 1], [16]), (7, [3, 7], [2]), (3, [7, 5, 6], []), (9, [6, 1], [6]), (20, [1, 3, 2], [60, 2, 1, 551, 6, 13, 16]), (24, [0, 1], [])], [(2, (0, 0, 143, []))], [], [], [], [(3, 7, -4294967296, -1), (4, 3, -4294967296, 143)])
theorem oo_Ne_traceFaces_at_Nq_2 {kA : Nat → ClassId} : or_ok PRD kA GG o_Ne_traceFaces_at_Nq_2 := by
  refine or_mk fun A ta ws vs hD hth hl => ?_
  intro t0 r0 t1 r1 t2 k2 t3 k3 t4 k4 t5 k5 t6 k6 t7 k7 t8 r8 t9 k9 t10 k10 d0 d1 f0 f1 f2 f3 f4 f5 f6 f7 f8
  replace f2 := shm_107 f2
  replace f3 := shm_176 f3
  replace f7 := shm_1099 f7
  replace f8 := shm_5 f8
  have q1 : n_v vs 1 = n_v vs 0 := f8.symm
  simp only [q1] at f3 f7
  have ad_8 : v_ad (n_v vs 8) = w_ar ws (n_v vs 0) 16 := congrArg v_ad f3
  simp only [ad_8] at f2
  have h2 : v_iv (n_v vs 9) = w_ei ws (w_ar ws (n_v vs 0) 16) (v_iv (n_v vs 3)) := f2
  have kz_0_6 := fdq_225 hD hth r0
  have kz_0_13 := fdq_261 hD hth r0
  have hrf0 : 0 ≤ v_iv (n_v vs 2) ∧ v_iv (n_v vs 2) ≤ 143 := vc_Ne_traceFaces_at_Nq_2_r0 (v_iv (n_v vs 2)) (v_iv (n_v vs 3)) (v_iv (n_v vs 4)) (v_iv (n_v vs 9)) (w_fi ws (n_v vs 0) 13) (w_ei ws (w_ar ws (n_v vs 0) 16)) (w_fi ws (n_v vs 0) 6) k2 k3 k9 h2 f7 kz_0_6 kz_0_13
  have rf2 : tv_ok ta (0, 0, 143, []) (n_v vs 2) := tv_in t2 (by first | omega | grind) (by first | omega | grind)
  refine ⟨List.forall_mem_cons.mpr ⟨rf2, (fun _ h => (by cases h))⟩, [], trivial, ?_, (fun _ h => (by cases h))⟩
  rw [List.append_nil]
  exact (fun _ h => (by cases h))
set_option maxHeartbeats 4000000 in
theorem vc_Ne_traceFaces_at_Nq_3_0 (x2 : Int) (x3 : Int) (x6 : Int) (x7 : Int) (x9 : Int) (x12 : Int) (edges_0 : Int) (faces_0 : Int) (faceOf_0 : Int → Int) (faceOf_1 : Int → Int) (edges_1 : Int) (faces_1 : Int) (k2 : 0 ≤ x2 ∧ x2 ≤ 143) (k3 : 0 ≤ x3 ∧ x3 ≤ 143) (k6 : 0 ≤ x6 ∧ x6 ≤ 72) (k7 : 1 ≤ x7 ∧ x7 ≤ 144) (k9 : (-1) ≤ x9 ∧ x9 ≤ (-1)) (k12 : 0 ≤ x12 ∧ x12 ≤ 0) (d0 : x7 + (-4294967296) ≤ x3 ∧ x3 ≤ x7 + (-1)) (g2 : x6 = edges_0) (h8 : x9 = faceOf_1 (x3)) (f10 : x7 = 2 * x6) (f11 : TFO (edges_1) (faces_1) (faceOf_1) (x3) (x2)) (fe_0_6_1 : edges_0 = edges_1) (fe_0_13_1 : faces_0 = faces_1) (hE_0_16_1 : ∀ j : Int, faceOf_0 j = faceOf_1 j) (kz_0_6 : 0 ≤ edges_0 ∧ edges_0 ≤ 72) (kz_0_13 : 0 ≤ faces_0 ∧ faces_0 ≤ 144) : TFI (edges_0) (faces_0) (faceOf_0) (x3) (x2) (x3) (x12) := by
  subst fe_0_6_1
  subst fe_0_13_1
  have e_hE_0_16_1 := funext hE_0_16_1; subst e_hE_0_16_1
  first
    | (skip; (first | subst h8 | skip); exact tfi_start ‹TFO _ _ _ _ _› (by omega) (by omega) (by omega) (by omega))
    | (skip; (first | subst h8 | skip); exact tfi_step ‹TFI _ _ _ _ _ _ _› (by assumption) rfl (by omega) (by omega) (by omega) (by omega) (by omega) (by omega))
  
def o_Ne_traceFaces_at_Nq_3 : or_T := (55, 13, [(0, (2, 0, 0, [294])), (2, (0, 0, 143, [])), (3, (0, 0, 143, [])), (5, (0, 2, 2, [])), (6, (0, 0, 72, [])), (7, (0, 1, 144, [])), (9, (0, -1, -1, [])), (11, (2, 0, 0, [291])), (12, (0, 0, 0, []))], [(9, [8, 1], [16]), (9, [6, 1], [6]), (24, [0, 1], []), (100, [11, 4, 2], []), (10, [9, 8, 3], []), (3, [7, 5, 6], []), (20, [1, 3, 2], [60, 2, 1, 551, 6, 13, 16])], [], [], [(20, [1, 3, 2, 3, 12], [60, 2, 1, 552, 6, 13, 16])], [], [(3, 7, -4294967296, -1)])
theorem oo_Ne_traceFaces_at_Nq_3 {kA : Nat → ClassId} : or_ok PRD kA GG o_Ne_traceFaces_at_Nq_3 := by
  refine or_mk fun A ta ws vs hD hth hl => ?_
  intro t0 r0 t2 k2 t3 k3 t5 k5 t6 k6 t7 k7 t9 k9 t11 r11 t12 k12 d0 f1 f2 f5 ta1 w1 le1 s1 f8 f10 f11
  replace f1 := shm_176 f1
  replace f2 := shm_111 f2
  replace f5 := shm_5 f5
  have s1 : (∀ b j, w_el ws b j = if b = v_ad (n_v vs 11) ∧ j = (v_iv (n_v vs 4)).toNat then v_iv (n_v vs 2) else w_el w1 b j) ∧ ∀ b k, w_fd ws b k = w_fd w1 b k := s1.2
  replace f8 := shm_107 f8
  replace f10 := shm_38 f10
  rw [show v_iv (n_v vs 5) = 2 from by omega] at f10
  replace f11 := shm_1099 f11
  have q1 : n_v vs 1 = n_v vs 0 := f5.symm
  simp only [q1] at f1 f2 f11
  have ar_0_16_1 : w_ar w1 (n_v vs 0) 16 = w_ar ws (n_v vs 0) 16 := congrArg v_ad (s1.2 _ _).symm
  have cr_0_16 := fdq_260 hD hth r0
  have ad_8 : v_ad (n_v vs 8) = w_ar ws (n_v vs 0) 16 := congrArg v_ad f1
  have g2 : v_iv (n_v vs 6) = w_fi ws (n_v vs 0) 6 := congrArg v_iv f2
  simp only [ad_8] at f8
  have h8 : v_iv (n_v vs 9) = w_ei w1 (w_ar ws (n_v vs 0) 16) (v_iv (n_v vs 3)) := f8
  simp only [ar_0_16_1] at f11
  have fe_0_6_1 : w_fi ws (n_v vs 0) 6 = w_fi w1 (n_v vs 0) 6 := congrArg v_iv (s1.2 _ _)
  have fe_0_13_1 : w_fi ws (n_v vs 0) 13 = w_fi w1 (n_v vs 0) 13 := congrArg v_iv (s1.2 _ _)
  have hE_0_16_1 : ∀ j : Int, w_ei ws (w_ar ws (n_v vs 0) 16) j = w_ei w1 (w_ar ws (n_v vs 0) 16) j := el_kp s1.1 r11 cr_0_16 (by decide)
  have kz_0_6 := fdq_225 hD hth r0
  have kz_0_13 := fdq_261 hD hth r0
  have nf0 : fc_1 PRD (20, [1, 3, 2, 3, 12], [60, 2, 1, 552, 6, 13, 16]) ws (vs) := by
    refine ⟨nf_in hl rfl, sgq_1101 ?_⟩
    · show TFI (w_fi ws (n_v vs 1) 6) (w_fi ws (n_v vs 1) 13) (w_ei ws (w_ar ws (n_v vs 1) 16)) (v_iv (n_v vs 3)) (v_iv (n_v vs 2)) (v_iv (n_v vs 3)) (v_iv (n_v vs 12))
      rw [q1]
      exact vc_Ne_traceFaces_at_Nq_3_0 (v_iv (n_v vs 2)) (v_iv (n_v vs 3)) (v_iv (n_v vs 6)) (v_iv (n_v vs 7)) (v_iv (n_v vs 9)) (v_iv (n_v vs 12)) (w_fi ws (n_v vs 0) 6) (w_fi ws (n_v vs 0) 13) (w_ei ws (w_ar ws (n_v vs 0) 16)) (w_ei w1 (w_ar ws (n_v vs 0) 16)) (w_fi w1 (n_v vs 0) 6) (w_fi w1 (n_v vs 0) 13) k2 k3 k6 k7 k9 k12 d0 g2 h8 f10 f11 fe_0_6_1 fe_0_13_1 hE_0_16_1 kz_0_6 kz_0_13
  refine ⟨(fun _ h => (by cases h)), [], trivial, ?_, (fun _ h => (by cases h))⟩
  rw [List.append_nil]
  exact List.forall_mem_cons.mpr ⟨⟨show (20 : Nat) < 100 from by decide, nf0⟩, (fun _ h => (by cases h))⟩
set_option maxHeartbeats 4000000 in
theorem vc_Ne_traceFaces_at_Nq_4_0 (x2 : Int) (x3 : Int) (x9 : Int) (x11 : Int) (faces_0 : Int) (faceOf_0 : Int → Int) (edges_0 : Int) (k2 : 0 ≤ x2 ∧ x2 ≤ 144) (k3 : 0 ≤ x3 ∧ x3 ≤ 143) (k9 : 0 ≤ x9 ∧ x9 ≤ 143) (k11 : 1 ≤ x11 ∧ x11 ≤ 144) (f1 : x11 = x3 + 1) (h3 : x9 = faceOf_0 (x3)) (f8 : TFO (edges_0) (faces_0) (faceOf_0) (x3) (x2)) (kz_0_6 : 0 ≤ edges_0 ∧ edges_0 ≤ 72) (kz_0_13 : 0 ≤ faces_0 ∧ faces_0 ≤ 144) : TFO (edges_0) (faces_0) (faceOf_0) (x11) (x2) := by
  first
    | exact tfo_start (fun w a b => by first | (have q := hT0 w a (by omega); omega) | (have q := hT1 w a (by omega); omega) | (have q := hT2 w a (by omega); omega) | (have q := hT3 w a (by omega); omega) | (have q := hT4 w a (by omega); omega)) (by omega) (by omega) (by omega)
    | (skip; (first | subst h3 | skip); exact tfo_skip ‹TFO _ _ _ _ _› (by omega) (by omega))
    | (skip; (first | subst h3 | skip); exact (tfo_next ‹TFI _ _ _ _ _ _ _› (by first | (left; omega) | (right; omega)) (by omega) (by omega)).1)
  
def o_Ne_traceFaces_at_Nq_4 : or_T := (17, 12, [(0, (2, 0, 0, [294])), (2, (0, 0, 144, [])), (3, (0, 0, 143, [])), (9, (0, 0, 143, [])), (11, (0, 1, 144, []))], [(6, [11, 3], [1]), (10, [9, 8, 3], []), (9, [8, 1], [16]), (20, [1, 3, 2], [60, 2, 1, 551, 6, 13, 16]), (24, [0, 1], [])], [], [], [(20, [1, 11, 2], [60, 2, 1, 551, 6, 13, 16])], [], [])
theorem oo_Ne_traceFaces_at_Nq_4 {kA : Nat → ClassId} : or_ok PRD kA GG o_Ne_traceFaces_at_Nq_4 := by
  refine or_mk fun A ta ws vs hD hth hl => ?_
  intro t0 r0 t2 k2 t3 k3 t9 k9 t11 k11 f1 f3 f4 f8 f9
  replace f1 := shm_4 f1
  replace f3 := shm_107 f3
  replace f4 := shm_176 f4
  replace f8 := shm_1099 f8
  replace f9 := shm_5 f9
  have q1 : n_v vs 1 = n_v vs 0 := f9.symm
  simp only [q1] at f4 f8
  have ad_8 : v_ad (n_v vs 8) = w_ar ws (n_v vs 0) 16 := congrArg v_ad f4
  simp only [ad_8] at f3
  have h3 : v_iv (n_v vs 9) = w_ei ws (w_ar ws (n_v vs 0) 16) (v_iv (n_v vs 3)) := f3
  have kz_0_6 := fdq_225 hD hth r0
  have kz_0_13 := fdq_261 hD hth r0
  have nf0 : fc_1 PRD (20, [1, 11, 2], [60, 2, 1, 551, 6, 13, 16]) ws (vs) := by
    refine ⟨nf_in hl rfl, sgq_1099 ?_⟩
    · show TFO (w_fi ws (n_v vs 1) 6) (w_fi ws (n_v vs 1) 13) (w_ei ws (w_ar ws (n_v vs 1) 16)) (v_iv (n_v vs 11)) (v_iv (n_v vs 2))
      rw [q1]
      exact vc_Ne_traceFaces_at_Nq_4_0 (v_iv (n_v vs 2)) (v_iv (n_v vs 3)) (v_iv (n_v vs 9)) (v_iv (n_v vs 11)) (w_fi ws (n_v vs 0) 13) (w_ei ws (w_ar ws (n_v vs 0) 16)) (w_fi ws (n_v vs 0) 6) k2 k3 k9 k11 f1 h3 f8 kz_0_6 kz_0_13
  refine ⟨(fun _ h => (by cases h)), [], trivial, ?_, (fun _ h => (by cases h))⟩
  rw [List.append_nil]
  exact List.forall_mem_cons.mpr ⟨⟨show (20 : Nat) < 100 from by decide, nf0⟩, (fun _ h => (by cases h))⟩
set_option maxHeartbeats 4000000 in
theorem vc_Ne_traceFaces_at_Nq_5_r0 (x2 : Int) (x3 : Int) (x4 : Int) (x5 : Int) (x7 : Int) (x8 : Int) (x9 : Int) (x11 : Int) (faces_0 : Int) (edges_0 : Int) (faceOf_0 : Int → Int) (k2 : 0 ≤ x2 ∧ x2 ≤ 144) (k3 : 0 ≤ x3 ∧ x3 ≤ 143) (k4 : 0 ≤ x4 ∧ x4 ≤ 143) (k5 : 0 ≤ x5 ∧ x5 ≤ 144) (k7 : 0 ≤ x7 ∧ x7 ≤ 72) (k8 : 0 ≤ x8 ∧ x8 ≤ 144) (k9 : 0 ≤ x9 ∧ x9 ≤ 144) (k11 : 1 ≤ x11 ∧ x11 ≤ 145) (d0 : x9 + 1 ≤ x11 ∧ x11 ≤ x9 + 1) (d1 : x8 + 0 ≤ x5 ∧ x5 ≤ x8 + 4294967296) (g1 : x9 = faces_0) (f3 : x8 = 2 * x7) (g4 : x7 = edges_0) (f5 : TFI (edges_0) (faces_0) (faceOf_0) (x3) (x2) (x4) (x5)) (kz_0_6 : 0 ≤ edges_0 ∧ edges_0 ≤ 72) (kz_0_13 : 0 ≤ faces_0 ∧ faces_0 ≤ 144) : 1 ≤ x11 ∧ x11 ≤ 144 := by
  first
    | omega
    | (have q := tfo_low ‹TFO _ _ _ _ _›; omega)
    | (skip; have q := tfc_lt (‹TFO _ _ _ _ _›).2.2.2.1 (e := x3) (by omega) (by omega) (by omega); have q2 := tfo_low ‹TFO _ _ _ _ _›; omega)
    | (skip; have q := (tfo_next (faces_zq := faces_0 + 1) (st_zq := x3 + 1) ‹TFI _ _ _ _ _ _ _› (by first | (left; omega) | (right; omega)) rfl rfl).2; have q2 := (‹TFI _ _ _ _ _ _ _›).2.2.1; omega)
    | (skip; have q := tfi_low ‹TFI _ _ _ _ _ _ _› (by omega) (by omega) (by omega); omega)
    | (have q := xor_one (x := x29) (a := x4) (b := x28) (by assumption) (by omega) (by omega) (by omega) (by omega) (by omega); split at q <;> omega)
  
def o_Ne_traceFaces_at_Nq_5 : or_T := (175, 12, [(0, (2, 0, 0, [294])), (1, (2, 0, 0, [294])), (2, (0, 0, 144, [])), (3, (0, 0, 143, [])), (4, (0, 0, 143, [])), (5, (0, 0, 144, [])), (6, (0, 2, 2, [])), (7, (0, 0, 72, [])), (8, (0, 0, 144, [])), (9, (0, 0, 144, [])), (10, (0, 1, 1, [])), (11, (0, 1, 145, []))], [(1, [11, 9, 10], []), (9, [9, 1], [13]), (7, [5, 8], [3]), (3, [8, 6, 7], []), (9, [7, 1], [6]), (20, [1, 3, 2, 4, 5], [60, 2, 1, 552, 6, 13, 16]), (24, [0, 1], [])], [(11, (0, 1, 144, []))], [], [], [], [(11, 9, 1, 1), (5, 8, 0, 4294967296), (5, 2, -4294967296, 0)])
theorem oo_Ne_traceFaces_at_Nq_5 {kA : Nat → ClassId} : or_ok PRD kA GG o_Ne_traceFaces_at_Nq_5 := by
  refine or_mk fun A ta ws vs hD hth hl => ?_
  intro t0 r0 t1 r1 t2 k2 t3 k3 t4 k4 t5 k5 t6 k6 t7 k7 t8 k8 t9 k9 t10 k10 t11 k11 d0 d1 d2 f0 f1 f2 f3 f4 f5 f6
  replace f1 := shm_361 f1
  replace f3 := shm_38 f3
  rw [show v_iv (n_v vs 6) = 2 from by omega] at f3
  replace f4 := shm_111 f4
  replace f5 := shm_1102 f5
  replace f6 := shm_5 f6
  have q1 : n_v vs 1 = n_v vs 0 := f6.symm
  simp only [q1] at f1 f4 f5
  have g1 : v_iv (n_v vs 9) = w_fi ws (n_v vs 0) 13 := congrArg v_iv f1
  have g4 : v_iv (n_v vs 7) = w_fi ws (n_v vs 0) 6 := congrArg v_iv f4
  have kz_0_6 := fdq_225 hD hth r0
  have kz_0_13 := fdq_261 hD hth r0
  have hrf0 : 1 ≤ v_iv (n_v vs 11) ∧ v_iv (n_v vs 11) ≤ 144 := vc_Ne_traceFaces_at_Nq_5_r0 (v_iv (n_v vs 2)) (v_iv (n_v vs 3)) (v_iv (n_v vs 4)) (v_iv (n_v vs 5)) (v_iv (n_v vs 7)) (v_iv (n_v vs 8)) (v_iv (n_v vs 9)) (v_iv (n_v vs 11)) (w_fi ws (n_v vs 0) 13) (w_fi ws (n_v vs 0) 6) (w_ei ws (w_ar ws (n_v vs 0) 16)) k2 k3 k4 k5 k7 k8 k9 k11 d0 d1 g1 f3 g4 f5 kz_0_6 kz_0_13
  have rf11 : tv_ok ta (0, 1, 144, []) (n_v vs 11) := tv_in t11 (by first | omega | grind) (by first | omega | grind)
  refine ⟨List.forall_mem_cons.mpr ⟨rf11, (fun _ h => (by cases h))⟩, [], trivial, ?_, (fun _ h => (by cases h))⟩
  rw [List.append_nil]
  exact (fun _ h => (by cases h))
set_option maxHeartbeats 4000000 in
theorem vc_Ne_traceFaces_at_Nq_6_0 (x2 : Int) (x3 : Int) (x4 : Int) (x5 : Int) (x7 : Int) (x8 : Int) (x9 : Int) (x11 : Int) (x12 : Int) (faces_0 : Int) (edges_0 : Int) (faces_1 : Int) (faceOf_1 : Int → Int) (edges_1 : Int) (faceOf_0 : Int → Int) (k2 : 0 ≤ x2 ∧ x2 ≤ 144) (k3 : 0 ≤ x3 ∧ x3 ≤ 143) (k4 : 0 ≤ x4 ∧ x4 ≤ 143) (k5 : 0 ≤ x5 ∧ x5 ≤ 144) (k7 : 0 ≤ x7 ∧ x7 ≤ 72) (k8 : 0 ≤ x8 ∧ x8 ≤ 144) (k9 : 0 ≤ x9 ∧ x9 ≤ 144) (k11 : 1 ≤ x11 ∧ x11 ≤ 144) (k12 : 1 ≤ x12 ∧ x12 ≤ 144) (d1 : x9 + 1 ≤ x11 ∧ x11 ≤ x9 + 1) (d2 : x8 + 0 ≤ x5 ∧ x5 ≤ x8 + 4294967296) (g0 : x11 = faces_0) (g1 : x7 = edges_0) (f2 : x12 = x3 + 1) (g6 : x9 = faces_1) (f8 : x8 = 2 * x7) (f9 : TFI (edges_1) (faces_1) (faceOf_1) (x3) (x2) (x4) (x5)) (fe_0_6_1 : edges_0 = edges_1) (hE_0_16_1 : ∀ j : Int, faceOf_0 j = faceOf_1 j) (kz_0_6 : 0 ≤ edges_0 ∧ edges_0 ≤ 72) (kz_0_13 : 0 ≤ faces_0 ∧ faces_0 ≤ 144) : TFO (edges_0) (faces_0) (faceOf_0) (x12) (x2) := by
  subst fe_0_6_1
  have e_hE_0_16_1 := funext hE_0_16_1; subst e_hE_0_16_1
  first
    | exact tfo_start (fun w a b => by first | (have q := hT0 w a (by omega); omega) | (have q := hT1 w a (by omega); omega) | (have q := hT2 w a (by omega); omega) | (have q := hT3 w a (by omega); omega) | (have q := hT4 w a (by omega); omega)) (by omega) (by omega) (by omega)
    | (skip; exact tfo_skip ‹TFO _ _ _ _ _› (by omega) (by omega))
    | (skip; exact (tfo_next ‹TFI _ _ _ _ _ _ _› (by first | (left; omega) | (right; omega)) (by omega) (by omega)).1)
  
def o_Ne_traceFaces_at_Nq_6 : or_T := (17, 13, [(0, (2, 0, 0, [294])), (2, (0, 0, 144, [])), (3, (0, 0, 143, [])), (4, (0, 0, 143, [])), (5, (0, 0, 144, [])), (6, (0, 2, 2, [])), (7, (0, 0, 72, [])), (8, (0, 0, 144, [])), (9, (0, 0, 144, [])), (11, (0, 1, 144, [])), (12, (0, 1, 144, []))], [(9, [11, 1], [13]), (9, [7, 1], [6]), (6, [12, 3], [1]), (24, [0, 1], []), (101, [1, 11], [13]), (9, [9, 1], [13]), (3, [8, 6, 7], []), (20, [1, 3, 2, 4, 5], [60, 2, 1, 552, 6, 13, 16])], [], [], [(20, [1, 12, 2], [60, 2, 1, 551, 6, 13, 16])], [], [(11, 9, 1, 1), (5, 8, 0, 4294967296)])
theorem oo_Ne_traceFaces_at_Nq_6 {kA : Nat → ClassId} : or_ok PRD kA GG o_Ne_traceFaces_at_Nq_6 := by
  refine or_mk fun A ta ws vs hD hth hl => ?_
  intro t0 r0 t2 k2 t3 k3 t4 k4 t5 k5 t6 k6 t7 k7 t8 k8 t9 k9 t11 k11 t12 k12 d1 d2 f0 f1 f2 f3 ta1 w1 le1 s1 f6 f8 f9
  replace f0 := shm_361 f0
  replace f1 := shm_111 f1
  replace f2 := shm_4 f2
  replace f3 := shm_5 f3
  have s1 : (∀ b j, w_el ws b j = w_el w1 b j) ∧ ∀ b j, w_fd ws b j = if b = v_ad (n_v vs 1) ∧ j = 13 then n_v vs 11 else w_fd w1 b j := s1.2
  replace f6 := shm_361 f6
  replace f8 := shm_38 f8
  rw [show v_iv (n_v vs 6) = 2 from by omega] at f8
  replace f9 := shm_1102 f9
  have q1 : n_v vs 1 = n_v vs 0 := f3.symm
  simp only [q1] at f0 f1
  rw [q1] at s1
  simp only [q1] at f6 f9
  have ar_0_16_1 : w_ar w1 (n_v vs 0) 16 = w_ar ws (n_v vs 0) 16 := by show v_ad (w_fd w1 _ _) = v_ad (w_fd ws _ _); rw [s1.2, if_neg (fun e => absurd e.2 (by decide))]
  have g0 : v_iv (n_v vs 11) = w_fi ws (n_v vs 0) 13 := congrArg v_iv f0
  have g1 : v_iv (n_v vs 7) = w_fi ws (n_v vs 0) 6 := congrArg v_iv f1
  have g6 : v_iv (n_v vs 9) = w_fi w1 (n_v vs 0) 13 := congrArg v_iv f6
  simp only [ar_0_16_1] at f9
  have fe_0_6_1 : w_fi ws (n_v vs 0) 6 = w_fi w1 (n_v vs 0) 6 := by show v_iv (w_fd _ _ _) = v_iv (w_fd _ _ _); rw [s1.2, if_neg (fun e => absurd e.2 (by decide))]
  have hE_0_16_1 : ∀ j : Int, w_ei ws (w_ar ws (n_v vs 0) 16) j = w_ei w1 (w_ar ws (n_v vs 0) 16) j := fun j => s1.1 _ _
  have kz_0_6 := fdq_225 hD hth r0
  have kz_0_13 := fdq_261 hD hth r0
  have nf0 : fc_1 PRD (20, [1, 12, 2], [60, 2, 1, 551, 6, 13, 16]) ws (vs) := by
    refine ⟨nf_in hl rfl, sgq_1099 ?_⟩
    · show TFO (w_fi ws (n_v vs 1) 6) (w_fi ws (n_v vs 1) 13) (w_ei ws (w_ar ws (n_v vs 1) 16)) (v_iv (n_v vs 12)) (v_iv (n_v vs 2))
      rw [q1]
      exact vc_Ne_traceFaces_at_Nq_6_0 (v_iv (n_v vs 2)) (v_iv (n_v vs 3)) (v_iv (n_v vs 4)) (v_iv (n_v vs 5)) (v_iv (n_v vs 7)) (v_iv (n_v vs 8)) (v_iv (n_v vs 9)) (v_iv (n_v vs 11)) (v_iv (n_v vs 12)) (w_fi ws (n_v vs 0) 13) (w_fi ws (n_v vs 0) 6) (w_fi w1 (n_v vs 0) 13) (w_ei w1 (w_ar ws (n_v vs 0) 16)) (w_fi w1 (n_v vs 0) 6) (w_ei ws (w_ar ws (n_v vs 0) 16)) k2 k3 k4 k5 k7 k8 k9 k11 k12 d1 d2 g0 g1 f2 g6 f8 f9 fe_0_6_1 hE_0_16_1 kz_0_6 kz_0_13
  refine ⟨(fun _ h => (by cases h)), [], trivial, ?_, (fun _ h => (by cases h))⟩
  rw [List.append_nil]
  exact List.forall_mem_cons.mpr ⟨⟨show (20 : Nat) < 100 from by decide, nf0⟩, (fun _ h => (by cases h))⟩
set_option maxHeartbeats 4000000 in
theorem vc_Ne_traceFaces_at_Nq_7_r0 (x2 : Int) (x3 : Int) (x4 : Int) (x5 : Int) (x10 : Int) (x12 : Int) (x14 : Int) (faces_0 : Int) (faceOf_0 : Int → Int) (edges_0 : Int) (k2 : 0 ≤ x2 ∧ x2 ≤ 144) (k3 : 0 ≤ x3 ∧ x3 ≤ 143) (k4 : 0 ≤ x4 ∧ x4 ≤ 143) (k5 : 0 ≤ x5 ∧ x5 ≤ 143) (k10 : 0 ≤ x10 ∧ x10 ≤ 143) (k12 : 0 ≤ x12 ∧ x12 ≤ 144) (k14 : 1 ≤ x14 ∧ x14 ≤ 145) (d0 : x12 + 1 ≤ x14 ∧ x14 ≤ x12 + 1) (g1 : x12 = faces_0) (h3 : x10 = faceOf_0 (x4)) (f8 : TFI (edges_0) (faces_0) (faceOf_0) (x3) (x2) (x4) (x5)) (kz_0_6 : 0 ≤ edges_0 ∧ edges_0 ≤ 72) (kz_0_13 : 0 ≤ faces_0 ∧ faces_0 ≤ 144) : 1 ≤ x14 ∧ x14 ≤ 144 := by
  first
    | omega
    | (have q := tfo_low ‹TFO _ _ _ _ _›; omega)
    | (skip; (first | subst h3 | skip); have q := tfc_lt (‹TFO _ _ _ _ _›).2.2.2.1 (e := x3) (by omega) (by omega) (by omega); have q2 := tfo_low ‹TFO _ _ _ _ _›; omega)
    | (skip; (first | subst h3 | skip); have q := (tfo_next (faces_zq := faces_0 + 1) (st_zq := x3 + 1) ‹TFI _ _ _ _ _ _ _› (by first | (left; omega) | (right; omega)) rfl rfl).2; have q2 := (‹TFI _ _ _ _ _ _ _›).2.2.1; omega)
    | (skip; (first | subst h3 | skip); have q := tfi_low ‹TFI _ _ _ _ _ _ _› (by omega) (by omega) (by omega); omega)
    | (have q := xor_one (x := x29) (a := x4) (b := x28) (by assumption) (by omega) (by omega) (by omega) (by omega) (by omega); split at q <;> omega)
  
def o_Ne_traceFaces_at_Nq_7 : or_T := (175, 15, [(0, (2, 0, 0, [294])), (1, (2, 0, 0, [294])), (2, (0, 0, 144, [])), (3, (0, 0, 143, [])), (4, (0, 0, 143, [])), (5, (0, 0, 143, [])), (6, (0, 2, 2, [])), (7, (0, 0, 72, [])), (8, (0, 1, 144, [])), (9, (2, 0, 0, [293])), (10, (0, 0, 143, [])), (11, (0, -1, -1, [])), (12, (0, 0, 144, [])), (13, (0, 1, 1, [])), (14, (0, 1, 145, []))], [(1, [14, 12, 13], []), (9, [12, 1], [13]), (7, [10, 11], [1]), (10, [10, 9, 4], []), (9, [9, 1], [16]), (7, [5, 8], [2]), (3, [8, 6, 7], []), (9, [7, 1], [6]), (20, [1, 3, 2, 4, 5], [60, 2, 1, 552, 6, 13, 16]), (24, [0, 1], [])], [(14, (0, 1, 144, []))], [], [], [], [(14, 12, 1, 1), (5, 8, -4294967296, -1), (5, 2, -4294967296, 0)])
theorem oo_Ne_traceFaces_at_Nq_7 {kA : Nat → ClassId} : or_ok PRD kA GG o_Ne_traceFaces_at_Nq_7 := by
  refine or_mk fun A ta ws vs hD hth hl => ?_
  intro t0 r0 t1 r1 t2 k2 t3 k3 t4 k4 t5 k5 t6 k6 t7 k7 t8 k8 t9 r9 t10 k10 t11 k11 t12 k12 t13 k13 t14 k14 d0 d1 d2 f0 f1 f2 f3 f4 f5 f6 f7 f8 f9
  replace f1 := shm_361 f1
  replace f3 := shm_107 f3
  replace f4 := shm_176 f4
  replace f8 := shm_1102 f8
  replace f9 := shm_5 f9
  have q1 : n_v vs 1 = n_v vs 0 := f9.symm
  simp only [q1] at f1 f4 f8
  have ad_9 : v_ad (n_v vs 9) = w_ar ws (n_v vs 0) 16 := congrArg v_ad f4
  have g1 : v_iv (n_v vs 12) = w_fi ws (n_v vs 0) 13 := congrArg v_iv f1
  simp only [ad_9] at f3
  have h3 : v_iv (n_v vs 10) = w_ei ws (w_ar ws (n_v vs 0) 16) (v_iv (n_v vs 4)) := f3
  have kz_0_6 := fdq_225 hD hth r0
  have kz_0_13 := fdq_261 hD hth r0
  have hrf0 : 1 ≤ v_iv (n_v vs 14) ∧ v_iv (n_v vs 14) ≤ 144 := vc_Ne_traceFaces_at_Nq_7_r0 (v_iv (n_v vs 2)) (v_iv (n_v vs 3)) (v_iv (n_v vs 4)) (v_iv (n_v vs 5)) (v_iv (n_v vs 10)) (v_iv (n_v vs 12)) (v_iv (n_v vs 14)) (w_fi ws (n_v vs 0) 13) (w_ei ws (w_ar ws (n_v vs 0) 16)) (w_fi ws (n_v vs 0) 6) k2 k3 k4 k5 k10 k12 k14 d0 g1 h3 f8 kz_0_6 kz_0_13
  have rf14 : tv_ok ta (0, 1, 144, []) (n_v vs 14) := tv_in t14 (by first | omega | grind) (by first | omega | grind)
  refine ⟨List.forall_mem_cons.mpr ⟨rf14, (fun _ h => (by cases h))⟩, [], trivial, ?_, (fun _ h => (by cases h))⟩
  rw [List.append_nil]
  exact (fun _ h => (by cases h))
set_option maxHeartbeats 4000000 in
theorem vc_Ne_traceFaces_at_Nq_8_0 (x2 : Int) (x3 : Int) (x4 : Int) (x5 : Int) (x10 : Int) (x12 : Int) (x14 : Int) (x15 : Int) (faces_0 : Int) (edges_0 : Int) (faces_1 : Int) (faceOf_1 : Int → Int) (edges_1 : Int) (faceOf_0 : Int → Int) (k2 : 0 ≤ x2 ∧ x2 ≤ 144) (k3 : 0 ≤ x3 ∧ x3 ≤ 143) (k4 : 0 ≤ x4 ∧ x4 ≤ 143) (k5 : 0 ≤ x5 ∧ x5 ≤ 143) (k10 : 0 ≤ x10 ∧ x10 ≤ 143) (k12 : 0 ≤ x12 ∧ x12 ≤ 144) (k14 : 1 ≤ x14 ∧ x14 ≤ 144) (k15 : 1 ≤ x15 ∧ x15 ≤ 144) (d1 : x12 + 1 ≤ x14 ∧ x14 ≤ x12 + 1) (g0 : x14 = faces_0) (f3 : x15 = x3 + 1) (g7 : x12 = faces_1) (h9 : x10 = faceOf_1 (x4)) (f12 : TFI (edges_1) (faces_1) (faceOf_1) (x3) (x2) (x4) (x5)) (fe_0_6_1 : edges_0 = edges_1) (hE_0_16_1 : ∀ j : Int, faceOf_0 j = faceOf_1 j) (kz_0_6 : 0 ≤ edges_0 ∧ edges_0 ≤ 72) (kz_0_13 : 0 ≤ faces_0 ∧ faces_0 ≤ 144) : TFO (edges_0) (faces_0) (faceOf_0) (x15) (x2) := by
  subst fe_0_6_1
  have e_hE_0_16_1 := funext hE_0_16_1; subst e_hE_0_16_1
  first
    | exact tfo_start (fun w a b => by first | (have q := hT0 w a (by omega); omega) | (have q := hT1 w a (by omega); omega) | (have q := hT2 w a (by omega); omega) | (have q := hT3 w a (by omega); omega) | (have q := hT4 w a (by omega); omega)) (by omega) (by omega) (by omega)
    | (skip; (first | subst h9 | skip); exact tfo_skip ‹TFO _ _ _ _ _› (by omega) (by omega))
    | (skip; (first | subst h9 | skip); exact (tfo_next ‹TFI _ _ _ _ _ _ _› (by first | (left; omega) | (right; omega)) (by omega) (by omega)).1)
  
def o_Ne_traceFaces_at_Nq_8 : or_T := (17, 16, [(0, (2, 0, 0, [294])), (2, (0, 0, 144, [])), (3, (0, 0, 143, [])), (4, (0, 0, 143, [])), (5, (0, 0, 143, [])), (10, (0, 0, 143, [])), (12, (0, 0, 144, [])), (14, (0, 1, 144, [])), (15, (0, 1, 144, []))], [(9, [14, 1], [13]), (9, [9, 1], [16]), (6, [15, 3], [1]), (24, [0, 1], []), (101, [1, 14], [13]), (9, [12, 1], [13]), (10, [10, 9, 4], []), (20, [1, 3, 2, 4, 5], [60, 2, 1, 552, 6, 13, 16])], [], [], [(20, [1, 15, 2], [60, 2, 1, 551, 6, 13, 16])], [], [(14, 12, 1, 1)])
theorem oo_Ne_traceFaces_at_Nq_8 {kA : Nat → ClassId} : or_ok PRD kA GG o_Ne_traceFaces_at_Nq_8 := by
  refine or_mk fun A ta ws vs hD hth hl => ?_
  intro t0 r0 t2 k2 t3 k3 t4 k4 t5 k5 t10 k10 t12 k12 t14 k14 t15 k15 d1 f0 f1 f3 f4 ta1 w1 le1 s1 f7 f9 f12
  replace f0 := shm_361 f0
  replace f1 := shm_176 f1
  replace f3 := shm_4 f3
  replace f4 := shm_5 f4
  have s1 : (∀ b j, w_el ws b j = w_el w1 b j) ∧ ∀ b j, w_fd ws b j = if b = v_ad (n_v vs 1) ∧ j = 13 then n_v vs 14 else w_fd w1 b j := s1.2
  replace f7 := shm_361 f7
  replace f9 := shm_107 f9
  replace f12 := shm_1102 f12
  have q1 : n_v vs 1 = n_v vs 0 := f4.symm
  simp only [q1] at f0 f1
  rw [q1] at s1
  simp only [q1] at f7 f12
  have ar_0_16_1 : w_ar w1 (n_v vs 0) 16 = w_ar ws (n_v vs 0) 16 := by show v_ad (w_fd w1 _ _) = v_ad (w_fd ws _ _); rw [s1.2, if_neg (fun e => absurd e.2 (by decide))]
  have ad_9 : v_ad (n_v vs 9) = w_ar ws (n_v vs 0) 16 := congrArg v_ad f1
  have g0 : v_iv (n_v vs 14) = w_fi ws (n_v vs 0) 13 := congrArg v_iv f0
  have g7 : v_iv (n_v vs 12) = w_fi w1 (n_v vs 0) 13 := congrArg v_iv f7
  simp only [ad_9] at f9
  have h9 : v_iv (n_v vs 10) = w_ei w1 (w_ar ws (n_v vs 0) 16) (v_iv (n_v vs 4)) := f9
  simp only [ar_0_16_1] at f12
  have fe_0_6_1 : w_fi ws (n_v vs 0) 6 = w_fi w1 (n_v vs 0) 6 := by show v_iv (w_fd _ _ _) = v_iv (w_fd _ _ _); rw [s1.2, if_neg (fun e => absurd e.2 (by decide))]
  have hE_0_16_1 : ∀ j : Int, w_ei ws (w_ar ws (n_v vs 0) 16) j = w_ei w1 (w_ar ws (n_v vs 0) 16) j := fun j => s1.1 _ _
  have kz_0_6 := fdq_225 hD hth r0
  have kz_0_13 := fdq_261 hD hth r0
  have nf0 : fc_1 PRD (20, [1, 15, 2], [60, 2, 1, 551, 6, 13, 16]) ws (vs) := by
    refine ⟨nf_in hl rfl, sgq_1099 ?_⟩
    · show TFO (w_fi ws (n_v vs 1) 6) (w_fi ws (n_v vs 1) 13) (w_ei ws (w_ar ws (n_v vs 1) 16)) (v_iv (n_v vs 15)) (v_iv (n_v vs 2))
      rw [q1]
      exact vc_Ne_traceFaces_at_Nq_8_0 (v_iv (n_v vs 2)) (v_iv (n_v vs 3)) (v_iv (n_v vs 4)) (v_iv (n_v vs 5)) (v_iv (n_v vs 10)) (v_iv (n_v vs 12)) (v_iv (n_v vs 14)) (v_iv (n_v vs 15)) (w_fi ws (n_v vs 0) 13) (w_fi ws (n_v vs 0) 6) (w_fi w1 (n_v vs 0) 13) (w_ei w1 (w_ar ws (n_v vs 0) 16)) (w_fi w1 (n_v vs 0) 6) (w_ei ws (w_ar ws (n_v vs 0) 16)) k2 k3 k4 k5 k10 k12 k14 k15 d1 g0 f3 g7 h9 f12 fe_0_6_1 hE_0_16_1 kz_0_6 kz_0_13
  refine ⟨(fun _ h => (by cases h)), [], trivial, ?_, (fun _ h => (by cases h))⟩
  rw [List.append_nil]
  exact List.forall_mem_cons.mpr ⟨⟨show (20 : Nat) < 100 from by decide, nf0⟩, (fun _ h => (by cases h))⟩
set_option maxHeartbeats 4000000 in
theorem vc_Ne_traceFaces_at_Nq_9_r0 (x2 : Int) (x3 : Int) (x4 : Int) (x5 : Int) (x10 : Int) (x12 : Int) (faces_0 : Int) (faceOf_0 : Int → Int) (edges_0 : Int) (k2 : 0 ≤ x2 ∧ x2 ≤ 144) (k3 : 0 ≤ x3 ∧ x3 ≤ 143) (k4 : 0 ≤ x4 ∧ x4 ≤ 143) (k5 : 0 ≤ x5 ∧ x5 ≤ 143) (k10 : (-1) ≤ x10 ∧ x10 ≤ (-1)) (k12 : 0 ≤ x12 ∧ x12 ≤ 144) (g0 : x12 = faces_0) (h3 : x10 = faceOf_0 (x4)) (f7 : TFI (edges_0) (faces_0) (faceOf_0) (x3) (x2) (x4) (x5)) (kz_0_6 : 0 ≤ edges_0 ∧ edges_0 ≤ 72) (kz_0_13 : 0 ≤ faces_0 ∧ faces_0 ≤ 144) : 0 ≤ x12 ∧ x12 ≤ 143 := by
  first
    | omega
    | (have q := tfo_low ‹TFO _ _ _ _ _›; omega)
    | (skip; (first | subst h3 | skip); have q := tfc_lt (‹TFO _ _ _ _ _›).2.2.2.1 (e := x3) (by omega) (by omega) (by omega); have q2 := tfo_low ‹TFO _ _ _ _ _›; omega)
    | (skip; (first | subst h3 | skip); have q := (tfo_next (faces_zq := faces_0 + 1) (st_zq := x3 + 1) ‹TFI _ _ _ _ _ _ _› (by first | (left; omega) | (right; omega)) rfl rfl).2; have q2 := (‹TFI _ _ _ _ _ _ _›).2.2.1; omega)
    | (skip; (first | subst h3 | skip); have q := tfi_low ‹TFI _ _ _ _ _ _ _› (by omega) (by omega) (by omega); omega)
    | (have q := xor_one (x := x29) (a := x4) (b := x28) (by assumption) (by omega) (by omega) (by omega) (by omega) (by omega); split at q <;> omega)
  
def o_Ne_traceFaces_at_Nq_9 : or_T := (85, 13, [(0, (2, 0, 0, [294])), (1, (2, 0, 0, [294])), (2, (0, 0, 144, [])), (3, (0, 0, 143, [])), (4, (0, 0, 143, [])), (5, (0, 0, 143, [])), (6, (0, 2, 2, [])), (7, (0, 0, 72, [])), (8, (0, 1, 144, [])), (9, (2, 0, 0, [293])), (10, (0, -1, -1, [])), (11, (0, -1, -1, [])), (12, (0, 0, 144, []))], [(9, [12, 1], [13]), (9, [9, 1], [16]), (7, [10, 11], [0]), (10, [10, 9, 4], []), (7, [5, 8], [2]), (3, [8, 6, 7], []), (9, [7, 1], [6]), (20, [1, 3, 2, 4, 5], [60, 2, 1, 552, 6, 13, 16]), (24, [0, 1], [])], [(12, (0, 0, 143, []))], [], [], [], [(5, 8, -4294967296, -1), (5, 2, -4294967296, 0)])
theorem oo_Ne_traceFaces_at_Nq_9 {kA : Nat → ClassId} : or_ok PRD kA GG o_Ne_traceFaces_at_Nq_9 := by
  refine or_mk fun A ta ws vs hD hth hl => ?_
  intro t0 r0 t1 r1 t2 k2 t3 k3 t4 k4 t5 k5 t6 k6 t7 k7 t8 k8 t9 r9 t10 k10 t11 k11 t12 k12 d0 d1 f0 f1 f2 f3 f4 f5 f6 f7 f8
  replace f0 := shm_361 f0
  replace f1 := shm_176 f1
  replace f3 := shm_107 f3
  replace f7 := shm_1102 f7
  replace f8 := shm_5 f8
  have q1 : n_v vs 1 = n_v vs 0 := f8.symm
  simp only [q1] at f0 f1 f7
  have ad_9 : v_ad (n_v vs 9) = w_ar ws (n_v vs 0) 16 := congrArg v_ad f1
  have g0 : v_iv (n_v vs 12) = w_fi ws (n_v vs 0) 13 := congrArg v_iv f0
  simp only [ad_9] at f3
  have h3 : v_iv (n_v vs 10) = w_ei ws (w_ar ws (n_v vs 0) 16) (v_iv (n_v vs 4)) := f3
  have kz_0_6 := fdq_225 hD hth r0
  have kz_0_13 := fdq_261 hD hth r0
  have hrf0 : 0 ≤ v_iv (n_v vs 12) ∧ v_iv (n_v vs 12) ≤ 143 := vc_Ne_traceFaces_at_Nq_9_r0 (v_iv (n_v vs 2)) (v_iv (n_v vs 3)) (v_iv (n_v vs 4)) (v_iv (n_v vs 5)) (v_iv (n_v vs 10)) (v_iv (n_v vs 12)) (w_fi ws (n_v vs 0) 13) (w_ei ws (w_ar ws (n_v vs 0) 16)) (w_fi ws (n_v vs 0) 6) k2 k3 k4 k5 k10 k12 g0 h3 f7 kz_0_6 kz_0_13
  have rf12 : tv_ok ta (0, 0, 143, []) (n_v vs 12) := tv_in t12 (by first | omega | grind) (by first | omega | grind)
  refine ⟨List.forall_mem_cons.mpr ⟨rf12, (fun _ h => (by cases h))⟩, [], trivial, ?_, (fun _ h => (by cases h))⟩
  rw [List.append_nil]
  exact (fun _ h => (by cases h))
set_option maxHeartbeats 4000000 in
theorem vc_Ne_traceFaces_at_Nq_10_r0 (x2 : Int) (x3 : Int) (x4 : Int) (x5 : Int) (x10 : Int) (x15 : Int) (x18 : Int) (faces_0 : Int) (edges_0 : Int) (faceOf_1 : Int → Int) (edges_1 : Int) (faces_1 : Int) (k2 : 0 ≤ x2 ∧ x2 ≤ 144) (k3 : 0 ≤ x3 ∧ x3 ≤ 143) (k4 : 0 ≤ x4 ∧ x4 ≤ 143) (k5 : 0 ≤ x5 ∧ x5 ≤ 143) (k10 : (-1) ≤ x10 ∧ x10 ≤ (-1)) (k15 : 1 ≤ x15 ∧ x15 ≤ 1) (k18 : 0 ≤ x18 ∧ x18 ≤ 71) (f3 : x18 = x4 / 2) (f5 : x15 = x4 % 2) (h10 : x10 = faceOf_1 (x4)) (f13 : TFI (edges_1) (faces_1) (faceOf_1) (x3) (x2) (x4) (x5)) (fe_0_6_1 : edges_0 = edges_1) (fe_0_13_1 : faces_0 = faces_1) (kz_0_6 : 0 ≤ edges_0 ∧ edges_0 ≤ 72) (kz_0_13 : 0 ≤ faces_0 ∧ faces_0 ≤ 144) : 0 ≤ x2 ∧ x2 ≤ 143 := by
  subst fe_0_6_1
  subst fe_0_13_1
  first
    | omega
    | (have q := tfo_low ‹TFO _ _ _ _ _›; omega)
    | (skip; (first | subst h10 | skip); have q := tfc_lt (‹TFO _ _ _ _ _›).2.2.2.1 (e := x3) (by omega) (by omega) (by omega); have q2 := tfo_low ‹TFO _ _ _ _ _›; omega)
    | (skip; (first | subst h10 | skip); have q := (tfo_next (faces_zq := faces_0 + 1) (st_zq := x3 + 1) ‹TFI _ _ _ _ _ _ _› (by first | (left; omega) | (right; omega)) rfl rfl).2; have q2 := (‹TFI _ _ _ _ _ _ _›).2.2.1; omega)
    | (skip; (first | subst h10 | skip); have q := tfi_low ‹TFI _ _ _ _ _ _ _› (by omega) (by omega) (by omega); omega)
    | (have q := xor_one (x := x29) (a := x4) (b := x28) (by assumption) (by omega) (by omega) (by omega) (by omega) (by omega); split at q <;> omega)
  
def o_Ne_traceFaces_at_Nq_10 : or_T := (116, 20, [(0, (2, 0, 0, [294])), (1, (2, 0, 0, [294])), (2, (0, 0, 144, [])), (3, (0, 0, 143, [])), (4, (0, 0, 143, [])), (5, (0, 0, 143, [])), (6, (0, 2, 2, [])), (7, (0, 0, 72, [])), (8, (0, 1, 144, [])), (9, (2, 0, 0, [293])), (10, (0, -1, -1, [])), (11, (0, -1, -1, [])), (12, (0, 0, 143, [])), (14, (0, 1, 1, [])), (15, (0, 1, 1, [])), (18, (0, 0, 71, []))], [(9, [12, 1], [13]), (9, [9, 1], [16]), (9, [7, 1], [6]), (11, [18, 4], [2]), (8, [15], [1]), (12, [15, 4], [2]), (16, [15, 4, 14], [0]), (24, [0, 1], []), (100, [9, 4, 12], []), (7, [10, 11], [0]), (10, [10, 9, 4], []), (7, [5, 8], [2]), (3, [8, 6, 7], []), (20, [1, 3, 2, 4, 5], [60, 2, 1, 552, 6, 13, 16])], [(2, (0, 0, 143, []))], [], [], [], [(5, 8, -4294967296, -1), (5, 2, -4294967296, 0)])
theorem oo_Ne_traceFaces_at_Nq_10 {kA : Nat → ClassId} : or_ok PRD kA GG o_Ne_traceFaces_at_Nq_10 := by
  refine or_mk fun A ta ws vs hD hth hl => ?_
  intro t0 r0 t1 r1 t2 k2 t3 k3 t4 k4 t5 k5 t6 k6 t7 k7 t8 k8 t9 r9 t10 k10 t11 k11 t12 k12 t14 k14 t15 k15 t18 k18 d0 d1 f0 f1 f2 f3 f4 f5 f6 f7 ta1 w1 le1 s1 f9 f10 f11 f12 f13
  replace f1 := shm_176 f1
  replace f7 := shm_5 f7
  have s1 : (∀ b j, w_el ws b j = if b = v_ad (n_v vs 9) ∧ j = (v_iv (n_v vs 4)).toNat then v_iv (n_v vs 12) else w_el w1 b j) ∧ ∀ b k, w_fd ws b k = w_fd w1 b k := s1.2
  replace f10 := shm_107 f10
  replace f13 := shm_1102 f13
  have q1 : n_v vs 1 = n_v vs 0 := f7.symm
  simp only [q1] at f1 f13
  have ar_0_16_1 : w_ar w1 (n_v vs 0) 16 = w_ar ws (n_v vs 0) 16 := congrArg v_ad (s1.2 _ _).symm
  have ad_9 : v_ad (n_v vs 9) = w_ar ws (n_v vs 0) 16 := congrArg v_ad f1
  simp only [ad_9] at f10
  have h10 : v_iv (n_v vs 10) = w_ei w1 (w_ar ws (n_v vs 0) 16) (v_iv (n_v vs 4)) := f10
  simp only [ar_0_16_1] at f13
  have fe_0_6_1 : w_fi ws (n_v vs 0) 6 = w_fi w1 (n_v vs 0) 6 := congrArg v_iv (s1.2 _ _)
  have fe_0_13_1 : w_fi ws (n_v vs 0) 13 = w_fi w1 (n_v vs 0) 13 := congrArg v_iv (s1.2 _ _)
  have kz_0_6 := fdq_225 hD hth r0
  have kz_0_13 := fdq_261 hD hth r0
  have hrf0 : 0 ≤ v_iv (n_v vs 2) ∧ v_iv (n_v vs 2) ≤ 143 := vc_Ne_traceFaces_at_Nq_10_r0 (v_iv (n_v vs 2)) (v_iv (n_v vs 3)) (v_iv (n_v vs 4)) (v_iv (n_v vs 5)) (v_iv (n_v vs 10)) (v_iv (n_v vs 15)) (v_iv (n_v vs 18)) (w_fi ws (n_v vs 0) 13) (w_fi ws (n_v vs 0) 6) (w_ei w1 (w_ar ws (n_v vs 0) 16)) (w_fi w1 (n_v vs 0) 6) (w_fi w1 (n_v vs 0) 13) k2 k3 k4 k5 k10 k15 k18 (shm_585 f3) (shm_364 f5) h10 f13 fe_0_6_1 fe_0_13_1 kz_0_6 kz_0_13
  have rf2 : tv_ok ta (0, 0, 143, []) (n_v vs 2) := tv_in t2 (by first | omega | grind) (by first | omega | grind)
  refine ⟨List.forall_mem_cons.mpr ⟨rf2, (fun _ h => (by cases h))⟩, [], trivial, ?_, (fun _ h => (by cases h))⟩
  rw [List.append_nil]
  exact (fun _ h => (by cases h))
set_option maxHeartbeats 4000000 in
theorem vc_Ne_traceFaces_at_Nq_11_r0 (x3 : Int) (x4 : Int) (x10 : Int) (x22 : Int) (x25 : Int) (x28 : Int) (x29 : Int) (faces_0 : Int) (edges_0 : Int) (faceOf_2 : Int → Int) (edges_2 : Int) (faces_2 : Int) (edges_1 : Int) (faces_1 : Int) (rowNode_1 : Int → Int) (rowNode_2 : Int → Int) (faceOf_0 : Int → Int) (faceOf_1 : Int → Int) (k4 : 0 ≤ x4 ∧ x4 ≤ 143) (k10 : (-1) ≤ x10 ∧ x10 ≤ (-1)) (k22 : 1 ≤ x22 ∧ x22 ≤ 1) (k25 : 0 ≤ x25 ∧ x25 ≤ 71) (k28 : 1 ≤ x28 ∧ x28 ≤ 1) (k29 : 0 ≤ x29 ∧ x29 ≤ 255) (f4 : bvp (x29) = bvp (x4) ^^^ bvp (x28)) (f5 : x25 = x4 / 2) (f7 : x22 = x4 % 2) (h18 : x10 = faceOf_2 (x4)) (fe_0_6_1 : edges_0 = edges_1) (fe_0_13_1 : faces_0 = faces_1) (fe_0_6_2 : edges_1 = edges_2) (fe_0_13_2 : faces_1 = faces_2) (hE_0_15_2 : ∀ j : Int, rowNode_1 j = rowNode_2 j) (hE_0_16_1 : ∀ j : Int, faceOf_0 j = faceOf_1 j) (kz_0_6 : 0 ≤ edges_0 ∧ edges_0 ≤ 72) (kz_0_13 : 0 ≤ faces_0 ∧ faces_0 ≤ 144) : 0 ≤ x29 ∧ x29 ≤ 143 := by
  subst fe_0_6_1
  subst fe_0_13_1
  subst fe_0_6_2
  subst fe_0_13_2
  have e_hE_0_15_2 := funext hE_0_15_2; subst e_hE_0_15_2
  have e_hE_0_16_1 := funext hE_0_16_1; subst e_hE_0_16_1
  first
    | omega
    | (have q := tfo_low ‹TFO _ _ _ _ _›; omega)
    | (skip; (first | subst h18 | skip); have q := tfc_lt (‹TFO _ _ _ _ _›).2.2.2.1 (e := x3) (by omega) (by omega) (by omega); have q2 := tfo_low ‹TFO _ _ _ _ _›; omega)
    | (skip; (first | subst h18 | skip); have q := (tfo_next (faces_zq := faces_0 + 1) (st_zq := x3 + 1) ‹TFI _ _ _ _ _ _ _› (by first | (left; omega) | (right; omega)) rfl rfl).2; have q2 := (‹TFI _ _ _ _ _ _ _›).2.2.1; omega)
    | (skip; (first | subst h18 | skip); have q := tfi_low ‹TFI _ _ _ _ _ _ _› (by omega) (by omega) (by omega); omega)
    | (have q := xor_one (x := x29) (a := x4) (b := x28) (by assumption) (by omega) (by omega) (by omega) (by omega) (by omega); split at q <;> omega)
  
def o_Ne_traceFaces_at_Nq_11 : or_T := (155, 30, [(0, (2, 0, 0, [294])), (1, (2, 0, 0, [294])), (2, (0, 0, 143, [])), (3, (0, 0, 143, [])), (4, (0, 0, 143, [])), (5, (0, 0, 143, [])), (6, (0, 2, 2, [])), (7, (0, 0, 72, [])), (8, (0, 1, 144, [])), (9, (2, 0, 0, [293])), (10, (0, -1, -1, [])), (11, (0, -1, -1, [])), (12, (0, 0, 143, [])), (13, (2, 0, 0, [292])), (14, (0, 1, 1, [])), (15, (0, 1, 1, [])), (18, (0, 0, 71, [])), (20, (0, 1, 144, [])), (21, (0, 1, 1, [])), (22, (0, 1, 1, [])), (25, (0, 0, 71, [])), (28, (0, 1, 1, [])), (29, (0, 0, 255, []))], [(9, [13, 1], [15]), (9, [12, 1], [13]), (9, [9, 1], [16]), (9, [7, 1], [6]), (16, [29, 4, 28], [2]), (11, [25, 4], [2]), (8, [22], [1]), (12, [22, 4], [2]), (16, [22, 4, 21], [0]), (6, [20, 2], [1]), (24, [0, 1], []), (100, [13, 2, 19], []), (11, [18, 4], [2]), (8, [15], [1]), (12, [15, 4], [2]), (16, [15, 4, 14], [0]), (100, [9, 4, 12], []), (7, [10, 11], [0]), (10, [10, 9, 4], []), (7, [5, 8], [2]), (3, [8, 6, 7], []), (20, [1, 3, 2, 4, 5], [60, 2, 1, 552, 6, 13, 16])], [(29, (0, 0, 143, []))], [], [], [], [(20, 2, 1, 1), (5, 8, -4294967296, -1), (5, 2, -4294967296, 0)])
theorem oo_Ne_traceFaces_at_Nq_11 {kA : Nat → ClassId} : or_ok PRD kA GG o_Ne_traceFaces_at_Nq_11 := by
  refine or_mk fun A ta ws vs hD hth hl => ?_
  intro t0 r0 t1 r1 t2 k2 t3 k3 t4 k4 t5 k5 t6 k6 t7 k7 t8 k8 t9 r9 t10 k10 t11 k11 t12 k12 t13 r13 t14 k14 t15 k15 t18 k18 t20 k20 t21 k21 t22 k22 t25 k25 t28 k28 t29 k29 d0 d1 d2 f0 f1 f2 f3 f4 f5 f6 f7 f8 f9 f10 ta1 w1 le1 s1 f12 f13 f14 f15 ta2 w2 le2 s2 f17 f18 f19 f20 f21
  replace f2 := shm_176 f2
  replace f10 := shm_5 f10
  have s1 : (∀ b j, w_el ws b j = if b = v_ad (n_v vs 13) ∧ j = (v_iv (n_v vs 2)).toNat then v_iv (n_v vs 19) else w_el w1 b j) ∧ ∀ b k, w_fd ws b k = w_fd w1 b k := s1.2
  have s2 : (∀ b j, w_el w1 b j = if b = v_ad (n_v vs 9) ∧ j = (v_iv (n_v vs 4)).toNat then v_iv (n_v vs 12) else w_el w2 b j) ∧ ∀ b k, w_fd w1 b k = w_fd w2 b k := s2.2
  replace f18 := shm_107 f18
  have q1 : n_v vs 1 = n_v vs 0 := f10.symm
  simp only [q1] at f2
  have cr_0_15 := fdq_263 hD hth r0
  have cr_0_16 := fdq_260 hD hth r0
  have ad_9 : v_ad (n_v vs 9) = w_ar ws (n_v vs 0) 16 := congrArg v_ad f2
  simp only [ad_9] at f18
  have h18 : v_iv (n_v vs 10) = w_ei w2 (w_ar ws (n_v vs 0) 16) (v_iv (n_v vs 4)) := f18
  have fe_0_6_1 : w_fi ws (n_v vs 0) 6 = w_fi w1 (n_v vs 0) 6 := congrArg v_iv (s1.2 _ _)
  have fe_0_13_1 : w_fi ws (n_v vs 0) 13 = w_fi w1 (n_v vs 0) 13 := congrArg v_iv (s1.2 _ _)
  have fe_0_6_2 : w_fi w1 (n_v vs 0) 6 = w_fi w2 (n_v vs 0) 6 := congrArg v_iv (s2.2 _ _)
  have fe_0_13_2 : w_fi w1 (n_v vs 0) 13 = w_fi w2 (n_v vs 0) 13 := congrArg v_iv (s2.2 _ _)
  have hE_0_15_2 : ∀ j : Int, w_ei w1 (w_ar ws (n_v vs 0) 15) j = w_ei w2 (w_ar ws (n_v vs 0) 15) j := el_kp s2.1 r9 cr_0_15 (by decide)
  have hE_0_16_1 : ∀ j : Int, w_ei ws (w_ar ws (n_v vs 0) 16) j = w_ei w1 (w_ar ws (n_v vs 0) 16) j := el_kp s1.1 r13 cr_0_16 (by decide)
  have kz_0_6 := fdq_225 hD hth r0
  have kz_0_13 := fdq_261 hD hth r0
  have hrf0 : 0 ≤ v_iv (n_v vs 29) ∧ v_iv (n_v vs 29) ≤ 143 := vc_Ne_traceFaces_at_Nq_11_r0 (v_iv (n_v vs 3)) (v_iv (n_v vs 4)) (v_iv (n_v vs 10)) (v_iv (n_v vs 22)) (v_iv (n_v vs 25)) (v_iv (n_v vs 28)) (v_iv (n_v vs 29)) (w_fi ws (n_v vs 0) 13) (w_fi ws (n_v vs 0) 6) (w_ei w2 (w_ar ws (n_v vs 0) 16)) (w_fi w2 (n_v vs 0) 6) (w_fi w2 (n_v vs 0) 13) (w_fi w1 (n_v vs 0) 6) (w_fi w1 (n_v vs 0) 13) (w_ei w1 (w_ar ws (n_v vs 0) 15)) (w_ei w2 (w_ar ws (n_v vs 0) 15)) (w_ei ws (w_ar ws (n_v vs 0) 16)) (w_ei w1 (w_ar ws (n_v vs 0) 16)) k4 k10 k22 k25 k28 k29 (shm_33 f4) (shm_585 f5) (shm_364 f7) h18 fe_0_6_1 fe_0_13_1 fe_0_6_2 fe_0_13_2 hE_0_15_2 hE_0_16_1 kz_0_6 kz_0_13
  have rf29 : tv_ok ta (0, 0, 143, []) (n_v vs 29) := tv_in t29 (by first | omega | grind) (by first | omega | grind)
  refine ⟨List.forall_mem_cons.mpr ⟨rf29, (fun _ h => (by cases h))⟩, [], trivial, ?_, (fun _ h => (by cases h))⟩
  rw [List.append_nil]
  exact (fun _ h => (by cases h))
set_option maxHeartbeats 4000000 in
theorem vc_Ne_traceFaces_at_Nq_12_0 (x2 : Int) (x3 : Int) (x4 : Int) (x5 : Int) (x10 : Int) (x12 : Int) (x18 : Int) (x20 : Int) (x22 : Int) (x31 : Int) (x32 : Int) (faces_0 : Int) (edges_0 : Int) (faceOf_2 : Int → Int) (edges_2 : Int) (faces_2 : Int) (edges_1 : Int) (faces_1 : Int) (rowNode_1 : Int → Int) (rowNode_2 : Int → Int) (faceOf_0 : Int → Int) (faceOf_1 : Int → Int) (k2 : 0 ≤ x2 ∧ x2 ≤ 143) (k3 : 0 ≤ x3 ∧ x3 ≤ 143) (k4 : 0 ≤ x4 ∧ x4 ≤ 143) (k5 : 0 ≤ x5 ∧ x5 ≤ 143) (k10 : (-1) ≤ x10 ∧ x10 ≤ (-1)) (k12 : 0 ≤ x12 ∧ x12 ≤ 143) (k18 : 0 ≤ x18 ∧ x18 ≤ 71) (k20 : 1 ≤ x20 ∧ x20 ≤ 144) (k22 : 1 ≤ x22 ∧ x22 ≤ 1) (k31 : 1 ≤ x31 ∧ x31 ≤ 143) (k32 : 1 ≤ x32 ∧ x32 ≤ 144) (g1 : x12 = faces_0) (f4 : x32 = x5 + 1) (f8 : x22 = x4 % 2) (f10 : x20 = x2 + 1) (f13 : x18 = x4 / 2) (h19 : x10 = faceOf_2 (x4)) (f22 : TFI (edges_2) (faces_2) (faceOf_2) (x3) (x2) (x4) (x5)) (fe_0_6_1 : edges_0 = edges_1) (fe_0_13_1 : faces_0 = faces_1) (fe_0_6_2 : edges_1 = edges_2) (fe_0_13_2 : faces_1 = faces_2) (hE_0_15_2 : ∀ j : Int, rowNode_1 j = rowNode_2 j) (hE_0_16_1 : ∀ j : Int, faceOf_0 j = faceOf_1 j) (hE_0_16_2 : ∀ j : Int, 0 ≤ j → (j = x4 → faceOf_1 j = x12) ∧ (j ≠ x4 → faceOf_1 j = faceOf_2 j)) (kz_0_6 : 0 ≤ edges_0 ∧ edges_0 ≤ 72) (kz_0_13 : 0 ≤ faces_0 ∧ faces_0 ≤ 144) : TFI (edges_0) (faces_0) (faceOf_0) (x3) (x20) (x31) (x32) := by
  subst fe_0_6_1
  subst fe_0_13_1
  subst fe_0_6_2
  subst fe_0_13_2
  have e_hE_0_15_2 := funext hE_0_15_2; subst e_hE_0_15_2
  have e_hE_0_16_1 := funext hE_0_16_1; subst e_hE_0_16_1
  first
    | (skip; (first | subst h19 | skip); exact tfi_start ‹TFO _ _ _ _ _› (by omega) (by omega) (by omega) (by omega))
    | (skip; (first | subst h19 | skip); exact tfi_step ‹TFI _ _ _ _ _ _ _› (by assumption) rfl (by omega) (by omega) (by omega) (by omega) (by omega) (by omega))
  
def o_Ne_traceFaces_at_Nq_12 : or_T := (55, 33, [(0, (2, 0, 0, [294])), (1, (2, 0, 0, [294])), (2, (0, 0, 143, [])), (3, (0, 0, 143, [])), (4, (0, 0, 143, [])), (5, (0, 0, 143, [])), (6, (0, 2, 2, [])), (7, (0, 0, 72, [])), (8, (0, 1, 144, [])), (9, (2, 0, 0, [293])), (10, (0, -1, -1, [])), (11, (0, -1, -1, [])), (12, (0, 0, 143, [])), (13, (2, 0, 0, [292])), (14, (0, 1, 1, [])), (15, (0, 1, 1, [])), (18, (0, 0, 71, [])), (20, (0, 1, 144, [])), (21, (0, 1, 1, [])), (22, (0, 1, 1, [])), (25, (0, 0, 71, [])), (28, (0, 1, 1, [])), (29, (0, 0, 143, [])), (31, (0, 1, 143, [])), (32, (0, 1, 144, []))], [(9, [13, 1], [15]), (9, [12, 1], [13]), (9, [9, 1], [16]), (9, [7, 1], [6]), (6, [32, 5], [1]), (16, [29, 4, 28], [2]), (11, [25, 4], [2]), (8, [22], [1]), (12, [22, 4], [2]), (16, [22, 4, 21], [0]), (6, [20, 2], [1]), (24, [0, 1], []), (100, [13, 2, 19], []), (11, [18, 4], [2]), (8, [15], [1]), (12, [15, 4], [2]), (16, [15, 4, 14], [0]), (100, [9, 4, 12], []), (7, [10, 11], [0]), (10, [10, 9, 4], []), (7, [5, 8], [2]), (3, [8, 6, 7], []), (20, [1, 3, 2, 4, 5], [60, 2, 1, 552, 6, 13, 16])], [], [], [(20, [1, 3, 20, 31, 32], [60, 2, 1, 552, 6, 13, 16])], [], [(32, 5, 1, 1), (32, 8, -4294967296, 0), (32, 2, -4294967296, 1), (20, 2, 1, 1), (5, 8, -4294967296, -1), (5, 2, -4294967296, 0)])
theorem oo_Ne_traceFaces_at_Nq_12 {kA : Nat → ClassId} : or_ok PRD kA GG o_Ne_traceFaces_at_Nq_12 := by
  refine or_mk fun A ta ws vs hD hth hl => ?_
  intro t0 r0 t1 r1 t2 k2 t3 k3 t4 k4 t5 k5 t6 k6 t7 k7 t8 k8 t9 r9 t10 k10 t11 k11 t12 k12 t13 r13 t14 k14 t15 k15 t18 k18 t20 k20 t21 k21 t22 k22 t25 k25 t28 k28 t29 k29 t31 k31 t32 k32 d0 d1 d2 d3 d4 d5 f0 f1 f2 f3 f4 f5 f6 f7 f8 f9 f10 f11 ta1 w1 le1 s1 f13 f14 f15 f16 ta2 w2 le2 s2 f18 f19 f20 f21 f22
  replace f1 := shm_361 f1
  replace f2 := shm_176 f2
  replace f4 := shm_4 f4
  replace f8 := shm_364 f8
  replace f10 := shm_4 f10
  replace f11 := shm_5 f11
  have s1 : (∀ b j, w_el ws b j = if b = v_ad (n_v vs 13) ∧ j = (v_iv (n_v vs 2)).toNat then v_iv (n_v vs 19) else w_el w1 b j) ∧ ∀ b k, w_fd ws b k = w_fd w1 b k := s1.2
  replace f13 := shm_585 f13
  have s2 : (∀ b j, w_el w1 b j = if b = v_ad (n_v vs 9) ∧ j = (v_iv (n_v vs 4)).toNat then v_iv (n_v vs 12) else w_el w2 b j) ∧ ∀ b k, w_fd w1 b k = w_fd w2 b k := s2.2
  replace f19 := shm_107 f19
  replace f22 := shm_1102 f22
  have q1 : n_v vs 1 = n_v vs 0 := f11.symm
  simp only [q1] at f1 f2 f22
  have cr_0_15 := fdq_263 hD hth r0
  have ar_0_16_1 : w_ar w1 (n_v vs 0) 16 = w_ar ws (n_v vs 0) 16 := congrArg v_ad (s1.2 _ _).symm
  have ar_0_16_2 : w_ar w2 (n_v vs 0) 16 = w_ar ws (n_v vs 0) 16 := by rw [← ar_0_16_1]; show v_ad (w_fd w2 _ _) = v_ad (w_fd w1 _ _); rw [s2.2]
  have cr_0_16 := fdq_260 hD hth r0
  have ad_9 : v_ad (n_v vs 9) = w_ar ws (n_v vs 0) 16 := congrArg v_ad f2
  have g1 : v_iv (n_v vs 12) = w_fi ws (n_v vs 0) 13 := congrArg v_iv f1
  simp only [ad_9] at f19
  have h19 : v_iv (n_v vs 10) = w_ei w2 (w_ar ws (n_v vs 0) 16) (v_iv (n_v vs 4)) := f19
  simp only [ar_0_16_2] at f22
  have fe_0_6_1 : w_fi ws (n_v vs 0) 6 = w_fi w1 (n_v vs 0) 6 := congrArg v_iv (s1.2 _ _)
  have fe_0_13_1 : w_fi ws (n_v vs 0) 13 = w_fi w1 (n_v vs 0) 13 := congrArg v_iv (s1.2 _ _)
  have fe_0_6_2 : w_fi w1 (n_v vs 0) 6 = w_fi w2 (n_v vs 0) 6 := congrArg v_iv (s2.2 _ _)
  have fe_0_13_2 : w_fi w1 (n_v vs 0) 13 = w_fi w2 (n_v vs 0) 13 := congrArg v_iv (s2.2 _ _)
  have hE_0_15_2 : ∀ j : Int, w_ei w1 (w_ar ws (n_v vs 0) 15) j = w_ei w2 (w_ar ws (n_v vs 0) 15) j := el_kp s2.1 r9 cr_0_15 (by decide)
  have hE_0_16_1 : ∀ j : Int, w_ei ws (w_ar ws (n_v vs 0) 16) j = w_ei w1 (w_ar ws (n_v vs 0) 16) j := el_kp s1.1 r13 cr_0_16 (by decide)
  have hE_0_16_2 : ∀ j : Int, 0 ≤ j → (j = v_iv (n_v vs 4) → w_ei w1 (w_ar ws (n_v vs 0) 16) j = v_iv (n_v vs 12)) ∧ (j ≠ v_iv (n_v vs 4) → w_ei w1 (w_ar ws (n_v vs 0) 16) j = w_ei w2 (w_ar ws (n_v vs 0) 16) j) := fun j hj => ⟨fun h => by unfold w_ei; rw [s2.1, if_pos ⟨ad_9.symm, by rw [h]⟩], fun h => by unfold w_ei; rw [s2.1, if_neg (fun e => h (by have := e.2; omega))]⟩
  have kz_0_6 := fdq_225 hD hth r0
  have kz_0_13 := fdq_261 hD hth r0
  have nf0 : fc_1 PRD (20, [1, 3, 20, 31, 32], [60, 2, 1, 552, 6, 13, 16]) ws (vs) := by
    refine ⟨nf_in hl rfl, sgq_1102 ?_⟩
    · show TFI (w_fi ws (n_v vs 1) 6) (w_fi ws (n_v vs 1) 13) (w_ei ws (w_ar ws (n_v vs 1) 16)) (v_iv (n_v vs 3)) (v_iv (n_v vs 20)) (v_iv (n_v vs 31)) (v_iv (n_v vs 32))
      rw [q1]
      exact vc_Ne_traceFaces_at_Nq_12_0 (v_iv (n_v vs 2)) (v_iv (n_v vs 3)) (v_iv (n_v vs 4)) (v_iv (n_v vs 5)) (v_iv (n_v vs 10)) (v_iv (n_v vs 12)) (v_iv (n_v vs 18)) (v_iv (n_v vs 20)) (v_iv (n_v vs 22)) (v_iv (n_v vs 31)) (v_iv (n_v vs 32)) (w_fi ws (n_v vs 0) 13) (w_fi ws (n_v vs 0) 6) (w_ei w2 (w_ar ws (n_v vs 0) 16)) (w_fi w2 (n_v vs 0) 6) (w_fi w2 (n_v vs 0) 13) (w_fi w1 (n_v vs 0) 6) (w_fi w1 (n_v vs 0) 13) (w_ei w1 (w_ar ws (n_v vs 0) 15)) (w_ei w2 (w_ar ws (n_v vs 0) 15)) (w_ei ws (w_ar ws (n_v vs 0) 16)) (w_ei w1 (w_ar ws (n_v vs 0) 16)) k2 k3 k4 k5 k10 k12 k18 k20 k22 k31 k32 g1 f4 f8 f10 f13 h19 f22 fe_0_6_1 fe_0_13_1 fe_0_6_2 fe_0_13_2 hE_0_15_2 hE_0_16_1 hE_0_16_2 kz_0_6 kz_0_13
  refine ⟨(fun _ h => (by cases h)), [], trivial, ?_, (fun _ h => (by cases h))⟩
  rw [List.append_nil]
  exact List.forall_mem_cons.mpr ⟨⟨show (20 : Nat) < 100 from by decide, nf0⟩, (fun _ h => (by cases h))⟩
set_option maxHeartbeats 4000000 in
theorem vc_Ne_traceFaces_at_Nq_13_0 (x2 : Int) (x3 : Int) (x4 : Int) (x5 : Int) (x10 : Int) (x12 : Int) (x18 : Int) (x20 : Int) (x22 : Int) (x31 : Int) (x32 : Int) (faces_0 : Int) (edges_0 : Int) (faceOf_2 : Int → Int) (edges_2 : Int) (faces_2 : Int) (edges_1 : Int) (faces_1 : Int) (rowNode_1 : Int → Int) (rowNode_2 : Int → Int) (faceOf_0 : Int → Int) (faceOf_1 : Int → Int) (k2 : 0 ≤ x2 ∧ x2 ≤ 143) (k3 : 0 ≤ x3 ∧ x3 ≤ 143) (k4 : 0 ≤ x4 ∧ x4 ≤ 143) (k5 : 0 ≤ x5 ∧ x5 ≤ 143) (k10 : (-1) ≤ x10 ∧ x10 ≤ (-1)) (k12 : 0 ≤ x12 ∧ x12 ≤ 143) (k18 : 0 ≤ x18 ∧ x18 ≤ 71) (k20 : 1 ≤ x20 ∧ x20 ≤ 144) (k22 : 1 ≤ x22 ∧ x22 ≤ 1) (k31 : 0 ≤ x31 ∧ x31 ≤ 142) (k32 : 1 ≤ x32 ∧ x32 ≤ 144) (g1 : x12 = faces_0) (f4 : x32 = x5 + 1) (f8 : x22 = x4 % 2) (f10 : x20 = x2 + 1) (f13 : x18 = x4 / 2) (h19 : x10 = faceOf_2 (x4)) (f22 : TFI (edges_2) (faces_2) (faceOf_2) (x3) (x2) (x4) (x5)) (fe_0_6_1 : edges_0 = edges_1) (fe_0_13_1 : faces_0 = faces_1) (fe_0_6_2 : edges_1 = edges_2) (fe_0_13_2 : faces_1 = faces_2) (hE_0_15_2 : ∀ j : Int, rowNode_1 j = rowNode_2 j) (hE_0_16_1 : ∀ j : Int, faceOf_0 j = faceOf_1 j) (hE_0_16_2 : ∀ j : Int, 0 ≤ j → (j = x4 → faceOf_1 j = x12) ∧ (j ≠ x4 → faceOf_1 j = faceOf_2 j)) (kz_0_6 : 0 ≤ edges_0 ∧ edges_0 ≤ 72) (kz_0_13 : 0 ≤ faces_0 ∧ faces_0 ≤ 144) : TFI (edges_0) (faces_0) (faceOf_0) (x3) (x20) (x31) (x32) := by
  subst fe_0_6_1
  subst fe_0_13_1
  subst fe_0_6_2
  subst fe_0_13_2
  have e_hE_0_15_2 := funext hE_0_15_2; subst e_hE_0_15_2
  have e_hE_0_16_1 := funext hE_0_16_1; subst e_hE_0_16_1
  first
    | (skip; (first | subst h19 | skip); exact tfi_start ‹TFO _ _ _ _ _› (by omega) (by omega) (by omega) (by omega))
    | (skip; (first | subst h19 | skip); exact tfi_step ‹TFI _ _ _ _ _ _ _› (by assumption) rfl (by omega) (by omega) (by omega) (by omega) (by omega) (by omega))
  
def o_Ne_traceFaces_at_Nq_13 : or_T := (55, 33, [(0, (2, 0, 0, [294])), (1, (2, 0, 0, [294])), (2, (0, 0, 143, [])), (3, (0, 0, 143, [])), (4, (0, 0, 143, [])), (5, (0, 0, 143, [])), (6, (0, 2, 2, [])), (7, (0, 0, 72, [])), (8, (0, 1, 144, [])), (9, (2, 0, 0, [293])), (10, (0, -1, -1, [])), (11, (0, -1, -1, [])), (12, (0, 0, 143, [])), (13, (2, 0, 0, [292])), (14, (0, 1, 1, [])), (15, (0, 1, 1, [])), (18, (0, 0, 71, [])), (20, (0, 1, 144, [])), (21, (0, 1, 1, [])), (22, (0, 1, 1, [])), (25, (0, 0, 71, [])), (28, (0, 1, 1, [])), (29, (0, 0, 143, [])), (31, (0, 0, 142, [])), (32, (0, 1, 144, []))], [(9, [13, 1], [15]), (9, [12, 1], [13]), (9, [9, 1], [16]), (9, [7, 1], [6]), (6, [32, 5], [1]), (16, [29, 4, 28], [2]), (11, [25, 4], [2]), (8, [22], [1]), (12, [22, 4], [2]), (16, [22, 4, 21], [0]), (6, [20, 2], [1]), (24, [0, 1], []), (100, [13, 2, 19], []), (11, [18, 4], [2]), (8, [15], [1]), (12, [15, 4], [2]), (16, [15, 4, 14], [0]), (100, [9, 4, 12], []), (7, [10, 11], [0]), (10, [10, 9, 4], []), (7, [5, 8], [2]), (3, [8, 6, 7], []), (20, [1, 3, 2, 4, 5], [60, 2, 1, 552, 6, 13, 16])], [], [], [(20, [1, 3, 20, 31, 32], [60, 2, 1, 552, 6, 13, 16])], [], [(32, 5, 1, 1), (32, 8, -4294967296, 0), (32, 2, -4294967296, 1), (20, 2, 1, 1), (5, 8, -4294967296, -1), (5, 2, -4294967296, 0)])
theorem oo_Ne_traceFaces_at_Nq_13 {kA : Nat → ClassId} : or_ok PRD kA GG o_Ne_traceFaces_at_Nq_13 := by
  refine or_mk fun A ta ws vs hD hth hl => ?_
  intro t0 r0 t1 r1 t2 k2 t3 k3 t4 k4 t5 k5 t6 k6 t7 k7 t8 k8 t9 r9 t10 k10 t11 k11 t12 k12 t13 r13 t14 k14 t15 k15 t18 k18 t20 k20 t21 k21 t22 k22 t25 k25 t28 k28 t29 k29 t31 k31 t32 k32 d0 d1 d2 d3 d4 d5 f0 f1 f2 f3 f4 f5 f6 f7 f8 f9 f10 f11 ta1 w1 le1 s1 f13 f14 f15 f16 ta2 w2 le2 s2 f18 f19 f20 f21 f22
  replace f1 := shm_361 f1
  replace f2 := shm_176 f2
  replace f4 := shm_4 f4
  replace f8 := shm_364 f8
  replace f10 := shm_4 f10
  replace f11 := shm_5 f11
  have s1 : (∀ b j, w_el ws b j = if b = v_ad (n_v vs 13) ∧ j = (v_iv (n_v vs 2)).toNat then v_iv (n_v vs 19) else w_el w1 b j) ∧ ∀ b k, w_fd ws b k = w_fd w1 b k := s1.2
  replace f13 := shm_585 f13
  have s2 : (∀ b j, w_el w1 b j = if b = v_ad (n_v vs 9) ∧ j = (v_iv (n_v vs 4)).toNat then v_iv (n_v vs 12) else w_el w2 b j) ∧ ∀ b k, w_fd w1 b k = w_fd w2 b k := s2.2
  replace f19 := shm_107 f19
  replace f22 := shm_1102 f22
  have q1 : n_v vs 1 = n_v vs 0 := f11.symm
  simp only [q1] at f1 f2 f22
  have cr_0_15 := fdq_263 hD hth r0
  have ar_0_16_1 : w_ar w1 (n_v vs 0) 16 = w_ar ws (n_v vs 0) 16 := congrArg v_ad (s1.2 _ _).symm
  have ar_0_16_2 : w_ar w2 (n_v vs 0) 16 = w_ar ws (n_v vs 0) 16 := by rw [← ar_0_16_1]; show v_ad (w_fd w2 _ _) = v_ad (w_fd w1 _ _); rw [s2.2]
  have cr_0_16 := fdq_260 hD hth r0
  have ad_9 : v_ad (n_v vs 9) = w_ar ws (n_v vs 0) 16 := congrArg v_ad f2
  have g1 : v_iv (n_v vs 12) = w_fi ws (n_v vs 0) 13 := congrArg v_iv f1
  simp only [ad_9] at f19
  have h19 : v_iv (n_v vs 10) = w_ei w2 (w_ar ws (n_v vs 0) 16) (v_iv (n_v vs 4)) := f19
  simp only [ar_0_16_2] at f22
  have fe_0_6_1 : w_fi ws (n_v vs 0) 6 = w_fi w1 (n_v vs 0) 6 := congrArg v_iv (s1.2 _ _)
  have fe_0_13_1 : w_fi ws (n_v vs 0) 13 = w_fi w1 (n_v vs 0) 13 := congrArg v_iv (s1.2 _ _)
  have fe_0_6_2 : w_fi w1 (n_v vs 0) 6 = w_fi w2 (n_v vs 0) 6 := congrArg v_iv (s2.2 _ _)
  have fe_0_13_2 : w_fi w1 (n_v vs 0) 13 = w_fi w2 (n_v vs 0) 13 := congrArg v_iv (s2.2 _ _)
  have hE_0_15_2 : ∀ j : Int, w_ei w1 (w_ar ws (n_v vs 0) 15) j = w_ei w2 (w_ar ws (n_v vs 0) 15) j := el_kp s2.1 r9 cr_0_15 (by decide)
  have hE_0_16_1 : ∀ j : Int, w_ei ws (w_ar ws (n_v vs 0) 16) j = w_ei w1 (w_ar ws (n_v vs 0) 16) j := el_kp s1.1 r13 cr_0_16 (by decide)
  have hE_0_16_2 : ∀ j : Int, 0 ≤ j → (j = v_iv (n_v vs 4) → w_ei w1 (w_ar ws (n_v vs 0) 16) j = v_iv (n_v vs 12)) ∧ (j ≠ v_iv (n_v vs 4) → w_ei w1 (w_ar ws (n_v vs 0) 16) j = w_ei w2 (w_ar ws (n_v vs 0) 16) j) := fun j hj => ⟨fun h => by unfold w_ei; rw [s2.1, if_pos ⟨ad_9.symm, by rw [h]⟩], fun h => by unfold w_ei; rw [s2.1, if_neg (fun e => h (by have := e.2; omega))]⟩
  have kz_0_6 := fdq_225 hD hth r0
  have kz_0_13 := fdq_261 hD hth r0
  have nf0 : fc_1 PRD (20, [1, 3, 20, 31, 32], [60, 2, 1, 552, 6, 13, 16]) ws (vs) := by
    refine ⟨nf_in hl rfl, sgq_1102 ?_⟩
    · show TFI (w_fi ws (n_v vs 1) 6) (w_fi ws (n_v vs 1) 13) (w_ei ws (w_ar ws (n_v vs 1) 16)) (v_iv (n_v vs 3)) (v_iv (n_v vs 20)) (v_iv (n_v vs 31)) (v_iv (n_v vs 32))
      rw [q1]
      exact vc_Ne_traceFaces_at_Nq_13_0 (v_iv (n_v vs 2)) (v_iv (n_v vs 3)) (v_iv (n_v vs 4)) (v_iv (n_v vs 5)) (v_iv (n_v vs 10)) (v_iv (n_v vs 12)) (v_iv (n_v vs 18)) (v_iv (n_v vs 20)) (v_iv (n_v vs 22)) (v_iv (n_v vs 31)) (v_iv (n_v vs 32)) (w_fi ws (n_v vs 0) 13) (w_fi ws (n_v vs 0) 6) (w_ei w2 (w_ar ws (n_v vs 0) 16)) (w_fi w2 (n_v vs 0) 6) (w_fi w2 (n_v vs 0) 13) (w_fi w1 (n_v vs 0) 6) (w_fi w1 (n_v vs 0) 13) (w_ei w1 (w_ar ws (n_v vs 0) 15)) (w_ei w2 (w_ar ws (n_v vs 0) 15)) (w_ei ws (w_ar ws (n_v vs 0) 16)) (w_ei w1 (w_ar ws (n_v vs 0) 16)) k2 k3 k4 k5 k10 k12 k18 k20 k22 k31 k32 g1 f4 f8 f10 f13 h19 f22 fe_0_6_1 fe_0_13_1 fe_0_6_2 fe_0_13_2 hE_0_15_2 hE_0_16_1 hE_0_16_2 kz_0_6 kz_0_13
  refine ⟨(fun _ h => (by cases h)), [], trivial, ?_, (fun _ h => (by cases h))⟩
  rw [List.append_nil]
  exact List.forall_mem_cons.mpr ⟨⟨show (20 : Nat) < 100 from by decide, nf0⟩, (fun _ h => (by cases h))⟩
set_option maxHeartbeats 4000000 in
theorem vc_Ne_traceFaces_at_Nq_14_r0 (x3 : Int) (x4 : Int) (x10 : Int) (x15 : Int) (x22 : Int) (x28 : Int) (faces_0 : Int) (edges_0 : Int) (faceOf_2 : Int → Int) (edges_2 : Int) (faces_2 : Int) (edges_1 : Int) (faces_1 : Int) (rowNode_1 : Int → Int) (rowNode_2 : Int → Int) (faceOf_0 : Int → Int) (faceOf_1 : Int → Int) (k4 : 0 ≤ x4 ∧ x4 ≤ 143) (k10 : (-1) ≤ x10 ∧ x10 ≤ (-1)) (k15 : 1 ≤ x15 ∧ x15 ≤ 1) (k22 : 0 ≤ x22 ∧ x22 ≤ 0) (k28 : 0 ≤ x28 ∧ x28 ≤ 255) (f7 : x22 = x4 % 2) (f14 : x15 = x4 % 2) (h18 : x10 = faceOf_2 (x4)) (fe_0_6_1 : edges_0 = edges_1) (fe_0_13_1 : faces_0 = faces_1) (fe_0_6_2 : edges_1 = edges_2) (fe_0_13_2 : faces_1 = faces_2) (hE_0_15_2 : ∀ j : Int, rowNode_1 j = rowNode_2 j) (hE_0_16_1 : ∀ j : Int, faceOf_0 j = faceOf_1 j) (kz_0_6 : 0 ≤ edges_0 ∧ edges_0 ≤ 72) (kz_0_13 : 0 ≤ faces_0 ∧ faces_0 ≤ 144) : 0 ≤ x28 ∧ x28 ≤ 143 := by
  subst fe_0_6_1
  subst fe_0_13_1
  subst fe_0_6_2
  subst fe_0_13_2
  have e_hE_0_15_2 := funext hE_0_15_2; subst e_hE_0_15_2
  have e_hE_0_16_1 := funext hE_0_16_1; subst e_hE_0_16_1
  first
    | omega
    | (have q := tfo_low ‹TFO _ _ _ _ _›; omega)
    | (skip; (first | subst h18 | skip); have q := tfc_lt (‹TFO _ _ _ _ _›).2.2.2.1 (e := x3) (by omega) (by omega) (by omega); have q2 := tfo_low ‹TFO _ _ _ _ _›; omega)
    | (skip; (first | subst h18 | skip); have q := (tfo_next (faces_zq := faces_0 + 1) (st_zq := x3 + 1) ‹TFI _ _ _ _ _ _ _› (by first | (left; omega) | (right; omega)) rfl rfl).2; have q2 := (‹TFI _ _ _ _ _ _ _›).2.2.1; omega)
    | (skip; (first | subst h18 | skip); have q := tfi_low ‹TFI _ _ _ _ _ _ _› (by omega) (by omega) (by omega); omega)
    | (have q := xor_one (x := x29) (a := x4) (b := x28) (by assumption) (by omega) (by omega) (by omega) (by omega) (by omega); split at q <;> omega)
  
def o_Ne_traceFaces_at_Nq_14 : or_T := (155, 29, [(0, (2, 0, 0, [294])), (1, (2, 0, 0, [294])), (2, (0, 0, 143, [])), (3, (0, 0, 143, [])), (4, (0, 0, 143, [])), (5, (0, 0, 143, [])), (6, (0, 2, 2, [])), (7, (0, 0, 72, [])), (8, (0, 1, 144, [])), (9, (2, 0, 0, [293])), (10, (0, -1, -1, [])), (11, (0, -1, -1, [])), (12, (0, 0, 143, [])), (13, (2, 0, 0, [292])), (14, (0, 1, 1, [])), (15, (0, 1, 1, [])), (18, (0, 0, 71, [])), (20, (0, 1, 144, [])), (21, (0, 1, 1, [])), (22, (0, 0, 0, [])), (24, (0, 0, 71, [])), (27, (0, 1, 1, [])), (28, (0, 0, 255, []))], [(9, [13, 1], [15]), (9, [12, 1], [13]), (9, [9, 1], [16]), (9, [7, 1], [6]), (16, [28, 4, 27], [2]), (11, [24, 4], [2]), (8, [22], [0]), (12, [22, 4], [2]), (16, [22, 4, 21], [0]), (6, [20, 2], [1]), (24, [0, 1], []), (100, [13, 2, 19], []), (11, [18, 4], [2]), (8, [15], [1]), (12, [15, 4], [2]), (16, [15, 4, 14], [0]), (100, [9, 4, 12], []), (7, [10, 11], [0]), (10, [10, 9, 4], []), (7, [5, 8], [2]), (3, [8, 6, 7], []), (20, [1, 3, 2, 4, 5], [60, 2, 1, 552, 6, 13, 16])], [(28, (0, 0, 143, []))], [], [], [], [(20, 2, 1, 1), (5, 8, -4294967296, -1), (5, 2, -4294967296, 0)])
theorem oo_Ne_traceFaces_at_Nq_14 {kA : Nat → ClassId} : or_ok PRD kA GG o_Ne_traceFaces_at_Nq_14 := by
  refine or_mk fun A ta ws vs hD hth hl => ?_
  intro t0 r0 t1 r1 t2 k2 t3 k3 t4 k4 t5 k5 t6 k6 t7 k7 t8 k8 t9 r9 t10 k10 t11 k11 t12 k12 t13 r13 t14 k14 t15 k15 t18 k18 t20 k20 t21 k21 t22 k22 t24 k24 t27 k27 t28 k28 d0 d1 d2 f0 f1 f2 f3 f4 f5 f6 f7 f8 f9 f10 ta1 w1 le1 s1 f12 f13 f14 f15 ta2 w2 le2 s2 f17 f18 f19 f20 f21
  replace f2 := shm_176 f2
  replace f10 := shm_5 f10
  have s1 : (∀ b j, w_el ws b j = if b = v_ad (n_v vs 13) ∧ j = (v_iv (n_v vs 2)).toNat then v_iv (n_v vs 19) else w_el w1 b j) ∧ ∀ b k, w_fd ws b k = w_fd w1 b k := s1.2
  have s2 : (∀ b j, w_el w1 b j = if b = v_ad (n_v vs 9) ∧ j = (v_iv (n_v vs 4)).toNat then v_iv (n_v vs 12) else w_el w2 b j) ∧ ∀ b k, w_fd w1 b k = w_fd w2 b k := s2.2
  replace f18 := shm_107 f18
  have q1 : n_v vs 1 = n_v vs 0 := f10.symm
  simp only [q1] at f2
  have cr_0_15 := fdq_263 hD hth r0
  have cr_0_16 := fdq_260 hD hth r0
  have ad_9 : v_ad (n_v vs 9) = w_ar ws (n_v vs 0) 16 := congrArg v_ad f2
  simp only [ad_9] at f18
  have h18 : v_iv (n_v vs 10) = w_ei w2 (w_ar ws (n_v vs 0) 16) (v_iv (n_v vs 4)) := f18
  have fe_0_6_1 : w_fi ws (n_v vs 0) 6 = w_fi w1 (n_v vs 0) 6 := congrArg v_iv (s1.2 _ _)
  have fe_0_13_1 : w_fi ws (n_v vs 0) 13 = w_fi w1 (n_v vs 0) 13 := congrArg v_iv (s1.2 _ _)
  have fe_0_6_2 : w_fi w1 (n_v vs 0) 6 = w_fi w2 (n_v vs 0) 6 := congrArg v_iv (s2.2 _ _)
  have fe_0_13_2 : w_fi w1 (n_v vs 0) 13 = w_fi w2 (n_v vs 0) 13 := congrArg v_iv (s2.2 _ _)
  have hE_0_15_2 : ∀ j : Int, w_ei w1 (w_ar ws (n_v vs 0) 15) j = w_ei w2 (w_ar ws (n_v vs 0) 15) j := el_kp s2.1 r9 cr_0_15 (by decide)
  have hE_0_16_1 : ∀ j : Int, w_ei ws (w_ar ws (n_v vs 0) 16) j = w_ei w1 (w_ar ws (n_v vs 0) 16) j := el_kp s1.1 r13 cr_0_16 (by decide)
  have kz_0_6 := fdq_225 hD hth r0
  have kz_0_13 := fdq_261 hD hth r0
  have hrf0 : 0 ≤ v_iv (n_v vs 28) ∧ v_iv (n_v vs 28) ≤ 143 := vc_Ne_traceFaces_at_Nq_14_r0 (v_iv (n_v vs 3)) (v_iv (n_v vs 4)) (v_iv (n_v vs 10)) (v_iv (n_v vs 15)) (v_iv (n_v vs 22)) (v_iv (n_v vs 28)) (w_fi ws (n_v vs 0) 13) (w_fi ws (n_v vs 0) 6) (w_ei w2 (w_ar ws (n_v vs 0) 16)) (w_fi w2 (n_v vs 0) 6) (w_fi w2 (n_v vs 0) 13) (w_fi w1 (n_v vs 0) 6) (w_fi w1 (n_v vs 0) 13) (w_ei w1 (w_ar ws (n_v vs 0) 15)) (w_ei w2 (w_ar ws (n_v vs 0) 15)) (w_ei ws (w_ar ws (n_v vs 0) 16)) (w_ei w1 (w_ar ws (n_v vs 0) 16)) k4 k10 k15 k22 k28 (shm_364 f7) (shm_364 f14) h18 fe_0_6_1 fe_0_13_1 fe_0_6_2 fe_0_13_2 hE_0_15_2 hE_0_16_1 kz_0_6 kz_0_13
  have rf28 : tv_ok ta (0, 0, 143, []) (n_v vs 28) := tv_in t28 (by first | omega | grind) (by first | omega | grind)
  refine ⟨List.forall_mem_cons.mpr ⟨rf28, (fun _ h => (by cases h))⟩, [], trivial, ?_, (fun _ h => (by cases h))⟩
  rw [List.append_nil]
  exact (fun _ h => (by cases h))
set_option maxHeartbeats 4000000 in
theorem vc_Ne_traceFaces_at_Nq_15_0 (x2 : Int) (x3 : Int) (x4 : Int) (x5 : Int) (x10 : Int) (x12 : Int) (x15 : Int) (x20 : Int) (x22 : Int) (x30 : Int) (x31 : Int) (faces_0 : Int) (edges_0 : Int) (faceOf_2 : Int → Int) (edges_2 : Int) (faces_2 : Int) (edges_1 : Int) (faces_1 : Int) (rowNode_1 : Int → Int) (rowNode_2 : Int → Int) (faceOf_0 : Int → Int) (faceOf_1 : Int → Int) (k2 : 0 ≤ x2 ∧ x2 ≤ 143) (k3 : 0 ≤ x3 ∧ x3 ≤ 143) (k4 : 0 ≤ x4 ∧ x4 ≤ 143) (k5 : 0 ≤ x5 ∧ x5 ≤ 143) (k10 : (-1) ≤ x10 ∧ x10 ≤ (-1)) (k12 : 0 ≤ x12 ∧ x12 ≤ 143) (k15 : 1 ≤ x15 ∧ x15 ≤ 1) (k20 : 1 ≤ x20 ∧ x20 ≤ 144) (k22 : 0 ≤ x22 ∧ x22 ≤ 0) (k30 : 1 ≤ x30 ∧ x30 ≤ 143) (k31 : 1 ≤ x31 ∧ x31 ≤ 144) (g1 : x12 = faces_0) (f4 : x31 = x5 + 1) (f8 : x22 = x4 % 2) (f10 : x20 = x2 + 1) (f15 : x15 = x4 % 2) (h19 : x10 = faceOf_2 (x4)) (f22 : TFI (edges_2) (faces_2) (faceOf_2) (x3) (x2) (x4) (x5)) (fe_0_6_1 : edges_0 = edges_1) (fe_0_13_1 : faces_0 = faces_1) (fe_0_6_2 : edges_1 = edges_2) (fe_0_13_2 : faces_1 = faces_2) (hE_0_15_2 : ∀ j : Int, rowNode_1 j = rowNode_2 j) (hE_0_16_1 : ∀ j : Int, faceOf_0 j = faceOf_1 j) (hE_0_16_2 : ∀ j : Int, 0 ≤ j → (j = x4 → faceOf_1 j = x12) ∧ (j ≠ x4 → faceOf_1 j = faceOf_2 j)) (kz_0_6 : 0 ≤ edges_0 ∧ edges_0 ≤ 72) (kz_0_13 : 0 ≤ faces_0 ∧ faces_0 ≤ 144) : TFI (edges_0) (faces_0) (faceOf_0) (x3) (x20) (x30) (x31) := by
  subst fe_0_6_1
  subst fe_0_13_1
  subst fe_0_6_2
  subst fe_0_13_2
  have e_hE_0_15_2 := funext hE_0_15_2; subst e_hE_0_15_2
  have e_hE_0_16_1 := funext hE_0_16_1; subst e_hE_0_16_1
  first
    | (skip; (first | subst h19 | skip); exact tfi_start ‹TFO _ _ _ _ _› (by omega) (by omega) (by omega) (by omega))
    | (skip; (first | subst h19 | skip); exact tfi_step ‹TFI _ _ _ _ _ _ _› (by assumption) rfl (by omega) (by omega) (by omega) (by omega) (by omega) (by omega))
  
def o_Ne_traceFaces_at_Nq_15 : or_T := (55, 32, [(0, (2, 0, 0, [294])), (1, (2, 0, 0, [294])), (2, (0, 0, 143, [])), (3, (0, 0, 143, [])), (4, (0, 0, 143, [])), (5, (0, 0, 143, [])), (6, (0, 2, 2, [])), (7, (0, 0, 72, [])), (8, (0, 1, 144, [])), (9, (2, 0, 0, [293])), (10, (0, -1, -1, [])), (11, (0, -1, -1, [])), (12, (0, 0, 143, [])), (13, (2, 0, 0, [292])), (14, (0, 1, 1, [])), (15, (0, 1, 1, [])), (18, (0, 0, 71, [])), (20, (0, 1, 144, [])), (21, (0, 1, 1, [])), (22, (0, 0, 0, [])), (24, (0, 0, 71, [])), (27, (0, 1, 1, [])), (28, (0, 0, 143, [])), (30, (0, 1, 143, [])), (31, (0, 1, 144, []))], [(9, [13, 1], [15]), (9, [12, 1], [13]), (9, [9, 1], [16]), (9, [7, 1], [6]), (6, [31, 5], [1]), (16, [28, 4, 27], [2]), (11, [24, 4], [2]), (8, [22], [0]), (12, [22, 4], [2]), (16, [22, 4, 21], [0]), (6, [20, 2], [1]), (24, [0, 1], []), (100, [13, 2, 19], []), (11, [18, 4], [2]), (8, [15], [1]), (12, [15, 4], [2]), (16, [15, 4, 14], [0]), (100, [9, 4, 12], []), (7, [10, 11], [0]), (10, [10, 9, 4], []), (7, [5, 8], [2]), (3, [8, 6, 7], []), (20, [1, 3, 2, 4, 5], [60, 2, 1, 552, 6, 13, 16])], [], [], [(20, [1, 3, 20, 30, 31], [60, 2, 1, 552, 6, 13, 16])], [], [(31, 5, 1, 1), (31, 8, -4294967296, 0), (31, 2, -4294967296, 1), (20, 2, 1, 1), (5, 8, -4294967296, -1), (5, 2, -4294967296, 0)])
theorem oo_Ne_traceFaces_at_Nq_15 {kA : Nat → ClassId} : or_ok PRD kA GG o_Ne_traceFaces_at_Nq_15 := by
  refine or_mk fun A ta ws vs hD hth hl => ?_
  intro t0 r0 t1 r1 t2 k2 t3 k3 t4 k4 t5 k5 t6 k6 t7 k7 t8 k8 t9 r9 t10 k10 t11 k11 t12 k12 t13 r13 t14 k14 t15 k15 t18 k18 t20 k20 t21 k21 t22 k22 t24 k24 t27 k27 t28 k28 t30 k30 t31 k31 d0 d1 d2 d3 d4 d5 f0 f1 f2 f3 f4 f5 f6 f7 f8 f9 f10 f11 ta1 w1 le1 s1 f13 f14 f15 f16 ta2 w2 le2 s2 f18 f19 f20 f21 f22
  replace f1 := shm_361 f1
  replace f2 := shm_176 f2
  replace f4 := shm_4 f4
  replace f8 := shm_364 f8
  replace f10 := shm_4 f10
  replace f11 := shm_5 f11
  have s1 : (∀ b j, w_el ws b j = if b = v_ad (n_v vs 13) ∧ j = (v_iv (n_v vs 2)).toNat then v_iv (n_v vs 19) else w_el w1 b j) ∧ ∀ b k, w_fd ws b k = w_fd w1 b k := s1.2
  replace f15 := shm_364 f15
  have s2 : (∀ b j, w_el w1 b j = if b = v_ad (n_v vs 9) ∧ j = (v_iv (n_v vs 4)).toNat then v_iv (n_v vs 12) else w_el w2 b j) ∧ ∀ b k, w_fd w1 b k = w_fd w2 b k := s2.2
  replace f19 := shm_107 f19
  replace f22 := shm_1102 f22
  have q1 : n_v vs 1 = n_v vs 0 := f11.symm
  simp only [q1] at f1 f2 f22
  have cr_0_15 := fdq_263 hD hth r0
  have ar_0_16_1 : w_ar w1 (n_v vs 0) 16 = w_ar ws (n_v vs 0) 16 := congrArg v_ad (s1.2 _ _).symm
  have ar_0_16_2 : w_ar w2 (n_v vs 0) 16 = w_ar ws (n_v vs 0) 16 := by rw [← ar_0_16_1]; show v_ad (w_fd w2 _ _) = v_ad (w_fd w1 _ _); rw [s2.2]
  have cr_0_16 := fdq_260 hD hth r0
  have ad_9 : v_ad (n_v vs 9) = w_ar ws (n_v vs 0) 16 := congrArg v_ad f2
  have g1 : v_iv (n_v vs 12) = w_fi ws (n_v vs 0) 13 := congrArg v_iv f1
  simp only [ad_9] at f19
  have h19 : v_iv (n_v vs 10) = w_ei w2 (w_ar ws (n_v vs 0) 16) (v_iv (n_v vs 4)) := f19
  simp only [ar_0_16_2] at f22
  have fe_0_6_1 : w_fi ws (n_v vs 0) 6 = w_fi w1 (n_v vs 0) 6 := congrArg v_iv (s1.2 _ _)
  have fe_0_13_1 : w_fi ws (n_v vs 0) 13 = w_fi w1 (n_v vs 0) 13 := congrArg v_iv (s1.2 _ _)
  have fe_0_6_2 : w_fi w1 (n_v vs 0) 6 = w_fi w2 (n_v vs 0) 6 := congrArg v_iv (s2.2 _ _)
  have fe_0_13_2 : w_fi w1 (n_v vs 0) 13 = w_fi w2 (n_v vs 0) 13 := congrArg v_iv (s2.2 _ _)
  have hE_0_15_2 : ∀ j : Int, w_ei w1 (w_ar ws (n_v vs 0) 15) j = w_ei w2 (w_ar ws (n_v vs 0) 15) j := el_kp s2.1 r9 cr_0_15 (by decide)
  have hE_0_16_1 : ∀ j : Int, w_ei ws (w_ar ws (n_v vs 0) 16) j = w_ei w1 (w_ar ws (n_v vs 0) 16) j := el_kp s1.1 r13 cr_0_16 (by decide)
  have hE_0_16_2 : ∀ j : Int, 0 ≤ j → (j = v_iv (n_v vs 4) → w_ei w1 (w_ar ws (n_v vs 0) 16) j = v_iv (n_v vs 12)) ∧ (j ≠ v_iv (n_v vs 4) → w_ei w1 (w_ar ws (n_v vs 0) 16) j = w_ei w2 (w_ar ws (n_v vs 0) 16) j) := fun j hj => ⟨fun h => by unfold w_ei; rw [s2.1, if_pos ⟨ad_9.symm, by rw [h]⟩], fun h => by unfold w_ei; rw [s2.1, if_neg (fun e => h (by have := e.2; omega))]⟩
  have kz_0_6 := fdq_225 hD hth r0
  have kz_0_13 := fdq_261 hD hth r0
  have nf0 : fc_1 PRD (20, [1, 3, 20, 30, 31], [60, 2, 1, 552, 6, 13, 16]) ws (vs) := by
    refine ⟨nf_in hl rfl, sgq_1102 ?_⟩
    · show TFI (w_fi ws (n_v vs 1) 6) (w_fi ws (n_v vs 1) 13) (w_ei ws (w_ar ws (n_v vs 1) 16)) (v_iv (n_v vs 3)) (v_iv (n_v vs 20)) (v_iv (n_v vs 30)) (v_iv (n_v vs 31))
      rw [q1]
      exact vc_Ne_traceFaces_at_Nq_15_0 (v_iv (n_v vs 2)) (v_iv (n_v vs 3)) (v_iv (n_v vs 4)) (v_iv (n_v vs 5)) (v_iv (n_v vs 10)) (v_iv (n_v vs 12)) (v_iv (n_v vs 15)) (v_iv (n_v vs 20)) (v_iv (n_v vs 22)) (v_iv (n_v vs 30)) (v_iv (n_v vs 31)) (w_fi ws (n_v vs 0) 13) (w_fi ws (n_v vs 0) 6) (w_ei w2 (w_ar ws (n_v vs 0) 16)) (w_fi w2 (n_v vs 0) 6) (w_fi w2 (n_v vs 0) 13) (w_fi w1 (n_v vs 0) 6) (w_fi w1 (n_v vs 0) 13) (w_ei w1 (w_ar ws (n_v vs 0) 15)) (w_ei w2 (w_ar ws (n_v vs 0) 15)) (w_ei ws (w_ar ws (n_v vs 0) 16)) (w_ei w1 (w_ar ws (n_v vs 0) 16)) k2 k3 k4 k5 k10 k12 k15 k20 k22 k30 k31 g1 f4 f8 f10 f15 h19 f22 fe_0_6_1 fe_0_13_1 fe_0_6_2 fe_0_13_2 hE_0_15_2 hE_0_16_1 hE_0_16_2 kz_0_6 kz_0_13
  refine ⟨(fun _ h => (by cases h)), [], trivial, ?_, (fun _ h => (by cases h))⟩
  rw [List.append_nil]
  exact List.forall_mem_cons.mpr ⟨⟨show (20 : Nat) < 100 from by decide, nf0⟩, (fun _ h => (by cases h))⟩
set_option maxHeartbeats 4000000 in
theorem vc_Ne_traceFaces_at_Nq_16_0 (x2 : Int) (x3 : Int) (x4 : Int) (x5 : Int) (x10 : Int) (x12 : Int) (x15 : Int) (x20 : Int) (x22 : Int) (x30 : Int) (x31 : Int) (faces_0 : Int) (edges_0 : Int) (faceOf_2 : Int → Int) (edges_2 : Int) (faces_2 : Int) (edges_1 : Int) (faces_1 : Int) (rowNode_1 : Int → Int) (rowNode_2 : Int → Int) (faceOf_0 : Int → Int) (faceOf_1 : Int → Int) (k2 : 0 ≤ x2 ∧ x2 ≤ 143) (k3 : 0 ≤ x3 ∧ x3 ≤ 143) (k4 : 0 ≤ x4 ∧ x4 ≤ 143) (k5 : 0 ≤ x5 ∧ x5 ≤ 143) (k10 : (-1) ≤ x10 ∧ x10 ≤ (-1)) (k12 : 0 ≤ x12 ∧ x12 ≤ 143) (k15 : 1 ≤ x15 ∧ x15 ≤ 1) (k20 : 1 ≤ x20 ∧ x20 ≤ 144) (k22 : 0 ≤ x22 ∧ x22 ≤ 0) (k30 : 0 ≤ x30 ∧ x30 ≤ 142) (k31 : 1 ≤ x31 ∧ x31 ≤ 144) (g1 : x12 = faces_0) (f4 : x31 = x5 + 1) (f8 : x22 = x4 % 2) (f10 : x20 = x2 + 1) (f15 : x15 = x4 % 2) (h19 : x10 = faceOf_2 (x4)) (f22 : TFI (edges_2) (faces_2) (faceOf_2) (x3) (x2) (x4) (x5)) (fe_0_6_1 : edges_0 = edges_1) (fe_0_13_1 : faces_0 = faces_1) (fe_0_6_2 : edges_1 = edges_2) (fe_0_13_2 : faces_1 = faces_2) (hE_0_15_2 : ∀ j : Int, rowNode_1 j = rowNode_2 j) (hE_0_16_1 : ∀ j : Int, faceOf_0 j = faceOf_1 j) (hE_0_16_2 : ∀ j : Int, 0 ≤ j → (j = x4 → faceOf_1 j = x12) ∧ (j ≠ x4 → faceOf_1 j = faceOf_2 j)) (kz_0_6 : 0 ≤ edges_0 ∧ edges_0 ≤ 72) (kz_0_13 : 0 ≤ faces_0 ∧ faces_0 ≤ 144) : TFI (edges_0) (faces_0) (faceOf_0) (x3) (x20) (x30) (x31) := by
  subst fe_0_6_1
  subst fe_0_13_1
  subst fe_0_6_2
  subst fe_0_13_2
  have e_hE_0_15_2 := funext hE_0_15_2; subst e_hE_0_15_2
  have e_hE_0_16_1 := funext hE_0_16_1; subst e_hE_0_16_1
  first
    | (skip; (first | subst h19 | skip); exact tfi_start ‹TFO _ _ _ _ _› (by omega) (by omega) (by omega) (by omega))
    | (skip; (first | subst h19 | skip); exact tfi_step ‹TFI _ _ _ _ _ _ _› (by assumption) rfl (by omega) (by omega) (by omega) (by omega) (by omega) (by omega))
  
def o_Ne_traceFaces_at_Nq_16 : or_T := (55, 32, [(0, (2, 0, 0, [294])), (1, (2, 0, 0, [294])), (2, (0, 0, 143, [])), (3, (0, 0, 143, [])), (4, (0, 0, 143, [])), (5, (0, 0, 143, [])), (6, (0, 2, 2, [])), (7, (0, 0, 72, [])), (8, (0, 1, 144, [])), (9, (2, 0, 0, [293])), (10, (0, -1, -1, [])), (11, (0, -1, -1, [])), (12, (0, 0, 143, [])), (13, (2, 0, 0, [292])), (14, (0, 1, 1, [])), (15, (0, 1, 1, [])), (18, (0, 0, 71, [])), (20, (0, 1, 144, [])), (21, (0, 1, 1, [])), (22, (0, 0, 0, [])), (24, (0, 0, 71, [])), (27, (0, 1, 1, [])), (28, (0, 0, 143, [])), (30, (0, 0, 142, [])), (31, (0, 1, 144, []))], [(9, [13, 1], [15]), (9, [12, 1], [13]), (9, [9, 1], [16]), (9, [7, 1], [6]), (6, [31, 5], [1]), (16, [28, 4, 27], [2]), (11, [24, 4], [2]), (8, [22], [0]), (12, [22, 4], [2]), (16, [22, 4, 21], [0]), (6, [20, 2], [1]), (24, [0, 1], []), (100, [13, 2, 19], []), (11, [18, 4], [2]), (8, [15], [1]), (12, [15, 4], [2]), (16, [15, 4, 14], [0]), (100, [9, 4, 12], []), (7, [10, 11], [0]), (10, [10, 9, 4], []), (7, [5, 8], [2]), (3, [8, 6, 7], []), (20, [1, 3, 2, 4, 5], [60, 2, 1, 552, 6, 13, 16])], [], [], [(20, [1, 3, 20, 30, 31], [60, 2, 1, 552, 6, 13, 16])], [], [(31, 5, 1, 1), (31, 8, -4294967296, 0), (31, 2, -4294967296, 1), (20, 2, 1, 1), (5, 8, -4294967296, -1), (5, 2, -4294967296, 0)])
theorem oo_Ne_traceFaces_at_Nq_16 {kA : Nat → ClassId} : or_ok PRD kA GG o_Ne_traceFaces_at_Nq_16 := by
  refine or_mk fun A ta ws vs hD hth hl => ?_
  intro t0 r0 t1 r1 t2 k2 t3 k3 t4 k4 t5 k5 t6 k6 t7 k7 t8 k8 t9 r9 t10 k10 t11 k11 t12 k12 t13 r13 t14 k14 t15 k15 t18 k18 t20 k20 t21 k21 t22 k22 t24 k24 t27 k27 t28 k28 t30 k30 t31 k31 d0 d1 d2 d3 d4 d5 f0 f1 f2 f3 f4 f5 f6 f7 f8 f9 f10 f11 ta1 w1 le1 s1 f13 f14 f15 f16 ta2 w2 le2 s2 f18 f19 f20 f21 f22
  replace f1 := shm_361 f1
  replace f2 := shm_176 f2
  replace f4 := shm_4 f4
  replace f8 := shm_364 f8
  replace f10 := shm_4 f10
  replace f11 := shm_5 f11
  have s1 : (∀ b j, w_el ws b j = if b = v_ad (n_v vs 13) ∧ j = (v_iv (n_v vs 2)).toNat then v_iv (n_v vs 19) else w_el w1 b j) ∧ ∀ b k, w_fd ws b k = w_fd w1 b k := s1.2
  replace f15 := shm_364 f15
  have s2 : (∀ b j, w_el w1 b j = if b = v_ad (n_v vs 9) ∧ j = (v_iv (n_v vs 4)).toNat then v_iv (n_v vs 12) else w_el w2 b j) ∧ ∀ b k, w_fd w1 b k = w_fd w2 b k := s2.2
  replace f19 := shm_107 f19
  replace f22 := shm_1102 f22
  have q1 : n_v vs 1 = n_v vs 0 := f11.symm
  simp only [q1] at f1 f2 f22
  have cr_0_15 := fdq_263 hD hth r0
  have ar_0_16_1 : w_ar w1 (n_v vs 0) 16 = w_ar ws (n_v vs 0) 16 := congrArg v_ad (s1.2 _ _).symm
  have ar_0_16_2 : w_ar w2 (n_v vs 0) 16 = w_ar ws (n_v vs 0) 16 := by rw [← ar_0_16_1]; show v_ad (w_fd w2 _ _) = v_ad (w_fd w1 _ _); rw [s2.2]
  have cr_0_16 := fdq_260 hD hth r0
  have ad_9 : v_ad (n_v vs 9) = w_ar ws (n_v vs 0) 16 := congrArg v_ad f2
  have g1 : v_iv (n_v vs 12) = w_fi ws (n_v vs 0) 13 := congrArg v_iv f1
  simp only [ad_9] at f19
  have h19 : v_iv (n_v vs 10) = w_ei w2 (w_ar ws (n_v vs 0) 16) (v_iv (n_v vs 4)) := f19
  simp only [ar_0_16_2] at f22
  have fe_0_6_1 : w_fi ws (n_v vs 0) 6 = w_fi w1 (n_v vs 0) 6 := congrArg v_iv (s1.2 _ _)
  have fe_0_13_1 : w_fi ws (n_v vs 0) 13 = w_fi w1 (n_v vs 0) 13 := congrArg v_iv (s1.2 _ _)
  have fe_0_6_2 : w_fi w1 (n_v vs 0) 6 = w_fi w2 (n_v vs 0) 6 := congrArg v_iv (s2.2 _ _)
  have fe_0_13_2 : w_fi w1 (n_v vs 0) 13 = w_fi w2 (n_v vs 0) 13 := congrArg v_iv (s2.2 _ _)
  have hE_0_15_2 : ∀ j : Int, w_ei w1 (w_ar ws (n_v vs 0) 15) j = w_ei w2 (w_ar ws (n_v vs 0) 15) j := el_kp s2.1 r9 cr_0_15 (by decide)
  have hE_0_16_1 : ∀ j : Int, w_ei ws (w_ar ws (n_v vs 0) 16) j = w_ei w1 (w_ar ws (n_v vs 0) 16) j := el_kp s1.1 r13 cr_0_16 (by decide)
  have hE_0_16_2 : ∀ j : Int, 0 ≤ j → (j = v_iv (n_v vs 4) → w_ei w1 (w_ar ws (n_v vs 0) 16) j = v_iv (n_v vs 12)) ∧ (j ≠ v_iv (n_v vs 4) → w_ei w1 (w_ar ws (n_v vs 0) 16) j = w_ei w2 (w_ar ws (n_v vs 0) 16) j) := fun j hj => ⟨fun h => by unfold w_ei; rw [s2.1, if_pos ⟨ad_9.symm, by rw [h]⟩], fun h => by unfold w_ei; rw [s2.1, if_neg (fun e => h (by have := e.2; omega))]⟩
  have kz_0_6 := fdq_225 hD hth r0
  have kz_0_13 := fdq_261 hD hth r0
  have nf0 : fc_1 PRD (20, [1, 3, 20, 30, 31], [60, 2, 1, 552, 6, 13, 16]) ws (vs) := by
    refine ⟨nf_in hl rfl, sgq_1102 ?_⟩
    · show TFI (w_fi ws (n_v vs 1) 6) (w_fi ws (n_v vs 1) 13) (w_ei ws (w_ar ws (n_v vs 1) 16)) (v_iv (n_v vs 3)) (v_iv (n_v vs 20)) (v_iv (n_v vs 30)) (v_iv (n_v vs 31))
      rw [q1]
      exact vc_Ne_traceFaces_at_Nq_16_0 (v_iv (n_v vs 2)) (v_iv (n_v vs 3)) (v_iv (n_v vs 4)) (v_iv (n_v vs 5)) (v_iv (n_v vs 10)) (v_iv (n_v vs 12)) (v_iv (n_v vs 15)) (v_iv (n_v vs 20)) (v_iv (n_v vs 22)) (v_iv (n_v vs 30)) (v_iv (n_v vs 31)) (w_fi ws (n_v vs 0) 13) (w_fi ws (n_v vs 0) 6) (w_ei w2 (w_ar ws (n_v vs 0) 16)) (w_fi w2 (n_v vs 0) 6) (w_fi w2 (n_v vs 0) 13) (w_fi w1 (n_v vs 0) 6) (w_fi w1 (n_v vs 0) 13) (w_ei w1 (w_ar ws (n_v vs 0) 15)) (w_ei w2 (w_ar ws (n_v vs 0) 15)) (w_ei ws (w_ar ws (n_v vs 0) 16)) (w_ei w1 (w_ar ws (n_v vs 0) 16)) k2 k3 k4 k5 k10 k12 k15 k20 k22 k30 k31 g1 f4 f8 f10 f15 h19 f22 fe_0_6_1 fe_0_13_1 fe_0_6_2 fe_0_13_2 hE_0_15_2 hE_0_16_1 hE_0_16_2 kz_0_6 kz_0_13
  refine ⟨(fun _ h => (by cases h)), [], trivial, ?_, (fun _ h => (by cases h))⟩
  rw [List.append_nil]
  exact List.forall_mem_cons.mpr ⟨⟨show (20 : Nat) < 100 from by decide, nf0⟩, (fun _ h => (by cases h))⟩
set_option maxHeartbeats 4000000 in
theorem vc_Ne_traceFaces_at_Nq_17_r0 (x2 : Int) (x3 : Int) (x4 : Int) (x5 : Int) (x10 : Int) (x15 : Int) (x18 : Int) (faces_0 : Int) (edges_0 : Int) (faceOf_1 : Int → Int) (edges_1 : Int) (faces_1 : Int) (k2 : 0 ≤ x2 ∧ x2 ≤ 144) (k3 : 0 ≤ x3 ∧ x3 ≤ 143) (k4 : 0 ≤ x4 ∧ x4 ≤ 143) (k5 : 0 ≤ x5 ∧ x5 ≤ 143) (k10 : (-1) ≤ x10 ∧ x10 ≤ (-1)) (k15 : 0 ≤ x15 ∧ x15 ≤ 0) (k18 : 0 ≤ x18 ∧ x18 ≤ 71) (f3 : x18 = x4 / 2) (f5 : x15 = x4 % 2) (h10 : x10 = faceOf_1 (x4)) (f13 : TFI (edges_1) (faces_1) (faceOf_1) (x3) (x2) (x4) (x5)) (fe_0_6_1 : edges_0 = edges_1) (fe_0_13_1 : faces_0 = faces_1) (kz_0_6 : 0 ≤ edges_0 ∧ edges_0 ≤ 72) (kz_0_13 : 0 ≤ faces_0 ∧ faces_0 ≤ 144) : 0 ≤ x2 ∧ x2 ≤ 143 := by
  subst fe_0_6_1
  subst fe_0_13_1
  first
    | omega
    | (have q := tfo_low ‹TFO _ _ _ _ _›; omega)
    | (skip; (first | subst h10 | skip); have q := tfc_lt (‹TFO _ _ _ _ _›).2.2.2.1 (e := x3) (by omega) (by omega) (by omega); have q2 := tfo_low ‹TFO _ _ _ _ _›; omega)
    | (skip; (first | subst h10 | skip); have q := (tfo_next (faces_zq := faces_0 + 1) (st_zq := x3 + 1) ‹TFI _ _ _ _ _ _ _› (by first | (left; omega) | (right; omega)) rfl rfl).2; have q2 := (‹TFI _ _ _ _ _ _ _›).2.2.1; omega)
    | (skip; (first | subst h10 | skip); have q := tfi_low ‹TFI _ _ _ _ _ _ _› (by omega) (by omega) (by omega); omega)
    | (have q := xor_one (x := x29) (a := x4) (b := x28) (by assumption) (by omega) (by omega) (by omega) (by omega) (by omega); split at q <;> omega)
  
def o_Ne_traceFaces_at_Nq_17 : or_T := (116, 20, [(0, (2, 0, 0, [294])), (1, (2, 0, 0, [294])), (2, (0, 0, 144, [])), (3, (0, 0, 143, [])), (4, (0, 0, 143, [])), (5, (0, 0, 143, [])), (6, (0, 2, 2, [])), (7, (0, 0, 72, [])), (8, (0, 1, 144, [])), (9, (2, 0, 0, [293])), (10, (0, -1, -1, [])), (11, (0, -1, -1, [])), (12, (0, 0, 143, [])), (14, (0, 1, 1, [])), (15, (0, 0, 0, [])), (18, (0, 0, 71, []))], [(9, [12, 1], [13]), (9, [9, 1], [16]), (9, [7, 1], [6]), (11, [18, 4], [2]), (8, [15], [0]), (12, [15, 4], [2]), (16, [15, 4, 14], [0]), (24, [0, 1], []), (100, [9, 4, 12], []), (7, [10, 11], [0]), (10, [10, 9, 4], []), (7, [5, 8], [2]), (3, [8, 6, 7], []), (20, [1, 3, 2, 4, 5], [60, 2, 1, 552, 6, 13, 16])], [(2, (0, 0, 143, []))], [], [], [], [(5, 8, -4294967296, -1), (5, 2, -4294967296, 0)])
theorem oo_Ne_traceFaces_at_Nq_17 {kA : Nat → ClassId} : or_ok PRD kA GG o_Ne_traceFaces_at_Nq_17 := by
  refine or_mk fun A ta ws vs hD hth hl => ?_
  intro t0 r0 t1 r1 t2 k2 t3 k3 t4 k4 t5 k5 t6 k6 t7 k7 t8 k8 t9 r9 t10 k10 t11 k11 t12 k12 t14 k14 t15 k15 t18 k18 d0 d1 f0 f1 f2 f3 f4 f5 f6 f7 ta1 w1 le1 s1 f9 f10 f11 f12 f13
  replace f1 := shm_176 f1
  replace f7 := shm_5 f7
  have s1 : (∀ b j, w_el ws b j = if b = v_ad (n_v vs 9) ∧ j = (v_iv (n_v vs 4)).toNat then v_iv (n_v vs 12) else w_el w1 b j) ∧ ∀ b k, w_fd ws b k = w_fd w1 b k := s1.2
  replace f10 := shm_107 f10
  replace f13 := shm_1102 f13
  have q1 : n_v vs 1 = n_v vs 0 := f7.symm
  simp only [q1] at f1 f13
  have ar_0_16_1 : w_ar w1 (n_v vs 0) 16 = w_ar ws (n_v vs 0) 16 := congrArg v_ad (s1.2 _ _).symm
  have ad_9 : v_ad (n_v vs 9) = w_ar ws (n_v vs 0) 16 := congrArg v_ad f1
  simp only [ad_9] at f10
  have h10 : v_iv (n_v vs 10) = w_ei w1 (w_ar ws (n_v vs 0) 16) (v_iv (n_v vs 4)) := f10
  simp only [ar_0_16_1] at f13
  have fe_0_6_1 : w_fi ws (n_v vs 0) 6 = w_fi w1 (n_v vs 0) 6 := congrArg v_iv (s1.2 _ _)
  have fe_0_13_1 : w_fi ws (n_v vs 0) 13 = w_fi w1 (n_v vs 0) 13 := congrArg v_iv (s1.2 _ _)
  have kz_0_6 := fdq_225 hD hth r0
  have kz_0_13 := fdq_261 hD hth r0
  have hrf0 : 0 ≤ v_iv (n_v vs 2) ∧ v_iv (n_v vs 2) ≤ 143 := vc_Ne_traceFaces_at_Nq_17_r0 (v_iv (n_v vs 2)) (v_iv (n_v vs 3)) (v_iv (n_v vs 4)) (v_iv (n_v vs 5)) (v_iv (n_v vs 10)) (v_iv (n_v vs 15)) (v_iv (n_v vs 18)) (w_fi ws (n_v vs 0) 13) (w_fi ws (n_v vs 0) 6) (w_ei w1 (w_ar ws (n_v vs 0) 16)) (w_fi w1 (n_v vs 0) 6) (w_fi w1 (n_v vs 0) 13) k2 k3 k4 k5 k10 k15 k18 (shm_585 f3) (shm_364 f5) h10 f13 fe_0_6_1 fe_0_13_1 kz_0_6 kz_0_13
  have rf2 : tv_ok ta (0, 0, 143, []) (n_v vs 2) := tv_in t2 (by first | omega | grind) (by first | omega | grind)
  refine ⟨List.forall_mem_cons.mpr ⟨rf2, (fun _ h => (by cases h))⟩, [], trivial, ?_, (fun _ h => (by cases h))⟩
  rw [List.append_nil]
  exact (fun _ h => (by cases h))
set_option maxHeartbeats 4000000 in
theorem vc_Ne_traceFaces_at_Nq_18_r0 (x3 : Int) (x4 : Int) (x10 : Int) (x15 : Int) (x22 : Int) (x28 : Int) (faces_0 : Int) (edges_0 : Int) (faceOf_2 : Int → Int) (edges_2 : Int) (faces_2 : Int) (edges_1 : Int) (faces_1 : Int) (rowNode_1 : Int → Int) (rowNode_2 : Int → Int) (faceOf_0 : Int → Int) (faceOf_1 : Int → Int) (k4 : 0 ≤ x4 ∧ x4 ≤ 143) (k10 : (-1) ≤ x10 ∧ x10 ≤ (-1)) (k15 : 0 ≤ x15 ∧ x15 ≤ 0) (k22 : 1 ≤ x22 ∧ x22 ≤ 1) (k28 : 0 ≤ x28 ∧ x28 ≤ 255) (f7 : x22 = x4 % 2) (f14 : x15 = x4 % 2) (h18 : x10 = faceOf_2 (x4)) (fe_0_6_1 : edges_0 = edges_1) (fe_0_13_1 : faces_0 = faces_1) (fe_0_6_2 : edges_1 = edges_2) (fe_0_13_2 : faces_1 = faces_2) (hE_0_15_2 : ∀ j : Int, rowNode_1 j = rowNode_2 j) (hE_0_16_1 : ∀ j : Int, faceOf_0 j = faceOf_1 j) (kz_0_6 : 0 ≤ edges_0 ∧ edges_0 ≤ 72) (kz_0_13 : 0 ≤ faces_0 ∧ faces_0 ≤ 144) : 0 ≤ x28 ∧ x28 ≤ 143 := by
  subst fe_0_6_1
  subst fe_0_13_1
  subst fe_0_6_2
  subst fe_0_13_2
  have e_hE_0_15_2 := funext hE_0_15_2; subst e_hE_0_15_2
  have e_hE_0_16_1 := funext hE_0_16_1; subst e_hE_0_16_1
  first
    | omega
    | (have q := tfo_low ‹TFO _ _ _ _ _›; omega)
    | (skip; (first | subst h18 | skip); have q := tfc_lt (‹TFO _ _ _ _ _›).2.2.2.1 (e := x3) (by omega) (by omega) (by omega); have q2 := tfo_low ‹TFO _ _ _ _ _›; omega)
    | (skip; (first | subst h18 | skip); have q := (tfo_next (faces_zq := faces_0 + 1) (st_zq := x3 + 1) ‹TFI _ _ _ _ _ _ _› (by first | (left; omega) | (right; omega)) rfl rfl).2; have q2 := (‹TFI _ _ _ _ _ _ _›).2.2.1; omega)
    | (skip; (first | subst h18 | skip); have q := tfi_low ‹TFI _ _ _ _ _ _ _› (by omega) (by omega) (by omega); omega)
    | (have q := xor_one (x := x29) (a := x4) (b := x28) (by assumption) (by omega) (by omega) (by omega) (by omega) (by omega); split at q <;> omega)
  
def o_Ne_traceFaces_at_Nq_18 : or_T := (155, 29, [(0, (2, 0, 0, [294])), (1, (2, 0, 0, [294])), (2, (0, 0, 143, [])), (3, (0, 0, 143, [])), (4, (0, 0, 143, [])), (5, (0, 0, 143, [])), (6, (0, 2, 2, [])), (7, (0, 0, 72, [])), (8, (0, 1, 144, [])), (9, (2, 0, 0, [293])), (10, (0, -1, -1, [])), (11, (0, -1, -1, [])), (12, (0, 0, 143, [])), (13, (2, 0, 0, [292])), (14, (0, 1, 1, [])), (15, (0, 0, 0, [])), (18, (0, 0, 71, [])), (20, (0, 1, 144, [])), (21, (0, 1, 1, [])), (22, (0, 1, 1, [])), (24, (0, 0, 71, [])), (27, (0, 1, 1, [])), (28, (0, 0, 255, []))], [(9, [13, 1], [15]), (9, [12, 1], [13]), (9, [9, 1], [16]), (9, [7, 1], [6]), (16, [28, 4, 27], [2]), (11, [24, 4], [2]), (8, [22], [1]), (12, [22, 4], [2]), (16, [22, 4, 21], [0]), (6, [20, 2], [1]), (24, [0, 1], []), (100, [13, 2, 19], []), (11, [18, 4], [2]), (8, [15], [0]), (12, [15, 4], [2]), (16, [15, 4, 14], [0]), (100, [9, 4, 12], []), (7, [10, 11], [0]), (10, [10, 9, 4], []), (7, [5, 8], [2]), (3, [8, 6, 7], []), (20, [1, 3, 2, 4, 5], [60, 2, 1, 552, 6, 13, 16])], [(28, (0, 0, 143, []))], [], [], [], [(20, 2, 1, 1), (5, 8, -4294967296, -1), (5, 2, -4294967296, 0)])
theorem oo_Ne_traceFaces_at_Nq_18 {kA : Nat → ClassId} : or_ok PRD kA GG o_Ne_traceFaces_at_Nq_18 := by
  refine or_mk fun A ta ws vs hD hth hl => ?_
  intro t0 r0 t1 r1 t2 k2 t3 k3 t4 k4 t5 k5 t6 k6 t7 k7 t8 k8 t9 r9 t10 k10 t11 k11 t12 k12 t13 r13 t14 k14 t15 k15 t18 k18 t20 k20 t21 k21 t22 k22 t24 k24 t27 k27 t28 k28 d0 d1 d2 f0 f1 f2 f3 f4 f5 f6 f7 f8 f9 f10 ta1 w1 le1 s1 f12 f13 f14 f15 ta2 w2 le2 s2 f17 f18 f19 f20 f21
  replace f2 := shm_176 f2
  replace f10 := shm_5 f10
  have s1 : (∀ b j, w_el ws b j = if b = v_ad (n_v vs 13) ∧ j = (v_iv (n_v vs 2)).toNat then v_iv (n_v vs 19) else w_el w1 b j) ∧ ∀ b k, w_fd ws b k = w_fd w1 b k := s1.2
  have s2 : (∀ b j, w_el w1 b j = if b = v_ad (n_v vs 9) ∧ j = (v_iv (n_v vs 4)).toNat then v_iv (n_v vs 12) else w_el w2 b j) ∧ ∀ b k, w_fd w1 b k = w_fd w2 b k := s2.2
  replace f18 := shm_107 f18
  have q1 : n_v vs 1 = n_v vs 0 := f10.symm
  simp only [q1] at f2
  have cr_0_15 := fdq_263 hD hth r0
  have cr_0_16 := fdq_260 hD hth r0
  have ad_9 : v_ad (n_v vs 9) = w_ar ws (n_v vs 0) 16 := congrArg v_ad f2
  simp only [ad_9] at f18
  have h18 : v_iv (n_v vs 10) = w_ei w2 (w_ar ws (n_v vs 0) 16) (v_iv (n_v vs 4)) := f18
  have fe_0_6_1 : w_fi ws (n_v vs 0) 6 = w_fi w1 (n_v vs 0) 6 := congrArg v_iv (s1.2 _ _)
  have fe_0_13_1 : w_fi ws (n_v vs 0) 13 = w_fi w1 (n_v vs 0) 13 := congrArg v_iv (s1.2 _ _)
  have fe_0_6_2 : w_fi w1 (n_v vs 0) 6 = w_fi w2 (n_v vs 0) 6 := congrArg v_iv (s2.2 _ _)
  have fe_0_13_2 : w_fi w1 (n_v vs 0) 13 = w_fi w2 (n_v vs 0) 13 := congrArg v_iv (s2.2 _ _)
  have hE_0_15_2 : ∀ j : Int, w_ei w1 (w_ar ws (n_v vs 0) 15) j = w_ei w2 (w_ar ws (n_v vs 0) 15) j := el_kp s2.1 r9 cr_0_15 (by decide)
  have hE_0_16_1 : ∀ j : Int, w_ei ws (w_ar ws (n_v vs 0) 16) j = w_ei w1 (w_ar ws (n_v vs 0) 16) j := el_kp s1.1 r13 cr_0_16 (by decide)
  have kz_0_6 := fdq_225 hD hth r0
  have kz_0_13 := fdq_261 hD hth r0
  have hrf0 : 0 ≤ v_iv (n_v vs 28) ∧ v_iv (n_v vs 28) ≤ 143 := vc_Ne_traceFaces_at_Nq_18_r0 (v_iv (n_v vs 3)) (v_iv (n_v vs 4)) (v_iv (n_v vs 10)) (v_iv (n_v vs 15)) (v_iv (n_v vs 22)) (v_iv (n_v vs 28)) (w_fi ws (n_v vs 0) 13) (w_fi ws (n_v vs 0) 6) (w_ei w2 (w_ar ws (n_v vs 0) 16)) (w_fi w2 (n_v vs 0) 6) (w_fi w2 (n_v vs 0) 13) (w_fi w1 (n_v vs 0) 6) (w_fi w1 (n_v vs 0) 13) (w_ei w1 (w_ar ws (n_v vs 0) 15)) (w_ei w2 (w_ar ws (n_v vs 0) 15)) (w_ei ws (w_ar ws (n_v vs 0) 16)) (w_ei w1 (w_ar ws (n_v vs 0) 16)) k4 k10 k15 k22 k28 (shm_364 f7) (shm_364 f14) h18 fe_0_6_1 fe_0_13_1 fe_0_6_2 fe_0_13_2 hE_0_15_2 hE_0_16_1 kz_0_6 kz_0_13
  have rf28 : tv_ok ta (0, 0, 143, []) (n_v vs 28) := tv_in t28 (by first | omega | grind) (by first | omega | grind)
  refine ⟨List.forall_mem_cons.mpr ⟨rf28, (fun _ h => (by cases h))⟩, [], trivial, ?_, (fun _ h => (by cases h))⟩
  rw [List.append_nil]
  exact (fun _ h => (by cases h))
set_option maxHeartbeats 4000000 in
theorem vc_Ne_traceFaces_at_Nq_19_0 (x2 : Int) (x3 : Int) (x4 : Int) (x5 : Int) (x10 : Int) (x12 : Int) (x15 : Int) (x20 : Int) (x22 : Int) (x30 : Int) (x31 : Int) (faces_0 : Int) (edges_0 : Int) (faceOf_2 : Int → Int) (edges_2 : Int) (faces_2 : Int) (edges_1 : Int) (faces_1 : Int) (rowNode_1 : Int → Int) (rowNode_2 : Int → Int) (faceOf_0 : Int → Int) (faceOf_1 : Int → Int) (k2 : 0 ≤ x2 ∧ x2 ≤ 143) (k3 : 0 ≤ x3 ∧ x3 ≤ 143) (k4 : 0 ≤ x4 ∧ x4 ≤ 143) (k5 : 0 ≤ x5 ∧ x5 ≤ 143) (k10 : (-1) ≤ x10 ∧ x10 ≤ (-1)) (k12 : 0 ≤ x12 ∧ x12 ≤ 143) (k15 : 0 ≤ x15 ∧ x15 ≤ 0) (k20 : 1 ≤ x20 ∧ x20 ≤ 144) (k22 : 1 ≤ x22 ∧ x22 ≤ 1) (k30 : 1 ≤ x30 ∧ x30 ≤ 143) (k31 : 1 ≤ x31 ∧ x31 ≤ 144) (g1 : x12 = faces_0) (f4 : x31 = x5 + 1) (f8 : x22 = x4 % 2) (f10 : x20 = x2 + 1) (f15 : x15 = x4 % 2) (h19 : x10 = faceOf_2 (x4)) (f22 : TFI (edges_2) (faces_2) (faceOf_2) (x3) (x2) (x4) (x5)) (fe_0_6_1 : edges_0 = edges_1) (fe_0_13_1 : faces_0 = faces_1) (fe_0_6_2 : edges_1 = edges_2) (fe_0_13_2 : faces_1 = faces_2) (hE_0_15_2 : ∀ j : Int, rowNode_1 j = rowNode_2 j) (hE_0_16_1 : ∀ j : Int, faceOf_0 j = faceOf_1 j) (hE_0_16_2 : ∀ j : Int, 0 ≤ j → (j = x4 → faceOf_1 j = x12) ∧ (j ≠ x4 → faceOf_1 j = faceOf_2 j)) (kz_0_6 : 0 ≤ edges_0 ∧ edges_0 ≤ 72) (kz_0_13 : 0 ≤ faces_0 ∧ faces_0 ≤ 144) : TFI (edges_0) (faces_0) (faceOf_0) (x3) (x20) (x30) (x31) := by
  subst fe_0_6_1
  subst fe_0_13_1
  subst fe_0_6_2
  subst fe_0_13_2
  have e_hE_0_15_2 := funext hE_0_15_2; subst e_hE_0_15_2
  have e_hE_0_16_1 := funext hE_0_16_1; subst e_hE_0_16_1
  first
    | (skip; (first | subst h19 | skip); exact tfi_start ‹TFO _ _ _ _ _› (by omega) (by omega) (by omega) (by omega))
    | (skip; (first | subst h19 | skip); exact tfi_step ‹TFI _ _ _ _ _ _ _› (by assumption) rfl (by omega) (by omega) (by omega) (by omega) (by omega) (by omega))
  
def o_Ne_traceFaces_at_Nq_19 : or_T := (55, 32, [(0, (2, 0, 0, [294])), (1, (2, 0, 0, [294])), (2, (0, 0, 143, [])), (3, (0, 0, 143, [])), (4, (0, 0, 143, [])), (5, (0, 0, 143, [])), (6, (0, 2, 2, [])), (7, (0, 0, 72, [])), (8, (0, 1, 144, [])), (9, (2, 0, 0, [293])), (10, (0, -1, -1, [])), (11, (0, -1, -1, [])), (12, (0, 0, 143, [])), (13, (2, 0, 0, [292])), (14, (0, 1, 1, [])), (15, (0, 0, 0, [])), (18, (0, 0, 71, [])), (20, (0, 1, 144, [])), (21, (0, 1, 1, [])), (22, (0, 1, 1, [])), (24, (0, 0, 71, [])), (27, (0, 1, 1, [])), (28, (0, 0, 143, [])), (30, (0, 1, 143, [])), (31, (0, 1, 144, []))], [(9, [13, 1], [15]), (9, [12, 1], [13]), (9, [9, 1], [16]), (9, [7, 1], [6]), (6, [31, 5], [1]), (16, [28, 4, 27], [2]), (11, [24, 4], [2]), (8, [22], [1]), (12, [22, 4], [2]), (16, [22, 4, 21], [0]), (6, [20, 2], [1]), (24, [0, 1], []), (100, [13, 2, 19], []), (11, [18, 4], [2]), (8, [15], [0]), (12, [15, 4], [2]), (16, [15, 4, 14], [0]), (100, [9, 4, 12], []), (7, [10, 11], [0]), (10, [10, 9, 4], []), (7, [5, 8], [2]), (3, [8, 6, 7], []), (20, [1, 3, 2, 4, 5], [60, 2, 1, 552, 6, 13, 16])], [], [], [(20, [1, 3, 20, 30, 31], [60, 2, 1, 552, 6, 13, 16])], [], [(31, 5, 1, 1), (31, 8, -4294967296, 0), (31, 2, -4294967296, 1), (20, 2, 1, 1), (5, 8, -4294967296, -1), (5, 2, -4294967296, 0)])
theorem oo_Ne_traceFaces_at_Nq_19 {kA : Nat → ClassId} : or_ok PRD kA GG o_Ne_traceFaces_at_Nq_19 := by
  refine or_mk fun A ta ws vs hD hth hl => ?_
  intro t0 r0 t1 r1 t2 k2 t3 k3 t4 k4 t5 k5 t6 k6 t7 k7 t8 k8 t9 r9 t10 k10 t11 k11 t12 k12 t13 r13 t14 k14 t15 k15 t18 k18 t20 k20 t21 k21 t22 k22 t24 k24 t27 k27 t28 k28 t30 k30 t31 k31 d0 d1 d2 d3 d4 d5 f0 f1 f2 f3 f4 f5 f6 f7 f8 f9 f10 f11 ta1 w1 le1 s1 f13 f14 f15 f16 ta2 w2 le2 s2 f18 f19 f20 f21 f22
  replace f1 := shm_361 f1
  replace f2 := shm_176 f2
  replace f4 := shm_4 f4
  replace f8 := shm_364 f8
  replace f10 := shm_4 f10
  replace f11 := shm_5 f11
  have s1 : (∀ b j, w_el ws b j = if b = v_ad (n_v vs 13) ∧ j = (v_iv (n_v vs 2)).toNat then v_iv (n_v vs 19) else w_el w1 b j) ∧ ∀ b k, w_fd ws b k = w_fd w1 b k := s1.2
  replace f15 := shm_364 f15
  have s2 : (∀ b j, w_el w1 b j = if b = v_ad (n_v vs 9) ∧ j = (v_iv (n_v vs 4)).toNat then v_iv (n_v vs 12) else w_el w2 b j) ∧ ∀ b k, w_fd w1 b k = w_fd w2 b k := s2.2
  replace f19 := shm_107 f19
  replace f22 := shm_1102 f22
  have q1 : n_v vs 1 = n_v vs 0 := f11.symm
  simp only [q1] at f1 f2 f22
  have cr_0_15 := fdq_263 hD hth r0
  have ar_0_16_1 : w_ar w1 (n_v vs 0) 16 = w_ar ws (n_v vs 0) 16 := congrArg v_ad (s1.2 _ _).symm
  have ar_0_16_2 : w_ar w2 (n_v vs 0) 16 = w_ar ws (n_v vs 0) 16 := by rw [← ar_0_16_1]; show v_ad (w_fd w2 _ _) = v_ad (w_fd w1 _ _); rw [s2.2]
  have cr_0_16 := fdq_260 hD hth r0
  have ad_9 : v_ad (n_v vs 9) = w_ar ws (n_v vs 0) 16 := congrArg v_ad f2
  have g1 : v_iv (n_v vs 12) = w_fi ws (n_v vs 0) 13 := congrArg v_iv f1
  simp only [ad_9] at f19
  have h19 : v_iv (n_v vs 10) = w_ei w2 (w_ar ws (n_v vs 0) 16) (v_iv (n_v vs 4)) := f19
  simp only [ar_0_16_2] at f22
  have fe_0_6_1 : w_fi ws (n_v vs 0) 6 = w_fi w1 (n_v vs 0) 6 := congrArg v_iv (s1.2 _ _)
  have fe_0_13_1 : w_fi ws (n_v vs 0) 13 = w_fi w1 (n_v vs 0) 13 := congrArg v_iv (s1.2 _ _)
  have fe_0_6_2 : w_fi w1 (n_v vs 0) 6 = w_fi w2 (n_v vs 0) 6 := congrArg v_iv (s2.2 _ _)
  have fe_0_13_2 : w_fi w1 (n_v vs 0) 13 = w_fi w2 (n_v vs 0) 13 := congrArg v_iv (s2.2 _ _)
  have hE_0_15_2 : ∀ j : Int, w_ei w1 (w_ar ws (n_v vs 0) 15) j = w_ei w2 (w_ar ws (n_v vs 0) 15) j := el_kp s2.1 r9 cr_0_15 (by decide)
  have hE_0_16_1 : ∀ j : Int, w_ei ws (w_ar ws (n_v vs 0) 16) j = w_ei w1 (w_ar ws (n_v vs 0) 16) j := el_kp s1.1 r13 cr_0_16 (by decide)
  have hE_0_16_2 : ∀ j : Int, 0 ≤ j → (j = v_iv (n_v vs 4) → w_ei w1 (w_ar ws (n_v vs 0) 16) j = v_iv (n_v vs 12)) ∧ (j ≠ v_iv (n_v vs 4) → w_ei w1 (w_ar ws (n_v vs 0) 16) j = w_ei w2 (w_ar ws (n_v vs 0) 16) j) := fun j hj => ⟨fun h => by unfold w_ei; rw [s2.1, if_pos ⟨ad_9.symm, by rw [h]⟩], fun h => by unfold w_ei; rw [s2.1, if_neg (fun e => h (by have := e.2; omega))]⟩
  have kz_0_6 := fdq_225 hD hth r0
  have kz_0_13 := fdq_261 hD hth r0
  have nf0 : fc_1 PRD (20, [1, 3, 20, 30, 31], [60, 2, 1, 552, 6, 13, 16]) ws (vs) := by
    refine ⟨nf_in hl rfl, sgq_1102 ?_⟩
    · show TFI (w_fi ws (n_v vs 1) 6) (w_fi ws (n_v vs 1) 13) (w_ei ws (w_ar ws (n_v vs 1) 16)) (v_iv (n_v vs 3)) (v_iv (n_v vs 20)) (v_iv (n_v vs 30)) (v_iv (n_v vs 31))
      rw [q1]
      exact vc_Ne_traceFaces_at_Nq_19_0 (v_iv (n_v vs 2)) (v_iv (n_v vs 3)) (v_iv (n_v vs 4)) (v_iv (n_v vs 5)) (v_iv (n_v vs 10)) (v_iv (n_v vs 12)) (v_iv (n_v vs 15)) (v_iv (n_v vs 20)) (v_iv (n_v vs 22)) (v_iv (n_v vs 30)) (v_iv (n_v vs 31)) (w_fi ws (n_v vs 0) 13) (w_fi ws (n_v vs 0) 6) (w_ei w2 (w_ar ws (n_v vs 0) 16)) (w_fi w2 (n_v vs 0) 6) (w_fi w2 (n_v vs 0) 13) (w_fi w1 (n_v vs 0) 6) (w_fi w1 (n_v vs 0) 13) (w_ei w1 (w_ar ws (n_v vs 0) 15)) (w_ei w2 (w_ar ws (n_v vs 0) 15)) (w_ei ws (w_ar ws (n_v vs 0) 16)) (w_ei w1 (w_ar ws (n_v vs 0) 16)) k2 k3 k4 k5 k10 k12 k15 k20 k22 k30 k31 g1 f4 f8 f10 f15 h19 f22 fe_0_6_1 fe_0_13_1 fe_0_6_2 fe_0_13_2 hE_0_15_2 hE_0_16_1 hE_0_16_2 kz_0_6 kz_0_13
  refine ⟨(fun _ h => (by cases h)), [], trivial, ?_, (fun _ h => (by cases h))⟩
  rw [List.append_nil]
  exact List.forall_mem_cons.mpr ⟨⟨show (20 : Nat) < 100 from by decide, nf0⟩, (fun _ h => (by cases h))⟩
set_option maxHeartbeats 4000000 in
theorem vc_Ne_traceFaces_at_Nq_20_0 (x2 : Int) (x3 : Int) (x4 : Int) (x5 : Int) (x10 : Int) (x12 : Int) (x15 : Int) (x20 : Int) (x22 : Int) (x30 : Int) (x31 : Int) (faces_0 : Int) (edges_0 : Int) (faceOf_2 : Int → Int) (edges_2 : Int) (faces_2 : Int) (edges_1 : Int) (faces_1 : Int) (rowNode_1 : Int → Int) (rowNode_2 : Int → Int) (faceOf_0 : Int → Int) (faceOf_1 : Int → Int) (k2 : 0 ≤ x2 ∧ x2 ≤ 143) (k3 : 0 ≤ x3 ∧ x3 ≤ 143) (k4 : 0 ≤ x4 ∧ x4 ≤ 143) (k5 : 0 ≤ x5 ∧ x5 ≤ 143) (k10 : (-1) ≤ x10 ∧ x10 ≤ (-1)) (k12 : 0 ≤ x12 ∧ x12 ≤ 143) (k15 : 0 ≤ x15 ∧ x15 ≤ 0) (k20 : 1 ≤ x20 ∧ x20 ≤ 144) (k22 : 1 ≤ x22 ∧ x22 ≤ 1) (k30 : 0 ≤ x30 ∧ x30 ≤ 142) (k31 : 1 ≤ x31 ∧ x31 ≤ 144) (g1 : x12 = faces_0) (f4 : x31 = x5 + 1) (f8 : x22 = x4 % 2) (f10 : x20 = x2 + 1) (f15 : x15 = x4 % 2) (h19 : x10 = faceOf_2 (x4)) (f22 : TFI (edges_2) (faces_2) (faceOf_2) (x3) (x2) (x4) (x5)) (fe_0_6_1 : edges_0 = edges_1) (fe_0_13_1 : faces_0 = faces_1) (fe_0_6_2 : edges_1 = edges_2) (fe_0_13_2 : faces_1 = faces_2) (hE_0_15_2 : ∀ j : Int, rowNode_1 j = rowNode_2 j) (hE_0_16_1 : ∀ j : Int, faceOf_0 j = faceOf_1 j) (hE_0_16_2 : ∀ j : Int, 0 ≤ j → (j = x4 → faceOf_1 j = x12) ∧ (j ≠ x4 → faceOf_1 j = faceOf_2 j)) (kz_0_6 : 0 ≤ edges_0 ∧ edges_0 ≤ 72) (kz_0_13 : 0 ≤ faces_0 ∧ faces_0 ≤ 144) : TFI (edges_0) (faces_0) (faceOf_0) (x3) (x20) (x30) (x31) := by
  subst fe_0_6_1
  subst fe_0_13_1
  subst fe_0_6_2
  subst fe_0_13_2
  have e_hE_0_15_2 := funext hE_0_15_2; subst e_hE_0_15_2
  have e_hE_0_16_1 := funext hE_0_16_1; subst e_hE_0_16_1
  first
    | (skip; (first | subst h19 | skip); exact tfi_start ‹TFO _ _ _ _ _› (by omega) (by omega) (by omega) (by omega))
    | (skip; (first | subst h19 | skip); exact tfi_step ‹TFI _ _ _ _ _ _ _› (by assumption) rfl (by omega) (by omega) (by omega) (by omega) (by omega) (by omega))
  
def o_Ne_traceFaces_at_Nq_20 : or_T := (55, 32, [(0, (2, 0, 0, [294])), (1, (2, 0, 0, [294])), (2, (0, 0, 143, [])), (3, (0, 0, 143, [])), (4, (0, 0, 143, [])), (5, (0, 0, 143, [])), (6, (0, 2, 2, [])), (7, (0, 0, 72, [])), (8, (0, 1, 144, [])), (9, (2, 0, 0, [293])), (10, (0, -1, -1, [])), (11, (0, -1, -1, [])), (12, (0, 0, 143, [])), (13, (2, 0, 0, [292])), (14, (0, 1, 1, [])), (15, (0, 0, 0, [])), (18, (0, 0, 71, [])), (20, (0, 1, 144, [])), (21, (0, 1, 1, [])), (22, (0, 1, 1, [])), (24, (0, 0, 71, [])), (27, (0, 1, 1, [])), (28, (0, 0, 143, [])), (30, (0, 0, 142, [])), (31, (0, 1, 144, []))], [(9, [13, 1], [15]), (9, [12, 1], [13]), (9, [9, 1], [16]), (9, [7, 1], [6]), (6, [31, 5], [1]), (16, [28, 4, 27], [2]), (11, [24, 4], [2]), (8, [22], [1]), (12, [22, 4], [2]), (16, [22, 4, 21], [0]), (6, [20, 2], [1]), (24, [0, 1], []), (100, [13, 2, 19], []), (11, [18, 4], [2]), (8, [15], [0]), (12, [15, 4], [2]), (16, [15, 4, 14], [0]), (100, [9, 4, 12], []), (7, [10, 11], [0]), (10, [10, 9, 4], []), (7, [5, 8], [2]), (3, [8, 6, 7], []), (20, [1, 3, 2, 4, 5], [60, 2, 1, 552, 6, 13, 16])], [], [], [(20, [1, 3, 20, 30, 31], [60, 2, 1, 552, 6, 13, 16])], [], [(31, 5, 1, 1), (31, 8, -4294967296, 0), (31, 2, -4294967296, 1), (20, 2, 1, 1), (5, 8, -4294967296, -1), (5, 2, -4294967296, 0)])
theorem oo_Ne_traceFaces_at_Nq_20 {kA : Nat → ClassId} : or_ok PRD kA GG o_Ne_traceFaces_at_Nq_20 := by
  refine or_mk fun A ta ws vs hD hth hl => ?_
  intro t0 r0 t1 r1 t2 k2 t3 k3 t4 k4 t5 k5 t6 k6 t7 k7 t8 k8 t9 r9 t10 k10 t11 k11 t12 k12 t13 r13 t14 k14 t15 k15 t18 k18 t20 k20 t21 k21 t22 k22 t24 k24 t27 k27 t28 k28 t30 k30 t31 k31 d0 d1 d2 d3 d4 d5 f0 f1 f2 f3 f4 f5 f6 f7 f8 f9 f10 f11 ta1 w1 le1 s1 f13 f14 f15 f16 ta2 w2 le2 s2 f18 f19 f20 f21 f22
  replace f1 := shm_361 f1
  replace f2 := shm_176 f2
  replace f4 := shm_4 f4
  replace f8 := shm_364 f8
  replace f10 := shm_4 f10
  replace f11 := shm_5 f11
  have s1 : (∀ b j, w_el ws b j = if b = v_ad (n_v vs 13) ∧ j = (v_iv (n_v vs 2)).toNat then v_iv (n_v vs 19) else w_el w1 b j) ∧ ∀ b k, w_fd ws b k = w_fd w1 b k := s1.2
  replace f15 := shm_364 f15
  have s2 : (∀ b j, w_el w1 b j = if b = v_ad (n_v vs 9) ∧ j = (v_iv (n_v vs 4)).toNat then v_iv (n_v vs 12) else w_el w2 b j) ∧ ∀ b k, w_fd w1 b k = w_fd w2 b k := s2.2
  replace f19 := shm_107 f19
  replace f22 := shm_1102 f22
  have q1 : n_v vs 1 = n_v vs 0 := f11.symm
  simp only [q1] at f1 f2 f22
  have cr_0_15 := fdq_263 hD hth r0
  have ar_0_16_1 : w_ar w1 (n_v vs 0) 16 = w_ar ws (n_v vs 0) 16 := congrArg v_ad (s1.2 _ _).symm
  have ar_0_16_2 : w_ar w2 (n_v vs 0) 16 = w_ar ws (n_v vs 0) 16 := by rw [← ar_0_16_1]; show v_ad (w_fd w2 _ _) = v_ad (w_fd w1 _ _); rw [s2.2]
  have cr_0_16 := fdq_260 hD hth r0
  have ad_9 : v_ad (n_v vs 9) = w_ar ws (n_v vs 0) 16 := congrArg v_ad f2
  have g1 : v_iv (n_v vs 12) = w_fi ws (n_v vs 0) 13 := congrArg v_iv f1
  simp only [ad_9] at f19
  have h19 : v_iv (n_v vs 10) = w_ei w2 (w_ar ws (n_v vs 0) 16) (v_iv (n_v vs 4)) := f19
  simp only [ar_0_16_2] at f22
  have fe_0_6_1 : w_fi ws (n_v vs 0) 6 = w_fi w1 (n_v vs 0) 6 := congrArg v_iv (s1.2 _ _)
  have fe_0_13_1 : w_fi ws (n_v vs 0) 13 = w_fi w1 (n_v vs 0) 13 := congrArg v_iv (s1.2 _ _)
  have fe_0_6_2 : w_fi w1 (n_v vs 0) 6 = w_fi w2 (n_v vs 0) 6 := congrArg v_iv (s2.2 _ _)
  have fe_0_13_2 : w_fi w1 (n_v vs 0) 13 = w_fi w2 (n_v vs 0) 13 := congrArg v_iv (s2.2 _ _)
  have hE_0_15_2 : ∀ j : Int, w_ei w1 (w_ar ws (n_v vs 0) 15) j = w_ei w2 (w_ar ws (n_v vs 0) 15) j := el_kp s2.1 r9 cr_0_15 (by decide)
  have hE_0_16_1 : ∀ j : Int, w_ei ws (w_ar ws (n_v vs 0) 16) j = w_ei w1 (w_ar ws (n_v vs 0) 16) j := el_kp s1.1 r13 cr_0_16 (by decide)
  have hE_0_16_2 : ∀ j : Int, 0 ≤ j → (j = v_iv (n_v vs 4) → w_ei w1 (w_ar ws (n_v vs 0) 16) j = v_iv (n_v vs 12)) ∧ (j ≠ v_iv (n_v vs 4) → w_ei w1 (w_ar ws (n_v vs 0) 16) j = w_ei w2 (w_ar ws (n_v vs 0) 16) j) := fun j hj => ⟨fun h => by unfold w_ei; rw [s2.1, if_pos ⟨ad_9.symm, by rw [h]⟩], fun h => by unfold w_ei; rw [s2.1, if_neg (fun e => h (by have := e.2; omega))]⟩
  have kz_0_6 := fdq_225 hD hth r0
  have kz_0_13 := fdq_261 hD hth r0
  have nf0 : fc_1 PRD (20, [1, 3, 20, 30, 31], [60, 2, 1, 552, 6, 13, 16]) ws (vs) := by
    refine ⟨nf_in hl rfl, sgq_1102 ?_⟩
    · show TFI (w_fi ws (n_v vs 1) 6) (w_fi ws (n_v vs 1) 13) (w_ei ws (w_ar ws (n_v vs 1) 16)) (v_iv (n_v vs 3)) (v_iv (n_v vs 20)) (v_iv (n_v vs 30)) (v_iv (n_v vs 31))
      rw [q1]
      exact vc_Ne_traceFaces_at_Nq_20_0 (v_iv (n_v vs 2)) (v_iv (n_v vs 3)) (v_iv (n_v vs 4)) (v_iv (n_v vs 5)) (v_iv (n_v vs 10)) (v_iv (n_v vs 12)) (v_iv (n_v vs 15)) (v_iv (n_v vs 20)) (v_iv (n_v vs 22)) (v_iv (n_v vs 30)) (v_iv (n_v vs 31)) (w_fi ws (n_v vs 0) 13) (w_fi ws (n_v vs 0) 6) (w_ei w2 (w_ar ws (n_v vs 0) 16)) (w_fi w2 (n_v vs 0) 6) (w_fi w2 (n_v vs 0) 13) (w_fi w1 (n_v vs 0) 6) (w_fi w1 (n_v vs 0) 13) (w_ei w1 (w_ar ws (n_v vs 0) 15)) (w_ei w2 (w_ar ws (n_v vs 0) 15)) (w_ei ws (w_ar ws (n_v vs 0) 16)) (w_ei w1 (w_ar ws (n_v vs 0) 16)) k2 k3 k4 k5 k10 k12 k15 k20 k22 k30 k31 g1 f4 f8 f10 f15 h19 f22 fe_0_6_1 fe_0_13_1 fe_0_6_2 fe_0_13_2 hE_0_15_2 hE_0_16_1 hE_0_16_2 kz_0_6 kz_0_13
  refine ⟨(fun _ h => (by cases h)), [], trivial, ?_, (fun _ h => (by cases h))⟩
  rw [List.append_nil]
  exact List.forall_mem_cons.mpr ⟨⟨show (20 : Nat) < 100 from by decide, nf0⟩, (fun _ h => (by cases h))⟩
set_option maxHeartbeats 4000000 in
theorem vc_Ne_traceFaces_at_Nq_21_r0 (x3 : Int) (x4 : Int) (x10 : Int) (x22 : Int) (x25 : Int) (x28 : Int) (x29 : Int) (faces_0 : Int) (edges_0 : Int) (faceOf_2 : Int → Int) (edges_2 : Int) (faces_2 : Int) (edges_1 : Int) (faces_1 : Int) (rowNode_1 : Int → Int) (rowNode_2 : Int → Int) (faceOf_0 : Int → Int) (faceOf_1 : Int → Int) (k4 : 0 ≤ x4 ∧ x4 ≤ 143) (k10 : (-1) ≤ x10 ∧ x10 ≤ (-1)) (k22 : 0 ≤ x22 ∧ x22 ≤ 0) (k25 : 0 ≤ x25 ∧ x25 ≤ 71) (k28 : 1 ≤ x28 ∧ x28 ≤ 1) (k29 : 0 ≤ x29 ∧ x29 ≤ 255) (f4 : bvp (x29) = bvp (x4) ^^^ bvp (x28)) (f5 : x25 = x4 / 2) (f7 : x22 = x4 % 2) (h18 : x10 = faceOf_2 (x4)) (fe_0_6_1 : edges_0 = edges_1) (fe_0_13_1 : faces_0 = faces_1) (fe_0_6_2 : edges_1 = edges_2) (fe_0_13_2 : faces_1 = faces_2) (hE_0_15_2 : ∀ j : Int, rowNode_1 j = rowNode_2 j) (hE_0_16_1 : ∀ j : Int, faceOf_0 j = faceOf_1 j) (kz_0_6 : 0 ≤ edges_0 ∧ edges_0 ≤ 72) (kz_0_13 : 0 ≤ faces_0 ∧ faces_0 ≤ 144) : 0 ≤ x29 ∧ x29 ≤ 143 := by
  subst fe_0_6_1
  subst fe_0_13_1
  subst fe_0_6_2
  subst fe_0_13_2
  have e_hE_0_15_2 := funext hE_0_15_2; subst e_hE_0_15_2
  have e_hE_0_16_1 := funext hE_0_16_1; subst e_hE_0_16_1
  first
    | omega
    | (have q := tfo_low ‹TFO _ _ _ _ _›; omega)
    | (skip; (first | subst h18 | skip); have q := tfc_lt (‹TFO _ _ _ _ _›).2.2.2.1 (e := x3) (by omega) (by omega) (by omega); have q2 := tfo_low ‹TFO _ _ _ _ _›; omega)
    | (skip; (first | subst h18 | skip); have q := (tfo_next (faces_zq := faces_0 + 1) (st_zq := x3 + 1) ‹TFI _ _ _ _ _ _ _› (by first | (left; omega) | (right; omega)) rfl rfl).2; have q2 := (‹TFI _ _ _ _ _ _ _›).2.2.1; omega)
    | (skip; (first | subst h18 | skip); have q := tfi_low ‹TFI _ _ _ _ _ _ _› (by omega) (by omega) (by omega); omega)
    | (have q := xor_one (x := x29) (a := x4) (b := x28) (by assumption) (by omega) (by omega) (by omega) (by omega) (by omega); split at q <;> omega)
  
def o_Ne_traceFaces_at_Nq_21 : or_T := (155, 30, [(0, (2, 0, 0, [294])), (1, (2, 0, 0, [294])), (2, (0, 0, 143, [])), (3, (0, 0, 143, [])), (4, (0, 0, 143, [])), (5, (0, 0, 143, [])), (6, (0, 2, 2, [])), (7, (0, 0, 72, [])), (8, (0, 1, 144, [])), (9, (2, 0, 0, [293])), (10, (0, -1, -1, [])), (11, (0, -1, -1, [])), (12, (0, 0, 143, [])), (13, (2, 0, 0, [292])), (14, (0, 1, 1, [])), (15, (0, 0, 0, [])), (18, (0, 0, 71, [])), (20, (0, 1, 144, [])), (21, (0, 1, 1, [])), (22, (0, 0, 0, [])), (25, (0, 0, 71, [])), (28, (0, 1, 1, [])), (29, (0, 0, 255, []))], [(9, [13, 1], [15]), (9, [12, 1], [13]), (9, [9, 1], [16]), (9, [7, 1], [6]), (16, [29, 4, 28], [2]), (11, [25, 4], [2]), (8, [22], [0]), (12, [22, 4], [2]), (16, [22, 4, 21], [0]), (6, [20, 2], [1]), (24, [0, 1], []), (100, [13, 2, 19], []), (11, [18, 4], [2]), (8, [15], [0]), (12, [15, 4], [2]), (16, [15, 4, 14], [0]), (100, [9, 4, 12], []), (7, [10, 11], [0]), (10, [10, 9, 4], []), (7, [5, 8], [2]), (3, [8, 6, 7], []), (20, [1, 3, 2, 4, 5], [60, 2, 1, 552, 6, 13, 16])], [(29, (0, 0, 143, []))], [], [], [], [(20, 2, 1, 1), (5, 8, -4294967296, -1), (5, 2, -4294967296, 0)])
theorem oo_Ne_traceFaces_at_Nq_21 {kA : Nat → ClassId} : or_ok PRD kA GG o_Ne_traceFaces_at_Nq_21 := by
  refine or_mk fun A ta ws vs hD hth hl => ?_
  intro t0 r0 t1 r1 t2 k2 t3 k3 t4 k4 t5 k5 t6 k6 t7 k7 t8 k8 t9 r9 t10 k10 t11 k11 t12 k12 t13 r13 t14 k14 t15 k15 t18 k18 t20 k20 t21 k21 t22 k22 t25 k25 t28 k28 t29 k29 d0 d1 d2 f0 f1 f2 f3 f4 f5 f6 f7 f8 f9 f10 ta1 w1 le1 s1 f12 f13 f14 f15 ta2 w2 le2 s2 f17 f18 f19 f20 f21
  replace f2 := shm_176 f2
  replace f10 := shm_5 f10
  have s1 : (∀ b j, w_el ws b j = if b = v_ad (n_v vs 13) ∧ j = (v_iv (n_v vs 2)).toNat then v_iv (n_v vs 19) else w_el w1 b j) ∧ ∀ b k, w_fd ws b k = w_fd w1 b k := s1.2
  have s2 : (∀ b j, w_el w1 b j = if b = v_ad (n_v vs 9) ∧ j = (v_iv (n_v vs 4)).toNat then v_iv (n_v vs 12) else w_el w2 b j) ∧ ∀ b k, w_fd w1 b k = w_fd w2 b k := s2.2
  replace f18 := shm_107 f18
  have q1 : n_v vs 1 = n_v vs 0 := f10.symm
  simp only [q1] at f2
  have cr_0_15 := fdq_263 hD hth r0
  have cr_0_16 := fdq_260 hD hth r0
  have ad_9 : v_ad (n_v vs 9) = w_ar ws (n_v vs 0) 16 := congrArg v_ad f2
  simp only [ad_9] at f18
  have h18 : v_iv (n_v vs 10) = w_ei w2 (w_ar ws (n_v vs 0) 16) (v_iv (n_v vs 4)) := f18
  have fe_0_6_1 : w_fi ws (n_v vs 0) 6 = w_fi w1 (n_v vs 0) 6 := congrArg v_iv (s1.2 _ _)
  have fe_0_13_1 : w_fi ws (n_v vs 0) 13 = w_fi w1 (n_v vs 0) 13 := congrArg v_iv (s1.2 _ _)
  have fe_0_6_2 : w_fi w1 (n_v vs 0) 6 = w_fi w2 (n_v vs 0) 6 := congrArg v_iv (s2.2 _ _)
  have fe_0_13_2 : w_fi w1 (n_v vs 0) 13 = w_fi w2 (n_v vs 0) 13 := congrArg v_iv (s2.2 _ _)
  have hE_0_15_2 : ∀ j : Int, w_ei w1 (w_ar ws (n_v vs 0) 15) j = w_ei w2 (w_ar ws (n_v vs 0) 15) j := el_kp s2.1 r9 cr_0_15 (by decide)
  have hE_0_16_1 : ∀ j : Int, w_ei ws (w_ar ws (n_v vs 0) 16) j = w_ei w1 (w_ar ws (n_v vs 0) 16) j := el_kp s1.1 r13 cr_0_16 (by decide)
  have kz_0_6 := fdq_225 hD hth r0
  have kz_0_13 := fdq_261 hD hth r0
  have hrf0 : 0 ≤ v_iv (n_v vs 29) ∧ v_iv (n_v vs 29) ≤ 143 := vc_Ne_traceFaces_at_Nq_21_r0 (v_iv (n_v vs 3)) (v_iv (n_v vs 4)) (v_iv (n_v vs 10)) (v_iv (n_v vs 22)) (v_iv (n_v vs 25)) (v_iv (n_v vs 28)) (v_iv (n_v vs 29)) (w_fi ws (n_v vs 0) 13) (w_fi ws (n_v vs 0) 6) (w_ei w2 (w_ar ws (n_v vs 0) 16)) (w_fi w2 (n_v vs 0) 6) (w_fi w2 (n_v vs 0) 13) (w_fi w1 (n_v vs 0) 6) (w_fi w1 (n_v vs 0) 13) (w_ei w1 (w_ar ws (n_v vs 0) 15)) (w_ei w2 (w_ar ws (n_v vs 0) 15)) (w_ei ws (w_ar ws (n_v vs 0) 16)) (w_ei w1 (w_ar ws (n_v vs 0) 16)) k4 k10 k22 k25 k28 k29 (shm_33 f4) (shm_585 f5) (shm_364 f7) h18 fe_0_6_1 fe_0_13_1 fe_0_6_2 fe_0_13_2 hE_0_15_2 hE_0_16_1 kz_0_6 kz_0_13
  have rf29 : tv_ok ta (0, 0, 143, []) (n_v vs 29) := tv_in t29 (by first | omega | grind) (by first | omega | grind)
  refine ⟨List.forall_mem_cons.mpr ⟨rf29, (fun _ h => (by cases h))⟩, [], trivial, ?_, (fun _ h => (by cases h))⟩
  rw [List.append_nil]
  exact (fun _ h => (by cases h))
set_option maxHeartbeats 4000000 in
theorem vc_Ne_traceFaces_at_Nq_22_0 (x2 : Int) (x3 : Int) (x4 : Int) (x5 : Int) (x10 : Int) (x12 : Int) (x18 : Int) (x20 : Int) (x22 : Int) (x31 : Int) (x32 : Int) (faces_0 : Int) (edges_0 : Int) (faceOf_2 : Int → Int) (edges_2 : Int) (faces_2 : Int) (edges_1 : Int) (faces_1 : Int) (rowNode_1 : Int → Int) (rowNode_2 : Int → Int) (faceOf_0 : Int → Int) (faceOf_1 : Int → Int) (k2 : 0 ≤ x2 ∧ x2 ≤ 143) (k3 : 0 ≤ x3 ∧ x3 ≤ 143) (k4 : 0 ≤ x4 ∧ x4 ≤ 143) (k5 : 0 ≤ x5 ∧ x5 ≤ 143) (k10 : (-1) ≤ x10 ∧ x10 ≤ (-1)) (k12 : 0 ≤ x12 ∧ x12 ≤ 143) (k18 : 0 ≤ x18 ∧ x18 ≤ 71) (k20 : 1 ≤ x20 ∧ x20 ≤ 144) (k22 : 0 ≤ x22 ∧ x22 ≤ 0) (k31 : 1 ≤ x31 ∧ x31 ≤ 143) (k32 : 1 ≤ x32 ∧ x32 ≤ 144) (g1 : x12 = faces_0) (f4 : x32 = x5 + 1) (f8 : x22 = x4 % 2) (f10 : x20 = x2 + 1) (f13 : x18 = x4 / 2) (h19 : x10 = faceOf_2 (x4)) (f22 : TFI (edges_2) (faces_2) (faceOf_2) (x3) (x2) (x4) (x5)) (fe_0_6_1 : edges_0 = edges_1) (fe_0_13_1 : faces_0 = faces_1) (fe_0_6_2 : edges_1 = edges_2) (fe_0_13_2 : faces_1 = faces_2) (hE_0_15_2 : ∀ j : Int, rowNode_1 j = rowNode_2 j) (hE_0_16_1 : ∀ j : Int, faceOf_0 j = faceOf_1 j) (hE_0_16_2 : ∀ j : Int, 0 ≤ j → (j = x4 → faceOf_1 j = x12) ∧ (j ≠ x4 → faceOf_1 j = faceOf_2 j)) (kz_0_6 : 0 ≤ edges_0 ∧ edges_0 ≤ 72) (kz_0_13 : 0 ≤ faces_0 ∧ faces_0 ≤ 144) : TFI (edges_0) (faces_0) (faceOf_0) (x3) (x20) (x31) (x32) := by
  subst fe_0_6_1
  subst fe_0_13_1
  subst fe_0_6_2
  subst fe_0_13_2
  have e_hE_0_15_2 := funext hE_0_15_2; subst e_hE_0_15_2
  have e_hE_0_16_1 := funext hE_0_16_1; subst e_hE_0_16_1
  first
    | (skip; (first | subst h19 | skip); exact tfi_start ‹TFO _ _ _ _ _› (by omega) (by omega) (by omega) (by omega))
    | (skip; (first | subst h19 | skip); exact tfi_step ‹TFI _ _ _ _ _ _ _› (by assumption) rfl (by omega) (by omega) (by omega) (by omega) (by omega) (by omega))
  
def o_Ne_traceFaces_at_Nq_22 : or_T := (55, 33, [(0, (2, 0, 0, [294])), (1, (2, 0, 0, [294])), (2, (0, 0, 143, [])), (3, (0, 0, 143, [])), (4, (0, 0, 143, [])), (5, (0, 0, 143, [])), (6, (0, 2, 2, [])), (7, (0, 0, 72, [])), (8, (0, 1, 144, [])), (9, (2, 0, 0, [293])), (10, (0, -1, -1, [])), (11, (0, -1, -1, [])), (12, (0, 0, 143, [])), (13, (2, 0, 0, [292])), (14, (0, 1, 1, [])), (15, (0, 0, 0, [])), (18, (0, 0, 71, [])), (20, (0, 1, 144, [])), (21, (0, 1, 1, [])), (22, (0, 0, 0, [])), (25, (0, 0, 71, [])), (28, (0, 1, 1, [])), (29, (0, 0, 143, [])), (31, (0, 1, 143, [])), (32, (0, 1, 144, []))], [(9, [13, 1], [15]), (9, [12, 1], [13]), (9, [9, 1], [16]), (9, [7, 1], [6]), (6, [32, 5], [1]), (16, [29, 4, 28], [2]), (11, [25, 4], [2]), (8, [22], [0]), (12, [22, 4], [2]), (16, [22, 4, 21], [0]), (6, [20, 2], [1]), (24, [0, 1], []), (100, [13, 2, 19], []), (11, [18, 4], [2]), (8, [15], [0]), (12, [15, 4], [2]), (16, [15, 4, 14], [0]), (100, [9, 4, 12], []), (7, [10, 11], [0]), (10, [10, 9, 4], []), (7, [5, 8], [2]), (3, [8, 6, 7], []), (20, [1, 3, 2, 4, 5], [60, 2, 1, 552, 6, 13, 16])], [], [], [(20, [1, 3, 20, 31, 32], [60, 2, 1, 552, 6, 13, 16])], [], [(32, 5, 1, 1), (32, 8, -4294967296, 0), (32, 2, -4294967296, 1), (20, 2, 1, 1), (5, 8, -4294967296, -1), (5, 2, -4294967296, 0)])
theorem oo_Ne_traceFaces_at_Nq_22 {kA : Nat → ClassId} : or_ok PRD kA GG o_Ne_traceFaces_at_Nq_22 := by
  refine or_mk fun A ta ws vs hD hth hl => ?_
  intro t0 r0 t1 r1 t2 k2 t3 k3 t4 k4 t5 k5 t6 k6 t7 k7 t8 k8 t9 r9 t10 k10 t11 k11 t12 k12 t13 r13 t14 k14 t15 k15 t18 k18 t20 k20 t21 k21 t22 k22 t25 k25 t28 k28 t29 k29 t31 k31 t32 k32 d0 d1 d2 d3 d4 d5 f0 f1 f2 f3 f4 f5 f6 f7 f8 f9 f10 f11 ta1 w1 le1 s1 f13 f14 f15 f16 ta2 w2 le2 s2 f18 f19 f20 f21 f22
  replace f1 := shm_361 f1
  replace f2 := shm_176 f2
  replace f4 := shm_4 f4
  replace f8 := shm_364 f8
  replace f10 := shm_4 f10
  replace f11 := shm_5 f11
  have s1 : (∀ b j, w_el ws b j = if b = v_ad (n_v vs 13) ∧ j = (v_iv (n_v vs 2)).toNat then v_iv (n_v vs 19) else w_el w1 b j) ∧ ∀ b k, w_fd ws b k = w_fd w1 b k := s1.2
  replace f13 := shm_585 f13
  have s2 : (∀ b j, w_el w1 b j = if b = v_ad (n_v vs 9) ∧ j = (v_iv (n_v vs 4)).toNat then v_iv (n_v vs 12) else w_el w2 b j) ∧ ∀ b k, w_fd w1 b k = w_fd w2 b k := s2.2
  replace f19 := shm_107 f19
  replace f22 := shm_1102 f22
  have q1 : n_v vs 1 = n_v vs 0 := f11.symm
  simp only [q1] at f1 f2 f22
  have cr_0_15 := fdq_263 hD hth r0
  have ar_0_16_1 : w_ar w1 (n_v vs 0) 16 = w_ar ws (n_v vs 0) 16 := congrArg v_ad (s1.2 _ _).symm
  have ar_0_16_2 : w_ar w2 (n_v vs 0) 16 = w_ar ws (n_v vs 0) 16 := by rw [← ar_0_16_1]; show v_ad (w_fd w2 _ _) = v_ad (w_fd w1 _ _); rw [s2.2]
  have cr_0_16 := fdq_260 hD hth r0
  have ad_9 : v_ad (n_v vs 9) = w_ar ws (n_v vs 0) 16 := congrArg v_ad f2
  have g1 : v_iv (n_v vs 12) = w_fi ws (n_v vs 0) 13 := congrArg v_iv f1
  simp only [ad_9] at f19
  have h19 : v_iv (n_v vs 10) = w_ei w2 (w_ar ws (n_v vs 0) 16) (v_iv (n_v vs 4)) := f19
  simp only [ar_0_16_2] at f22
  have fe_0_6_1 : w_fi ws (n_v vs 0) 6 = w_fi w1 (n_v vs 0) 6 := congrArg v_iv (s1.2 _ _)
  have fe_0_13_1 : w_fi ws (n_v vs 0) 13 = w_fi w1 (n_v vs 0) 13 := congrArg v_iv (s1.2 _ _)
  have fe_0_6_2 : w_fi w1 (n_v vs 0) 6 = w_fi w2 (n_v vs 0) 6 := congrArg v_iv (s2.2 _ _)
  have fe_0_13_2 : w_fi w1 (n_v vs 0) 13 = w_fi w2 (n_v vs 0) 13 := congrArg v_iv (s2.2 _ _)
  have hE_0_15_2 : ∀ j : Int, w_ei w1 (w_ar ws (n_v vs 0) 15) j = w_ei w2 (w_ar ws (n_v vs 0) 15) j := el_kp s2.1 r9 cr_0_15 (by decide)
  have hE_0_16_1 : ∀ j : Int, w_ei ws (w_ar ws (n_v vs 0) 16) j = w_ei w1 (w_ar ws (n_v vs 0) 16) j := el_kp s1.1 r13 cr_0_16 (by decide)
  have hE_0_16_2 : ∀ j : Int, 0 ≤ j → (j = v_iv (n_v vs 4) → w_ei w1 (w_ar ws (n_v vs 0) 16) j = v_iv (n_v vs 12)) ∧ (j ≠ v_iv (n_v vs 4) → w_ei w1 (w_ar ws (n_v vs 0) 16) j = w_ei w2 (w_ar ws (n_v vs 0) 16) j) := fun j hj => ⟨fun h => by unfold w_ei; rw [s2.1, if_pos ⟨ad_9.symm, by rw [h]⟩], fun h => by unfold w_ei; rw [s2.1, if_neg (fun e => h (by have := e.2; omega))]⟩
  have kz_0_6 := fdq_225 hD hth r0
  have kz_0_13 := fdq_261 hD hth r0
  have nf0 : fc_1 PRD (20, [1, 3, 20, 31, 32], [60, 2, 1, 552, 6, 13, 16]) ws (vs) := by
    refine ⟨nf_in hl rfl, sgq_1102 ?_⟩
    · show TFI (w_fi ws (n_v vs 1) 6) (w_fi ws (n_v vs 1) 13) (w_ei ws (w_ar ws (n_v vs 1) 16)) (v_iv (n_v vs 3)) (v_iv (n_v vs 20)) (v_iv (n_v vs 31)) (v_iv (n_v vs 32))
      rw [q1]
      exact vc_Ne_traceFaces_at_Nq_22_0 (v_iv (n_v vs 2)) (v_iv (n_v vs 3)) (v_iv (n_v vs 4)) (v_iv (n_v vs 5)) (v_iv (n_v vs 10)) (v_iv (n_v vs 12)) (v_iv (n_v vs 18)) (v_iv (n_v vs 20)) (v_iv (n_v vs 22)) (v_iv (n_v vs 31)) (v_iv (n_v vs 32)) (w_fi ws (n_v vs 0) 13) (w_fi ws (n_v vs 0) 6) (w_ei w2 (w_ar ws (n_v vs 0) 16)) (w_fi w2 (n_v vs 0) 6) (w_fi w2 (n_v vs 0) 13) (w_fi w1 (n_v vs 0) 6) (w_fi w1 (n_v vs 0) 13) (w_ei w1 (w_ar ws (n_v vs 0) 15)) (w_ei w2 (w_ar ws (n_v vs 0) 15)) (w_ei ws (w_ar ws (n_v vs 0) 16)) (w_ei w1 (w_ar ws (n_v vs 0) 16)) k2 k3 k4 k5 k10 k12 k18 k20 k22 k31 k32 g1 f4 f8 f10 f13 h19 f22 fe_0_6_1 fe_0_13_1 fe_0_6_2 fe_0_13_2 hE_0_15_2 hE_0_16_1 hE_0_16_2 kz_0_6 kz_0_13
  refine ⟨(fun _ h => (by cases h)), [], trivial, ?_, (fun _ h => (by cases h))⟩
  rw [List.append_nil]
  exact List.forall_mem_cons.mpr ⟨⟨show (20 : Nat) < 100 from by decide, nf0⟩, (fun _ h => (by cases h))⟩
set_option maxHeartbeats 4000000 in
theorem vc_Ne_traceFaces_at_Nq_23_0 (x2 : Int) (x3 : Int) (x4 : Int) (x5 : Int) (x10 : Int) (x12 : Int) (x18 : Int) (x20 : Int) (x22 : Int) (x31 : Int) (x32 : Int) (faces_0 : Int) (edges_0 : Int) (faceOf_2 : Int → Int) (edges_2 : Int) (faces_2 : Int) (edges_1 : Int) (faces_1 : Int) (rowNode_1 : Int → Int) (rowNode_2 : Int → Int) (faceOf_0 : Int → Int) (faceOf_1 : Int → Int) (k2 : 0 ≤ x2 ∧ x2 ≤ 143) (k3 : 0 ≤ x3 ∧ x3 ≤ 143) (k4 : 0 ≤ x4 ∧ x4 ≤ 143) (k5 : 0 ≤ x5 ∧ x5 ≤ 143) (k10 : (-1) ≤ x10 ∧ x10 ≤ (-1)) (k12 : 0 ≤ x12 ∧ x12 ≤ 143) (k18 : 0 ≤ x18 ∧ x18 ≤ 71) (k20 : 1 ≤ x20 ∧ x20 ≤ 144) (k22 : 0 ≤ x22 ∧ x22 ≤ 0) (k31 : 0 ≤ x31 ∧ x31 ≤ 142) (k32 : 1 ≤ x32 ∧ x32 ≤ 144) (g1 : x12 = faces_0) (f4 : x32 = x5 + 1) (f8 : x22 = x4 % 2) (f10 : x20 = x2 + 1) (f13 : x18 = x4 / 2) (h19 : x10 = faceOf_2 (x4)) (f22 : TFI (edges_2) (faces_2) (faceOf_2) (x3) (x2) (x4) (x5)) (fe_0_6_1 : edges_0 = edges_1) (fe_0_13_1 : faces_0 = faces_1) (fe_0_6_2 : edges_1 = edges_2) (fe_0_13_2 : faces_1 = faces_2) (hE_0_15_2 : ∀ j : Int, rowNode_1 j = rowNode_2 j) (hE_0_16_1 : ∀ j : Int, faceOf_0 j = faceOf_1 j) (hE_0_16_2 : ∀ j : Int, 0 ≤ j → (j = x4 → faceOf_1 j = x12) ∧ (j ≠ x4 → faceOf_1 j = faceOf_2 j)) (kz_0_6 : 0 ≤ edges_0 ∧ edges_0 ≤ 72) (kz_0_13 : 0 ≤ faces_0 ∧ faces_0 ≤ 144) : TFI (edges_0) (faces_0) (faceOf_0) (x3) (x20) (x31) (x32) := by
  subst fe_0_6_1
  subst fe_0_13_1
  subst fe_0_6_2
  subst fe_0_13_2
  have e_hE_0_15_2 := funext hE_0_15_2; subst e_hE_0_15_2
  have e_hE_0_16_1 := funext hE_0_16_1; subst e_hE_0_16_1
  first
    | (skip; (first | subst h19 | skip); exact tfi_start ‹TFO _ _ _ _ _› (by omega) (by omega) (by omega) (by omega))
    | (skip; (first | subst h19 | skip); exact tfi_step ‹TFI _ _ _ _ _ _ _› (by assumption) rfl (by omega) (by omega) (by omega) (by omega) (by omega) (by omega))
  
def o_Ne_traceFaces_at_Nq_23 : or_T := (55, 33, [(0, (2, 0, 0, [294])), (1, (2, 0, 0, [294])), (2, (0, 0, 143, [])), (3, (0, 0, 143, [])), (4, (0, 0, 143, [])), (5, (0, 0, 143, [])), (6, (0, 2, 2, [])), (7, (0, 0, 72, [])), (8, (0, 1, 144, [])), (9, (2, 0, 0, [293])), (10, (0, -1, -1, [])), (11, (0, -1, -1, [])), (12, (0, 0, 143, [])), (13, (2, 0, 0, [292])), (14, (0, 1, 1, [])), (15, (0, 0, 0, [])), (18, (0, 0, 71, [])), (20, (0, 1, 144, [])), (21, (0, 1, 1, [])), (22, (0, 0, 0, [])), (25, (0, 0, 71, [])), (28, (0, 1, 1, [])), (29, (0, 0, 143, [])), (31, (0, 0, 142, [])), (32, (0, 1, 144, []))], [(9, [13, 1], [15]), (9, [12, 1], [13]), (9, [9, 1], [16]), (9, [7, 1], [6]), (6, [32, 5], [1]), (16, [29, 4, 28], [2]), (11, [25, 4], [2]), (8, [22], [0]), (12, [22, 4], [2]), (16, [22, 4, 21], [0]), (6, [20, 2], [1]), (24, [0, 1], []), (100, [13, 2, 19], []), (11, [18, 4], [2]), (8, [15], [0]), (12, [15, 4], [2]), (16, [15, 4, 14], [0]), (100, [9, 4, 12], []), (7, [10, 11], [0]), (10, [10, 9, 4], []), (7, [5, 8], [2]), (3, [8, 6, 7], []), (20, [1, 3, 2, 4, 5], [60, 2, 1, 552, 6, 13, 16])], [], [], [(20, [1, 3, 20, 31, 32], [60, 2, 1, 552, 6, 13, 16])], [], [(32, 5, 1, 1), (32, 8, -4294967296, 0), (32, 2, -4294967296, 1), (20, 2, 1, 1), (5, 8, -4294967296, -1), (5, 2, -4294967296, 0)])
theorem oo_Ne_traceFaces_at_Nq_23 {kA : Nat → ClassId} : or_ok PRD kA GG o_Ne_traceFaces_at_Nq_23 := by
  refine or_mk fun A ta ws vs hD hth hl => ?_
  intro t0 r0 t1 r1 t2 k2 t3 k3 t4 k4 t5 k5 t6 k6 t7 k7 t8 k8 t9 r9 t10 k10 t11 k11 t12 k12 t13 r13 t14 k14 t15 k15 t18 k18 t20 k20 t21 k21 t22 k22 t25 k25 t28 k28 t29 k29 t31 k31 t32 k32 d0 d1 d2 d3 d4 d5 f0 f1 f2 f3 f4 f5 f6 f7 f8 f9 f10 f11 ta1 w1 le1 s1 f13 f14 f15 f16 ta2 w2 le2 s2 f18 f19 f20 f21 f22
  replace f1 := shm_361 f1
  replace f2 := shm_176 f2
  replace f4 := shm_4 f4
  replace f8 := shm_364 f8
  replace f10 := shm_4 f10
  replace f11 := shm_5 f11
  have s1 : (∀ b j, w_el ws b j = if b = v_ad (n_v vs 13) ∧ j = (v_iv (n_v vs 2)).toNat then v_iv (n_v vs 19) else w_el w1 b j) ∧ ∀ b k, w_fd ws b k = w_fd w1 b k := s1.2
  replace f13 := shm_585 f13
  have s2 : (∀ b j, w_el w1 b j = if b = v_ad (n_v vs 9) ∧ j = (v_iv (n_v vs 4)).toNat then v_iv (n_v vs 12) else w_el w2 b j) ∧ ∀ b k, w_fd w1 b k = w_fd w2 b k := s2.2
  replace f19 := shm_107 f19
  replace f22 := shm_1102 f22
  have q1 : n_v vs 1 = n_v vs 0 := f11.symm
  simp only [q1] at f1 f2 f22
  have cr_0_15 := fdq_263 hD hth r0
  have ar_0_16_1 : w_ar w1 (n_v vs 0) 16 = w_ar ws (n_v vs 0) 16 := congrArg v_ad (s1.2 _ _).symm
  have ar_0_16_2 : w_ar w2 (n_v vs 0) 16 = w_ar ws (n_v vs 0) 16 := by rw [← ar_0_16_1]; show v_ad (w_fd w2 _ _) = v_ad (w_fd w1 _ _); rw [s2.2]
  have cr_0_16 := fdq_260 hD hth r0
  have ad_9 : v_ad (n_v vs 9) = w_ar ws (n_v vs 0) 16 := congrArg v_ad f2
  have g1 : v_iv (n_v vs 12) = w_fi ws (n_v vs 0) 13 := congrArg v_iv f1
  simp only [ad_9] at f19
  have h19 : v_iv (n_v vs 10) = w_ei w2 (w_ar ws (n_v vs 0) 16) (v_iv (n_v vs 4)) := f19
  simp only [ar_0_16_2] at f22
  have fe_0_6_1 : w_fi ws (n_v vs 0) 6 = w_fi w1 (n_v vs 0) 6 := congrArg v_iv (s1.2 _ _)
  have fe_0_13_1 : w_fi ws (n_v vs 0) 13 = w_fi w1 (n_v vs 0) 13 := congrArg v_iv (s1.2 _ _)
  have fe_0_6_2 : w_fi w1 (n_v vs 0) 6 = w_fi w2 (n_v vs 0) 6 := congrArg v_iv (s2.2 _ _)
  have fe_0_13_2 : w_fi w1 (n_v vs 0) 13 = w_fi w2 (n_v vs 0) 13 := congrArg v_iv (s2.2 _ _)
  have hE_0_15_2 : ∀ j : Int, w_ei w1 (w_ar ws (n_v vs 0) 15) j = w_ei w2 (w_ar ws (n_v vs 0) 15) j := el_kp s2.1 r9 cr_0_15 (by decide)
  have hE_0_16_1 : ∀ j : Int, w_ei ws (w_ar ws (n_v vs 0) 16) j = w_ei w1 (w_ar ws (n_v vs 0) 16) j := el_kp s1.1 r13 cr_0_16 (by decide)
  have hE_0_16_2 : ∀ j : Int, 0 ≤ j → (j = v_iv (n_v vs 4) → w_ei w1 (w_ar ws (n_v vs 0) 16) j = v_iv (n_v vs 12)) ∧ (j ≠ v_iv (n_v vs 4) → w_ei w1 (w_ar ws (n_v vs 0) 16) j = w_ei w2 (w_ar ws (n_v vs 0) 16) j) := fun j hj => ⟨fun h => by unfold w_ei; rw [s2.1, if_pos ⟨ad_9.symm, by rw [h]⟩], fun h => by unfold w_ei; rw [s2.1, if_neg (fun e => h (by have := e.2; omega))]⟩
  have kz_0_6 := fdq_225 hD hth r0
  have kz_0_13 := fdq_261 hD hth r0
  have nf0 : fc_1 PRD (20, [1, 3, 20, 31, 32], [60, 2, 1, 552, 6, 13, 16]) ws (vs) := by
    refine ⟨nf_in hl rfl, sgq_1102 ?_⟩
    · show TFI (w_fi ws (n_v vs 1) 6) (w_fi ws (n_v vs 1) 13) (w_ei ws (w_ar ws (n_v vs 1) 16)) (v_iv (n_v vs 3)) (v_iv (n_v vs 20)) (v_iv (n_v vs 31)) (v_iv (n_v vs 32))
      rw [q1]
      exact vc_Ne_traceFaces_at_Nq_23_0 (v_iv (n_v vs 2)) (v_iv (n_v vs 3)) (v_iv (n_v vs 4)) (v_iv (n_v vs 5)) (v_iv (n_v vs 10)) (v_iv (n_v vs 12)) (v_iv (n_v vs 18)) (v_iv (n_v vs 20)) (v_iv (n_v vs 22)) (v_iv (n_v vs 31)) (v_iv (n_v vs 32)) (w_fi ws (n_v vs 0) 13) (w_fi ws (n_v vs 0) 6) (w_ei w2 (w_ar ws (n_v vs 0) 16)) (w_fi w2 (n_v vs 0) 6) (w_fi w2 (n_v vs 0) 13) (w_fi w1 (n_v vs 0) 6) (w_fi w1 (n_v vs 0) 13) (w_ei w1 (w_ar ws (n_v vs 0) 15)) (w_ei w2 (w_ar ws (n_v vs 0) 15)) (w_ei ws (w_ar ws (n_v vs 0) 16)) (w_ei w1 (w_ar ws (n_v vs 0) 16)) k2 k3 k4 k5 k10 k12 k18 k20 k22 k31 k32 g1 f4 f8 f10 f13 h19 f22 fe_0_6_1 fe_0_13_1 fe_0_6_2 fe_0_13_2 hE_0_15_2 hE_0_16_1 hE_0_16_2 kz_0_6 kz_0_13
  refine ⟨(fun _ h => (by cases h)), [], trivial, ?_, (fun _ h => (by cases h))⟩
  rw [List.append_nil]
  exact List.forall_mem_cons.mpr ⟨⟨show (20 : Nat) < 100 from by decide, nf0⟩, (fun _ h => (by cases h))⟩
def n_Ne_traceFaces_at_Nq_an : List an_T := [(17, [(0, (2, 0, 0, [294])), (1, (0, 0, 144, [])), (2, (0, 0, 144, []))], [], (0, 0), [(0, 0, 99983), (1, 3, 144), (0, 0, 100000), (0, 0, 0), (0, 0, 0)], [(4, 3, (Int.negSucc 999999999999), 143)], [((0, 13), (0, 0, 144, []))], [(2, 0, 0, [294])], 0, [], [(20, [1, 3, 2], [60, 2, 1, 551, 6, 13, 16]), (24, [0, 1], [])]), (55, [(0, (2, 0, 0, [294])), (1, (0, 0, 144, [])), (2, (0, 0, 143, [])), (3, (0, 0, 143, [])), (4, (0, 0, 144, []))], [], (0, 0), [(0, 0, 99983), (1, 3, 144), (0, 0, 99945), (1, 2, 144), (0, 0, 100000)], [(5, 2, (Int.negSucc 999999999999), 0)], [], [(2, 0, 0, [294])], 0, [], [(20, [1, 3, 2, 4, 5], [60, 2, 1, 552, 6, 13, 16]), (24, [0, 1], [])])]
def t_Ne_traceFaces_at_Nq_ct : ct_L := [(1, 84, e_Ne_endAt), (39, 64, e_jArr_fill1_v66)]
set_option maxRecDepth 100000 in
theorem c_Ne_traceFaces_at_Nq {l : Launch} {D : va_G} {kA : Nat → ClassId} (h_Ne_endAt : ct_ok PRD l D kA GG y_Ne_endAt z_Ne_endAt e_Ne_endAt) : ct_ok PRD l D kA GG y_Ne_traceFaces_at_Nq z_Ne_traceFaces_at_Nq e_Ne_traceFaces_at_Nq := chk_all_ok (FT := [(31, 5, 6), (34, 5, 7), (37, 5, 8), (46, 5, 11), (52, 5, 13), (55, 5, 14), (58, 5, 15), (61, 5, 16)]) (PT := [(52, 5, 13, .int)]) (CT := t_Ne_traceFaces_at_Nq_ct) (KT := []) (NT := []) (AN := n_Ne_traceFaces_at_Nq_an) (OT := [o_Ne_traceFaces_at_Nq_0, o_Ne_traceFaces_at_Nq_1, o_Ne_traceFaces_at_Nq_2, o_Ne_traceFaces_at_Nq_3, o_Ne_traceFaces_at_Nq_4, o_Ne_traceFaces_at_Nq_5, o_Ne_traceFaces_at_Nq_6, o_Ne_traceFaces_at_Nq_7, o_Ne_traceFaces_at_Nq_8, o_Ne_traceFaces_at_Nq_9, o_Ne_traceFaces_at_Nq_10, o_Ne_traceFaces_at_Nq_11, o_Ne_traceFaces_at_Nq_12, o_Ne_traceFaces_at_Nq_13, o_Ne_traceFaces_at_Nq_14, o_Ne_traceFaces_at_Nq_15, o_Ne_traceFaces_at_Nq_16, o_Ne_traceFaces_at_Nq_17, o_Ne_traceFaces_at_Nq_18, o_Ne_traceFaces_at_Nq_19, o_Ne_traceFaces_at_Nq_20, o_Ne_traceFaces_at_Nq_21, o_Ne_traceFaces_at_Nq_22, o_Ne_traceFaces_at_Nq_23]) 5 796 (List.forall_mem_cons.mpr ⟨oo_Ne_traceFaces_at_Nq_0, List.forall_mem_cons.mpr ⟨oo_Ne_traceFaces_at_Nq_1, List.forall_mem_cons.mpr ⟨oo_Ne_traceFaces_at_Nq_2, List.forall_mem_cons.mpr ⟨oo_Ne_traceFaces_at_Nq_3, List.forall_mem_cons.mpr ⟨oo_Ne_traceFaces_at_Nq_4, List.forall_mem_cons.mpr ⟨oo_Ne_traceFaces_at_Nq_5, List.forall_mem_cons.mpr ⟨oo_Ne_traceFaces_at_Nq_6, List.forall_mem_cons.mpr ⟨oo_Ne_traceFaces_at_Nq_7, List.forall_mem_cons.mpr ⟨oo_Ne_traceFaces_at_Nq_8, List.forall_mem_cons.mpr ⟨oo_Ne_traceFaces_at_Nq_9, List.forall_mem_cons.mpr ⟨oo_Ne_traceFaces_at_Nq_10, List.forall_mem_cons.mpr ⟨oo_Ne_traceFaces_at_Nq_11, List.forall_mem_cons.mpr ⟨oo_Ne_traceFaces_at_Nq_12, List.forall_mem_cons.mpr ⟨oo_Ne_traceFaces_at_Nq_13, List.forall_mem_cons.mpr ⟨oo_Ne_traceFaces_at_Nq_14, List.forall_mem_cons.mpr ⟨oo_Ne_traceFaces_at_Nq_15, List.forall_mem_cons.mpr ⟨oo_Ne_traceFaces_at_Nq_16, List.forall_mem_cons.mpr ⟨oo_Ne_traceFaces_at_Nq_17, List.forall_mem_cons.mpr ⟨oo_Ne_traceFaces_at_Nq_18, List.forall_mem_cons.mpr ⟨oo_Ne_traceFaces_at_Nq_19, List.forall_mem_cons.mpr ⟨oo_Ne_traceFaces_at_Nq_20, List.forall_mem_cons.mpr ⟨oo_Ne_traceFaces_at_Nq_21, List.forall_mem_cons.mpr ⟨oo_Ne_traceFaces_at_Nq_22, List.forall_mem_cons.mpr ⟨oo_Ne_traceFaces_at_Nq_23, List.forall_mem_nil _⟩⟩⟩⟩⟩⟩⟩⟩⟩⟩⟩⟩⟩⟩⟩⟩⟩⟩⟩⟩⟩⟩⟩⟩) (by decide +kernel) ⟨List.forall_mem_cons.mpr ⟨gf_Ne_31, List.forall_mem_cons.mpr ⟨gf_Ne_34, List.forall_mem_cons.mpr ⟨gf_Ne_37, List.forall_mem_cons.mpr ⟨gf_Ne_46, List.forall_mem_cons.mpr ⟨gf_Ne_52, List.forall_mem_cons.mpr ⟨gf_Ne_55, List.forall_mem_cons.mpr ⟨gf_Ne_58, List.forall_mem_cons.mpr ⟨gf_Ne_61, List.forall_mem_nil _⟩⟩⟩⟩⟩⟩⟩⟩, List.forall_mem_cons.mpr ⟨pf_Ne_52, List.forall_mem_nil _⟩, List.forall_mem_cons.mpr ⟨cl_virtual (y := y_Ne_endAt) (ci := 5) rfl rfl ⟨_, _, rfl⟩ (by decide +kernel) h_Ne_endAt wm_1138 wm_6 wm_1151 wm_1136 wm_1137 ⟨by decide, by decide, by decide +kernel⟩ (by decide), List.forall_mem_cons.mpr ⟨cl_static (y := y_jArr_fill1) c_jArr_fill1_v66 wm_55 wm_4 wm_1061 wm_54 ⟨by decide, by decide, by decide +kernel⟩ (by decide), List.forall_mem_nil _⟩⟩, List.forall_mem_nil _, List.forall_mem_nil _, GG_pl⟩ (by decide +kernel)

set_option maxHeartbeats 4000000 in
theorem vc_Pl_placeSideBySide_0_3 (x1 : Int) (x4 : Int) (x5 : Int) (x8 : Int) (x9 : Int) (x10 : Int) (under_0 : Int → Int) (kids_0 : Int → Int) (order_0 : Int → Int) (nodes_0o2 : Int) (level_0 : Int → Int) (k1 : 1 ≤ x1 ∧ x1 ≤ 24) (k4 : 0 ≤ x4 ∧ x4 ≤ 24) (k5 : 0 ≤ x5 ∧ x5 ≤ 24) (k8 : 0 ≤ x8 ∧ x8 ≤ 0) (k9 : 0 ≤ x9 ∧ x9 ≤ 23) (k10 : 0 ≤ x10 ∧ x10 ≤ 16777215) (h0 : x10 = under_0 (x9)) (h1 : x9 = kids_0 (x8)) (f6 : TQU (nodes_0o2) (order_0) (under_0) (x4) (x5)) (f7 : TQK (order_0) (level_0) (kids_0) (x1) (x4) (x5)) (kz_2_0 : 0 ≤ nodes_0o2 ∧ nodes_0o2 ≤ 24) : TQP (nodes_0o2) (order_0) (kids_0) (x10) (x1) (x4) (x5) := by
  first
    | assumption
    | exact tqp_0 (by omega) (by omega)
    | exact tqp_start ‹TQU _ _ _ _ _› ‹TQK _ _ _ _ _ _› (by omega) (by rw [show (0 : Int) = x8 by omega, ← ‹x9 = kids_0 x8›]; assumption)
    | exact tqp_step (j := x9) (tr := x10) ‹TQP _ _ _ _ _ _ _› ‹TQU _ _ _ _ _› ‹TQK _ _ _ _ _ _› (by omega) (by omega) ‹TQT _ _ _ _› (by assumption)
  
set_option maxHeartbeats 4000000 in
theorem vc_Pl_placeSideBySide_0_4 (x4 : Int) (x5 : Int) (x11 : Int) (order_0 : Int → Int) (parent_0 : Int → Int) (x_0o3 : Int → Int) (nodes_0o2 : Int) (k4 : 0 ≤ x4 ∧ x4 ≤ 24) (k5 : 0 ≤ x5 ∧ x5 ≤ 24) (k11 : 1 ≤ x11 ∧ x11 ≤ 1) (f5 : TQ0 (nodes_0o2) (order_0) (parent_0) (x_0o3) (x4) (x5)) (kz_2_0 : 0 ≤ nodes_0o2 ∧ nodes_0o2 ≤ 24) : TQ1 (nodes_0o2) (order_0) (parent_0) (x_0o3) (x4) (x5) (x11) := by
  first
    | assumption
    | exact tq1_start ‹TQ0 _ _ _ _ _ _› (by omega)
    | exact tqv_end ‹TQV _ _ _ _ _ _ _ _ _ _› (tqd_lo ‹TQD _ _ _ _ _› (by omega)) (by omega)
  
set_option maxHeartbeats 4000000 in
theorem vc_Pl_placeSideBySide_0_5 (x1 : Int) (x8 : Int) (x9 : Int) (x10 : Int) (x11 : Int) (k1 : 1 ≤ x1 ∧ x1 ≤ 24) (k11 : 1 ≤ x11 ∧ x11 ≤ 1) : (x11 ≤ x1) ∨ (x11 ≤ 1) := by
  first
    | omega
    | (have h := tqe_val (j := x9) (l := x12) (r := x17) (pl := x8) ‹TQ1 _ _ _ _ _ _ _› ‹TQC _ _ _ _ _ _› ‹TQP _ _ _ _ _ _ _› (by omega) (by assumption) (by omega); omega)
    | (have h := tqe_val2 (j := x9) (l := x12) (r := x19) (tr := x10) ‹TQ1 _ _ _ _ _ _ _› ‹TQC _ _ _ _ _ _› ‹TQU _ _ _ _ _› ‹TQK _ _ _ _ _ _› (by omega) (by omega) ‹TQT _ _ _ _› (by assumption) (by omega); omega)
    | (have q := bit_one (s := x10) (t := x16) (c := x18) (v := x12) (one := x17) (by assumption) (by assumption) (by omega) (by omega) (by omega) (by omega)
       have h := tqv_val (v := x12) (a := x20) (y := x21) ‹TQV _ _ _ _ _ _ _ _ _ _› ‹TQC _ _ _ _ _ _› ‹TQU _ _ _ _ _› ‹TQK _ _ _ _ _ _› (by omega) ‹TQT _ _ _ _› (by omega) (by omega) (q.mpr (by omega)) (by assumption) (by omega)
       omega)
  
def o_Pl_placeSideBySide_0 : or_T := (22, 12, [(1, (0, 1, 24, [])), (2, (2, 0, 0, [3])), (4, (0, 0, 24, [])), (5, (0, 0, 24, [])), (8, (0, 0, 0, [])), (9, (0, 0, 23, [])), (10, (0, 0, 16777215, [])), (11, (0, 1, 1, []))], [(10, [10, 6, 9], []), (10, [9, 7, 8], []), (9, [7, 0], [7]), (9, [6, 0], [6]), (20, [0, 2, 3, 4, 5], [60, 1, 3, 865, 1000, 2, 5, 2002]), (20, [0, 2, 4, 5], [60, 1, 2, 860, 1000, 2, 6]), (20, [0, 1, 4, 5], [60, 0, 3, 861, 2, 4, 7])], [], [], [(24, [2, 2], []), (24, [3, 3], []), (24, [1, 1], []), (20, [0, 2, 10, 1, 4, 5], [60, 1, 2, 863, 1000, 2, 7]), (20, [0, 2, 3, 4, 5, 11], [60, 1, 3, 864, 1000, 2, 5, 2002]), (20, [11, 1], [50, 0, 0, 3, 6, 0, 2, 1, 0, 1, 1, 0, 2, 1, 0, 0, 1]), (24, [0, 0], []), (24, [1, 1], [])], [], [])
theorem oo_Pl_placeSideBySide_0 {kA : Nat → ClassId} : or_ok PRD kA GG o_Pl_placeSideBySide_0 := by
  refine or_mk fun A ta ws vs hD hth hl => ?_
  intro t1 k1 t2 r2 t4 k4 t5 k5 t8 k8 t9 k9 t10 k10 t11 k11 f0 f1 f2 f3 f5 f6 f7
  replace f0 := shm_107 f0
  replace f1 := shm_107 f1
  replace f2 := shm_198 f2
  replace f3 := shm_111 f3
  have ad_7 : v_ad (n_v vs 7) = w_ar ws (n_v vs 0) 7 := congrArg v_ad f2
  have ad_6 : v_ad (n_v vs 6) = w_ar ws (n_v vs 0) 6 := congrArg v_ad f3
  simp only [ad_6] at f0
  have h0 : v_iv (n_v vs 10) = w_ei ws (w_ar ws (n_v vs 0) 6) (v_iv (n_v vs 9)) := f0
  simp only [ad_7] at f1
  have h1 : v_iv (n_v vs 9) = w_ei ws (w_ar ws (n_v vs 0) 7) (v_iv (n_v vs 8)) := f1
  have kz_2_0 := fdq_21 hD hth r2
  have nf0 : fc_1 PRD (24, [2, 2], []) ws (vs) := by
    refine ⟨nf_in hl rfl, sgq_1 ?_⟩
    · show n_v vs 2 = n_v vs 2
      first | rfl | simp only [true_and]
  have nf1 : fc_1 PRD (24, [3, 3], []) ws (vs) := by
    refine ⟨nf_in hl rfl, sgq_1 ?_⟩
    · show n_v vs 3 = n_v vs 3
      first | rfl | simp only [true_and]
  have nf2 : fc_1 PRD (24, [1, 1], []) ws (vs) := by
    refine ⟨nf_in hl rfl, sgq_1 ?_⟩
    · show n_v vs 1 = n_v vs 1
      first | rfl | simp only [true_and]
  have nf3 : fc_1 PRD (20, [0, 2, 10, 1, 4, 5], [60, 1, 2, 863, 1000, 2, 7]) ws (vs) := ⟨nf_in hl rfl, sgq_1108 (vc_Pl_placeSideBySide_0_3 (v_iv (n_v vs 1)) (v_iv (n_v vs 4)) (v_iv (n_v vs 5)) (v_iv (n_v vs 8)) (v_iv (n_v vs 9)) (v_iv (n_v vs 10)) (w_ei ws (w_ar ws (n_v vs 0) 6)) (w_ei ws (w_ar ws (n_v vs 0) 7)) (w_ei ws (w_ar ws (n_v vs 0) 2)) (w_fi ws (n_v vs 2) 0) (w_ei ws (w_ar ws (n_v vs 0) 4)) k1 k4 k5 k8 k9 k10 h0 h1 (shm_1104 f6) (shm_1105 f7) kz_2_0)⟩
  have nf4 : fc_1 PRD (20, [0, 2, 3, 4, 5, 11], [60, 1, 3, 864, 1000, 2, 5, 2002]) ws (vs) := ⟨nf_in hl rfl, sgq_1109 (vc_Pl_placeSideBySide_0_4 (v_iv (n_v vs 4)) (v_iv (n_v vs 5)) (v_iv (n_v vs 11)) (w_ei ws (w_ar ws (n_v vs 0) 2)) (w_ei ws (w_ar ws (n_v vs 0) 5)) (w_ei ws (w_ar ws (n_v vs 3) 2)) (w_fi ws (n_v vs 2) 0) k4 k5 k11 (shm_1103 f5) kz_2_0)⟩
  have nf5 : fc_1 PRD (20, [11, 1], [50, 0, 0, 3, 6, 0, 2, 1, 0, 1, 1, 0, 2, 1, 0, 0, 1]) ws (vs) := ⟨nf_in hl rfl, sgq_1110 (vc_Pl_placeSideBySide_0_5 (v_iv (n_v vs 1)) (v_iv (n_v vs 8)) (v_iv (n_v vs 9)) (v_iv (n_v vs 10)) (v_iv (n_v vs 11)) k1 k11)⟩
  have nf6 : fc_1 PRD (24, [0, 0], []) ws (vs) := by
    refine ⟨nf_in hl rfl, sgq_1 ?_⟩
    · show n_v vs 0 = n_v vs 0
      first | rfl | simp only [true_and]
  have nf7 : fc_1 PRD (24, [1, 1], []) ws (vs) := by
    refine ⟨nf_in hl rfl, sgq_1 ?_⟩
    · show n_v vs 1 = n_v vs 1
      first | rfl | simp only [true_and]
  refine ⟨(fun _ h => (by cases h)), [], trivial, ?_, (fun _ h => (by cases h))⟩
  rw [List.append_nil]
  exact List.forall_mem_cons.mpr ⟨⟨show (24 : Nat) < 100 from by decide, nf0⟩, List.forall_mem_cons.mpr ⟨⟨show (24 : Nat) < 100 from by decide, nf1⟩, List.forall_mem_cons.mpr ⟨⟨show (24 : Nat) < 100 from by decide, nf2⟩, List.forall_mem_cons.mpr ⟨⟨show (20 : Nat) < 100 from by decide, nf3⟩, List.forall_mem_cons.mpr ⟨⟨show (20 : Nat) < 100 from by decide, nf4⟩, List.forall_mem_cons.mpr ⟨⟨show (20 : Nat) < 100 from by decide, nf5⟩, List.forall_mem_cons.mpr ⟨⟨show (24 : Nat) < 100 from by decide, nf6⟩, List.forall_mem_cons.mpr ⟨⟨show (24 : Nat) < 100 from by decide, nf7⟩, (fun _ h => (by cases h))⟩⟩⟩⟩⟩⟩⟩⟩
set_option maxHeartbeats 4000000 in
theorem vc_Pl_placeSideBySide_1_3 (x1 : Int) (x4 : Int) (x5 : Int) (x6 : Int) (order_0 : Int → Int) (nodes_0o2 : Int) (kids_0 : Int → Int) (k1 : 0 ≤ x1 ∧ x1 ≤ 0) (k4 : 0 ≤ x4 ∧ x4 ≤ 24) (k5 : 0 ≤ x5 ∧ x5 ≤ 24) (k6 : 0 ≤ x6 ∧ x6 ≤ 0) (f0 : x1 = 0) (kz_2_0 : 0 ≤ nodes_0o2 ∧ nodes_0o2 ≤ 24) : TQP (nodes_0o2) (order_0) (kids_0) (x6) (x1) (x4) (x5) := by
  first
    | assumption
    | exact tqp_0 (by omega) (by omega)
    | exact tqp_start ‹TQU _ _ _ _ _› ‹TQK _ _ _ _ _ _› (by omega) (by rw [show (0 : Int) = x8 by omega, ← ‹x9 = kids_0 x8›]; assumption)
    | exact tqp_step (j := x9) (tr := x10) ‹TQP _ _ _ _ _ _ _› ‹TQU _ _ _ _ _› ‹TQK _ _ _ _ _ _› (by omega) (by omega) ‹TQT _ _ _ _› (by assumption)
  
set_option maxHeartbeats 4000000 in
theorem vc_Pl_placeSideBySide_1_4 (x4 : Int) (x5 : Int) (x7 : Int) (order_0 : Int → Int) (parent_0 : Int → Int) (x_0o3 : Int → Int) (nodes_0o2 : Int) (k4 : 0 ≤ x4 ∧ x4 ≤ 24) (k5 : 0 ≤ x5 ∧ x5 ≤ 24) (k7 : 1 ≤ x7 ∧ x7 ≤ 1) (f1 : TQ0 (nodes_0o2) (order_0) (parent_0) (x_0o3) (x4) (x5)) (kz_2_0 : 0 ≤ nodes_0o2 ∧ nodes_0o2 ≤ 24) : TQ1 (nodes_0o2) (order_0) (parent_0) (x_0o3) (x4) (x5) (x7) := by
  first
    | assumption
    | exact tq1_start ‹TQ0 _ _ _ _ _ _› (by omega)
    | exact tqv_end ‹TQV _ _ _ _ _ _ _ _ _ _› (tqd_lo ‹TQD _ _ _ _ _› (by omega)) (by omega)
  
set_option maxHeartbeats 4000000 in
theorem vc_Pl_placeSideBySide_1_5 (x1 : Int) (x7 : Int) (k1 : 0 ≤ x1 ∧ x1 ≤ 0) (k7 : 1 ≤ x7 ∧ x7 ≤ 1) : (x7 ≤ x1) ∨ (x7 ≤ 1) := by
  first
    | omega
    | (have h := tqe_val (j := x9) (l := x12) (r := x17) (pl := x8) ‹TQ1 _ _ _ _ _ _ _› ‹TQC _ _ _ _ _ _› ‹TQP _ _ _ _ _ _ _› (by omega) (by assumption) (by omega); omega)
    | (have h := tqe_val2 (j := x9) (l := x12) (r := x19) (tr := x10) ‹TQ1 _ _ _ _ _ _ _› ‹TQC _ _ _ _ _ _› ‹TQU _ _ _ _ _› ‹TQK _ _ _ _ _ _› (by omega) (by omega) ‹TQT _ _ _ _› (by assumption) (by omega); omega)
    | (have q := bit_one (s := x10) (t := x16) (c := x18) (v := x12) (one := x17) (by assumption) (by assumption) (by omega) (by omega) (by omega) (by omega)
       have h := tqv_val (v := x12) (a := x20) (y := x21) ‹TQV _ _ _ _ _ _ _ _ _ _› ‹TQC _ _ _ _ _ _› ‹TQU _ _ _ _ _› ‹TQK _ _ _ _ _ _› (by omega) ‹TQT _ _ _ _› (by omega) (by omega) (q.mpr (by omega)) (by assumption) (by omega)
       omega)
  
def o_Pl_placeSideBySide_1 : or_T := (22, 8, [(1, (0, 0, 0, [])), (2, (2, 0, 0, [3])), (4, (0, 0, 24, [])), (5, (0, 0, 24, [])), (6, (0, 0, 0, [])), (7, (0, 1, 1, []))], [(8, [1], [0]), (20, [0, 2, 3, 4, 5], [60, 1, 3, 865, 1000, 2, 5, 2002])], [], [], [(24, [2, 2], []), (24, [3, 3], []), (24, [1, 1], []), (20, [0, 2, 6, 1, 4, 5], [60, 1, 2, 863, 1000, 2, 7]), (20, [0, 2, 3, 4, 5, 7], [60, 1, 3, 864, 1000, 2, 5, 2002]), (20, [7, 1], [50, 0, 0, 3, 6, 0, 2, 1, 0, 1, 1, 0, 2, 1, 0, 0, 1]), (24, [0, 0], []), (24, [1, 1], [])], [], [])
theorem oo_Pl_placeSideBySide_1 {kA : Nat → ClassId} : or_ok PRD kA GG o_Pl_placeSideBySide_1 := by
  refine or_mk fun A ta ws vs hD hth hl => ?_
  intro t1 k1 t2 r2 t4 k4 t5 k5 t6 k6 t7 k7 f0 f1
  have kz_2_0 := fdq_21 hD hth r2
  have nf0 : fc_1 PRD (24, [2, 2], []) ws (vs) := by
    refine ⟨nf_in hl rfl, sgq_1 ?_⟩
    · show n_v vs 2 = n_v vs 2
      first | rfl | simp only [true_and]
  have nf1 : fc_1 PRD (24, [3, 3], []) ws (vs) := by
    refine ⟨nf_in hl rfl, sgq_1 ?_⟩
    · show n_v vs 3 = n_v vs 3
      first | rfl | simp only [true_and]
  have nf2 : fc_1 PRD (24, [1, 1], []) ws (vs) := by
    refine ⟨nf_in hl rfl, sgq_1 ?_⟩
    · show n_v vs 1 = n_v vs 1
      first | rfl | simp only [true_and]
  have nf3 : fc_1 PRD (20, [0, 2, 6, 1, 4, 5], [60, 1, 2, 863, 1000, 2, 7]) ws (vs) := ⟨nf_in hl rfl, sgq_1108 (vc_Pl_placeSideBySide_1_3 (v_iv (n_v vs 1)) (v_iv (n_v vs 4)) (v_iv (n_v vs 5)) (v_iv (n_v vs 6)) (w_ei ws (w_ar ws (n_v vs 0) 2)) (w_fi ws (n_v vs 2) 0) (w_ei ws (w_ar ws (n_v vs 0) 7)) k1 k4 k5 k6 (shm_192 f0) kz_2_0)⟩
  have nf4 : fc_1 PRD (20, [0, 2, 3, 4, 5, 7], [60, 1, 3, 864, 1000, 2, 5, 2002]) ws (vs) := ⟨nf_in hl rfl, sgq_1109 (vc_Pl_placeSideBySide_1_4 (v_iv (n_v vs 4)) (v_iv (n_v vs 5)) (v_iv (n_v vs 7)) (w_ei ws (w_ar ws (n_v vs 0) 2)) (w_ei ws (w_ar ws (n_v vs 0) 5)) (w_ei ws (w_ar ws (n_v vs 3) 2)) (w_fi ws (n_v vs 2) 0) k4 k5 k7 (shm_1103 f1) kz_2_0)⟩
  have nf5 : fc_1 PRD (20, [7, 1], [50, 0, 0, 3, 6, 0, 2, 1, 0, 1, 1, 0, 2, 1, 0, 0, 1]) ws (vs) := ⟨nf_in hl rfl, sgq_1110 (vc_Pl_placeSideBySide_1_5 (v_iv (n_v vs 1)) (v_iv (n_v vs 7)) k1 k7)⟩
  have nf6 : fc_1 PRD (24, [0, 0], []) ws (vs) := by
    refine ⟨nf_in hl rfl, sgq_1 ?_⟩
    · show n_v vs 0 = n_v vs 0
      first | rfl | simp only [true_and]
  have nf7 : fc_1 PRD (24, [1, 1], []) ws (vs) := by
    refine ⟨nf_in hl rfl, sgq_1 ?_⟩
    · show n_v vs 1 = n_v vs 1
      first | rfl | simp only [true_and]
  refine ⟨(fun _ h => (by cases h)), [], trivial, ?_, (fun _ h => (by cases h))⟩
  rw [List.append_nil]
  exact List.forall_mem_cons.mpr ⟨⟨show (24 : Nat) < 100 from by decide, nf0⟩, List.forall_mem_cons.mpr ⟨⟨show (24 : Nat) < 100 from by decide, nf1⟩, List.forall_mem_cons.mpr ⟨⟨show (24 : Nat) < 100 from by decide, nf2⟩, List.forall_mem_cons.mpr ⟨⟨show (20 : Nat) < 100 from by decide, nf3⟩, List.forall_mem_cons.mpr ⟨⟨show (20 : Nat) < 100 from by decide, nf4⟩, List.forall_mem_cons.mpr ⟨⟨show (20 : Nat) < 100 from by decide, nf5⟩, List.forall_mem_cons.mpr ⟨⟨show (24 : Nat) < 100 from by decide, nf6⟩, List.forall_mem_cons.mpr ⟨⟨show (24 : Nat) < 100 from by decide, nf7⟩, (fun _ h => (by cases h))⟩⟩⟩⟩⟩⟩⟩⟩
set_option maxHeartbeats 4000000 in
theorem vc_Pl_placeSideBySide_2_0 (x1 : Int) (x4 : Int) (x5 : Int) (x9 : Int) (order_0 : Int → Int) (nodes_0o2 : Int) (parent_0 : Int → Int) (x_0o3 : Int → Int) (k1 : 0 ≤ x1 ∧ x1 ≤ 24) (k4 : 0 ≤ x4 ∧ x4 ≤ 24) (k5 : 0 ≤ x5 ∧ x5 ≤ 24) (k9 : 1 ≤ x9 ∧ x9 ≤ 24) (f9 : TQ1 (nodes_0o2) (order_0) (parent_0) (x_0o3) (x4) (x5) (x9)) (f10 : (x9 ≤ x1) ∨ (x9 ≤ 1)) (kz_2_0 : 0 ≤ nodes_0o2 ∧ nodes_0o2 ≤ 24) : TQ2 (nodes_0o2) (order_0) (parent_0) (x_0o3) (x1) (x4) (x5) := by
  first
    | exact tq2_of ‹TQ1 _ _ _ _ _ _ _› (by omega)
  
set_option maxHeartbeats 4000000 in
theorem vc_Pl_placeSideBySide_2_1 (x1 : Int) (x4 : Int) (x5 : Int) (x8 : Int) (x9 : Int) (order_0 : Int → Int) (nodes_0o2 : Int) (kids_0 : Int → Int) (k1 : 0 ≤ x1 ∧ x1 ≤ 24) (k4 : 0 ≤ x4 ∧ x4 ≤ 24) (k5 : 0 ≤ x5 ∧ x5 ≤ 24) (k8 : 0 ≤ x8 ∧ x8 ≤ 16777215) (f8 : TQP (nodes_0o2) (order_0) (kids_0) (x8) (x1) (x4) (x5)) (kz_2_0 : 0 ≤ nodes_0o2 ∧ nodes_0o2 ≤ 24) : TQP (nodes_0o2) (order_0) (kids_0) (x8) (x1) (x4) (x5) := by
  first
    | assumption
    | exact tqp_0 (by omega) (by omega)
    | exact tqp_start ‹TQU _ _ _ _ _› ‹TQK _ _ _ _ _ _› (by omega) (by rw [show (0 : Int) = x8 by omega, ← ‹x9 = kids_0 x8›]; assumption)
    | exact tqp_step (j := x9) (tr := x10) ‹TQP _ _ _ _ _ _ _› ‹TQU _ _ _ _ _› ‹TQK _ _ _ _ _ _› (by omega) (by omega) ‹TQT _ _ _ _› (by assumption)
  
def o_Pl_placeSideBySide_2 : or_T := (167, 12, [(1, (0, 0, 24, [])), (2, (2, 0, 0, [3])), (4, (0, 0, 24, [])), (5, (0, 0, 24, [])), (8, (0, 0, 16777215, [])), (9, (0, 1, 24, []))], [(24, [2, 10], []), (24, [3, 11], []), (24, [1, 7], []), (20, [6, 10, 8, 7, 4, 5], [60, 1, 2, 863, 1000, 2, 7]), (20, [6, 10, 11, 4, 5, 9], [60, 1, 3, 864, 1000, 2, 5, 2002]), (20, [9, 7], [50, 0, 0, 3, 6, 0, 2, 1, 0, 1, 1, 0, 2, 1, 0, 0, 1]), (24, [0, 6], [])], [], [], [(20, [0, 2, 3, 1, 4, 5], [60, 1, 3, 866, 1000, 2, 5, 2002]), (20, [0, 2, 8, 1, 4, 5], [60, 1, 2, 863, 1000, 2, 7])], [], [])
theorem oo_Pl_placeSideBySide_2 {kA : Nat → ClassId} : or_ok PRD kA GG o_Pl_placeSideBySide_2 := by
  refine or_mk fun A ta ws vs hD hth hl => ?_
  intro t1 k1 t2 r2 t4 k4 t5 k5 t8 k8 t9 k9 f5 f6 f7 f8 f9 f10 f11
  replace f5 := shm_5 f5
  replace f6 := shm_5 f6
  replace f7 := shm_5 f7
  replace f8 := shm_1108 f8
  replace f9 := shm_1109 f9
  replace f10 := shm_1110 f10
  replace f11 := shm_5 f11
  have q10 : n_v vs 10 = n_v vs 2 := f5.symm
  have q11 : n_v vs 11 = n_v vs 3 := f6.symm
  have q7 : n_v vs 7 = n_v vs 1 := f7.symm
  have q6 : n_v vs 6 = n_v vs 0 := f11.symm
  simp only [q7, q10, q6, q11] at f8 f9 f10
  have kz_2_0 := fdq_21 hD hth r2
  have nf0 : fc_1 PRD (20, [0, 2, 3, 1, 4, 5], [60, 1, 3, 866, 1000, 2, 5, 2002]) ws (vs) := ⟨nf_in hl rfl, sgq_1111 (vc_Pl_placeSideBySide_2_0 (v_iv (n_v vs 1)) (v_iv (n_v vs 4)) (v_iv (n_v vs 5)) (v_iv (n_v vs 9)) (w_ei ws (w_ar ws (n_v vs 0) 2)) (w_fi ws (n_v vs 2) 0) (w_ei ws (w_ar ws (n_v vs 0) 5)) (w_ei ws (w_ar ws (n_v vs 3) 2)) k1 k4 k5 k9 f9 f10 kz_2_0)⟩
  have nf1 : fc_1 PRD (20, [0, 2, 8, 1, 4, 5], [60, 1, 2, 863, 1000, 2, 7]) ws (vs) := ⟨nf_in hl rfl, sgq_1108 (vc_Pl_placeSideBySide_2_1 (v_iv (n_v vs 1)) (v_iv (n_v vs 4)) (v_iv (n_v vs 5)) (v_iv (n_v vs 8)) (v_iv (n_v vs 9)) (w_ei ws (w_ar ws (n_v vs 0) 2)) (w_fi ws (n_v vs 2) 0) (w_ei ws (w_ar ws (n_v vs 0) 7)) k1 k4 k5 k8 f8 kz_2_0)⟩
  refine ⟨(fun _ h => (by cases h)), [], trivial, ?_, (fun _ h => (by cases h))⟩
  rw [List.append_nil]
  exact List.forall_mem_cons.mpr ⟨⟨show (20 : Nat) < 100 from by decide, nf0⟩, List.forall_mem_cons.mpr ⟨⟨show (20 : Nat) < 100 from by decide, nf1⟩, (fun _ h => (by cases h))⟩⟩
set_option maxHeartbeats 4000000 in
theorem vc_Pl_placeSideBySide_3_0 (x9 : Int) (x14 : Int) (x15 : Int) (under_0 : Int → Int) (kids_0 : Int → Int) (k9 : 1 ≤ x9 ∧ x9 ≤ 23) (k14 : 0 ≤ x14 ∧ x14 ≤ 23) (k15 : 0 ≤ x15 ∧ x15 ≤ 16777215) (h0 : x15 = under_0 (x14)) (h1 : x14 = kids_0 (x9)) : TQT (under_0) (kids_0) (x15) (x9) := by
  first
    | assumption
    | (show x15 = under_0 (kids_0 x9); rw [← ‹x14 = kids_0 x9›]; assumption)
  
set_option maxHeartbeats 4000000 in
theorem vc_Pl_placeSideBySide_3_1 (x1 : Int) (x7 : Int) (x8 : Int) (x9 : Int) (x16 : Int) (x17 : Int) (k1 : 2 ≤ x1 ∧ x1 ≤ 24) (k7 : 2 ≤ x7 ∧ x7 ≤ 24) (k9 : 1 ≤ x9 ∧ x9 ≤ 23) (d0 : x7 + (-4294967296) ≤ x9 ∧ x9 ≤ x7 + (-1)) (d1 : x7 + (-4294967296) ≤ x1 ∧ x1 ≤ x7 + 0) (d2 : x1 + (-4294967296) ≤ x7 ∧ x7 ≤ x1 + 0) : (1 ≤ x9) ∧ ((x9 + 1) ≤ x1) := by
  first
    | omega
    | (have h := tqe_val (j := x9) (l := x12) (r := x17) (pl := x8) ‹TQ1 _ _ _ _ _ _ _› ‹TQC _ _ _ _ _ _› ‹TQP _ _ _ _ _ _ _› (by omega) (by assumption) (by omega); omega)
    | (have h := tqe_val2 (j := x9) (l := x12) (r := x19) (tr := x10) ‹TQ1 _ _ _ _ _ _ _› ‹TQC _ _ _ _ _ _› ‹TQU _ _ _ _ _› ‹TQK _ _ _ _ _ _› (by omega) (by omega) ‹TQT _ _ _ _› (by assumption) (by omega); omega)
    | (have q := bit_one (s := x10) (t := x16) (c := x18) (v := x12) (one := x17) (by assumption) (by assumption) (by omega) (by omega) (by omega) (by omega)
       have h := tqv_val (v := x12) (a := x20) (y := x21) ‹TQV _ _ _ _ _ _ _ _ _ _› ‹TQC _ _ _ _ _ _› ‹TQU _ _ _ _ _› ‹TQK _ _ _ _ _ _› (by omega) ‹TQT _ _ _ _› (by omega) (by omega) (q.mpr (by omega)) (by assumption) (by omega)
       omega)
  
set_option maxHeartbeats 4000000 in
theorem vc_Pl_placeSideBySide_3_2 (x1 : Int) (x4 : Int) (x5 : Int) (x7 : Int) (x8 : Int) (x9 : Int) (x16 : Int) (x17 : Int) (kids_0 : Int → Int) (order_0 : Int → Int) (level_0 : Int → Int) (x_0o3 : Int → Int) (k1 : 2 ≤ x1 ∧ x1 ≤ 24) (k4 : 0 ≤ x4 ∧ x4 ≤ 24) (k5 : 0 ≤ x5 ∧ x5 ≤ 24) (k7 : 2 ≤ x7 ∧ x7 ≤ 24) (k16 : (-1000000) ≤ x16 ∧ x16 ≤ (-1000000)) (k17 : 0 ≤ x17 ∧ x17 ≤ 0) (d1 : x7 + (-4294967296) ≤ x1 ∧ x1 ≤ x7 + 0) (d2 : x1 + (-4294967296) ≤ x7 ∧ x7 ≤ x1 + 0) (f6 : TQK (order_0) (level_0) (kids_0) (x1) (x4) (x5)) : TQS (order_0) (level_0) (kids_0) (x_0o3) (x16) (x17) (x4) (x5) := by
  first
    | exact tqs_start (by omega) (by omega) ‹TQK _ _ _ _ _ _› (by omega)
    | exact tqs_skip (j := x9) (r := x17) (e := x19) (pl := x8) (tr := x10) ‹TQS _ _ _ _ _ _ _ _› ‹TQ1 _ _ _ _ _ _ _› ‹TQC _ _ _ _ _ _› ‹TQP _ _ _ _ _ _ _› ‹TQU _ _ _ _ _› ‹TQK _ _ _ _ _ _› ‹TQD _ _ _ _ _› (by omega) (by omega) (by omega) ‹TQT _ _ _ _› (by assumption) (by assumption) (by omega) (by omega)
    | exact tqs_step (pr := fun z => z) (j := x9) (r := x17) (e := x19) (f := x24) (pl := x8) (tr := x10) ‹TQS _ _ _ _ _ _ _ _› ‹TQP _ _ _ _ _ _ _› ‹TQU _ _ _ _ _› ‹TQK _ _ _ _ _ _› (by omega) (by omega) ‹TQT _ _ _ _› (by assumption) (by assumption) (by omega) (by omega) (by omega) (by omega) (by omega) rfl
  
def o_Pl_placeSideBySide_3 : or_T := (47, 18, [(1, (0, 2, 24, [])), (4, (0, 0, 24, [])), (5, (0, 0, 24, [])), (7, (0, 2, 24, [])), (9, (0, 1, 23, [])), (14, (0, 0, 23, [])), (15, (0, 0, 16777215, [])), (16, (0, -1000000, -1000000, [])), (17, (0, 0, 0, []))], [(10, [15, 12, 14], []), (10, [14, 13, 9], []), (9, [13, 6], [7]), (9, [12, 6], [6]), (20, [6, 7, 4, 5], [60, 0, 3, 861, 2, 4, 7]), (24, [3, 11], []), (24, [1, 7], []), (24, [0, 6], [])], [], [], [(20, [6, 15, 9], [60, 0, 2, 875, 6, 7]), (20, [9, 7], [50, 0, 0, 2, 6, 0, 2, 0, 1, 1, 0, 0, 6, 4, 2, 1, 0, 0, 1, 1, 1]), (20, [6, 11, 16, 17, 4, 5], [60, 0, 4, 869, 2, 4, 7, 1002])], [], [(9, 7, -4294967296, -1), (1, 7, -4294967296, 0), (7, 1, -4294967296, 0)])
theorem oo_Pl_placeSideBySide_3 {kA : Nat → ClassId} : or_ok PRD kA GG o_Pl_placeSideBySide_3 := by
  refine or_mk fun A ta ws vs hD hth hl => ?_
  intro t1 k1 t4 k4 t5 k5 t7 k7 t9 k9 t14 k14 t15 k15 t16 k16 t17 k17 d0 d1 d2 f0 f1 f2 f3 f6 f10 f11 f15
  replace f0 := shm_107 f0
  replace f1 := shm_107 f1
  replace f2 := shm_198 f2
  replace f3 := shm_111 f3
  replace f6 := shm_1105 f6
  replace f10 := shm_5 f10
  replace f11 := shm_5 f11
  replace f15 := shm_5 f15
  have q11 : n_v vs 11 = n_v vs 3 := f10.symm
  have q7 : n_v vs 7 = n_v vs 1 := f11.symm
  have q6 : n_v vs 6 = n_v vs 0 := f15.symm
  simp only [q6, q7] at f2 f3 f6
  have ad_13 : v_ad (n_v vs 13) = w_ar ws (n_v vs 0) 7 := congrArg v_ad f2
  have ad_12 : v_ad (n_v vs 12) = w_ar ws (n_v vs 0) 6 := congrArg v_ad f3
  simp only [ad_12] at f0
  have h0 : v_iv (n_v vs 15) = w_ei ws (w_ar ws (n_v vs 0) 6) (v_iv (n_v vs 14)) := f0
  simp only [ad_13] at f1
  have h1 : v_iv (n_v vs 14) = w_ei ws (w_ar ws (n_v vs 0) 7) (v_iv (n_v vs 9)) := f1
  have nf0 : fc_1 PRD (20, [6, 15, 9], [60, 0, 2, 875, 6, 7]) ws (vs) := by
    refine ⟨nf_in hl rfl, sgq_1112 ?_⟩
    · show TQT (w_ei ws (w_ar ws (n_v vs 6) 6)) (w_ei ws (w_ar ws (n_v vs 6) 7)) (v_iv (n_v vs 15)) (v_iv (n_v vs 9))
      rw [q6]
      exact vc_Pl_placeSideBySide_3_0 (v_iv (n_v vs 9)) (v_iv (n_v vs 14)) (v_iv (n_v vs 15)) (w_ei ws (w_ar ws (n_v vs 0) 6)) (w_ei ws (w_ar ws (n_v vs 0) 7)) k9 k14 k15 h0 h1
  have nf1 : fc_1 PRD (20, [9, 7], [50, 0, 0, 2, 6, 0, 2, 0, 1, 1, 0, 0, 6, 4, 2, 1, 0, 0, 1, 1, 1]) ws (vs) := by
    refine ⟨nf_in hl rfl, sgq_1113 ?_⟩
    · show (1 ≤ v_iv (n_v vs 9)) ∧ ((v_iv (n_v vs 9) + 1) ≤ v_iv (n_v vs 7))
      rw [q7]
      exact vc_Pl_placeSideBySide_3_1 (v_iv (n_v vs 1)) (v_iv (n_v vs 7)) (v_iv (n_v vs 8)) (v_iv (n_v vs 9)) (v_iv (n_v vs 16)) (v_iv (n_v vs 17)) k1 k7 k9 d0 d1 d2
  have nf2 : fc_1 PRD (20, [6, 11, 16, 17, 4, 5], [60, 0, 4, 869, 2, 4, 7, 1002]) ws (vs) := by
    refine ⟨nf_in hl rfl, sgq_1114 ?_⟩
    · show TQS (w_ei ws (w_ar ws (n_v vs 6) 2)) (w_ei ws (w_ar ws (n_v vs 6) 4)) (w_ei ws (w_ar ws (n_v vs 6) 7)) (w_ei ws (w_ar ws (n_v vs 11) 2)) (v_iv (n_v vs 16)) (v_iv (n_v vs 17)) (v_iv (n_v vs 4)) (v_iv (n_v vs 5))
      simp only [q11, q6]
      exact vc_Pl_placeSideBySide_3_2 (v_iv (n_v vs 1)) (v_iv (n_v vs 4)) (v_iv (n_v vs 5)) (v_iv (n_v vs 7)) (v_iv (n_v vs 8)) (v_iv (n_v vs 9)) (v_iv (n_v vs 16)) (v_iv (n_v vs 17)) (w_ei ws (w_ar ws (n_v vs 0) 7)) (w_ei ws (w_ar ws (n_v vs 0) 2)) (w_ei ws (w_ar ws (n_v vs 0) 4)) (w_ei ws (w_ar ws (n_v vs 3) 2)) k1 k4 k5 k7 k16 k17 d1 d2 f6
  refine ⟨(fun _ h => (by cases h)), [], trivial, ?_, (fun _ h => (by cases h))⟩
  rw [List.append_nil]
  exact List.forall_mem_cons.mpr ⟨⟨show (20 : Nat) < 100 from by decide, nf0⟩, List.forall_mem_cons.mpr ⟨⟨show (20 : Nat) < 100 from by decide, nf1⟩, List.forall_mem_cons.mpr ⟨⟨show (20 : Nat) < 100 from by decide, nf2⟩, (fun _ h => (by cases h))⟩⟩⟩
set_option maxHeartbeats 4000000 in
theorem vc_Pl_placeSideBySide_4_0 (x1 : Int) (x4 : Int) (x5 : Int) (x7 : Int) (x9 : Int) (x10 : Int) (x11 : Int) (x12 : Int) (x16 : Int) (order_0 : Int → Int) (nodes_0o2 : Int) (level_0 : Int → Int) (kids_0 : Int → Int) (parent_0 : Int → Int) (x_0o3 : Int → Int) (k1 : 0 ≤ x1 ∧ x1 ≤ 24) (k4 : 0 ≤ x4 ∧ x4 ≤ 24) (k5 : 0 ≤ x5 ∧ x5 ≤ 24) (k7 : 2 ≤ x7 ∧ x7 ≤ 24) (k9 : 1 ≤ x9 ∧ x9 ≤ 23) (k10 : 0 ≤ x10 ∧ x10 ≤ 16777215) (k11 : (-1000000) ≤ x11 ∧ x11 ≤ 67108868) (k12 : 24 ≤ x12 ∧ x12 ≤ 24) (k16 : 0 ≤ x16 ∧ x16 ≤ 0) (d0 : x7 + (-4294967296) ≤ x1 ∧ x1 ≤ x7 + 0) (d3 : x1 + (-4294967296) ≤ x7 ∧ x7 ≤ x1 + 0) (f2 : TQK (order_0) (level_0) (kids_0) (x1) (x4) (x5)) (f9 : TQ1 (nodes_0o2) (order_0) (parent_0) (x_0o3) (x4) (x5) (x9)) (f12 : TQS (order_0) (level_0) (kids_0) (x_0o3) (x11) (x12) (x4) (x5)) (kz_2_0 : 0 ≤ nodes_0o2 ∧ nodes_0o2 ≤ 24) : TQV (nodes_0o2) (order_0) (parent_0) (x_0o3) (x11) (x10) (x4) (x5) (x9) (x16) := by
  first
    | assumption
    | exact tqv_start ‹TQ1 _ _ _ _ _ _ _› ‹TQS _ _ _ _ _ _ _ _› ‹TQK _ _ _ _ _ _› (by omega) (by omega) (by omega)
    | (have q := bit_one (s := x10) (t := x16) (c := x18) (v := x12) (one := x17) (by assumption) (by assumption) (by omega) (by omega) (by omega) (by omega)
       first
         | exact tqv_skip ‹TQV _ _ _ _ _ _ _ _ _ _› (fun z => by have := q.mp z; omega) (by omega)
         | exact tqv_step (v := x12) (a := x20) ‹TQV _ _ _ _ _ _ _ _ _ _› (by omega) (q.mpr (by omega)) (by assumption) (by omega) (by assumption) rfl (by omega))
  
def o_Pl_placeSideBySide_4 : or_T := (112, 17, [(1, (0, 0, 24, [])), (2, (2, 0, 0, [3])), (4, (0, 0, 24, [])), (5, (0, 0, 24, [])), (7, (0, 2, 24, [])), (9, (0, 1, 23, [])), (10, (0, 0, 16777215, [])), (11, (0, -1000000, 67108868, [])), (12, (0, 24, 24, [])), (16, (0, 0, 0, []))], [(20, [6, 7, 4, 5], [60, 0, 3, 861, 2, 4, 7]), (24, [2, 13], []), (24, [3, 14], []), (24, [1, 7], []), (20, [6, 13, 14, 4, 5, 9], [60, 1, 3, 864, 1000, 2, 5, 2002]), (20, [6, 14, 11, 12, 4, 5], [60, 0, 4, 869, 2, 4, 7, 1002]), (24, [0, 6], [])], [], [], [(20, [6, 13, 14, 11, 10, 4, 5, 9, 16], [60, 1, 3, 870, 1000, 2, 5, 2002])], [], [(1, 7, -4294967296, 0), (7, 1, -4294967296, 0)])
theorem oo_Pl_placeSideBySide_4 {kA : Nat → ClassId} : or_ok PRD kA GG o_Pl_placeSideBySide_4 := by
  refine or_mk fun A ta ws vs hD hth hl => ?_
  intro t1 k1 t2 r2 t4 k4 t5 k5 t7 k7 t9 k9 t10 k10 t11 k11 t12 k12 t16 k16 d0 d3 f2 f5 f6 f7 f9 f12 f13
  replace f2 := shm_1105 f2
  replace f5 := shm_5 f5
  replace f6 := shm_5 f6
  replace f7 := shm_5 f7
  replace f9 := shm_1109 f9
  replace f12 := shm_1114 f12
  replace f13 := shm_5 f13
  have q13 : n_v vs 13 = n_v vs 2 := f5.symm
  have q14 : n_v vs 14 = n_v vs 3 := f6.symm
  have q7 : n_v vs 7 = n_v vs 1 := f7.symm
  have q6 : n_v vs 6 = n_v vs 0 := f13.symm
  simp only [q13, q6, q7, q14] at f2 f9 f12
  have kz_2_0 := fdq_21 hD hth r2
  have nf0 : fc_1 PRD (20, [6, 13, 14, 11, 10, 4, 5, 9, 16], [60, 1, 3, 870, 1000, 2, 5, 2002]) ws (vs) := by
    refine ⟨nf_in hl rfl, sgq_1115 ?_⟩
    · show TQV (w_fi ws (n_v vs 13) 0) (w_ei ws (w_ar ws (n_v vs 6) 2)) (w_ei ws (w_ar ws (n_v vs 6) 5)) (w_ei ws (w_ar ws (n_v vs 14) 2)) (v_iv (n_v vs 11)) (v_iv (n_v vs 10)) (v_iv (n_v vs 4)) (v_iv (n_v vs 5)) (v_iv (n_v vs 9)) (v_iv (n_v vs 16))
      simp only [q13, q14, q6]
      exact vc_Pl_placeSideBySide_4_0 (v_iv (n_v vs 1)) (v_iv (n_v vs 4)) (v_iv (n_v vs 5)) (v_iv (n_v vs 7)) (v_iv (n_v vs 9)) (v_iv (n_v vs 10)) (v_iv (n_v vs 11)) (v_iv (n_v vs 12)) (v_iv (n_v vs 16)) (w_ei ws (w_ar ws (n_v vs 0) 2)) (w_fi ws (n_v vs 2) 0) (w_ei ws (w_ar ws (n_v vs 0) 4)) (w_ei ws (w_ar ws (n_v vs 0) 7)) (w_ei ws (w_ar ws (n_v vs 0) 5)) (w_ei ws (w_ar ws (n_v vs 3) 2)) k1 k4 k5 k7 k9 k10 k11 k12 k16 d0 d3 f2 f9 f12 kz_2_0
  refine ⟨(fun _ h => (by cases h)), [], trivial, ?_, (fun _ h => (by cases h))⟩
  rw [List.append_nil]
  exact List.forall_mem_cons.mpr ⟨⟨show (20 : Nat) < 100 from by decide, nf0⟩, (fun _ h => (by cases h))⟩
set_option maxHeartbeats 4000000 in
theorem vc_Pl_placeSideBySide_5_0 (x1 : Int) (x4 : Int) (x5 : Int) (x7 : Int) (x8 : Int) (x9 : Int) (x10 : Int) (x11 : Int) (x12 : Int) (x17 : Int) (x19 : Int) (x21 : Int) (level_0 : Int → Int) (x_0o3 : Int → Int) (nodes_0o2 : Int) (order_0 : Int → Int) (under_0 : Int → Int) (kids_0 : Int → Int) (parent_0 : Int → Int) (k1 : 0 ≤ x1 ∧ x1 ≤ 24) (k4 : 0 ≤ x4 ∧ x4 ≤ 24) (k5 : 0 ≤ x5 ∧ x5 ≤ 24) (k7 : 2 ≤ x7 ∧ x7 ≤ 24) (k8 : 0 ≤ x8 ∧ x8 ≤ 16777215) (k9 : 1 ≤ x9 ∧ x9 ≤ 23) (k10 : 0 ≤ x10 ∧ x10 ≤ 16777215) (k11 : (-1000000) ≤ x11 ∧ x11 ≤ 67108868) (k12 : 0 ≤ x12 ∧ x12 ≤ 23) (k17 : (-2147483648) ≤ x17 ∧ x17 ≤ (-2147483648)) (k19 : (-2147483648) ≤ x19 ∧ x19 ≤ 690000000) (k21 : 1 ≤ x21 ∧ x21 ≤ 24) (d1 : x7 + (-4294967296) ≤ x1 ∧ x1 ≤ x7 + 0) (d4 : x1 + (-4294967296) ≤ x7 ∧ x7 ≤ x1 + 0) (d5 : x1 + (-4294967296) ≤ x9 ∧ x9 ≤ x1 + (-1)) (f0 : x21 = x12 + 1) (f2 : TQE (nodes_0o2) (level_0) (x_0o3) (x10) (x12) (x19)) (f3 : TQE (nodes_0o2) (level_0) (x_0o3) (x8) (x12) (x17)) (f5 : TQU (nodes_0o2) (order_0) (under_0) (x4) (x5)) (f6 : TQK (order_0) (level_0) (kids_0) (x1) (x4) (x5)) (f7 : TQC (nodes_0o2) (order_0) (parent_0) (x1) (x4) (x5)) (f8 : TQD (nodes_0o2) (order_0) (parent_0) (level_0) (x4)) (f12 : TQP (nodes_0o2) (order_0) (kids_0) (x8) (x1) (x4) (x5)) (f13 : TQ1 (nodes_0o2) (order_0) (parent_0) (x_0o3) (x4) (x5) (x9)) (f14 : TQT (under_0) (kids_0) (x10) (x9)) (f16 : TQS (order_0) (level_0) (kids_0) (x_0o3) (x11) (x12) (x4) (x5)) (kz_2_0 : 0 ≤ nodes_0o2 ∧ nodes_0o2 ≤ 24) : TQS (order_0) (level_0) (kids_0) (x_0o3) (x11) (x21) (x4) (x5) := by
  first
    | exact tqs_start (by omega) (by omega) ‹TQK _ _ _ _ _ _› (by omega)
    | exact tqs_skip (j := x9) (r := x17) (e := x19) (pl := x8) (tr := x10) ‹TQS _ _ _ _ _ _ _ _› ‹TQ1 _ _ _ _ _ _ _› ‹TQC _ _ _ _ _ _› ‹TQP _ _ _ _ _ _ _› ‹TQU _ _ _ _ _› ‹TQK _ _ _ _ _ _› ‹TQD _ _ _ _ _› (by omega) (by omega) (by omega) ‹TQT _ _ _ _› (by assumption) (by assumption) (by omega) (by omega)
    | exact tqs_step (pr := fun z => z) (j := x9) (r := x17) (e := x19) (f := x24) (pl := x8) (tr := x10) ‹TQS _ _ _ _ _ _ _ _› ‹TQP _ _ _ _ _ _ _› ‹TQU _ _ _ _ _› ‹TQK _ _ _ _ _ _› (by omega) (by omega) ‹TQT _ _ _ _› (by assumption) (by assumption) (by omega) (by omega) (by omega) (by omega) (by omega) rfl
  
def o_Pl_placeSideBySide_5 : or_T := (47, 22, [(1, (0, 0, 24, [])), (2, (2, 0, 0, [3])), (4, (0, 0, 24, [])), (5, (0, 0, 24, [])), (7, (0, 2, 24, [])), (8, (0, 0, 16777215, [])), (9, (0, 1, 23, [])), (10, (0, 0, 16777215, [])), (11, (0, -1000000, 67108868, [])), (12, (0, 0, 23, [])), (17, (0, -2147483648, -2147483648, [])), (19, (0, -2147483648, 690000000, [])), (21, (0, 1, 24, []))], [(6, [21, 12], [1]), (20, [6, 13, 14, 10, 12, 19], [60, 1, 2, 868, 1000, 4, 2002]), (20, [6, 13, 14, 8, 12, 17], [60, 1, 2, 868, 1000, 4, 2002]), (20, [6, 13, 4, 5], [60, 1, 2, 860, 1000, 2, 6]), (20, [6, 7, 4, 5], [60, 0, 3, 861, 2, 4, 7]), (20, [6, 13, 7, 4, 5], [60, 1, 2, 862, 1000, 2, 5]), (20, [6, 13, 4], [60, 1, 3, 859, 1000, 2, 5, 4]), (24, [2, 13], []), (24, [3, 14], []), (24, [1, 7], []), (20, [6, 13, 8, 7, 4, 5], [60, 1, 2, 863, 1000, 2, 7]), (20, [6, 13, 14, 4, 5, 9], [60, 1, 3, 864, 1000, 2, 5, 2002]), (20, [6, 10, 9], [60, 0, 2, 875, 6, 7]), (20, [6, 14, 11, 12, 4, 5], [60, 0, 4, 869, 2, 4, 7, 1002]), (24, [0, 6], [])], [], [], [(20, [6, 14, 11, 21, 4, 5], [60, 0, 4, 869, 2, 4, 7, 1002])], [], [(1, 7, -4294967296, 0), (7, 1, -4294967296, 0), (9, 1, -4294967296, -1)])
theorem oo_Pl_placeSideBySide_5 {kA : Nat → ClassId} : or_ok PRD kA GG o_Pl_placeSideBySide_5 := by
  refine or_mk fun A ta ws vs hD hth hl => ?_
  intro t1 k1 t2 r2 t4 k4 t5 k5 t7 k7 t8 k8 t9 k9 t10 k10 t11 k11 t12 k12 t17 k17 t19 k19 t21 k21 d1 d4 d5 f0 f2 f3 f5 f6 f7 f8 f9 f10 f11 f12 f13 f14 f16 f17
  replace f0 := shm_4 f0
  replace f2 := shm_412 f2
  replace f3 := shm_412 f3
  replace f5 := shm_1104 f5
  replace f6 := shm_1105 f6
  replace f7 := shm_1106 f7
  replace f8 := shm_1107 f8
  replace f9 := shm_5 f9
  replace f10 := shm_5 f10
  replace f11 := shm_5 f11
  replace f12 := shm_1108 f12
  replace f13 := shm_1109 f13
  replace f14 := shm_1112 f14
  replace f16 := shm_1114 f16
  replace f17 := shm_5 f17
  have q13 : n_v vs 13 = n_v vs 2 := f9.symm
  have q14 : n_v vs 14 = n_v vs 3 := f10.symm
  have q7 : n_v vs 7 = n_v vs 1 := f11.symm
  have q6 : n_v vs 6 = n_v vs 0 := f17.symm
  simp only [q13, q14, q6, q7] at f2 f3 f5 f6 f7 f8 f12 f13 f14 f16
  have kz_2_0 := fdq_21 hD hth r2
  have nf0 : fc_1 PRD (20, [6, 14, 11, 21, 4, 5], [60, 0, 4, 869, 2, 4, 7, 1002]) ws (vs) := by
    refine ⟨nf_in hl rfl, sgq_1114 ?_⟩
    · show TQS (w_ei ws (w_ar ws (n_v vs 6) 2)) (w_ei ws (w_ar ws (n_v vs 6) 4)) (w_ei ws (w_ar ws (n_v vs 6) 7)) (w_ei ws (w_ar ws (n_v vs 14) 2)) (v_iv (n_v vs 11)) (v_iv (n_v vs 21)) (v_iv (n_v vs 4)) (v_iv (n_v vs 5))
      simp only [q14, q6]
      exact vc_Pl_placeSideBySide_5_0 (v_iv (n_v vs 1)) (v_iv (n_v vs 4)) (v_iv (n_v vs 5)) (v_iv (n_v vs 7)) (v_iv (n_v vs 8)) (v_iv (n_v vs 9)) (v_iv (n_v vs 10)) (v_iv (n_v vs 11)) (v_iv (n_v vs 12)) (v_iv (n_v vs 17)) (v_iv (n_v vs 19)) (v_iv (n_v vs 21)) (w_ei ws (w_ar ws (n_v vs 0) 4)) (w_ei ws (w_ar ws (n_v vs 3) 2)) (w_fi ws (n_v vs 2) 0) (w_ei ws (w_ar ws (n_v vs 0) 2)) (w_ei ws (w_ar ws (n_v vs 0) 6)) (w_ei ws (w_ar ws (n_v vs 0) 7)) (w_ei ws (w_ar ws (n_v vs 0) 5)) k1 k4 k5 k7 k8 k9 k10 k11 k12 k17 k19 k21 d1 d4 d5 f0 f2 f3 f5 f6 f7 f8 f12 f13 f14 f16 kz_2_0
  refine ⟨(fun _ h => (by cases h)), [], trivial, ?_, (fun _ h => (by cases h))⟩
  rw [List.append_nil]
  exact List.forall_mem_cons.mpr ⟨⟨show (20 : Nat) < 100 from by decide, nf0⟩, (fun _ h => (by cases h))⟩
set_option maxHeartbeats 4000000 in
theorem vc_Pl_placeSideBySide_6_0 (x1 : Int) (x4 : Int) (x5 : Int) (x7 : Int) (x8 : Int) (x9 : Int) (x10 : Int) (x11 : Int) (x12 : Int) (x17 : Int) (x19 : Int) (x22 : Int) (level_0 : Int → Int) (x_0o3 : Int → Int) (nodes_0o2 : Int) (order_0 : Int → Int) (under_0 : Int → Int) (kids_0 : Int → Int) (parent_0 : Int → Int) (k1 : 0 ≤ x1 ∧ x1 ≤ 24) (k4 : 0 ≤ x4 ∧ x4 ≤ 24) (k5 : 0 ≤ x5 ∧ x5 ≤ 24) (k7 : 2 ≤ x7 ∧ x7 ≤ 24) (k8 : 0 ≤ x8 ∧ x8 ≤ 16777215) (k9 : 1 ≤ x9 ∧ x9 ≤ 23) (k10 : 0 ≤ x10 ∧ x10 ≤ 16777215) (k11 : (-1000000) ≤ x11 ∧ x11 ≤ 67108868) (k12 : 0 ≤ x12 ∧ x12 ≤ 23) (k17 : (-2147483647) ≤ x17 ∧ x17 ≤ 690000000) (k19 : (-2147483648) ≤ x19 ∧ x19 ≤ (-2147483648)) (k22 : 1 ≤ x22 ∧ x22 ≤ 24) (d1 : x7 + (-4294967296) ≤ x1 ∧ x1 ≤ x7 + 0) (d4 : x1 + (-4294967296) ≤ x7 ∧ x7 ≤ x1 + 0) (d5 : x1 + (-4294967296) ≤ x9 ∧ x9 ≤ x1 + (-1)) (f0 : x22 = x12 + 1) (f3 : TQE (nodes_0o2) (level_0) (x_0o3) (x10) (x12) (x19)) (f4 : TQE (nodes_0o2) (level_0) (x_0o3) (x8) (x12) (x17)) (f6 : TQU (nodes_0o2) (order_0) (under_0) (x4) (x5)) (f7 : TQK (order_0) (level_0) (kids_0) (x1) (x4) (x5)) (f8 : TQC (nodes_0o2) (order_0) (parent_0) (x1) (x4) (x5)) (f9 : TQD (nodes_0o2) (order_0) (parent_0) (level_0) (x4)) (f13 : TQP (nodes_0o2) (order_0) (kids_0) (x8) (x1) (x4) (x5)) (f14 : TQ1 (nodes_0o2) (order_0) (parent_0) (x_0o3) (x4) (x5) (x9)) (f15 : TQT (under_0) (kids_0) (x10) (x9)) (f17 : TQS (order_0) (level_0) (kids_0) (x_0o3) (x11) (x12) (x4) (x5)) (kz_2_0 : 0 ≤ nodes_0o2 ∧ nodes_0o2 ≤ 24) : TQS (order_0) (level_0) (kids_0) (x_0o3) (x11) (x22) (x4) (x5) := by
  first
    | exact tqs_start (by omega) (by omega) ‹TQK _ _ _ _ _ _› (by omega)
    | exact tqs_skip (j := x9) (r := x17) (e := x19) (pl := x8) (tr := x10) ‹TQS _ _ _ _ _ _ _ _› ‹TQ1 _ _ _ _ _ _ _› ‹TQC _ _ _ _ _ _› ‹TQP _ _ _ _ _ _ _› ‹TQU _ _ _ _ _› ‹TQK _ _ _ _ _ _› ‹TQD _ _ _ _ _› (by omega) (by omega) (by omega) ‹TQT _ _ _ _› (by assumption) (by assumption) (by omega) (by omega)
    | exact tqs_step (pr := fun z => z) (j := x9) (r := x17) (e := x19) (f := x24) (pl := x8) (tr := x10) ‹TQS _ _ _ _ _ _ _ _› ‹TQP _ _ _ _ _ _ _› ‹TQU _ _ _ _ _› ‹TQK _ _ _ _ _ _› (by omega) (by omega) ‹TQT _ _ _ _› (by assumption) (by assumption) (by omega) (by omega) (by omega) (by omega) (by omega) rfl
  
def o_Pl_placeSideBySide_6 : or_T := (47, 23, [(1, (0, 0, 24, [])), (2, (2, 0, 0, [3])), (4, (0, 0, 24, [])), (5, (0, 0, 24, [])), (7, (0, 2, 24, [])), (8, (0, 0, 16777215, [])), (9, (0, 1, 23, [])), (10, (0, 0, 16777215, [])), (11, (0, -1000000, 67108868, [])), (12, (0, 0, 23, [])), (17, (0, -2147483647, 690000000, [])), (19, (0, -2147483648, -2147483648, [])), (22, (0, 1, 24, []))], [(6, [22, 12], [1]), (20, [6, 13, 14, 10, 12, 19], [60, 1, 2, 868, 1000, 4, 2002]), (20, [6, 13, 14, 8, 12, 17], [60, 1, 2, 868, 1000, 4, 2002]), (20, [6, 13, 4, 5], [60, 1, 2, 860, 1000, 2, 6]), (20, [6, 7, 4, 5], [60, 0, 3, 861, 2, 4, 7]), (20, [6, 13, 7, 4, 5], [60, 1, 2, 862, 1000, 2, 5]), (20, [6, 13, 4], [60, 1, 3, 859, 1000, 2, 5, 4]), (24, [2, 13], []), (24, [3, 14], []), (24, [1, 7], []), (20, [6, 13, 8, 7, 4, 5], [60, 1, 2, 863, 1000, 2, 7]), (20, [6, 13, 14, 4, 5, 9], [60, 1, 3, 864, 1000, 2, 5, 2002]), (20, [6, 10, 9], [60, 0, 2, 875, 6, 7]), (20, [6, 14, 11, 12, 4, 5], [60, 0, 4, 869, 2, 4, 7, 1002]), (24, [0, 6], [])], [], [], [(20, [6, 14, 11, 22, 4, 5], [60, 0, 4, 869, 2, 4, 7, 1002])], [], [(1, 7, -4294967296, 0), (7, 1, -4294967296, 0), (9, 1, -4294967296, -1)])
theorem oo_Pl_placeSideBySide_6 {kA : Nat → ClassId} : or_ok PRD kA GG o_Pl_placeSideBySide_6 := by
  refine or_mk fun A ta ws vs hD hth hl => ?_
  intro t1 k1 t2 r2 t4 k4 t5 k5 t7 k7 t8 k8 t9 k9 t10 k10 t11 k11 t12 k12 t17 k17 t19 k19 t22 k22 d1 d4 d5 f0 f3 f4 f6 f7 f8 f9 f10 f11 f12 f13 f14 f15 f17 f18
  replace f0 := shm_4 f0
  replace f3 := shm_412 f3
  replace f4 := shm_412 f4
  replace f6 := shm_1104 f6
  replace f7 := shm_1105 f7
  replace f8 := shm_1106 f8
  replace f9 := shm_1107 f9
  replace f10 := shm_5 f10
  replace f11 := shm_5 f11
  replace f12 := shm_5 f12
  replace f13 := shm_1108 f13
  replace f14 := shm_1109 f14
  replace f15 := shm_1112 f15
  replace f17 := shm_1114 f17
  replace f18 := shm_5 f18
  have q13 : n_v vs 13 = n_v vs 2 := f10.symm
  have q14 : n_v vs 14 = n_v vs 3 := f11.symm
  have q7 : n_v vs 7 = n_v vs 1 := f12.symm
  have q6 : n_v vs 6 = n_v vs 0 := f18.symm
  simp only [q13, q14, q6, q7] at f3 f4 f6 f7 f8 f9 f13 f14 f15 f17
  have kz_2_0 := fdq_21 hD hth r2
  have nf0 : fc_1 PRD (20, [6, 14, 11, 22, 4, 5], [60, 0, 4, 869, 2, 4, 7, 1002]) ws (vs) := by
    refine ⟨nf_in hl rfl, sgq_1114 ?_⟩
    · show TQS (w_ei ws (w_ar ws (n_v vs 6) 2)) (w_ei ws (w_ar ws (n_v vs 6) 4)) (w_ei ws (w_ar ws (n_v vs 6) 7)) (w_ei ws (w_ar ws (n_v vs 14) 2)) (v_iv (n_v vs 11)) (v_iv (n_v vs 22)) (v_iv (n_v vs 4)) (v_iv (n_v vs 5))
      simp only [q14, q6]
      exact vc_Pl_placeSideBySide_6_0 (v_iv (n_v vs 1)) (v_iv (n_v vs 4)) (v_iv (n_v vs 5)) (v_iv (n_v vs 7)) (v_iv (n_v vs 8)) (v_iv (n_v vs 9)) (v_iv (n_v vs 10)) (v_iv (n_v vs 11)) (v_iv (n_v vs 12)) (v_iv (n_v vs 17)) (v_iv (n_v vs 19)) (v_iv (n_v vs 22)) (w_ei ws (w_ar ws (n_v vs 0) 4)) (w_ei ws (w_ar ws (n_v vs 3) 2)) (w_fi ws (n_v vs 2) 0) (w_ei ws (w_ar ws (n_v vs 0) 2)) (w_ei ws (w_ar ws (n_v vs 0) 6)) (w_ei ws (w_ar ws (n_v vs 0) 7)) (w_ei ws (w_ar ws (n_v vs 0) 5)) k1 k4 k5 k7 k8 k9 k10 k11 k12 k17 k19 k22 d1 d4 d5 f0 f3 f4 f6 f7 f8 f9 f13 f14 f15 f17 kz_2_0
  refine ⟨(fun _ h => (by cases h)), [], trivial, ?_, (fun _ h => (by cases h))⟩
  rw [List.append_nil]
  exact List.forall_mem_cons.mpr ⟨⟨show (20 : Nat) < 100 from by decide, nf0⟩, (fun _ h => (by cases h))⟩
set_option maxHeartbeats 4000000 in
theorem vc_Pl_placeSideBySide_7_r0 (x1 : Int) (x4 : Int) (x5 : Int) (x7 : Int) (x8 : Int) (x9 : Int) (x10 : Int) (x12 : Int) (x17 : Int) (x19 : Int) (x20 : Int) (x21 : Int) (level_0 : Int → Int) (x_0o3 : Int → Int) (nodes_0o2 : Int) (order_0 : Int → Int) (kids_0 : Int → Int) (parent_0 : Int → Int) (k1 : 0 ≤ x1 ∧ x1 ≤ 24) (k4 : 0 ≤ x4 ∧ x4 ≤ 24) (k5 : 0 ≤ x5 ∧ x5 ≤ 24) (k7 : 2 ≤ x7 ∧ x7 ≤ 24) (k8 : 0 ≤ x8 ∧ x8 ≤ 16777215) (k9 : 1 ≤ x9 ∧ x9 ≤ 23) (k12 : 0 ≤ x12 ∧ x12 ≤ 23) (k17 : (-2147483647) ≤ x17 ∧ x17 ≤ 690000000) (d0 : x7 + (-4294967296) ≤ x1 ∧ x1 ≤ x7 + 0) (d3 : x1 + (-4294967296) ≤ x7 ∧ x7 ≤ x1 + 0) (d4 : x1 + (-4294967296) ≤ x9 ∧ x9 ≤ x1 + (-1)) (f3 : TQE (nodes_0o2) (level_0) (x_0o3) (x8) (x12) (x17)) (f7 : TQC (nodes_0o2) (order_0) (parent_0) (x1) (x4) (x5)) (f12 : TQP (nodes_0o2) (order_0) (kids_0) (x8) (x1) (x4) (x5)) (f13 : TQ1 (nodes_0o2) (order_0) (parent_0) (x_0o3) (x4) (x5) (x9)) (kz_2_0 : 0 ≤ nodes_0o2 ∧ nodes_0o2 ≤ 24) : (-33554432) ≤ x17 ∧ x17 ≤ 33554432 := by
  first
    | omega
    | (have h := tqe_val (j := x9) (l := x12) (r := x17) (pl := x8) ‹TQ1 _ _ _ _ _ _ _› ‹TQC _ _ _ _ _ _› ‹TQP _ _ _ _ _ _ _› (by omega) (by assumption) (by omega); omega)
    | (have h := tqe_val2 (j := x9) (l := x12) (r := x19) (tr := x10) ‹TQ1 _ _ _ _ _ _ _› ‹TQC _ _ _ _ _ _› ‹TQU _ _ _ _ _› ‹TQK _ _ _ _ _ _› (by omega) (by omega) ‹TQT _ _ _ _› (by assumption) (by omega); omega)
    | (have q := bit_one (s := x10) (t := x16) (c := x18) (v := x12) (one := x17) (by assumption) (by assumption) (by omega) (by omega) (by omega) (by omega)
       have h := tqv_val (v := x12) (a := x20) (y := x21) ‹TQV _ _ _ _ _ _ _ _ _ _› ‹TQC _ _ _ _ _ _› ‹TQU _ _ _ _ _› ‹TQK _ _ _ _ _ _› (by omega) ‹TQT _ _ _ _› (by omega) (by omega) (q.mpr (by omega)) (by assumption) (by omega)
       omega)
  
def o_Pl_placeSideBySide_7 : or_T := (94, 23, [(0, (2, 0, 0, [6])), (1, (0, 0, 24, [])), (2, (2, 0, 0, [3])), (3, (2, 0, 0, [0])), (4, (0, 0, 24, [])), (5, (0, 0, 24, [])), (6, (2, 0, 0, [6])), (7, (0, 2, 24, [])), (8, (0, 0, 16777215, [])), (9, (0, 1, 23, [])), (10, (0, 0, 16777215, [])), (11, (0, -1000000, 67108868, [])), (12, (0, 0, 23, [])), (13, (2, 0, 0, [3])), (14, (2, 0, 0, [0])), (15, (0, 24, 24, [])), (17, (0, -2147483647, 690000000, [])), (19, (0, -2147483647, 690000000, [])), (20, (0, -2147483648, -2147483648, [])), (21, (0, -2147483648, -2147483648, []))], [(7, [19, 21], [1]), (7, [17, 20], [1]), (20, [6, 13, 14, 10, 12, 19], [60, 1, 2, 868, 1000, 4, 2002]), (20, [6, 13, 14, 8, 12, 17], [60, 1, 2, 868, 1000, 4, 2002]), (7, [12, 15], [2]), (20, [6, 13, 4, 5], [60, 1, 2, 860, 1000, 2, 6]), (20, [6, 7, 4, 5], [60, 0, 3, 861, 2, 4, 7]), (20, [6, 13, 7, 4, 5], [60, 1, 2, 862, 1000, 2, 5]), (20, [6, 13, 4], [60, 1, 3, 859, 1000, 2, 5, 4]), (24, [2, 13], []), (24, [3, 14], []), (24, [1, 7], []), (20, [6, 13, 8, 7, 4, 5], [60, 1, 2, 863, 1000, 2, 7]), (20, [6, 13, 14, 4, 5, 9], [60, 1, 3, 864, 1000, 2, 5, 2002]), (20, [6, 10, 9], [60, 0, 2, 875, 6, 7]), (20, [9, 7], [50, 0, 0, 2, 6, 0, 2, 0, 1, 1, 0, 0, 6, 4, 2, 1, 0, 0, 1, 1, 1]), (20, [6, 14, 11, 12, 4, 5], [60, 0, 4, 869, 2, 4, 7, 1002]), (24, [0, 6], [])], [(17, (0, -33554432, 33554432, []))], [], [], [], [(1, 7, -4294967296, 0), (4, 1, -4294967296, 22), (5, 1, -4294967296, 22), (7, 1, -4294967296, 0), (9, 1, -4294967296, -1), (9, 7, -4294967296, -1), (11, 12, -4294967296, 67108867)])
theorem oo_Pl_placeSideBySide_7 {kA : Nat → ClassId} : or_ok PRD kA GG o_Pl_placeSideBySide_7 := by
  refine or_mk fun A ta ws vs hD hth hl => ?_
  intro t0 r0 t1 k1 t2 r2 t3 r3 t4 k4 t5 k5 t6 r6 t7 k7 t8 k8 t9 k9 t10 k10 t11 k11 t12 k12 t13 r13 t14 r14 t15 k15 t17 k17 t19 k19 t20 k20 t21 k21 d0 d1 d2 d3 d4 d5 d6 f0 f1 f2 f3 f4 f5 f6 f7 f8 f9 f10 f11 f12 f13 f14 f15 f16 f17
  replace f3 := shm_412 f3
  replace f7 := shm_1106 f7
  replace f9 := shm_5 f9
  replace f10 := shm_5 f10
  replace f11 := shm_5 f11
  replace f12 := shm_1108 f12
  replace f13 := shm_1109 f13
  replace f17 := shm_5 f17
  have q13 : n_v vs 13 = n_v vs 2 := f9.symm
  have q14 : n_v vs 14 = n_v vs 3 := f10.symm
  have q7 : n_v vs 7 = n_v vs 1 := f11.symm
  have q6 : n_v vs 6 = n_v vs 0 := f17.symm
  simp only [q13, q14, q6, q7] at f3 f7 f12 f13
  have kz_2_0 := fdq_21 hD hth r2
  have hrf0 : (-33554432) ≤ v_iv (n_v vs 17) ∧ v_iv (n_v vs 17) ≤ 33554432 := vc_Pl_placeSideBySide_7_r0 (v_iv (n_v vs 1)) (v_iv (n_v vs 4)) (v_iv (n_v vs 5)) (v_iv (n_v vs 7)) (v_iv (n_v vs 8)) (v_iv (n_v vs 9)) (v_iv (n_v vs 10)) (v_iv (n_v vs 12)) (v_iv (n_v vs 17)) (v_iv (n_v vs 19)) (v_iv (n_v vs 20)) (v_iv (n_v vs 21)) (w_ei ws (w_ar ws (n_v vs 0) 4)) (w_ei ws (w_ar ws (n_v vs 3) 2)) (w_fi ws (n_v vs 2) 0) (w_ei ws (w_ar ws (n_v vs 0) 2)) (w_ei ws (w_ar ws (n_v vs 0) 7)) (w_ei ws (w_ar ws (n_v vs 0) 5)) k1 k4 k5 k7 k8 k9 k12 k17 d0 d3 d4 f3 f7 f12 f13 kz_2_0
  have rf17 : tv_ok ta (0, -33554432, 33554432, []) (n_v vs 17) := tv_in t17 (by first | omega | grind) (by first | omega | grind)
  refine ⟨List.forall_mem_cons.mpr ⟨rf17, (fun _ h => (by cases h))⟩, [], trivial, ?_, (fun _ h => (by cases h))⟩
  rw [List.append_nil]
  exact (fun _ h => (by cases h))
set_option maxHeartbeats 4000000 in
theorem vc_Pl_placeSideBySide_8_r0 (x1 : Int) (x4 : Int) (x5 : Int) (x7 : Int) (x8 : Int) (x9 : Int) (x10 : Int) (x12 : Int) (x17 : Int) (x19 : Int) (x20 : Int) (x21 : Int) (level_0 : Int → Int) (x_0o3 : Int → Int) (nodes_0o2 : Int) (order_0 : Int → Int) (under_0 : Int → Int) (kids_0 : Int → Int) (parent_0 : Int → Int) (k1 : 0 ≤ x1 ∧ x1 ≤ 24) (k4 : 0 ≤ x4 ∧ x4 ≤ 24) (k5 : 0 ≤ x5 ∧ x5 ≤ 24) (k7 : 2 ≤ x7 ∧ x7 ≤ 24) (k9 : 1 ≤ x9 ∧ x9 ≤ 23) (k10 : 0 ≤ x10 ∧ x10 ≤ 16777215) (k12 : 0 ≤ x12 ∧ x12 ≤ 23) (k19 : (-2147483647) ≤ x19 ∧ x19 ≤ 690000000) (d1 : x7 + (-4294967296) ≤ x1 ∧ x1 ≤ x7 + 0) (d4 : x1 + (-4294967296) ≤ x7 ∧ x7 ≤ x1 + 0) (d5 : x1 + (-4294967296) ≤ x9 ∧ x9 ≤ x1 + (-1)) (f3 : TQE (nodes_0o2) (level_0) (x_0o3) (x10) (x12) (x19)) (f6 : TQU (nodes_0o2) (order_0) (under_0) (x4) (x5)) (f7 : TQK (order_0) (level_0) (kids_0) (x1) (x4) (x5)) (f8 : TQC (nodes_0o2) (order_0) (parent_0) (x1) (x4) (x5)) (f14 : TQ1 (nodes_0o2) (order_0) (parent_0) (x_0o3) (x4) (x5) (x9)) (f15 : TQT (under_0) (kids_0) (x10) (x9)) (kz_2_0 : 0 ≤ nodes_0o2 ∧ nodes_0o2 ≤ 24) : (-33554432) ≤ x19 ∧ x19 ≤ 33554432 := by
  first
    | omega
    | (have h := tqe_val (j := x9) (l := x12) (r := x17) (pl := x8) ‹TQ1 _ _ _ _ _ _ _› ‹TQC _ _ _ _ _ _› ‹TQP _ _ _ _ _ _ _› (by omega) (by assumption) (by omega); omega)
    | (have h := tqe_val2 (j := x9) (l := x12) (r := x19) (tr := x10) ‹TQ1 _ _ _ _ _ _ _› ‹TQC _ _ _ _ _ _› ‹TQU _ _ _ _ _› ‹TQK _ _ _ _ _ _› (by omega) (by omega) ‹TQT _ _ _ _› (by assumption) (by omega); omega)
    | (have q := bit_one (s := x10) (t := x16) (c := x18) (v := x12) (one := x17) (by assumption) (by assumption) (by omega) (by omega) (by omega) (by omega)
       have h := tqv_val (v := x12) (a := x20) (y := x21) ‹TQV _ _ _ _ _ _ _ _ _ _› ‹TQC _ _ _ _ _ _› ‹TQU _ _ _ _ _› ‹TQK _ _ _ _ _ _› (by omega) ‹TQT _ _ _ _› (by omega) (by omega) (q.mpr (by omega)) (by assumption) (by omega)
       omega)
  
def o_Pl_placeSideBySide_8 : or_T := (97, 24, [(0, (2, 0, 0, [6])), (1, (0, 0, 24, [])), (2, (2, 0, 0, [3])), (3, (2, 0, 0, [0])), (4, (0, 0, 24, [])), (5, (0, 0, 24, [])), (6, (2, 0, 0, [6])), (7, (0, 2, 24, [])), (8, (0, 0, 16777215, [])), (9, (0, 1, 23, [])), (10, (0, 0, 16777215, [])), (11, (0, -1000000, 67108868, [])), (12, (0, 0, 23, [])), (13, (2, 0, 0, [3])), (14, (2, 0, 0, [0])), (15, (0, 24, 24, [])), (17, (0, -33554432, 33554432, [])), (19, (0, -2147483647, 690000000, [])), (20, (0, -2147483648, -2147483648, [])), (21, (0, -2147483648, -2147483648, [])), (22, (0, 4, 4, [])), (23, (0, -33554428, 33554436, []))], [(1, [23, 17, 22], []), (7, [19, 21], [1]), (7, [17, 20], [1]), (20, [6, 13, 14, 10, 12, 19], [60, 1, 2, 868, 1000, 4, 2002]), (20, [6, 13, 14, 8, 12, 17], [60, 1, 2, 868, 1000, 4, 2002]), (7, [12, 15], [2]), (20, [6, 13, 4, 5], [60, 1, 2, 860, 1000, 2, 6]), (20, [6, 7, 4, 5], [60, 0, 3, 861, 2, 4, 7]), (20, [6, 13, 7, 4, 5], [60, 1, 2, 862, 1000, 2, 5]), (20, [6, 13, 4], [60, 1, 3, 859, 1000, 2, 5, 4]), (24, [2, 13], []), (24, [3, 14], []), (24, [1, 7], []), (20, [6, 13, 8, 7, 4, 5], [60, 1, 2, 863, 1000, 2, 7]), (20, [6, 13, 14, 4, 5, 9], [60, 1, 3, 864, 1000, 2, 5, 2002]), (20, [6, 10, 9], [60, 0, 2, 875, 6, 7]), (20, [9, 7], [50, 0, 0, 2, 6, 0, 2, 0, 1, 1, 0, 0, 6, 4, 2, 1, 0, 0, 1, 1, 1]), (20, [6, 14, 11, 12, 4, 5], [60, 0, 4, 869, 2, 4, 7, 1002]), (24, [0, 6], [])], [(19, (0, -33554432, 33554432, []))], [], [], [], [(23, 17, 4, 4), (1, 7, -4294967296, 0), (4, 1, -4294967296, 22), (5, 1, -4294967296, 22), (7, 1, -4294967296, 0), (9, 1, -4294967296, -1), (9, 7, -4294967296, -1), (11, 12, -4294967296, 67108867)])
theorem oo_Pl_placeSideBySide_8 {kA : Nat → ClassId} : or_ok PRD kA GG o_Pl_placeSideBySide_8 := by
  refine or_mk fun A ta ws vs hD hth hl => ?_
  intro t0 r0 t1 k1 t2 r2 t3 r3 t4 k4 t5 k5 t6 r6 t7 k7 t8 k8 t9 k9 t10 k10 t11 k11 t12 k12 t13 r13 t14 r14 t15 k15 t17 k17 t19 k19 t20 k20 t21 k21 t22 k22 t23 k23 d0 d1 d2 d3 d4 d5 d6 d7 f0 f1 f2 f3 f4 f5 f6 f7 f8 f9 f10 f11 f12 f13 f14 f15 f16 f17 f18
  replace f3 := shm_412 f3
  replace f6 := shm_1104 f6
  replace f7 := shm_1105 f7
  replace f8 := shm_1106 f8
  replace f10 := shm_5 f10
  replace f11 := shm_5 f11
  replace f12 := shm_5 f12
  replace f14 := shm_1109 f14
  replace f15 := shm_1112 f15
  replace f18 := shm_5 f18
  have q13 : n_v vs 13 = n_v vs 2 := f10.symm
  have q14 : n_v vs 14 = n_v vs 3 := f11.symm
  have q7 : n_v vs 7 = n_v vs 1 := f12.symm
  have q6 : n_v vs 6 = n_v vs 0 := f18.symm
  simp only [q13, q14, q6, q7] at f3 f6 f7 f8 f14 f15
  have kz_2_0 := fdq_21 hD hth r2
  have hrf0 : (-33554432) ≤ v_iv (n_v vs 19) ∧ v_iv (n_v vs 19) ≤ 33554432 := vc_Pl_placeSideBySide_8_r0 (v_iv (n_v vs 1)) (v_iv (n_v vs 4)) (v_iv (n_v vs 5)) (v_iv (n_v vs 7)) (v_iv (n_v vs 8)) (v_iv (n_v vs 9)) (v_iv (n_v vs 10)) (v_iv (n_v vs 12)) (v_iv (n_v vs 17)) (v_iv (n_v vs 19)) (v_iv (n_v vs 20)) (v_iv (n_v vs 21)) (w_ei ws (w_ar ws (n_v vs 0) 4)) (w_ei ws (w_ar ws (n_v vs 3) 2)) (w_fi ws (n_v vs 2) 0) (w_ei ws (w_ar ws (n_v vs 0) 2)) (w_ei ws (w_ar ws (n_v vs 0) 6)) (w_ei ws (w_ar ws (n_v vs 0) 7)) (w_ei ws (w_ar ws (n_v vs 0) 5)) k1 k4 k5 k7 k9 k10 k12 k19 d1 d4 d5 f3 f6 f7 f8 f14 f15 kz_2_0
  have rf19 : tv_ok ta (0, -33554432, 33554432, []) (n_v vs 19) := tv_in t19 (by first | omega | grind) (by first | omega | grind)
  refine ⟨List.forall_mem_cons.mpr ⟨rf19, (fun _ h => (by cases h))⟩, [], trivial, ?_, (fun _ h => (by cases h))⟩
  rw [List.append_nil]
  exact (fun _ h => (by cases h))
set_option maxHeartbeats 4000000 in
theorem vc_Pl_placeSideBySide_9_0 (x1 : Int) (x4 : Int) (x5 : Int) (x7 : Int) (x8 : Int) (x9 : Int) (x10 : Int) (x11 : Int) (x12 : Int) (x17 : Int) (x19 : Int) (x20 : Int) (x21 : Int) (x23 : Int) (x24 : Int) (x25 : Int) (x26 : Int) (level_0 : Int → Int) (x_0o3 : Int → Int) (nodes_0o2 : Int) (order_0 : Int → Int) (under_0 : Int → Int) (kids_0 : Int → Int) (k1 : 0 ≤ x1 ∧ x1 ≤ 24) (k4 : 0 ≤ x4 ∧ x4 ≤ 24) (k5 : 0 ≤ x5 ∧ x5 ≤ 24) (k7 : 2 ≤ x7 ∧ x7 ≤ 24) (k8 : 0 ≤ x8 ∧ x8 ≤ 16777215) (k9 : 1 ≤ x9 ∧ x9 ≤ 23) (k10 : 0 ≤ x10 ∧ x10 ≤ 16777215) (k11 : (-1000000) ≤ x11 ∧ x11 ≤ 67108868) (k12 : 0 ≤ x12 ∧ x12 ≤ 23) (k17 : (-33554432) ≤ x17 ∧ x17 ≤ 33554432) (k19 : (-33554432) ≤ x19 ∧ x19 ≤ 33554432) (k20 : (-2147483648) ≤ x20 ∧ x20 ≤ (-2147483648)) (k21 : (-2147483648) ≤ x21 ∧ x21 ≤ (-2147483648)) (k23 : (-33554428) ≤ x23 ∧ x23 ≤ 33554436) (k24 : (-67108860) ≤ x24 ∧ x24 ≤ 67108868) (k25 : (-1000000) ≤ x25 ∧ x25 ≤ 67108868) (k26 : 1 ≤ x26 ∧ x26 ≤ 24) (d3 : x17 + 4 ≤ x23 ∧ x23 ≤ x17 + 4) (d4 : x7 + (-4294967296) ≤ x1 ∧ x1 ≤ x7 + 0) (d7 : x1 + (-4294967296) ≤ x7 ∧ x7 ≤ x1 + 0) (d8 : x1 + (-4294967296) ≤ x9 ∧ x9 ≤ x1 + (-1)) (f0 : x26 = x12 + 1) (f1 : 1 * x11 + ((-1) * x25 + 0) ≤ 0) (f2 : 1 * x24 + ((-1) * x25 + 0) ≤ 0) (f3 : (x25 = x11) ∨ (x25 = x24)) (f4 : x24 = x23 - x19) (f6 : x19 ≠ x21) (f7 : x17 ≠ x20) (f8 : TQE (nodes_0o2) (level_0) (x_0o3) (x10) (x12) (x19)) (f9 : TQE (nodes_0o2) (level_0) (x_0o3) (x8) (x12) (x17)) (f11 : TQU (nodes_0o2) (order_0) (under_0) (x4) (x5)) (f12 : TQK (order_0) (level_0) (kids_0) (x1) (x4) (x5)) (f18 : TQP (nodes_0o2) (order_0) (kids_0) (x8) (x1) (x4) (x5)) (f20 : TQT (under_0) (kids_0) (x10) (x9)) (f22 : TQS (order_0) (level_0) (kids_0) (x_0o3) (x11) (x12) (x4) (x5)) (kz_2_0 : 0 ≤ nodes_0o2 ∧ nodes_0o2 ≤ 24) : TQS (order_0) (level_0) (kids_0) (x_0o3) (x25) (x26) (x4) (x5) := by
  first
    | exact tqs_start (by omega) (by omega) ‹TQK _ _ _ _ _ _› (by omega)
    | exact tqs_skip (j := x9) (r := x17) (e := x19) (pl := x8) (tr := x10) ‹TQS _ _ _ _ _ _ _ _› ‹TQ1 _ _ _ _ _ _ _› ‹TQC _ _ _ _ _ _› ‹TQP _ _ _ _ _ _ _› ‹TQU _ _ _ _ _› ‹TQK _ _ _ _ _ _› ‹TQD _ _ _ _ _› (by omega) (by omega) (by omega) ‹TQT _ _ _ _› (by assumption) (by assumption) (by omega) (by omega)
    | exact tqs_step (pr := fun z => z) (j := x9) (r := x17) (e := x19) (f := x24) (pl := x8) (tr := x10) ‹TQS _ _ _ _ _ _ _ _› ‹TQP _ _ _ _ _ _ _› ‹TQU _ _ _ _ _› ‹TQK _ _ _ _ _ _› (by omega) (by omega) ‹TQT _ _ _ _› (by assumption) (by assumption) (by omega) (by omega) (by omega) (by omega) (by omega) rfl
  
def o_Pl_placeSideBySide_9 : or_T := (47, 27, [(1, (0, 0, 24, [])), (2, (2, 0, 0, [3])), (4, (0, 0, 24, [])), (5, (0, 0, 24, [])), (7, (0, 2, 24, [])), (8, (0, 0, 16777215, [])), (9, (0, 1, 23, [])), (10, (0, 0, 16777215, [])), (11, (0, -1000000, 67108868, [])), (12, (0, 0, 23, [])), (17, (0, -33554432, 33554432, [])), (19, (0, -33554432, 33554432, [])), (20, (0, -2147483648, -2147483648, [])), (21, (0, -2147483648, -2147483648, [])), (23, (0, -33554428, 33554436, [])), (24, (0, -67108860, 67108868, [])), (25, (0, -1000000, 67108868, [])), (26, (0, 1, 24, []))], [(6, [26, 12], [1]), (23, [11, 25], [0, 1, -1]), (23, [24, 25], [0, 1, -1]), (20, [25, 11, 24], [50, 0, 0, 3, 6, 1, 2, 1, 0, 1, 1, 1, 2, 1, 0, 1, 2]), (2, [24, 23, 19], []), (7, [19, 21], [1]), (7, [17, 20], [1]), (20, [6, 13, 14, 10, 12, 19], [60, 1, 2, 868, 1000, 4, 2002]), (20, [6, 13, 14, 8, 12, 17], [60, 1, 2, 868, 1000, 4, 2002]), (20, [6, 13, 4, 5], [60, 1, 2, 860, 1000, 2, 6]), (20, [6, 7, 4, 5], [60, 0, 3, 861, 2, 4, 7]), (24, [2, 13], []), (24, [3, 14], []), (24, [1, 7], []), (20, [6, 13, 8, 7, 4, 5], [60, 1, 2, 863, 1000, 2, 7]), (20, [6, 10, 9], [60, 0, 2, 875, 6, 7]), (20, [6, 14, 11, 12, 4, 5], [60, 0, 4, 869, 2, 4, 7, 1002]), (24, [0, 6], [])], [], [], [(20, [6, 14, 25, 26, 4, 5], [60, 0, 4, 869, 2, 4, 7, 1002])], [], [(23, 17, 4, 4), (1, 7, -4294967296, 0), (7, 1, -4294967296, 0), (9, 1, -4294967296, -1)])
theorem oo_Pl_placeSideBySide_9 {kA : Nat → ClassId} : or_ok PRD kA GG o_Pl_placeSideBySide_9 := by
  refine or_mk fun A ta ws vs hD hth hl => ?_
  intro t1 k1 t2 r2 t4 k4 t5 k5 t7 k7 t8 k8 t9 k9 t10 k10 t11 k11 t12 k12 t17 k17 t19 k19 t20 k20 t21 k21 t23 k23 t24 k24 t25 k25 t26 k26 d3 d4 d7 d8 f0 f1 f2 f3 f4 f6 f7 f8 f9 f11 f12 f15 f16 f17 f18 f20 f22 f23
  replace f0 := shm_4 f0
  replace f1 := shm_7 f1
  replace f2 := shm_7 f2
  replace f3 := shm_898 f3
  replace f4 := shm_14 f4
  replace f6 := shm_40 f6
  replace f7 := shm_40 f7
  replace f8 := shm_412 f8
  replace f9 := shm_412 f9
  replace f11 := shm_1104 f11
  replace f12 := shm_1105 f12
  replace f15 := shm_5 f15
  replace f16 := shm_5 f16
  replace f17 := shm_5 f17
  replace f18 := shm_1108 f18
  replace f20 := shm_1112 f20
  replace f22 := shm_1114 f22
  replace f23 := shm_5 f23
  have q13 : n_v vs 13 = n_v vs 2 := f15.symm
  have q14 : n_v vs 14 = n_v vs 3 := f16.symm
  have q7 : n_v vs 7 = n_v vs 1 := f17.symm
  have q6 : n_v vs 6 = n_v vs 0 := f23.symm
  simp only [q13, q14, q6, q7] at f8 f9 f11 f12 f18 f20 f22
  have kz_2_0 := fdq_21 hD hth r2
  have nf0 : fc_1 PRD (20, [6, 14, 25, 26, 4, 5], [60, 0, 4, 869, 2, 4, 7, 1002]) ws (vs) := by
    refine ⟨nf_in hl rfl, sgq_1114 ?_⟩
    · show TQS (w_ei ws (w_ar ws (n_v vs 6) 2)) (w_ei ws (w_ar ws (n_v vs 6) 4)) (w_ei ws (w_ar ws (n_v vs 6) 7)) (w_ei ws (w_ar ws (n_v vs 14) 2)) (v_iv (n_v vs 25)) (v_iv (n_v vs 26)) (v_iv (n_v vs 4)) (v_iv (n_v vs 5))
      simp only [q14, q6]
      exact vc_Pl_placeSideBySide_9_0 (v_iv (n_v vs 1)) (v_iv (n_v vs 4)) (v_iv (n_v vs 5)) (v_iv (n_v vs 7)) (v_iv (n_v vs 8)) (v_iv (n_v vs 9)) (v_iv (n_v vs 10)) (v_iv (n_v vs 11)) (v_iv (n_v vs 12)) (v_iv (n_v vs 17)) (v_iv (n_v vs 19)) (v_iv (n_v vs 20)) (v_iv (n_v vs 21)) (v_iv (n_v vs 23)) (v_iv (n_v vs 24)) (v_iv (n_v vs 25)) (v_iv (n_v vs 26)) (w_ei ws (w_ar ws (n_v vs 0) 4)) (w_ei ws (w_ar ws (n_v vs 3) 2)) (w_fi ws (n_v vs 2) 0) (w_ei ws (w_ar ws (n_v vs 0) 2)) (w_ei ws (w_ar ws (n_v vs 0) 6)) (w_ei ws (w_ar ws (n_v vs 0) 7)) k1 k4 k5 k7 k8 k9 k10 k11 k12 k17 k19 k20 k21 k23 k24 k25 k26 d3 d4 d7 d8 f0 f1 f2 f3 f4 f6 f7 f8 f9 f11 f12 f18 f20 f22 kz_2_0
  refine ⟨(fun _ h => (by cases h)), [], trivial, ?_, (fun _ h => (by cases h))⟩
  rw [List.append_nil]
  exact List.forall_mem_cons.mpr ⟨⟨show (20 : Nat) < 100 from by decide, nf0⟩, (fun _ h => (by cases h))⟩
set_option maxHeartbeats 4000000 in
theorem vc_Pl_placeSideBySide_10_0 (x1 : Int) (x4 : Int) (x5 : Int) (x7 : Int) (x8 : Int) (x9 : Int) (x10 : Int) (x16 : Int) (x17 : Int) (nodes_0o2 : Int) (order_0 : Int → Int) (under_0 : Int → Int) (level_0 : Int → Int) (kids_0 : Int → Int) (k1 : 0 ≤ x1 ∧ x1 ≤ 24) (k4 : 0 ≤ x4 ∧ x4 ≤ 24) (k5 : 0 ≤ x5 ∧ x5 ≤ 24) (k7 : 2 ≤ x7 ∧ x7 ≤ 24) (k8 : 0 ≤ x8 ∧ x8 ≤ 16777215) (k9 : 1 ≤ x9 ∧ x9 ≤ 23) (k10 : 0 ≤ x10 ∧ x10 ≤ 16777215) (k16 : 0 ≤ x16 ∧ x16 ≤ 16777215) (k17 : 2 ≤ x17 ∧ x17 ≤ 24) (d0 : x9 + 1 ≤ x17 ∧ x17 ≤ x9 + 1) (d1 : x1 + (-4294967296) ≤ x17 ∧ x17 ≤ x1 + 0) (d4 : x7 + (-4294967296) ≤ x1 ∧ x1 ≤ x7 + 0) (d7 : x1 + (-4294967296) ≤ x7 ∧ x7 ≤ x1 + 0) (d8 : x1 + (-4294967296) ≤ x9 ∧ x9 ≤ x1 + (-1)) (f2 : bvp (x16) = bvp (x8) ||| bvp (x10)) (f5 : TQU (nodes_0o2) (order_0) (under_0) (x4) (x5)) (f6 : TQK (order_0) (level_0) (kids_0) (x1) (x4) (x5)) (f12 : TQP (nodes_0o2) (order_0) (kids_0) (x8) (x1) (x4) (x5)) (f13 : TQT (under_0) (kids_0) (x10) (x9)) (kz_2_0 : 0 ≤ nodes_0o2 ∧ nodes_0o2 ≤ 24) : TQP (nodes_0o2) (order_0) (kids_0) (x16) (x1) (x4) (x5) := by
  first
    | assumption
    | exact tqp_0 (by omega) (by omega)
    | exact tqp_start ‹TQU _ _ _ _ _› ‹TQK _ _ _ _ _ _› (by omega) (by rw [show (0 : Int) = x8 by omega, ← ‹x9 = kids_0 x8›]; assumption)
    | exact tqp_step (j := x9) (tr := x10) ‹TQP _ _ _ _ _ _ _› ‹TQU _ _ _ _ _› ‹TQK _ _ _ _ _ _› (by omega) (by omega) ‹TQT _ _ _ _› (by assumption)
  
set_option maxHeartbeats 4000000 in
theorem vc_Pl_placeSideBySide_10_1 (x4 : Int) (x5 : Int) (x9 : Int) (x10 : Int) (x11 : Int) (x12 : Int) (x17 : Int) (nodes_0o2 : Int) (order_0 : Int → Int) (level_0 : Int → Int) (parent_0 : Int → Int) (x_0o3 : Int → Int) (k4 : 0 ≤ x4 ∧ x4 ≤ 24) (k5 : 0 ≤ x5 ∧ x5 ≤ 24) (k9 : 1 ≤ x9 ∧ x9 ≤ 23) (k10 : 0 ≤ x10 ∧ x10 ≤ 16777215) (k11 : (-1000000) ≤ x11 ∧ x11 ≤ 67108868) (k12 : 0 ≤ x12 ∧ x12 ≤ 24) (k17 : 2 ≤ x17 ∧ x17 ≤ 24) (f0 : x17 = x9 + 1) (f8 : TQD (nodes_0o2) (order_0) (parent_0) (level_0) (x4)) (f15 : TQV (nodes_0o2) (order_0) (parent_0) (x_0o3) (x11) (x10) (x4) (x5) (x9) (x12)) (kz_2_0 : 0 ≤ nodes_0o2 ∧ nodes_0o2 ≤ 24) : TQ1 (nodes_0o2) (order_0) (parent_0) (x_0o3) (x4) (x5) (x17) := by
  first
    | assumption
    | exact tq1_start ‹TQ0 _ _ _ _ _ _› (by omega)
    | exact tqv_end ‹TQV _ _ _ _ _ _ _ _ _ _› (tqd_lo ‹TQD _ _ _ _ _› (by omega)) (by omega)
  
set_option maxHeartbeats 4000000 in
theorem vc_Pl_placeSideBySide_10_2 (x1 : Int) (x7 : Int) (x8 : Int) (x9 : Int) (x10 : Int) (x12 : Int) (x16 : Int) (x17 : Int) (k1 : 0 ≤ x1 ∧ x1 ≤ 24) (k7 : 2 ≤ x7 ∧ x7 ≤ 24) (k9 : 1 ≤ x9 ∧ x9 ≤ 23) (k17 : 2 ≤ x17 ∧ x17 ≤ 24) (d0 : x9 + 1 ≤ x17 ∧ x17 ≤ x9 + 1) (d1 : x1 + (-4294967296) ≤ x17 ∧ x17 ≤ x1 + 0) (d4 : x7 + (-4294967296) ≤ x1 ∧ x1 ≤ x7 + 0) (d7 : x1 + (-4294967296) ≤ x7 ∧ x7 ≤ x1 + 0) (d8 : x1 + (-4294967296) ≤ x9 ∧ x9 ≤ x1 + (-1)) : (x17 ≤ x1) ∨ (x17 ≤ 1) := by
  first
    | omega
    | (have h := tqe_val (j := x9) (l := x12) (r := x17) (pl := x8) ‹TQ1 _ _ _ _ _ _ _› ‹TQC _ _ _ _ _ _› ‹TQP _ _ _ _ _ _ _› (by omega) (by assumption) (by omega); omega)
    | (have h := tqe_val2 (j := x9) (l := x12) (r := x19) (tr := x10) ‹TQ1 _ _ _ _ _ _ _› ‹TQC _ _ _ _ _ _› ‹TQU _ _ _ _ _› ‹TQK _ _ _ _ _ _› (by omega) (by omega) ‹TQT _ _ _ _› (by assumption) (by omega); omega)
    | (have q := bit_one (s := x10) (t := x16) (c := x18) (v := x12) (one := x17) (by assumption) (by assumption) (by omega) (by omega) (by omega) (by omega)
       have h := tqv_val (v := x12) (a := x20) (y := x21) ‹TQV _ _ _ _ _ _ _ _ _ _› ‹TQC _ _ _ _ _ _› ‹TQU _ _ _ _ _› ‹TQK _ _ _ _ _ _› (by omega) ‹TQT _ _ _ _› (by omega) (by omega) (q.mpr (by omega)) (by assumption) (by omega)
       omega)
  
def o_Pl_placeSideBySide_10 : or_T := (22, 18, [(1, (0, 0, 24, [])), (2, (2, 0, 0, [3])), (4, (0, 0, 24, [])), (5, (0, 0, 24, [])), (7, (0, 2, 24, [])), (8, (0, 0, 16777215, [])), (9, (0, 1, 23, [])), (10, (0, 0, 16777215, [])), (11, (0, -1000000, 67108868, [])), (12, (0, 0, 24, [])), (16, (0, 0, 16777215, [])), (17, (0, 2, 24, []))], [(6, [17, 9], [1]), (16, [16, 8, 10], [1]), (20, [6, 13, 4, 5], [60, 1, 2, 860, 1000, 2, 6]), (20, [6, 7, 4, 5], [60, 0, 3, 861, 2, 4, 7]), (20, [6, 13, 4], [60, 1, 3, 859, 1000, 2, 5, 4]), (24, [2, 13], []), (24, [3, 14], []), (24, [1, 7], []), (20, [6, 13, 8, 7, 4, 5], [60, 1, 2, 863, 1000, 2, 7]), (20, [6, 10, 9], [60, 0, 2, 875, 6, 7]), (20, [6, 13, 14, 11, 10, 4, 5, 9, 12], [60, 1, 3, 870, 1000, 2, 5, 2002]), (24, [0, 6], [])], [], [], [(20, [6, 13, 16, 7, 4, 5], [60, 1, 2, 863, 1000, 2, 7]), (20, [6, 13, 14, 4, 5, 17], [60, 1, 3, 864, 1000, 2, 5, 2002]), (20, [17, 7], [50, 0, 0, 3, 6, 0, 2, 1, 0, 1, 1, 0, 2, 1, 0, 0, 1])], [], [(17, 9, 1, 1), (17, 1, -4294967296, 0), (1, 7, -4294967296, 0), (7, 1, -4294967296, 0), (9, 1, -4294967296, -1)])
theorem oo_Pl_placeSideBySide_10 {kA : Nat → ClassId} : or_ok PRD kA GG o_Pl_placeSideBySide_10 := by
  refine or_mk fun A ta ws vs hD hth hl => ?_
  intro t1 k1 t2 r2 t4 k4 t5 k5 t7 k7 t8 k8 t9 k9 t10 k10 t11 k11 t12 k12 t16 k16 t17 k17 d0 d1 d4 d7 d8 f0 f2 f5 f6 f8 f9 f10 f11 f12 f13 f15 f16
  replace f0 := shm_4 f0
  replace f2 := shm_354 f2
  replace f5 := shm_1104 f5
  replace f6 := shm_1105 f6
  replace f8 := shm_1107 f8
  replace f9 := shm_5 f9
  replace f10 := shm_5 f10
  replace f11 := shm_5 f11
  replace f12 := shm_1108 f12
  replace f13 := shm_1112 f13
  replace f15 := shm_1115 f15
  replace f16 := shm_5 f16
  have q13 : n_v vs 13 = n_v vs 2 := f9.symm
  have q14 : n_v vs 14 = n_v vs 3 := f10.symm
  have q7 : n_v vs 7 = n_v vs 1 := f11.symm
  have q6 : n_v vs 6 = n_v vs 0 := f16.symm
  simp only [q13, q6, q7, q14] at f5 f6 f8 f12 f13 f15
  have kz_2_0 := fdq_21 hD hth r2
  have nf0 : fc_1 PRD (20, [6, 13, 16, 7, 4, 5], [60, 1, 2, 863, 1000, 2, 7]) ws (vs) := by
    refine ⟨nf_in hl rfl, sgq_1108 ?_⟩
    · show TQP (w_fi ws (n_v vs 13) 0) (w_ei ws (w_ar ws (n_v vs 6) 2)) (w_ei ws (w_ar ws (n_v vs 6) 7)) (v_iv (n_v vs 16)) (v_iv (n_v vs 7)) (v_iv (n_v vs 4)) (v_iv (n_v vs 5))
      simp only [q13, q7, q6]
      exact vc_Pl_placeSideBySide_10_0 (v_iv (n_v vs 1)) (v_iv (n_v vs 4)) (v_iv (n_v vs 5)) (v_iv (n_v vs 7)) (v_iv (n_v vs 8)) (v_iv (n_v vs 9)) (v_iv (n_v vs 10)) (v_iv (n_v vs 16)) (v_iv (n_v vs 17)) (w_fi ws (n_v vs 2) 0) (w_ei ws (w_ar ws (n_v vs 0) 2)) (w_ei ws (w_ar ws (n_v vs 0) 6)) (w_ei ws (w_ar ws (n_v vs 0) 4)) (w_ei ws (w_ar ws (n_v vs 0) 7)) k1 k4 k5 k7 k8 k9 k10 k16 k17 d0 d1 d4 d7 d8 f2 f5 f6 f12 f13 kz_2_0
  have nf1 : fc_1 PRD (20, [6, 13, 14, 4, 5, 17], [60, 1, 3, 864, 1000, 2, 5, 2002]) ws (vs) := by
    refine ⟨nf_in hl rfl, sgq_1109 ?_⟩
    · show TQ1 (w_fi ws (n_v vs 13) 0) (w_ei ws (w_ar ws (n_v vs 6) 2)) (w_ei ws (w_ar ws (n_v vs 6) 5)) (w_ei ws (w_ar ws (n_v vs 14) 2)) (v_iv (n_v vs 4)) (v_iv (n_v vs 5)) (v_iv (n_v vs 17))
      simp only [q13, q14, q6]
      exact vc_Pl_placeSideBySide_10_1 (v_iv (n_v vs 4)) (v_iv (n_v vs 5)) (v_iv (n_v vs 9)) (v_iv (n_v vs 10)) (v_iv (n_v vs 11)) (v_iv (n_v vs 12)) (v_iv (n_v vs 17)) (w_fi ws (n_v vs 2) 0) (w_ei ws (w_ar ws (n_v vs 0) 2)) (w_ei ws (w_ar ws (n_v vs 0) 4)) (w_ei ws (w_ar ws (n_v vs 0) 5)) (w_ei ws (w_ar ws (n_v vs 3) 2)) k4 k5 k9 k10 k11 k12 k17 f0 f8 f15 kz_2_0
  have nf2 : fc_1 PRD (20, [17, 7], [50, 0, 0, 3, 6, 0, 2, 1, 0, 1, 1, 0, 2, 1, 0, 0, 1]) ws (vs) := by
    refine ⟨nf_in hl rfl, sgq_1110 ?_⟩
    · show (v_iv (n_v vs 17) ≤ v_iv (n_v vs 7)) ∨ (v_iv (n_v vs 17) ≤ 1)
      rw [q7]
      exact vc_Pl_placeSideBySide_10_2 (v_iv (n_v vs 1)) (v_iv (n_v vs 7)) (v_iv (n_v vs 8)) (v_iv (n_v vs 9)) (v_iv (n_v vs 10)) (v_iv (n_v vs 12)) (v_iv (n_v vs 16)) (v_iv (n_v vs 17)) k1 k7 k9 k17 d0 d1 d4 d7 d8
  refine ⟨(fun _ h => (by cases h)), [], trivial, ?_, (fun _ h => (by cases h))⟩
  rw [List.append_nil]
  exact List.forall_mem_cons.mpr ⟨⟨show (20 : Nat) < 100 from by decide, nf0⟩, List.forall_mem_cons.mpr ⟨⟨show (20 : Nat) < 100 from by decide, nf1⟩, List.forall_mem_cons.mpr ⟨⟨show (20 : Nat) < 100 from by decide, nf2⟩, (fun _ h => (by cases h))⟩⟩⟩
set_option maxHeartbeats 4000000 in
theorem vc_Pl_placeSideBySide_11_0 (x4 : Int) (x5 : Int) (x9 : Int) (x10 : Int) (x11 : Int) (x12 : Int) (x16 : Int) (x17 : Int) (x18 : Int) (x19 : Int) (nodes_0o2 : Int) (order_0 : Int → Int) (parent_0 : Int → Int) (x_0o3 : Int → Int) (k4 : 0 ≤ x4 ∧ x4 ≤ 24) (k5 : 0 ≤ x5 ∧ x5 ≤ 24) (k9 : 1 ≤ x9 ∧ x9 ≤ 23) (k10 : 0 ≤ x10 ∧ x10 ≤ 16777215) (k11 : (-1000000) ≤ x11 ∧ x11 ≤ 67108868) (k12 : 0 ≤ x12 ∧ x12 ≤ 23) (k16 : 0 ≤ x16 ∧ x16 ≤ 16777215) (k17 : 1 ≤ x17 ∧ x17 ≤ 1) (k18 : 0 ≤ x18 ∧ x18 ≤ 0) (k19 : 1 ≤ x19 ∧ x19 ≤ 24) (d0 : x12 + 1 ≤ x19 ∧ x19 ≤ x12 + 1) (f0 : x19 = x12 + 1) (f3 : bvp (x18) = bvp (x16) &&& bvp (x17)) (f4 : bvp (x16) = bvp (x10) >>> (x12).toNat) (f17 : TQV (nodes_0o2) (order_0) (parent_0) (x_0o3) (x11) (x10) (x4) (x5) (x9) (x12)) (kz_2_0 : 0 ≤ nodes_0o2 ∧ nodes_0o2 ≤ 24) : TQV (nodes_0o2) (order_0) (parent_0) (x_0o3) (x11) (x10) (x4) (x5) (x9) (x19) := by
  first
    | assumption
    | exact tqv_start ‹TQ1 _ _ _ _ _ _ _› ‹TQS _ _ _ _ _ _ _ _› ‹TQK _ _ _ _ _ _› (by omega) (by omega) (by omega)
    | (have q := bit_one (s := x10) (t := x16) (c := x18) (v := x12) (one := x17) (by assumption) (by assumption) (by omega) (by omega) (by omega) (by omega)
       first
         | exact tqv_skip ‹TQV _ _ _ _ _ _ _ _ _ _› (fun z => by have := q.mp z; omega) (by omega)
         | exact tqv_step (v := x12) (a := x20) ‹TQV _ _ _ _ _ _ _ _ _ _› (by omega) (q.mpr (by omega)) (by assumption) (by omega) (by assumption) rfl (by omega))
  
def o_Pl_placeSideBySide_11 : or_T := (112, 20, [(2, (2, 0, 0, [3])), (4, (0, 0, 24, [])), (5, (0, 0, 24, [])), (9, (0, 1, 23, [])), (10, (0, 0, 16777215, [])), (11, (0, -1000000, 67108868, [])), (12, (0, 0, 23, [])), (16, (0, 0, 16777215, [])), (17, (0, 1, 1, [])), (18, (0, 0, 0, [])), (19, (0, 1, 24, []))], [(6, [19, 12], [1]), (16, [18, 16, 17], [0]), (16, [16, 10, 12], [4]), (24, [2, 13], []), (24, [3, 14], []), (20, [6, 13, 14, 11, 10, 4, 5, 9, 12], [60, 1, 3, 870, 1000, 2, 5, 2002]), (24, [0, 6], [])], [], [], [(20, [6, 13, 14, 11, 10, 4, 5, 9, 19], [60, 1, 3, 870, 1000, 2, 5, 2002])], [], [(19, 12, 1, 1)])
theorem oo_Pl_placeSideBySide_11 {kA : Nat → ClassId} : or_ok PRD kA GG o_Pl_placeSideBySide_11 := by
  refine or_mk fun A ta ws vs hD hth hl => ?_
  intro t2 r2 t4 k4 t5 k5 t9 k9 t10 k10 t11 k11 t12 k12 t16 k16 t17 k17 t18 k18 t19 k19 d0 f0 f3 f4 f11 f12 f17 f18
  replace f0 := shm_4 f0
  replace f3 := shm_11 f3
  replace f4 := shm_13 f4
  replace f11 := shm_5 f11
  replace f12 := shm_5 f12
  replace f17 := shm_1115 f17
  replace f18 := shm_5 f18
  have q13 : n_v vs 13 = n_v vs 2 := f11.symm
  have q14 : n_v vs 14 = n_v vs 3 := f12.symm
  have q6 : n_v vs 6 = n_v vs 0 := f18.symm
  simp only [q13, q6, q14] at f17
  have kz_2_0 := fdq_21 hD hth r2
  have nf0 : fc_1 PRD (20, [6, 13, 14, 11, 10, 4, 5, 9, 19], [60, 1, 3, 870, 1000, 2, 5, 2002]) ws (vs) := by
    refine ⟨nf_in hl rfl, sgq_1115 ?_⟩
    · show TQV (w_fi ws (n_v vs 13) 0) (w_ei ws (w_ar ws (n_v vs 6) 2)) (w_ei ws (w_ar ws (n_v vs 6) 5)) (w_ei ws (w_ar ws (n_v vs 14) 2)) (v_iv (n_v vs 11)) (v_iv (n_v vs 10)) (v_iv (n_v vs 4)) (v_iv (n_v vs 5)) (v_iv (n_v vs 9)) (v_iv (n_v vs 19))
      simp only [q13, q14, q6]
      exact vc_Pl_placeSideBySide_11_0 (v_iv (n_v vs 4)) (v_iv (n_v vs 5)) (v_iv (n_v vs 9)) (v_iv (n_v vs 10)) (v_iv (n_v vs 11)) (v_iv (n_v vs 12)) (v_iv (n_v vs 16)) (v_iv (n_v vs 17)) (v_iv (n_v vs 18)) (v_iv (n_v vs 19)) (w_fi ws (n_v vs 2) 0) (w_ei ws (w_ar ws (n_v vs 0) 2)) (w_ei ws (w_ar ws (n_v vs 0) 5)) (w_ei ws (w_ar ws (n_v vs 3) 2)) k4 k5 k9 k10 k11 k12 k16 k17 k18 k19 d0 f0 f3 f4 f17 kz_2_0
  refine ⟨(fun _ h => (by cases h)), [], trivial, ?_, (fun _ h => (by cases h))⟩
  rw [List.append_nil]
  exact List.forall_mem_cons.mpr ⟨⟨show (20 : Nat) < 100 from by decide, nf0⟩, (fun _ h => (by cases h))⟩
set_option maxHeartbeats 4000000 in
theorem vc_Pl_placeSideBySide_12_r0 (x1 : Int) (x4 : Int) (x5 : Int) (x7 : Int) (x8 : Int) (x9 : Int) (x10 : Int) (x11 : Int) (x12 : Int) (x15 : Int) (x16 : Int) (x17 : Int) (x18 : Int) (x20 : Int) (x21 : Int) (x_0o3 : Int → Int) (nodes_0o2 : Int) (order_0 : Int → Int) (under_0 : Int → Int) (level_0 : Int → Int) (kids_0 : Int → Int) (parent_0 : Int → Int) (k1 : 0 ≤ x1 ∧ x1 ≤ 24) (k4 : 0 ≤ x4 ∧ x4 ≤ 24) (k5 : 0 ≤ x5 ∧ x5 ≤ 24) (k7 : 2 ≤ x7 ∧ x7 ≤ 24) (k9 : 1 ≤ x9 ∧ x9 ≤ 23) (k10 : 0 ≤ x10 ∧ x10 ≤ 16777215) (k11 : (-1000000) ≤ x11 ∧ x11 ≤ 67108868) (k12 : 0 ≤ x12 ∧ x12 ≤ 23) (k15 : 1 ≤ x15 ∧ x15 ≤ 24) (k16 : 0 ≤ x16 ∧ x16 ≤ 16777215) (k17 : 1 ≤ x17 ∧ x17 ≤ 1) (k18 : 1 ≤ x18 ∧ x18 ≤ 1) (k20 : (-40000000) ≤ x20 ∧ x20 ≤ 690000000) (k21 : (-41000000) ≤ x21 ∧ x21 ≤ 757108868) (d2 : x15 + (-4294967296) ≤ x12 ∧ x12 ≤ x15 + (-1)) (d3 : x7 + (-4294967296) ≤ x1 ∧ x1 ≤ x7 + 0) (d6 : x1 + (-4294967296) ≤ x7 ∧ x7 ≤ x1 + 0) (d7 : x1 + (-4294967296) ≤ x9 ∧ x9 ≤ x1 + (-1)) (f0 : x21 = x20 + x11) (h1 : x20 = x_0o3 (x12)) (f5 : bvp (x18) = bvp (x16) &&& bvp (x17)) (f6 : bvp (x16) = bvp (x10) >>> (x12).toNat) (g8 : x15 = nodes_0o2) (f9 : TQU (nodes_0o2) (order_0) (under_0) (x4) (x5)) (f10 : TQK (order_0) (level_0) (kids_0) (x1) (x4) (x5)) (f11 : TQC (nodes_0o2) (order_0) (parent_0) (x1) (x4) (x5)) (f17 : TQT (under_0) (kids_0) (x10) (x9)) (f19 : TQV (nodes_0o2) (order_0) (parent_0) (x_0o3) (x11) (x10) (x4) (x5) (x9) (x12)) (kz_2_0 : 0 ≤ nodes_0o2 ∧ nodes_0o2 ≤ 24) : (-33554432) ≤ x21 ∧ x21 ≤ 33554432 := by
  first
    | omega
    | (have h := tqe_val (j := x9) (l := x12) (r := x17) (pl := x8) ‹TQ1 _ _ _ _ _ _ _› ‹TQC _ _ _ _ _ _› ‹TQP _ _ _ _ _ _ _› (by omega) (by assumption) (by omega); omega)
    | (have h := tqe_val2 (j := x9) (l := x12) (r := x19) (tr := x10) ‹TQ1 _ _ _ _ _ _ _› ‹TQC _ _ _ _ _ _› ‹TQU _ _ _ _ _› ‹TQK _ _ _ _ _ _› (by omega) (by omega) ‹TQT _ _ _ _› (by assumption) (by omega); omega)
    | (have q := bit_one (s := x10) (t := x16) (c := x18) (v := x12) (one := x17) (by assumption) (by assumption) (by omega) (by omega) (by omega) (by omega)
       have h := tqv_val (v := x12) (a := x20) (y := x21) ‹TQV _ _ _ _ _ _ _ _ _ _› ‹TQC _ _ _ _ _ _› ‹TQU _ _ _ _ _› ‹TQK _ _ _ _ _ _› (by omega) ‹TQT _ _ _ _› (by omega) (by omega) (q.mpr (by omega)) (by assumption) (by omega)
       omega)
  
def o_Pl_placeSideBySide_12 : or_T := (148, 22, [(0, (2, 0, 0, [6])), (1, (0, 0, 24, [])), (2, (2, 0, 0, [3])), (3, (2, 0, 0, [0])), (4, (0, 0, 24, [])), (5, (0, 0, 24, [])), (6, (2, 0, 0, [6])), (7, (0, 2, 24, [])), (8, (0, 0, 16777215, [])), (9, (0, 1, 23, [])), (10, (0, 0, 16777215, [])), (11, (0, -1000000, 67108868, [])), (12, (0, 0, 23, [])), (13, (2, 0, 0, [3])), (14, (2, 0, 0, [0])), (15, (0, 1, 24, [])), (16, (0, 0, 16777215, [])), (17, (0, 1, 1, [])), (18, (0, 1, 1, [])), (19, (2, 0, 0, [14])), (20, (0, -40000000, 690000000, [])), (21, (0, -41000000, 757108868, []))], [(1, [21, 20, 11], []), (10, [20, 19, 12], []), (9, [19, 14], [2]), (8, [18], [1]), (12, [18, 16], [2]), (16, [18, 16, 17], [0]), (16, [16, 10, 12], [4]), (7, [12, 15], [2]), (9, [15, 13], [0]), (20, [6, 13, 4, 5], [60, 1, 2, 860, 1000, 2, 6]), (20, [6, 7, 4, 5], [60, 0, 3, 861, 2, 4, 7]), (20, [6, 13, 7, 4, 5], [60, 1, 2, 862, 1000, 2, 5]), (20, [6, 13, 4], [60, 1, 3, 859, 1000, 2, 5, 4]), (24, [2, 13], []), (24, [3, 14], []), (24, [1, 7], []), (20, [6, 13, 8, 7, 4, 5], [60, 1, 2, 863, 1000, 2, 7]), (20, [6, 10, 9], [60, 0, 2, 875, 6, 7]), (20, [9, 7], [50, 0, 0, 2, 6, 0, 2, 0, 1, 1, 0, 0, 6, 4, 2, 1, 0, 0, 1, 1, 1]), (20, [6, 13, 14, 11, 10, 4, 5, 9, 12], [60, 1, 3, 870, 1000, 2, 5, 2002]), (24, [0, 6], [])], [(21, (0, -33554432, 33554432, []))], [], [], [], [(21, 11, -40000000, 690000000), (21, 20, -1000000, 67108868), (12, 15, -4294967296, -1), (1, 7, -4294967296, 0), (4, 1, -4294967296, 22), (5, 1, -4294967296, 22), (7, 1, -4294967296, 0), (9, 1, -4294967296, -1), (9, 7, -4294967296, -1)])
theorem oo_Pl_placeSideBySide_12 {kA : Nat → ClassId} : or_ok PRD kA GG o_Pl_placeSideBySide_12 := by
  refine or_mk fun A ta ws vs hD hth hl => ?_
  intro t0 r0 t1 k1 t2 r2 t3 r3 t4 k4 t5 k5 t6 r6 t7 k7 t8 k8 t9 k9 t10 k10 t11 k11 t12 k12 t13 r13 t14 r14 t15 k15 t16 k16 t17 k17 t18 k18 t19 r19 t20 k20 t21 k21 d0 d1 d2 d3 d4 d5 d6 d7 d8 f0 f1 f2 f3 f4 f5 f6 f7 f8 f9 f10 f11 f12 f13 f14 f15 f16 f17 f18 f19 f20
  replace f1 := shm_107 f1
  replace f2 := shm_120 f2
  replace f8 := shm_163 f8
  replace f9 := shm_1104 f9
  replace f10 := shm_1105 f10
  replace f11 := shm_1106 f11
  replace f13 := shm_5 f13
  replace f14 := shm_5 f14
  replace f15 := shm_5 f15
  replace f17 := shm_1112 f17
  replace f19 := shm_1115 f19
  replace f20 := shm_5 f20
  have q13 : n_v vs 13 = n_v vs 2 := f13.symm
  have q14 : n_v vs 14 = n_v vs 3 := f14.symm
  have q7 : n_v vs 7 = n_v vs 1 := f15.symm
  have q6 : n_v vs 6 = n_v vs 0 := f20.symm
  simp only [q14, q13, q6, q7] at f2 f8 f9 f10 f11 f17 f19
  have ad_19 : v_ad (n_v vs 19) = w_ar ws (n_v vs 3) 2 := congrArg v_ad f2
  simp only [ad_19] at f1
  have h1 : v_iv (n_v vs 20) = w_ei ws (w_ar ws (n_v vs 3) 2) (v_iv (n_v vs 12)) := f1
  have g8 : v_iv (n_v vs 15) = w_fi ws (n_v vs 2) 0 := congrArg v_iv f8
  have kz_2_0 := fdq_21 hD hth r2
  have hrf0 : (-33554432) ≤ v_iv (n_v vs 21) ∧ v_iv (n_v vs 21) ≤ 33554432 := vc_Pl_placeSideBySide_12_r0 (v_iv (n_v vs 1)) (v_iv (n_v vs 4)) (v_iv (n_v vs 5)) (v_iv (n_v vs 7)) (v_iv (n_v vs 8)) (v_iv (n_v vs 9)) (v_iv (n_v vs 10)) (v_iv (n_v vs 11)) (v_iv (n_v vs 12)) (v_iv (n_v vs 15)) (v_iv (n_v vs 16)) (v_iv (n_v vs 17)) (v_iv (n_v vs 18)) (v_iv (n_v vs 20)) (v_iv (n_v vs 21)) (w_ei ws (w_ar ws (n_v vs 3) 2)) (w_fi ws (n_v vs 2) 0) (w_ei ws (w_ar ws (n_v vs 0) 2)) (w_ei ws (w_ar ws (n_v vs 0) 6)) (w_ei ws (w_ar ws (n_v vs 0) 4)) (w_ei ws (w_ar ws (n_v vs 0) 7)) (w_ei ws (w_ar ws (n_v vs 0) 5)) k1 k4 k5 k7 k9 k10 k11 k12 k15 k16 k17 k18 k20 k21 d2 d3 d6 d7 (shm_12 f0) h1 (shm_11 f5) (shm_13 f6) g8 f9 f10 f11 f17 f19 kz_2_0
  have rf21 : tv_ok ta (0, -33554432, 33554432, []) (n_v vs 21) := tv_in t21 (by first | omega | grind) (by first | omega | grind)
  refine ⟨List.forall_mem_cons.mpr ⟨rf21, (fun _ h => (by cases h))⟩, [], trivial, ?_, (fun _ h => (by cases h))⟩
  rw [List.append_nil]
  exact (fun _ h => (by cases h))
set_option maxHeartbeats 4000000 in
theorem vc_Pl_placeSideBySide_13_0 (x4 : Int) (x5 : Int) (x9 : Int) (x10 : Int) (x11 : Int) (x12 : Int) (x16 : Int) (x17 : Int) (x18 : Int) (x20 : Int) (x21 : Int) (x22 : Int) (nodes_0o2 : Int) (order_0 : Int → Int) (under_0 : Int → Int) (level_0 : Int → Int) (kids_0 : Int → Int) (parent_0 : Int → Int) (x_1o3 : Int → Int) (order_1 : Int → Int) (under_1 : Int → Int) (nodes_1o2 : Int) (level_1 : Int → Int) (kids_1 : Int → Int) (parent_1 : Int → Int) (x_0o3 : Int → Int) (k4 : 0 ≤ x4 ∧ x4 ≤ 24) (k5 : 0 ≤ x5 ∧ x5 ≤ 24) (k9 : 1 ≤ x9 ∧ x9 ≤ 23) (k10 : 0 ≤ x10 ∧ x10 ≤ 16777215) (k11 : (-1000000) ≤ x11 ∧ x11 ≤ 67108868) (k12 : 0 ≤ x12 ∧ x12 ≤ 23) (k16 : 0 ≤ x16 ∧ x16 ≤ 16777215) (k17 : 1 ≤ x17 ∧ x17 ≤ 1) (k18 : 1 ≤ x18 ∧ x18 ≤ 1) (k20 : (-40000000) ≤ x20 ∧ x20 ≤ 690000000) (k21 : (-33554432) ≤ x21 ∧ x21 ≤ 33554432) (k22 : 1 ≤ x22 ∧ x22 ≤ 24) (d0 : x12 + 1 ≤ x22 ∧ x22 ≤ x12 + 1) (f2 : x22 = x12 + 1) (f15 : x21 = x20 + x11) (h16 : x20 = x_1o3 (x12)) (f19 : bvp (x18) = bvp (x16) &&& bvp (x17)) (f20 : bvp (x16) = bvp (x10) >>> (x12).toNat) (f29 : TQV (nodes_1o2) (order_1) (parent_1) (x_1o3) (x11) (x10) (x4) (x5) (x9) (x12)) (fe_2_0_1 : nodes_0o2 = nodes_1o2) (hE_0_2_1 : ∀ j : Int, order_0 j = order_1 j) (hE_0_4_1 : ∀ j : Int, level_0 j = level_1 j) (hE_0_5_1 : ∀ j : Int, parent_0 j = parent_1 j) (hE_0_6_1 : ∀ j : Int, under_0 j = under_1 j) (hE_0_7_1 : ∀ j : Int, kids_0 j = kids_1 j) (hE_3_2_1 : ∀ j : Int, 0 ≤ j → (j = x12 → x_0o3 j = x21) ∧ (j ≠ x12 → x_0o3 j = x_1o3 j)) (kz_2_0 : 0 ≤ nodes_0o2 ∧ nodes_0o2 ≤ 24) : TQV (nodes_0o2) (order_0) (parent_0) (x_0o3) (x11) (x10) (x4) (x5) (x9) (x22) := by
  subst fe_2_0_1
  have e_hE_0_2_1 := funext hE_0_2_1; subst e_hE_0_2_1
  have e_hE_0_4_1 := funext hE_0_4_1; subst e_hE_0_4_1
  have e_hE_0_5_1 := funext hE_0_5_1; subst e_hE_0_5_1
  have e_hE_0_6_1 := funext hE_0_6_1; subst e_hE_0_6_1
  have e_hE_0_7_1 := funext hE_0_7_1; subst e_hE_0_7_1
  first
    | assumption
    | exact tqv_start ‹TQ1 _ _ _ _ _ _ _› ‹TQS _ _ _ _ _ _ _ _› ‹TQK _ _ _ _ _ _› (by omega) (by omega) (by omega)
    | (have q := bit_one (s := x10) (t := x16) (c := x18) (v := x12) (one := x17) (by assumption) (by assumption) (by omega) (by omega) (by omega) (by omega)
       first
         | exact tqv_skip ‹TQV _ _ _ _ _ _ _ _ _ _› (fun z => by have := q.mp z; omega) (by omega)
         | exact tqv_step (v := x12) (a := x20) ‹TQV _ _ _ _ _ _ _ _ _ _› (by omega) (q.mpr (by omega)) (by assumption) (by omega) (by assumption) rfl (by omega))
  
def o_Pl_placeSideBySide_13 : or_T := (112, 23, [(0, (2, 0, 0, [6])), (2, (2, 0, 0, [3])), (3, (2, 0, 0, [0])), (4, (0, 0, 24, [])), (5, (0, 0, 24, [])), (9, (0, 1, 23, [])), (10, (0, 0, 16777215, [])), (11, (0, -1000000, 67108868, [])), (12, (0, 0, 23, [])), (16, (0, 0, 16777215, [])), (17, (0, 1, 1, [])), (18, (0, 1, 1, [])), (19, (2, 0, 0, [14])), (20, (0, -40000000, 690000000, [])), (21, (0, -33554432, 33554432, [])), (22, (0, 1, 24, []))], [(9, [19, 14], [2]), (6, [22, 12], [1]), (24, [2, 13], []), (24, [3, 14], []), (24, [0, 6], []), (100, [19, 12, 21], []), (1, [21, 20, 11], []), (10, [20, 19, 12], []), (16, [18, 16, 17], [0]), (16, [16, 10, 12], [4]), (20, [6, 13, 14, 11, 10, 4, 5, 9, 12], [60, 1, 3, 870, 1000, 2, 5, 2002])], [], [], [(20, [6, 13, 14, 11, 10, 4, 5, 9, 22], [60, 1, 3, 870, 1000, 2, 5, 2002])], [], [(22, 12, 1, 1), (21, 11, -40000000, 690000000), (21, 20, -1000000, 67108868), (12, 15, -4294967296, -1)])
theorem oo_Pl_placeSideBySide_13 {kA : Nat → ClassId} : or_ok PRD kA GG o_Pl_placeSideBySide_13 := by
  refine or_mk fun A ta ws vs hD hth hl => ?_
  intro t0 r0 t2 r2 t3 r3 t4 k4 t5 k5 t9 k9 t10 k10 t11 k11 t12 k12 t16 k16 t17 k17 t18 k18 t19 r19 t20 k20 t21 k21 t22 k22 d0 d2 d3 d4 f0 f2 f7 f8 f13 ta1 w1 le1 s1 f15 f16 f19 f20 f29
  replace f0 := shm_120 f0
  replace f2 := shm_4 f2
  replace f7 := shm_5 f7
  replace f8 := shm_5 f8
  replace f13 := shm_5 f13
  have s1 : (∀ b j, w_el ws b j = if b = v_ad (n_v vs 19) ∧ j = (v_iv (n_v vs 12)).toNat then v_iv (n_v vs 21) else w_el w1 b j) ∧ ∀ b k, w_fd ws b k = w_fd w1 b k := s1.2
  replace f15 := shm_12 f15
  replace f16 := shm_107 f16
  replace f19 := shm_11 f19
  replace f20 := shm_13 f20
  replace f29 := shm_1115 f29
  have q13 : n_v vs 13 = n_v vs 2 := f7.symm
  have q14 : n_v vs 14 = n_v vs 3 := f8.symm
  have q6 : n_v vs 6 = n_v vs 0 := f13.symm
  simp only [q14, q13, q6] at f0 f29
  have ar_0_2_1 : w_ar w1 (n_v vs 0) 2 = w_ar ws (n_v vs 0) 2 := congrArg v_ad (s1.2 _ _).symm
  have cr_0_2 := fdq_89 hD hth r0
  have ar_0_4_1 : w_ar w1 (n_v vs 0) 4 = w_ar ws (n_v vs 0) 4 := congrArg v_ad (s1.2 _ _).symm
  have cr_0_4 := fdq_86 hD hth r0
  have ar_0_5_1 : w_ar w1 (n_v vs 0) 5 = w_ar ws (n_v vs 0) 5 := congrArg v_ad (s1.2 _ _).symm
  have cr_0_5 := fdq_90 hD hth r0
  have ar_0_6_1 : w_ar w1 (n_v vs 0) 6 = w_ar ws (n_v vs 0) 6 := congrArg v_ad (s1.2 _ _).symm
  have cr_0_6 := fdq_264 hD hth r0
  have ar_0_7_1 : w_ar w1 (n_v vs 0) 7 = w_ar ws (n_v vs 0) 7 := congrArg v_ad (s1.2 _ _).symm
  have cr_0_7 := fdq_265 hD hth r0
  have ar_3_2_1 : w_ar w1 (n_v vs 3) 2 = w_ar ws (n_v vs 3) 2 := congrArg v_ad (s1.2 _ _).symm
  have ad_19 : v_ad (n_v vs 19) = w_ar ws (n_v vs 3) 2 := congrArg v_ad f0
  simp only [ad_19] at f16
  have h16 : v_iv (n_v vs 20) = w_ei w1 (w_ar ws (n_v vs 3) 2) (v_iv (n_v vs 12)) := f16
  simp only [ar_0_2_1, ar_0_6_1, ar_0_4_1, ar_0_7_1, ar_0_5_1, ar_3_2_1] at f29
  have fe_2_0_1 : w_fi ws (n_v vs 2) 0 = w_fi w1 (n_v vs 2) 0 := congrArg v_iv (s1.2 _ _)
  have hE_0_2_1 : ∀ j : Int, w_ei ws (w_ar ws (n_v vs 0) 2) j = w_ei w1 (w_ar ws (n_v vs 0) 2) j := el_kp s1.1 r19 cr_0_2 (by decide)
  have hE_0_4_1 : ∀ j : Int, w_ei ws (w_ar ws (n_v vs 0) 4) j = w_ei w1 (w_ar ws (n_v vs 0) 4) j := el_kp s1.1 r19 cr_0_4 (by decide)
  have hE_0_5_1 : ∀ j : Int, w_ei ws (w_ar ws (n_v vs 0) 5) j = w_ei w1 (w_ar ws (n_v vs 0) 5) j := el_kp s1.1 r19 cr_0_5 (by decide)
  have hE_0_6_1 : ∀ j : Int, w_ei ws (w_ar ws (n_v vs 0) 6) j = w_ei w1 (w_ar ws (n_v vs 0) 6) j := el_kp s1.1 r19 cr_0_6 (by decide)
  have hE_0_7_1 : ∀ j : Int, w_ei ws (w_ar ws (n_v vs 0) 7) j = w_ei w1 (w_ar ws (n_v vs 0) 7) j := el_kp s1.1 r19 cr_0_7 (by decide)
  have hE_3_2_1 : ∀ j : Int, 0 ≤ j → (j = v_iv (n_v vs 12) → w_ei ws (w_ar ws (n_v vs 3) 2) j = v_iv (n_v vs 21)) ∧ (j ≠ v_iv (n_v vs 12) → w_ei ws (w_ar ws (n_v vs 3) 2) j = w_ei w1 (w_ar ws (n_v vs 3) 2) j) := fun j hj => ⟨fun h => by unfold w_ei; rw [s1.1, if_pos ⟨ad_19.symm, by rw [h]⟩], fun h => by unfold w_ei; rw [s1.1, if_neg (fun e => h (by have := e.2; omega))]⟩
  have kz_2_0 := fdq_21 hD hth r2
  have nf0 : fc_1 PRD (20, [6, 13, 14, 11, 10, 4, 5, 9, 22], [60, 1, 3, 870, 1000, 2, 5, 2002]) ws (vs) := by
    refine ⟨nf_in hl rfl, sgq_1115 ?_⟩
    · show TQV (w_fi ws (n_v vs 13) 0) (w_ei ws (w_ar ws (n_v vs 6) 2)) (w_ei ws (w_ar ws (n_v vs 6) 5)) (w_ei ws (w_ar ws (n_v vs 14) 2)) (v_iv (n_v vs 11)) (v_iv (n_v vs 10)) (v_iv (n_v vs 4)) (v_iv (n_v vs 5)) (v_iv (n_v vs 9)) (v_iv (n_v vs 22))
      simp only [q13, q14, q6]
      exact vc_Pl_placeSideBySide_13_0 (v_iv (n_v vs 4)) (v_iv (n_v vs 5)) (v_iv (n_v vs 9)) (v_iv (n_v vs 10)) (v_iv (n_v vs 11)) (v_iv (n_v vs 12)) (v_iv (n_v vs 16)) (v_iv (n_v vs 17)) (v_iv (n_v vs 18)) (v_iv (n_v vs 20)) (v_iv (n_v vs 21)) (v_iv (n_v vs 22)) (w_fi ws (n_v vs 2) 0) (w_ei ws (w_ar ws (n_v vs 0) 2)) (w_ei ws (w_ar ws (n_v vs 0) 6)) (w_ei ws (w_ar ws (n_v vs 0) 4)) (w_ei ws (w_ar ws (n_v vs 0) 7)) (w_ei ws (w_ar ws (n_v vs 0) 5)) (w_ei w1 (w_ar ws (n_v vs 3) 2)) (w_ei w1 (w_ar ws (n_v vs 0) 2)) (w_ei w1 (w_ar ws (n_v vs 0) 6)) (w_fi w1 (n_v vs 2) 0) (w_ei w1 (w_ar ws (n_v vs 0) 4)) (w_ei w1 (w_ar ws (n_v vs 0) 7)) (w_ei w1 (w_ar ws (n_v vs 0) 5)) (w_ei ws (w_ar ws (n_v vs 3) 2)) k4 k5 k9 k10 k11 k12 k16 k17 k18 k20 k21 k22 d0 f2 f15 h16 f19 f20 f29 fe_2_0_1 hE_0_2_1 hE_0_4_1 hE_0_5_1 hE_0_6_1 hE_0_7_1 hE_3_2_1 kz_2_0
  refine ⟨(fun _ h => (by cases h)), [], trivial, ?_, (fun _ h => (by cases h))⟩
  rw [List.append_nil]
  exact List.forall_mem_cons.mpr ⟨⟨show (20 : Nat) < 100 from by decide, nf0⟩, (fun _ h => (by cases h))⟩
def n_Pl_placeSideBySide_an : List an_T := [(22, [(0, (2, 0, 0, [6])), (1, (0, 0, 24, [])), (2, (0, 0, 16777215, [])), (3, (0, 1, 24, []))], [], (0, 0), [(0, 0, 99978), (1, 9, 24), (0, 0, 100000), (0, 0, 0), (0, 0, 0)], [(1, 7, (Int.negSucc 999999999999), 0), (7, 1, (Int.negSucc 999999999999), 0), (9, 1, (Int.negSucc 999999999999), 1), (9, 7, (Int.negSucc 999999999999), 1)], [((0, 0), (2, 0, 0, [3])), ((0, 1), (2, 0, 0, [0]))], [(2, 0, 0, [6]), (0, 0, 24, []), (2, 0, 0, [3]), (2, 0, 0, [0]), (0, 0, 24, []), (0, 0, 24, [])], 0, [], [(20, [6, 10, 4, 5], [60, 1, 2, 860, 1000, 2, 6]), (20, [6, 7, 4, 5], [60, 0, 3, 861, 2, 4, 7]), (20, [6, 10, 7, 4, 5], [60, 1, 2, 862, 1000, 2, 5]), (20, [6, 10, 4], [60, 1, 3, 859, 1000, 2, 5, 4]), (24, [2, 10], []), (24, [3, 11], []), (24, [1, 7], []), (20, [6, 10, 8, 7, 4, 5], [60, 1, 2, 863, 1000, 2, 7]), (20, [6, 10, 11, 4, 5, 9], [60, 1, 3, 864, 1000, 2, 5, 2002]), (20, [9, 7], [50, 0, 0, 3, 6, 0, 2, 1, 0, 1, 1, 0, 2, 1, 0, 0, 1]), (24, [0, 6], []), (24, [1, 7], [])]), (47, [(0, (2, 0, 0, [6])), (1, (0, 2, 24, [])), (2, (0, 0, 16777215, [])), (3, (0, 1, 23, [])), (4, (0, 0, 16777215, [])), (5, (0, (Int.negSucc 999999), 67108868, [])), (6, (0, 0, 24, []))], [], (0, 0), [(0, 0, 99978), (1, 9, 24), (0, 0, 99953), (1, 12, 24), (0, 0, 100000)], [(1, 7, (Int.negSucc 999999999999), 0), (4, 1, (Int.negSucc 999999999999), 22), (5, 1, (Int.negSucc 999999999999), 22), (7, 1, (Int.negSucc 999999999999), 0), (9, 1, (Int.negSucc 999999999999), (Int.negSucc 0)), (9, 7, (Int.negSucc 999999999999), (Int.negSucc 0)), (11, 12, (Int.negSucc 999999999999), 67108867)], [((0, 0), (2, 0, 0, [3])), ((0, 1), (2, 0, 0, [0]))], [(2, 0, 0, [6]), (0, 0, 24, []), (2, 0, 0, [3]), (2, 0, 0, [0]), (0, 0, 24, []), (0, 0, 24, [])], 0, [], [(20, [6, 13, 4, 5], [60, 1, 2, 860, 1000, 2, 6]), (20, [6, 7, 4, 5], [60, 0, 3, 861, 2, 4, 7]), (20, [6, 13, 7, 4, 5], [60, 1, 2, 862, 1000, 2, 5]), (20, [6, 13, 4], [60, 1, 3, 859, 1000, 2, 5, 4]), (24, [2, 13], []), (24, [3, 14], []), (24, [1, 7], []), (20, [6, 13, 8, 7, 4, 5], [60, 1, 2, 863, 1000, 2, 7]), (20, [6, 13, 14, 4, 5, 9], [60, 1, 3, 864, 1000, 2, 5, 2002]), (20, [6, 10, 9], [60, 0, 2, 875, 6, 7]), (20, [9, 7], [50, 0, 0, 2, 6, 0, 2, 0, 1, 1, 0, 0, 6, 4, 2, 1, 0, 0, 1, 1, 1]), (20, [6, 14, 11, 12, 4, 5], [60, 0, 4, 869, 2, 4, 7, 1002]), (24, [0, 6], []), (24, [1, 7], [])]), (112, [(0, (2, 0, 0, [6])), (1, (0, 2, 24, [])), (2, (0, 0, 16777215, [])), (3, (0, 1, 23, [])), (4, (0, 0, 16777215, [])), (5, (0, (Int.negSucc 999999), 67108868, [])), (6, (0, 0, 24, []))], [], (0, 0), [(0, 0, 99978), (1, 9, 24), (0, 0, 99888), (1, 12, 24), (0, 0, 100000)], [(1, 7, (Int.negSucc 999999999999), 0), (4, 1, (Int.negSucc 999999999999), 22), (5, 1, (Int.negSucc 999999999999), 22), (7, 1, (Int.negSucc 999999999999), 0), (9, 1, (Int.negSucc 999999999999), (Int.negSucc 0)), (9, 7, (Int.negSucc 999999999999), (Int.negSucc 0))], [((0, 0), (2, 0, 0, [3])), ((0, 1), (2, 0, 0, [0]))], [(2, 0, 0, [6]), (0, 0, 24, []), (2, 0, 0, [3]), (2, 0, 0, [0]), (0, 0, 24, []), (0, 0, 24, [])], 0, [], [(20, [6, 13, 4, 5], [60, 1, 2, 860, 1000, 2, 6]), (20, [6, 7, 4, 5], [60, 0, 3, 861, 2, 4, 7]), (20, [6, 13, 7, 4, 5], [60, 1, 2, 862, 1000, 2, 5]), (20, [6, 13, 4], [60, 1, 3, 859, 1000, 2, 5, 4]), (24, [2, 13], []), (24, [3, 14], []), (24, [1, 7], []), (20, [6, 13, 8, 7, 4, 5], [60, 1, 2, 863, 1000, 2, 7]), (20, [6, 10, 9], [60, 0, 2, 875, 6, 7]), (20, [9, 7], [50, 0, 0, 2, 6, 0, 2, 0, 1, 1, 0, 0, 6, 4, 2, 1, 0, 0, 1, 1, 1]), (20, [6, 13, 14, 11, 10, 4, 5, 9, 12], [60, 1, 3, 870, 1000, 2, 5, 2002]), (24, [0, 6], []), (24, [1, 7], [])])]
def t_Pl_placeSideBySide_ct : ct_L := [(1, 145, e_Pl_edgeOfLevel), (297, 150, e_jMath_max1_v67), (297, 150, e_jMath_max1_v68)]
set_option maxRecDepth 100000 in
theorem c_Pl_placeSideBySide {l : Launch} {D : va_G} {kA : Nat → ClassId} (h_Pl_edgeOfLevel : ct_ok PRD l D kA GG y_Pl_edgeOfLevel z_Pl_edgeOfLevel e_Pl_edgeOfLevel) : ct_ok PRD l D kA GG y_Pl_placeSideBySide z_Pl_placeSideBySide e_Pl_placeSideBySide := chk_all_ok (FT := [(9, 6, 0), (15, 6, 1), (32, 6, 6), (35, 6, 7), (74, 3, 0), (127, 0, 2)]) (PT := []) (CT := t_Pl_placeSideBySide_ct) (KT := [(0, 144, .int (Int32.ofInt (-1000000)), (0, -1000000, -1000000, [])), (0, 149, .int (Int32.ofInt (-2147483648)), (0, -2147483648, -2147483648, []))]) (NT := []) (AN := n_Pl_placeSideBySide_an) (OT := [o_Pl_placeSideBySide_0, o_Pl_placeSideBySide_1, o_Pl_placeSideBySide_2, o_Pl_placeSideBySide_3, o_Pl_placeSideBySide_4, o_Pl_placeSideBySide_5, o_Pl_placeSideBySide_6, o_Pl_placeSideBySide_7, o_Pl_placeSideBySide_8, o_Pl_placeSideBySide_9, o_Pl_placeSideBySide_10, o_Pl_placeSideBySide_11, o_Pl_placeSideBySide_12, o_Pl_placeSideBySide_13]) 5 404 (List.forall_mem_cons.mpr ⟨oo_Pl_placeSideBySide_0, List.forall_mem_cons.mpr ⟨oo_Pl_placeSideBySide_1, List.forall_mem_cons.mpr ⟨oo_Pl_placeSideBySide_2, List.forall_mem_cons.mpr ⟨oo_Pl_placeSideBySide_3, List.forall_mem_cons.mpr ⟨oo_Pl_placeSideBySide_4, List.forall_mem_cons.mpr ⟨oo_Pl_placeSideBySide_5, List.forall_mem_cons.mpr ⟨oo_Pl_placeSideBySide_6, List.forall_mem_cons.mpr ⟨oo_Pl_placeSideBySide_7, List.forall_mem_cons.mpr ⟨oo_Pl_placeSideBySide_8, List.forall_mem_cons.mpr ⟨oo_Pl_placeSideBySide_9, List.forall_mem_cons.mpr ⟨oo_Pl_placeSideBySide_10, List.forall_mem_cons.mpr ⟨oo_Pl_placeSideBySide_11, List.forall_mem_cons.mpr ⟨oo_Pl_placeSideBySide_12, List.forall_mem_cons.mpr ⟨oo_Pl_placeSideBySide_13, List.forall_mem_nil _⟩⟩⟩⟩⟩⟩⟩⟩⟩⟩⟩⟩⟩⟩) (by decide +kernel) ⟨List.forall_mem_cons.mpr ⟨gf_Pl_9, List.forall_mem_cons.mpr ⟨gf_Pl_15, List.forall_mem_cons.mpr ⟨gf_Pl_32, List.forall_mem_cons.mpr ⟨gf_Pl_35, List.forall_mem_cons.mpr ⟨gf_Pl_74, List.forall_mem_cons.mpr ⟨gf_Pl_127, List.forall_mem_nil _⟩⟩⟩⟩⟩⟩, List.forall_mem_nil _, List.forall_mem_cons.mpr ⟨cl_virtual (y := y_Pl_edgeOfLevel) (ci := 6) rfl rfl ⟨_, _, rfl⟩ (by decide +kernel) h_Pl_edgeOfLevel wm_1712 wm_21 wm_1709 wm_1711 wv_7_11 ⟨by decide, by decide, by decide +kernel⟩ (by decide), List.forall_mem_cons.mpr ⟨cl_static (y := y_jMath_max1) c_jMath_max1_v67 wm_836 wm_10 wm_1714 wm_835 ⟨by decide, by decide, by decide +kernel⟩ (by decide), List.forall_mem_cons.mpr ⟨cl_static (y := y_jMath_max1) c_jMath_max1_v68 wm_836 wm_10 wm_1714 wm_835 ⟨by decide, by decide, by decide +kernel⟩ (by decide), List.forall_mem_nil _⟩⟩⟩, List.forall_mem_cons.mpr ⟨kx_Pl_0_144, List.forall_mem_cons.mpr ⟨kx_Pl_0_149, List.forall_mem_nil _⟩⟩, List.forall_mem_nil _, GG_pl⟩ (by decide +kernel)
set_option maxHeartbeats 4000000 in
theorem vc_Re_isNameByte_0_0 (x0 : Int) (x4 : Int) (k0 : (-128) ≤ x0 ∧ x0 ≤ 47) (k4 : 0 ≤ x4 ∧ x4 ≤ 0) : CNBy (x0) (x4) := by
  unfold CNBy cIL cIG
  omega
def o_Re_isNameByte_0 : or_T := (25, 5, [(0, (0, -128, 47, [])), (1, (0, 0, 0, [])), (2, (0, 0, 0, [])), (3, (0, 95, 95, [])), (4, (0, 0, 0, []))], [(7, [0, 3], [1]), (8, [2], [0]), (20, [0, 2], [61, 0, 1098]), (8, [1], [0]), (20, [0, 1], [61, 0, 1097])], [], [], [(20, [0, 4], [61, 0, 1099])], [], [])
theorem oo_Re_isNameByte_0 {kA : Nat → ClassId} : or_ok PRD kA GG o_Re_isNameByte_0 := by
  refine or_mk fun A ta ws vs hD hth hl => ?_
  intro t0 k0 t1 k1 t2 k2 t3 k3 t4 k4 f0 f1 f2 f3 f4
  have nf0 : fc_1 PRD (20, [0, 4], [61, 0, 1099]) ws (vs) := ⟨nf_in hl rfl, sgq_1116 (vc_Re_isNameByte_0_0 (v_iv (n_v vs 0)) (v_iv (n_v vs 4)) k0 k4)⟩
  refine ⟨(fun _ h => (by cases h)), [], trivial, ?_, (fun _ h => (by cases h))⟩
  rw [List.append_nil]
  exact List.forall_mem_cons.mpr ⟨⟨show (20 : Nat) < 100 from by decide, nf0⟩, (fun _ h => (by cases h))⟩
set_option maxHeartbeats 4000000 in
theorem vc_Re_isNameByte_1_0 (x0 : Int) (x4 : Int) (k0 : 58 ≤ x0 ∧ x0 ≤ 64) (k4 : 0 ≤ x4 ∧ x4 ≤ 0) : CNBy (x0) (x4) := by
  unfold CNBy cIL cIG
  omega
def o_Re_isNameByte_1 : or_T := (25, 5, [(0, (0, 58, 64, [])), (1, (0, 0, 0, [])), (2, (0, 0, 0, [])), (3, (0, 95, 95, [])), (4, (0, 0, 0, []))], [(7, [0, 3], [1]), (8, [2], [0]), (20, [0, 2], [61, 0, 1098]), (8, [1], [0]), (20, [0, 1], [61, 0, 1097])], [], [], [(20, [0, 4], [61, 0, 1099])], [], [])
theorem oo_Re_isNameByte_1 {kA : Nat → ClassId} : or_ok PRD kA GG o_Re_isNameByte_1 := by
  refine or_mk fun A ta ws vs hD hth hl => ?_
  intro t0 k0 t1 k1 t2 k2 t3 k3 t4 k4 f0 f1 f2 f3 f4
  have nf0 : fc_1 PRD (20, [0, 4], [61, 0, 1099]) ws (vs) := ⟨nf_in hl rfl, sgq_1116 (vc_Re_isNameByte_1_0 (v_iv (n_v vs 0)) (v_iv (n_v vs 4)) k0 k4)⟩
  refine ⟨(fun _ h => (by cases h)), [], trivial, ?_, (fun _ h => (by cases h))⟩
  rw [List.append_nil]
  exact List.forall_mem_cons.mpr ⟨⟨show (20 : Nat) < 100 from by decide, nf0⟩, (fun _ h => (by cases h))⟩
set_option maxHeartbeats 4000000 in
theorem vc_Re_isNameByte_2_0 (x0 : Int) (x3 : Int) (k0 : 48 ≤ x0 ∧ x0 ≤ 57) (k3 : 1 ≤ x3 ∧ x3 ≤ 1) : CNBy (x0) (x3) := by
  unfold CNBy cIL cIG
  omega
def o_Re_isNameByte_2 : or_T := (25, 4, [(0, (0, 48, 57, [])), (3, (0, 1, 1, []))], [], [], [], [(20, [0, 3], [61, 0, 1099])], [], [])
theorem oo_Re_isNameByte_2 {kA : Nat → ClassId} : or_ok PRD kA GG o_Re_isNameByte_2 := by
  refine or_mk fun A ta ws vs hD hth hl => ?_
  intro t0 k0 t3 k3
  have nf0 : fc_1 PRD (20, [0, 3], [61, 0, 1099]) ws (vs) := ⟨nf_in hl rfl, sgq_1116 (vc_Re_isNameByte_2_0 (v_iv (n_v vs 0)) (v_iv (n_v vs 3)) k0 k3)⟩
  refine ⟨(fun _ h => (by cases h)), [], trivial, ?_, (fun _ h => (by cases h))⟩
  rw [List.append_nil]
  exact List.forall_mem_cons.mpr ⟨⟨show (20 : Nat) < 100 from by decide, nf0⟩, (fun _ h => (by cases h))⟩
set_option maxHeartbeats 4000000 in
theorem vc_Re_isNameByte_3_0 (x0 : Int) (x3 : Int) (x4 : Int) (k0 : 91 ≤ x0 ∧ x0 ≤ 96) (k3 : 95 ≤ x3 ∧ x3 ≤ 95) (k4 : 0 ≤ x4 ∧ x4 ≤ 0) (f0 : x0 ≠ x3) : CNBy (x0) (x4) := by
  unfold CNBy cIL cIG
  omega
def o_Re_isNameByte_3 : or_T := (25, 5, [(0, (0, 91, 96, [])), (1, (0, 0, 0, [])), (2, (0, 0, 0, [])), (3, (0, 95, 95, [])), (4, (0, 0, 0, []))], [(7, [0, 3], [1]), (8, [2], [0]), (20, [0, 2], [61, 0, 1098]), (8, [1], [0]), (20, [0, 1], [61, 0, 1097])], [], [], [(20, [0, 4], [61, 0, 1099])], [], [])
theorem oo_Re_isNameByte_3 {kA : Nat → ClassId} : or_ok PRD kA GG o_Re_isNameByte_3 := by
  refine or_mk fun A ta ws vs hD hth hl => ?_
  intro t0 k0 t1 k1 t2 k2 t3 k3 t4 k4 f0 f1 f2 f3 f4
  have nf0 : fc_1 PRD (20, [0, 4], [61, 0, 1099]) ws (vs) := ⟨nf_in hl rfl, sgq_1116 (vc_Re_isNameByte_3_0 (v_iv (n_v vs 0)) (v_iv (n_v vs 3)) (v_iv (n_v vs 4)) k0 k3 k4 (shm_40 f0))⟩
  refine ⟨(fun _ h => (by cases h)), [], trivial, ?_, (fun _ h => (by cases h))⟩
  rw [List.append_nil]
  exact List.forall_mem_cons.mpr ⟨⟨show (20 : Nat) < 100 from by decide, nf0⟩, (fun _ h => (by cases h))⟩
set_option maxHeartbeats 4000000 in
theorem vc_Re_isNameByte_4_0 (x0 : Int) (x4 : Int) (k0 : 95 ≤ x0 ∧ x0 ≤ 95) (k4 : 1 ≤ x4 ∧ x4 ≤ 1) : CNBy (x0) (x4) := by
  unfold CNBy cIL cIG
  omega
def o_Re_isNameByte_4 : or_T := (25, 5, [(0, (0, 95, 95, [])), (1, (0, 0, 0, [])), (2, (0, 0, 0, [])), (3, (0, 95, 95, [])), (4, (0, 1, 1, []))], [(7, [0, 3], [0]), (8, [2], [0]), (20, [0, 2], [61, 0, 1098]), (8, [1], [0]), (20, [0, 1], [61, 0, 1097])], [], [], [(20, [0, 4], [61, 0, 1099])], [], [])
theorem oo_Re_isNameByte_4 {kA : Nat → ClassId} : or_ok PRD kA GG o_Re_isNameByte_4 := by
  refine or_mk fun A ta ws vs hD hth hl => ?_
  intro t0 k0 t1 k1 t2 k2 t3 k3 t4 k4 f0 f1 f2 f3 f4
  have nf0 : fc_1 PRD (20, [0, 4], [61, 0, 1099]) ws (vs) := ⟨nf_in hl rfl, sgq_1116 (vc_Re_isNameByte_4_0 (v_iv (n_v vs 0)) (v_iv (n_v vs 4)) k0 k4)⟩
  refine ⟨(fun _ h => (by cases h)), [], trivial, ?_, (fun _ h => (by cases h))⟩
  rw [List.append_nil]
  exact List.forall_mem_cons.mpr ⟨⟨show (20 : Nat) < 100 from by decide, nf0⟩, (fun _ h => (by cases h))⟩
set_option maxHeartbeats 4000000 in
theorem vc_Re_isNameByte_5_0 (x0 : Int) (x2 : Int) (k0 : 65 ≤ x0 ∧ x0 ≤ 90) (k2 : 1 ≤ x2 ∧ x2 ≤ 1) : CNBy (x0) (x2) := by
  unfold CNBy cIL cIG
  omega
def o_Re_isNameByte_5 : or_T := (25, 3, [(0, (0, 65, 90, [])), (1, (0, 1, 1, [])), (2, (0, 1, 1, []))], [(8, [1], [1]), (20, [0, 1], [61, 0, 1097])], [], [], [(20, [0, 2], [61, 0, 1099])], [], [])
theorem oo_Re_isNameByte_5 {kA : Nat → ClassId} : or_ok PRD kA GG o_Re_isNameByte_5 := by
  refine or_mk fun A ta ws vs hD hth hl => ?_
  intro t0 k0 t1 k1 t2 k2 f0 f1
  have nf0 : fc_1 PRD (20, [0, 2], [61, 0, 1099]) ws (vs) := ⟨nf_in hl rfl, sgq_1116 (vc_Re_isNameByte_5_0 (v_iv (n_v vs 0)) (v_iv (n_v vs 2)) k0 k2)⟩
  refine ⟨(fun _ h => (by cases h)), [], trivial, ?_, (fun _ h => (by cases h))⟩
  rw [List.append_nil]
  exact List.forall_mem_cons.mpr ⟨⟨show (20 : Nat) < 100 from by decide, nf0⟩, (fun _ h => (by cases h))⟩
set_option maxHeartbeats 4000000 in
theorem vc_Re_isNameByte_6_0 (x0 : Int) (x2 : Int) (k0 : 97 ≤ x0 ∧ x0 ≤ 122) (k2 : 1 ≤ x2 ∧ x2 ≤ 1) : CNBy (x0) (x2) := by
  unfold CNBy cIL cIG
  omega
def o_Re_isNameByte_6 : or_T := (25, 3, [(0, (0, 97, 122, [])), (1, (0, 1, 1, [])), (2, (0, 1, 1, []))], [(8, [1], [1]), (20, [0, 1], [61, 0, 1097])], [], [], [(20, [0, 2], [61, 0, 1099])], [], [])
theorem oo_Re_isNameByte_6 {kA : Nat → ClassId} : or_ok PRD kA GG o_Re_isNameByte_6 := by
  refine or_mk fun A ta ws vs hD hth hl => ?_
  intro t0 k0 t1 k1 t2 k2 f0 f1
  have nf0 : fc_1 PRD (20, [0, 2], [61, 0, 1099]) ws (vs) := ⟨nf_in hl rfl, sgq_1116 (vc_Re_isNameByte_6_0 (v_iv (n_v vs 0)) (v_iv (n_v vs 2)) k0 k2)⟩
  refine ⟨(fun _ h => (by cases h)), [], trivial, ?_, (fun _ h => (by cases h))⟩
  rw [List.append_nil]
  exact List.forall_mem_cons.mpr ⟨⟨show (20 : Nat) < 100 from by decide, nf0⟩, (fun _ h => (by cases h))⟩
set_option maxHeartbeats 4000000 in
theorem vc_Re_isNameByte_7_0 (x0 : Int) (x4 : Int) (k0 : 123 ≤ x0 ∧ x0 ≤ 127) (k4 : 0 ≤ x4 ∧ x4 ≤ 0) : CNBy (x0) (x4) := by
  unfold CNBy cIL cIG
  omega
def o_Re_isNameByte_7 : or_T := (25, 5, [(0, (0, 123, 127, [])), (1, (0, 0, 0, [])), (2, (0, 0, 0, [])), (3, (0, 95, 95, [])), (4, (0, 0, 0, []))], [(7, [0, 3], [1]), (8, [2], [0]), (20, [0, 2], [61, 0, 1098]), (8, [1], [0]), (20, [0, 1], [61, 0, 1097])], [], [], [(20, [0, 4], [61, 0, 1099])], [], [])
theorem oo_Re_isNameByte_7 {kA : Nat → ClassId} : or_ok PRD kA GG o_Re_isNameByte_7 := by
  refine or_mk fun A ta ws vs hD hth hl => ?_
  intro t0 k0 t1 k1 t2 k2 t3 k3 t4 k4 f0 f1 f2 f3 f4
  have nf0 : fc_1 PRD (20, [0, 4], [61, 0, 1099]) ws (vs) := ⟨nf_in hl rfl, sgq_1116 (vc_Re_isNameByte_7_0 (v_iv (n_v vs 0)) (v_iv (n_v vs 4)) k0 k4)⟩
  refine ⟨(fun _ h => (by cases h)), [], trivial, ?_, (fun _ h => (by cases h))⟩
  rw [List.append_nil]
  exact List.forall_mem_cons.mpr ⟨⟨show (20 : Nat) < 100 from by decide, nf0⟩, (fun _ h => (by cases h))⟩
def n_Re_isNameByte_an : List an_T := []
def t_Re_isNameByte_ct : ct_L := [(0, 64, e_Re_isLetter), (0, 68, e_Re_isDigit)]
set_option maxRecDepth 100000 in
theorem c_Re_isNameByte {l : Launch} {D : va_G} {kA : Nat → ClassId} (h_Re_isDigit : ct_ok PRD l D kA GG y_Re_isDigit z_Re_isDigit e_Re_isDigit) (h_Re_isLetter : ct_ok PRD l D kA GG y_Re_isLetter z_Re_isLetter e_Re_isLetter) : ct_ok PRD l D kA GG y_Re_isNameByte z_Re_isNameByte e_Re_isNameByte := chk_all_ok (FT := []) (PT := []) (CT := t_Re_isNameByte_ct) (KT := []) (NT := []) (AN := n_Re_isNameByte_an) (OT := [o_Re_isNameByte_0, o_Re_isNameByte_1, o_Re_isNameByte_2, o_Re_isNameByte_3, o_Re_isNameByte_4, o_Re_isNameByte_5, o_Re_isNameByte_6, o_Re_isNameByte_7]) 0 200 (List.forall_mem_cons.mpr ⟨oo_Re_isNameByte_0, List.forall_mem_cons.mpr ⟨oo_Re_isNameByte_1, List.forall_mem_cons.mpr ⟨oo_Re_isNameByte_2, List.forall_mem_cons.mpr ⟨oo_Re_isNameByte_3, List.forall_mem_cons.mpr ⟨oo_Re_isNameByte_4, List.forall_mem_cons.mpr ⟨oo_Re_isNameByte_5, List.forall_mem_cons.mpr ⟨oo_Re_isNameByte_6, List.forall_mem_cons.mpr ⟨oo_Re_isNameByte_7, List.forall_mem_nil _⟩⟩⟩⟩⟩⟩⟩⟩) (by decide +kernel) ⟨List.forall_mem_nil _, List.forall_mem_nil _, List.forall_mem_cons.mpr ⟨cl_static (y := y_Re_isLetter) h_Re_isLetter wm_648 wm_2 wm_646 wm_647 ⟨by decide, by decide, by decide +kernel⟩ (by decide), List.forall_mem_cons.mpr ⟨cl_static (y := y_Re_isDigit) h_Re_isDigit wm_654 wm_2 wm_652 wm_653 ⟨by decide, by decide, by decide +kernel⟩ (by decide), List.forall_mem_nil _⟩⟩, List.forall_mem_nil _, List.forall_mem_nil _, GG_pl⟩ (by decide +kernel)
set_option maxHeartbeats 4000000 in
theorem vc_Ro_bar_0_0 (x3 : Int) (x6 : Int) (nodes_0o4 : Int) (k3 : 0 ≤ x3 ∧ x3 ≤ 23) (k6 : 1 ≤ x6 ∧ x6 ≤ 24) (d0 : x6 + (-4294967296) ≤ x3 ∧ x3 ≤ x6 + (-1)) (g4 : x6 = nodes_0o4) (kz_4_0 : 0 ≤ nodes_0o4 ∧ nodes_0o4 ≤ 24) : (0 ≤ x3) ∧ ((x3 + 1) ≤ nodes_0o4) := by
  first
    | omega
  
def o_Ro_bar_0 : or_T := (61, 9, [(3, (0, 0, 23, [])), (4, (2, 0, 0, [3])), (6, (0, 1, 24, []))], [(9, [6, 4], [0])], [], [], [(20, [3, 4], [50, 1, 0, 1000, 2, 6, 0, 2, 0, 0, 1, 0, 0, 6, 4, 2, 1, 0, 0, 1, 2, 1, 0])], [], [(3, 6, -4294967296, -1)])
theorem oo_Ro_bar_0 {kA : Nat → ClassId} : or_ok PRD kA GG o_Ro_bar_0 := by
  refine or_mk fun A ta ws vs hD hth hl => ?_
  intro t3 k3 t4 r4 t6 k6 d0 f4
  replace f4 := shm_163 f4
  have g4 : v_iv (n_v vs 6) = w_fi ws (n_v vs 4) 0 := congrArg v_iv f4
  have kz_4_0 := fdq_21 hD hth r4
  have nf0 : fc_1 PRD (20, [3, 4], [50, 1, 0, 1000, 2, 6, 0, 2, 0, 0, 1, 0, 0, 6, 4, 2, 1, 0, 0, 1, 2, 1, 0]) ws (vs) := ⟨nf_in hl rfl, sgq_416 (vc_Ro_bar_0_0 (v_iv (n_v vs 3)) (v_iv (n_v vs 6)) (w_fi ws (n_v vs 4) 0) k3 k6 d0 g4 kz_4_0)⟩
  refine ⟨(fun _ h => (by cases h)), [], trivial, ?_, (fun _ h => (by cases h))⟩
  rw [List.append_nil]
  exact List.forall_mem_cons.mpr ⟨⟨show (20 : Nat) < 100 from by decide, nf0⟩, (fun _ h => (by cases h))⟩
set_option maxHeartbeats 4000000 in
theorem vc_Ro_bar_1_r0 (x10 : Int) (width_0 : Int) (x_0o7 : Int → Int) (y_0o7 : Int → Int) (left_0 : Int) (top_0 : Int) (height_0 : Int) (nameLength_0o6 : Int → Int) (nodes_0o6 : Int) (k10 : (-2147483648) ≤ x10 ∧ x10 ≤ 2147483647) (g0 : x10 = width_0) (f3 : FRM (left_0) (top_0) (width_0) (height_0) (nodes_0o6) (nameLength_0o6) (x_0o7) (y_0o7)) (kz_0_2 : (-40000011) ≤ left_0 ∧ left_0 ≤ 1000000000) (kz_0_3 : (-40000003) ≤ top_0 ∧ top_0 ≤ 1000000000) (kz_0_4 : (-2147483648) ≤ width_0 ∧ width_0 ≤ 2147483647) (kz_0_5 : (-2147483648) ≤ height_0 ∧ height_0 ≤ 2147483647) (kz_6_0 : 0 ≤ nodes_0o6 ∧ nodes_0o6 ≤ 24) : 1 ≤ x10 ∧ x10 ≤ 6000 := by
  have h := frm_wh ‹FRM _ _ _ _ _ _ _ _›
  omega
def o_Ro_bar_1 : or_T := (78, 11, [(0, (2, 0, 0, [9])), (3, (0, 0, 23, [])), (4, (0, 1, 9, [])), (6, (2, 0, 0, [3])), (7, (2, 0, 0, [0])), (9, (0, 0, 5999, [])), (10, (0, -2147483648, 2147483647, []))], [(9, [10, 0], [4]), (20, [0, 7, 3, 9], [60, 3, 2, 842, 2, 3, 4, 1002, 1003]), (20, [9, 0], [50, 2, 0, 1004, 1005, 2, 6, 0, 2, 0, 0, 1, 0, 0, 6, 4, 2, 1, 0, 0, 1, 6, 3, 2, 1, 4, 2, 1, 5]), (20, [0, 6, 7], [60, 5, 3, 839, 2, 3, 4, 5, 1000, 1004, 2002, 2003]), (20, [4, 6, 3], [50, 0, 1, 1004, 1, 2, 1, 0, 4, 5, 3, 1, 4, 1, 2, 0, 1]), (20, [3, 6], [50, 1, 0, 1000, 2, 6, 0, 2, 0, 0, 1, 0, 0, 6, 4, 2, 1, 0, 0, 1, 2, 1, 0])], [(10, (0, 1, 6000, []))], [], [], [], [])
theorem oo_Ro_bar_1 {kA : Nat → ClassId} : or_ok PRD kA GG o_Ro_bar_1 := by
  refine or_mk fun A ta ws vs hD hth hl => ?_
  intro t0 r0 t3 k3 t4 k4 t6 r6 t7 r7 t9 k9 t10 k10 f0 f1 f2 f3 f4 f5
  replace f0 := shm_108 f0
  have g0 : v_iv (n_v vs 10) = w_fi ws (n_v vs 0) 4 := congrArg v_iv f0
  have kz_0_2 := fdq_106 hD hth r0
  have kz_0_3 := fdq_107 hD hth r0
  have kz_0_4 := fdq_103 hD hth r0
  have kz_0_5 := fdq_104 hD hth r0
  have kz_6_0 := fdq_21 hD hth r6
  have hrf0 : 1 ≤ v_iv (n_v vs 10) ∧ v_iv (n_v vs 10) ≤ 6000 := vc_Ro_bar_1_r0 (v_iv (n_v vs 10)) (w_fi ws (n_v vs 0) 4) (w_ei ws (w_ar ws (n_v vs 7) 2)) (w_ei ws (w_ar ws (n_v vs 7) 3)) (w_fi ws (n_v vs 0) 2) (w_fi ws (n_v vs 0) 3) (w_fi ws (n_v vs 0) 5) (w_ei ws (w_ar ws (n_v vs 6) 4)) (w_fi ws (n_v vs 6) 0) k10 g0 (shm_471 f3) kz_0_2 kz_0_3 kz_0_4 kz_0_5 kz_6_0
  have rf10 : tv_ok ta (0, 1, 6000, []) (n_v vs 10) := tv_in t10 (by first | omega | grind) (by first | omega | grind)
  refine ⟨List.forall_mem_cons.mpr ⟨rf10, (fun _ h => (by cases h))⟩, [], trivial, ?_, (fun _ h => (by cases h))⟩
  rw [List.append_nil]
  exact (fun _ h => (by cases h))
set_option maxHeartbeats 4000000 in
theorem vc_Ro_bar_2_0 (x3 : Int) (x4 : Int) (x5 : Int) (x9 : Int) (x10 : Int) (x11 : Int) (x12 : Int) (width_0 : Int) (x_0o7 : Int → Int) (y_0o7 : Int → Int) (left_0 : Int) (top_0 : Int) (height_0 : Int) (nameLength_0o6 : Int → Int) (nodes_0o6 : Int) (k3 : 0 ≤ x3 ∧ x3 ≤ 23) (k4 : 1 ≤ x4 ∧ x4 ≤ 9) (k5 : (-1) ≤ x5 ∧ x5 ≤ 1) (k9 : 0 ≤ x9 ∧ x9 ≤ 5999) (k10 : 1 ≤ x10 ∧ x10 ≤ 6000) (k11 : (-6000) ≤ x11 ∧ x11 ≤ 6000) (k12 : (-6000) ≤ x12 ∧ x12 ≤ 11999) (f0 : x12 = x9 + x11) (f1 : x11 = x5 * x10) (g2 : x10 = width_0) (f3 : PTO (left_0) (top_0) (width_0) (x_0o7) (y_0o7) (x3) (x9)) (f6 : FRM (left_0) (top_0) (width_0) (height_0) (nodes_0o6) (nameLength_0o6) (x_0o7) (y_0o7)) (f7 : x4 = (nameLength_0o6 (x3) + 1)) (f8 : (0 ≤ x3) ∧ ((x3 + 1) ≤ nodes_0o6)) (hK_6_4 : ∀ j : Int, 0 ≤ j → j < 24 → 0 ≤ nameLength_0o6 j ∧ nameLength_0o6 j ≤ 8) (kz_0_2 : (-40000011) ≤ left_0 ∧ left_0 ≤ 1000000000) (kz_0_3 : (-40000003) ≤ top_0 ∧ top_0 ≤ 1000000000) (kz_0_4 : (-2147483648) ≤ width_0 ∧ width_0 ≤ 2147483647) (kz_0_5 : (-2147483648) ≤ height_0 ∧ height_0 ≤ 2147483647) (kz_6_0 : 0 ≤ nodes_0o6 ∧ nodes_0o6 ≤ 24) : BRK (x12) (x4) := by
  first
    | assumption
    | exact frm_bar (i := x3) (z := x9) (d := x5) (e := x10) (p := x11) ‹FRM _ _ _ _ _ _ _ _› (by omega) (by omega) (‹∀ j : Int, 0 ≤ j → j < 24 → 0 ≤ nameLength_0o6 j ∧ nameLength_0o6 j ≤ 8› x3 (by omega) (by omega)).1 ‹PTO _ _ _ _ _ _ _› (by omega) (by omega) (by omega) (by assumption) (by omega) (by omega)
  
def o_Ro_bar_2 : or_T := (82, 13, [(0, (2, 0, 0, [9])), (3, (0, 0, 23, [])), (4, (0, 1, 9, [])), (5, (0, -1, 1, [])), (6, (2, 0, 0, [3])), (9, (0, 0, 5999, [])), (10, (0, 1, 6000, [])), (11, (0, -6000, 6000, [])), (12, (0, -6000, 11999, []))], [(1, [12, 9, 11], []), (3, [11, 5, 10], []), (9, [10, 0], [4]), (20, [0, 7, 3, 9], [60, 3, 2, 842, 2, 3, 4, 1002, 1003]), (20, [0, 6, 7], [60, 5, 3, 839, 2, 3, 4, 5, 1000, 1004, 2002, 2003]), (20, [4, 6, 3], [50, 0, 1, 1004, 1, 2, 1, 0, 4, 5, 3, 1, 4, 1, 2, 0, 1]), (20, [3, 6], [50, 1, 0, 1000, 2, 6, 0, 2, 0, 0, 1, 0, 0, 6, 4, 2, 1, 0, 0, 1, 2, 1, 0])], [], [], [(20, [12, 4], [61, 0, 843])], [], [])
theorem oo_Ro_bar_2 {kA : Nat → ClassId} : or_ok PRD kA GG o_Ro_bar_2 := by
  refine or_mk fun A ta ws vs hD hth hl => ?_
  intro t0 r0 t3 k3 t4 k4 t5 k5 t6 r6 t9 k9 t10 k10 t11 k11 t12 k12 f0 f1 f2 f3 f6 f7 f8
  replace f2 := shm_108 f2
  have cr_6_4 := fdq_4 hD hth r6
  have g2 : v_iv (n_v vs 10) = w_fi ws (n_v vs 0) 4 := congrArg v_iv f2
  have hK_6_4 := elq_3 hD hth cr_6_4
  have kz_0_2 := fdq_106 hD hth r0
  have kz_0_3 := fdq_107 hD hth r0
  have kz_0_4 := fdq_103 hD hth r0
  have kz_0_5 := fdq_104 hD hth r0
  have kz_6_0 := fdq_21 hD hth r6
  have nf0 : fc_1 PRD (20, [12, 4], [61, 0, 843]) ws (vs) := ⟨nf_in hl rfl, sgq_1117 (vc_Ro_bar_2_0 (v_iv (n_v vs 3)) (v_iv (n_v vs 4)) (v_iv (n_v vs 5)) (v_iv (n_v vs 9)) (v_iv (n_v vs 10)) (v_iv (n_v vs 11)) (v_iv (n_v vs 12)) (w_fi ws (n_v vs 0) 4) (w_ei ws (w_ar ws (n_v vs 7) 2)) (w_ei ws (w_ar ws (n_v vs 7) 3)) (w_fi ws (n_v vs 0) 2) (w_fi ws (n_v vs 0) 3) (w_fi ws (n_v vs 0) 5) (w_ei ws (w_ar ws (n_v vs 6) 4)) (w_fi ws (n_v vs 6) 0) k3 k4 k5 k9 k10 k11 k12 (shm_12 f0) (shm_38 f1) g2 (shm_472 f3) (shm_471 f6) (shm_377 f7) (shm_416 f8) hK_6_4 kz_0_2 kz_0_3 kz_0_4 kz_0_5 kz_6_0)⟩
  refine ⟨(fun _ h => (by cases h)), [], trivial, ?_, (fun _ h => (by cases h))⟩
  rw [List.append_nil]
  exact List.forall_mem_cons.mpr ⟨⟨show (20 : Nat) < 100 from by decide, nf0⟩, (fun _ h => (by cases h))⟩
set_option maxHeartbeats 4000000 in
theorem vc_Ro_bar_3_0 (x4 : Int) (x12 : Int) (x13 : Int) (k4 : 1 ≤ x4 ∧ x4 ≤ 9) (k12 : (-6000) ≤ x12 ∧ x12 ≤ 11999) (k13 : (-6009) ≤ x13 ∧ x13 ≤ 11998) (f0 : x13 = x12 - x4) : x12 ≤ (x13 + x4) := by
  first
    | omega
  
def o_Ro_bar_3 : or_T := (89, 14, [(0, (2, 0, 0, [9])), (3, (0, 0, 23, [])), (4, (0, 1, 9, [])), (5, (0, -1, 1, [])), (6, (2, 0, 0, [3])), (7, (2, 0, 0, [0])), (8, (0, 1, 1, [])), (9, (0, 0, 5999, [])), (10, (0, 1, 6000, [])), (11, (0, -6000, 6000, [])), (12, (0, -6000, 11999, [])), (13, (0, -6009, 11998, []))], [(2, [13, 12, 4], []), (20, [12, 4], [61, 0, 843]), (1, [12, 9, 11], []), (3, [11, 5, 10], []), (9, [10, 0], [4]), (20, [0, 7, 3, 9], [60, 3, 2, 842, 2, 3, 4, 1002, 1003]), (20, [9, 0], [50, 2, 0, 1004, 1005, 2, 6, 0, 2, 0, 0, 1, 0, 0, 6, 4, 2, 1, 0, 0, 1, 6, 3, 2, 1, 4, 2, 1, 5]), (7, [5, 8], [5]), (20, [0, 6, 7], [60, 5, 3, 839, 2, 3, 4, 5, 1000, 1004, 2002, 2003]), (20, [4, 6, 3], [50, 0, 1, 1004, 1, 2, 1, 0, 4, 5, 3, 1, 4, 1, 2, 0, 1]), (20, [3, 6], [50, 1, 0, 1000, 2, 6, 0, 2, 0, 0, 1, 0, 0, 6, 4, 2, 1, 0, 0, 1, 2, 1, 0])], [], [], [(20, [12, 13, 4], [50, 0, 0, 0, 2, 1, 0, 4, 2, 1, 1, 1, 2])], [], [(13, 12, -9, -1), (13, 11, -9, 5998), (13, 9, -6009, 5999), (12, 11, 0, 5999), (12, 9, -6000, 6000)])
theorem oo_Ro_bar_3 {kA : Nat → ClassId} : or_ok PRD kA GG o_Ro_bar_3 := by
  refine or_mk fun A ta ws vs hD hth hl => ?_
  intro t0 r0 t3 k3 t4 k4 t5 k5 t6 r6 t7 r7 t8 k8 t9 k9 t10 k10 t11 k11 t12 k12 t13 k13 d0 d1 d2 d3 d4 f0 f1 f2 f3 f4 f5 f6 f7 f8 f9 f10
  have nf0 : fc_1 PRD (20, [12, 13, 4], [50, 0, 0, 0, 2, 1, 0, 4, 2, 1, 1, 1, 2]) ws (vs) := ⟨nf_in hl rfl, sgq_1118 (vc_Ro_bar_3_0 (v_iv (n_v vs 4)) (v_iv (n_v vs 12)) (v_iv (n_v vs 13)) k4 k12 k13 (shm_14 f0))⟩
  refine ⟨(fun _ h => (by cases h)), [], trivial, ?_, (fun _ h => (by cases h))⟩
  rw [List.append_nil]
  exact List.forall_mem_cons.mpr ⟨⟨show (20 : Nat) < 100 from by decide, nf0⟩, (fun _ h => (by cases h))⟩
set_option maxHeartbeats 4000000 in
theorem vc_Ro_bar_4_r0 (x3 : Int) (x4 : Int) (x6 : Int) (x7 : Int) (x10 : Int) (nameLength_0o8 : Int → Int) (k3 : 0 ≤ x3 ∧ x3 ≤ 23) (k4 : 1 ≤ x4 ∧ x4 ≤ 9) (k6 : (-6000) ≤ x6 ∧ x6 ≤ 11999) (k7 : (-6009) ≤ x7 ∧ x7 ≤ 11998) (k10 : (-5999) ≤ x10 ∧ x10 ≤ 12008) (d0 : x10 + (-4294967296) ≤ x7 ∧ x7 ≤ x10 + 0) (d3 : x7 + (-4294967296) ≤ x10 ∧ x10 ≤ x7 + 18) (f1 : x10 = x6 + x4) (f3 : x4 = (nameLength_0o8 (x3) + 1)) (f5 : BRK (x6) (x4)) (f6 : x6 ≤ (x7 + x4)) : 0 ≤ x7 ∧ x7 ≤ 5999 := by
  have b := ‹BRK _ _›
  have b1 := b.1
  have b2 := b.2
  omega
def o_Ro_bar_4 : or_T := (103, 12, [(0, (2, 0, 0, [9])), (3, (0, 0, 23, [])), (4, (0, 1, 9, [])), (6, (0, -6000, 11999, [])), (7, (0, -6009, 11998, [])), (8, (2, 0, 0, [3])), (9, (2, 0, 0, [0])), (10, (0, -5999, 12008, []))], [(7, [7, 10], [5]), (1, [10, 6, 4], []), (20, [0, 8, 9], [60, 5, 3, 839, 2, 3, 4, 5, 1000, 1004, 2002, 2003]), (20, [4, 8, 3], [50, 0, 1, 1004, 1, 2, 1, 0, 4, 5, 3, 1, 4, 1, 2, 0, 1]), (20, [3, 8], [50, 1, 0, 1000, 2, 6, 0, 2, 0, 0, 1, 0, 0, 6, 4, 2, 1, 0, 0, 1, 2, 1, 0]), (20, [6, 4], [61, 0, 843]), (20, [6, 7, 4], [50, 0, 0, 0, 2, 1, 0, 4, 2, 1, 1, 1, 2])], [(7, (0, 0, 5999, []))], [], [], [], [(7, 10, -4294967296, 0), (10, 4, -6000, 11999), (10, 6, 1, 9), (10, 7, -4294967296, 18), (6, 7, -4294967296, 9)])
theorem oo_Ro_bar_4 {kA : Nat → ClassId} : or_ok PRD kA GG o_Ro_bar_4 := by
  refine or_mk fun A ta ws vs hD hth hl => ?_
  intro t0 r0 t3 k3 t4 k4 t6 k6 t7 k7 t8 r8 t9 r9 t10 k10 d0 d1 d2 d3 d4 f0 f1 f2 f3 f4 f5 f6
  have hrf0 : 0 ≤ v_iv (n_v vs 7) ∧ v_iv (n_v vs 7) ≤ 5999 := vc_Ro_bar_4_r0 (v_iv (n_v vs 3)) (v_iv (n_v vs 4)) (v_iv (n_v vs 6)) (v_iv (n_v vs 7)) (v_iv (n_v vs 10)) (w_ei ws (w_ar ws (n_v vs 8) 4)) k3 k4 k6 k7 k10 d0 d3 (shm_12 f1) (shm_377 f3) (shm_1117 f5) (shm_1118 f6)
  have rf7 : tv_ok ta (0, 0, 5999, []) (n_v vs 7) := tv_in t7 (by first | omega | grind) (by first | omega | grind)
  refine ⟨List.forall_mem_cons.mpr ⟨rf7, (fun _ h => (by cases h))⟩, [], trivial, ?_, (fun _ h => (by cases h))⟩
  rw [List.append_nil]
  exact (fun _ h => (by cases h))
set_option maxHeartbeats 4000000 in
theorem vc_Ro_bar_5_0 (x3 : Int) (x4 : Int) (x6 : Int) (x7 : Int) (x10 : Int) (x13 : Int) (nameLength_0o8 : Int → Int) (x_0o9 : Int → Int) (y_0o9 : Int → Int) (left_0 : Int) (top_0 : Int) (width_0 : Int) (height_0 : Int) (nodes_0o8 : Int) (nameLength_1o8 : Int → Int) (x_1o9 : Int → Int) (y_1o9 : Int → Int) (left_1 : Int) (top_1 : Int) (width_1 : Int) (height_1 : Int) (nodes_1o8 : Int) (k3 : 0 ≤ x3 ∧ x3 ≤ 23) (k4 : 1 ≤ x4 ∧ x4 ≤ 9) (k6 : (-6000) ≤ x6 ∧ x6 ≤ 11999) (k7 : 0 ≤ x7 ∧ x7 ≤ 5999) (k10 : (-5999) ≤ x10 ∧ x10 ≤ 12008) (k13 : 1 ≤ x13 ∧ x13 ≤ 6000) (d0 : x7 + 1 ≤ x13 ∧ x13 ≤ x7 + 1) (f3 : x4 = (nameLength_0o8 (x3) + 1)) (f6 : x6 ≤ (x7 + x4)) (f9 : x10 = x6 + x4) (fe_0_2_1 : left_0 = left_1) (fe_0_3_1 : top_0 = top_1) (fe_0_4_1 : width_0 = width_1) (fe_0_5_1 : height_0 = height_1) (fe_8_0_1 : nodes_0o8 = nodes_1o8) (hE_8_4_1 : ∀ j : Int, nameLength_0o8 j = nameLength_1o8 j) (hE_9_2_1 : ∀ j : Int, x_0o9 j = x_1o9 j) (hE_9_3_1 : ∀ j : Int, y_0o9 j = y_1o9 j) (kz_0_2 : (-40000011) ≤ left_0 ∧ left_0 ≤ 1000000000) (kz_0_3 : (-40000003) ≤ top_0 ∧ top_0 ≤ 1000000000) (kz_0_4 : (-2147483648) ≤ width_0 ∧ width_0 ≤ 2147483647) (kz_0_5 : (-2147483648) ≤ height_0 ∧ height_0 ≤ 2147483647) (kz_8_0 : 0 ≤ nodes_0o8 ∧ nodes_0o8 ≤ 24) : x6 ≤ (x13 + x4) := by
  subst fe_0_2_1
  subst fe_0_3_1
  subst fe_0_4_1
  subst fe_0_5_1
  subst fe_8_0_1
  have e_hE_8_4_1 := funext hE_8_4_1; subst e_hE_8_4_1
  have e_hE_9_2_1 := funext hE_9_2_1; subst e_hE_9_2_1
  have e_hE_9_3_1 := funext hE_9_3_1; subst e_hE_9_3_1
  first
    | omega
  
def o_Ro_bar_5 : or_T := (89, 14, [(0, (2, 0, 0, [9])), (3, (0, 0, 23, [])), (4, (0, 1, 9, [])), (6, (0, -6000, 11999, [])), (7, (0, 0, 5999, [])), (8, (2, 0, 0, [3])), (9, (2, 0, 0, [0])), (10, (0, -5999, 12008, [])), (11, (2, 0, 0, [111])), (13, (0, 1, 6000, []))], [(9, [11, 0], [9]), (6, [13, 7], [1]), (20, [0, 8, 9], [60, 5, 3, 839, 2, 3, 4, 5, 1000, 1004, 2002, 2003]), (20, [4, 8, 3], [50, 0, 1, 1004, 1, 2, 1, 0, 4, 5, 3, 1, 4, 1, 2, 0, 1]), (20, [3, 8], [50, 1, 0, 1000, 2, 6, 0, 2, 0, 0, 1, 0, 0, 6, 4, 2, 1, 0, 0, 1, 2, 1, 0]), (20, [6, 4], [61, 0, 843]), (20, [6, 7, 4], [50, 0, 0, 0, 2, 1, 0, 4, 2, 1, 1, 1, 2]), (100, [11, 7, 12], []), (7, [7, 10], [5]), (1, [10, 6, 4], []), (20, [0, 8, 9], [60, 5, 3, 839, 2, 3, 4, 5, 1000, 1004, 2002, 2003]), (20, [4, 8, 3], [50, 0, 1, 1004, 1, 2, 1, 0, 4, 5, 3, 1, 4, 1, 2, 0, 1]), (20, [3, 8], [50, 1, 0, 1000, 2, 6, 0, 2, 0, 0, 1, 0, 0, 6, 4, 2, 1, 0, 0, 1, 2, 1, 0]), (20, [6, 4], [61, 0, 843]), (20, [6, 7, 4], [50, 0, 0, 0, 2, 1, 0, 4, 2, 1, 1, 1, 2])], [], [], [(20, [6, 13, 4], [50, 0, 0, 0, 2, 1, 0, 4, 2, 1, 1, 1, 2])], [], [(13, 7, 1, 1), (13, 10, -4294967296, 1), (7, 10, -4294967296, 0), (10, 4, -6000, 11999), (10, 6, 1, 9), (10, 7, -4294967296, 18), (6, 7, -4294967296, 9)])
theorem oo_Ro_bar_5 {kA : Nat → ClassId} : or_ok PRD kA GG o_Ro_bar_5 := by
  refine or_mk fun A ta ws vs hD hth hl => ?_
  intro t0 r0 t3 k3 t4 k4 t6 k6 t7 k7 t8 r8 t9 r9 t10 k10 t11 r11 t13 k13 d0 d1 d2 d3 d4 d5 d6 f0 f1 f2 f3 f4 f5 f6 ta1 w1 le1 s1 f8 f9 f10 f11 f12 f13 f14
  have s1 : (∀ b j, w_el ws b j = if b = v_ad (n_v vs 11) ∧ j = (v_iv (n_v vs 7)).toNat then v_iv (n_v vs 12) else w_el w1 b j) ∧ ∀ b k, w_fd ws b k = w_fd w1 b k := s1.2
  have cr_8_4 := fdq_4 hD hth r8
  have cr_9_2 := fdq_45 hD hth r9
  have cr_9_3 := fdq_48 hD hth r9
  have fe_0_2_1 : w_fi ws (n_v vs 0) 2 = w_fi w1 (n_v vs 0) 2 := congrArg v_iv (s1.2 _ _)
  have fe_0_3_1 : w_fi ws (n_v vs 0) 3 = w_fi w1 (n_v vs 0) 3 := congrArg v_iv (s1.2 _ _)
  have fe_0_4_1 : w_fi ws (n_v vs 0) 4 = w_fi w1 (n_v vs 0) 4 := congrArg v_iv (s1.2 _ _)
  have fe_0_5_1 : w_fi ws (n_v vs 0) 5 = w_fi w1 (n_v vs 0) 5 := congrArg v_iv (s1.2 _ _)
  have fe_8_0_1 : w_fi ws (n_v vs 8) 0 = w_fi w1 (n_v vs 8) 0 := congrArg v_iv (s1.2 _ _)
  have hE_8_4_1 : ∀ j : Int, w_ei ws (w_ar ws (n_v vs 8) 4) j = w_ei w1 (w_ar ws (n_v vs 8) 4) j := el_kp s1.1 r11 cr_8_4 (by decide)
  have hE_9_2_1 : ∀ j : Int, w_ei ws (w_ar ws (n_v vs 9) 2) j = w_ei w1 (w_ar ws (n_v vs 9) 2) j := el_kp s1.1 r11 cr_9_2 (by decide)
  have hE_9_3_1 : ∀ j : Int, w_ei ws (w_ar ws (n_v vs 9) 3) j = w_ei w1 (w_ar ws (n_v vs 9) 3) j := el_kp s1.1 r11 cr_9_3 (by decide)
  have kz_0_2 := fdq_106 hD hth r0
  have kz_0_3 := fdq_107 hD hth r0
  have kz_0_4 := fdq_103 hD hth r0
  have kz_0_5 := fdq_104 hD hth r0
  have kz_8_0 := fdq_21 hD hth r8
  have nf0 : fc_1 PRD (20, [6, 13, 4], [50, 0, 0, 0, 2, 1, 0, 4, 2, 1, 1, 1, 2]) ws (vs) := ⟨nf_in hl rfl, sgq_1118 (vc_Ro_bar_5_0 (v_iv (n_v vs 3)) (v_iv (n_v vs 4)) (v_iv (n_v vs 6)) (v_iv (n_v vs 7)) (v_iv (n_v vs 10)) (v_iv (n_v vs 13)) (w_ei ws (w_ar ws (n_v vs 8) 4)) (w_ei ws (w_ar ws (n_v vs 9) 2)) (w_ei ws (w_ar ws (n_v vs 9) 3)) (w_fi ws (n_v vs 0) 2) (w_fi ws (n_v vs 0) 3) (w_fi ws (n_v vs 0) 4) (w_fi ws (n_v vs 0) 5) (w_fi ws (n_v vs 8) 0) (w_ei w1 (w_ar ws (n_v vs 8) 4)) (w_ei w1 (w_ar ws (n_v vs 9) 2)) (w_ei w1 (w_ar ws (n_v vs 9) 3)) (w_fi w1 (n_v vs 0) 2) (w_fi w1 (n_v vs 0) 3) (w_fi w1 (n_v vs 0) 4) (w_fi w1 (n_v vs 0) 5) (w_fi w1 (n_v vs 8) 0) k3 k4 k6 k7 k10 k13 d0 (shm_377 f3) (shm_1118 f6) (shm_12 f9) fe_0_2_1 fe_0_3_1 fe_0_4_1 fe_0_5_1 fe_8_0_1 hE_8_4_1 hE_9_2_1 hE_9_3_1 kz_0_2 kz_0_3 kz_0_4 kz_0_5 kz_8_0)⟩
  refine ⟨(fun _ h => (by cases h)), [], trivial, ?_, (fun _ h => (by cases h))⟩
  rw [List.append_nil]
  exact List.forall_mem_cons.mpr ⟨⟨show (20 : Nat) < 100 from by decide, nf0⟩, (fun _ h => (by cases h))⟩
def n_Ro_bar_an : List an_T := [(2, [(0, (2, 0, 0, [9])), (1, (0, 0, 23, [])), (2, (0, 0, 23, [])), (3, (0, 0, 6000, []))], [], (0, 0), [(0, 0, 99998), (1, 3, 6000), (0, 0, 100000), (0, 0, 0), (0, 0, 0), (0, 0, 0), (0, 0, 0)], [], [((0, 0), (2, 0, 0, [3])), ((0, 1), (2, 0, 0, [0]))], [], 0, [], [(20, [0, 4, 5], [60, 5, 3, 839, 2, 3, 4, 5, 1000, 1004, 2002, 2003])]), (24, [(0, (2, 0, 0, [9])), (1, (0, 0, 23, [])), (2, (0, 0, 23, [])), (3, (0, 0, 24, []))], [], (0, 0), [(0, 0, 99976), (1, 3, 24), (0, 0, 100000), (0, 0, 0), (0, 0, 0), (0, 0, 0), (0, 0, 0)], [], [((0, 0), (2, 0, 0, [3])), ((0, 1), (2, 0, 0, [0]))], [], 0, [], [(20, [0, 4, 5], [60, 5, 3, 839, 2, 3, 4, 5, 1000, 1004, 2002, 2003])]), (61, [(0, (2, 0, 0, [9])), (1, (0, 0, 23, [])), (2, (0, 0, 23, [])), (3, (0, 0, 23, [])), (4, (0, 1, 9, [])), (5, (0, (Int.negSucc 0), 2, []))], [], (0, 0), [(0, 0, 99976), (1, 3, 24), (0, 0, 99939), (1, 5, 2), (0, 0, 100000), (0, 0, 0), (0, 0, 0)], [], [((0, 0), (2, 0, 0, [3])), ((0, 1), (2, 0, 0, [0]))], [], 0, [], [(20, [0, 6, 7], [60, 5, 3, 839, 2, 3, 4, 5, 1000, 1004, 2002, 2003]), (20, [4, 6, 3], [50, 0, 1, 1004, 1, 2, 1, 0, 4, 5, 3, 1, 4, 1, 2, 0, 1]), (20, [3, 6], [50, 1, 0, 1000, 2, 6, 0, 2, 0, 0, 1, 0, 0, 6, 4, 2, 1, 0, 0, 1, 2, 1, 0])]), (89, [(0, (2, 0, 0, [9])), (1, (0, 0, 23, [])), (2, (0, 0, 23, [])), (3, (0, 0, 23, [])), (4, (0, 1, 9, [])), (5, (0, (Int.negSucc 0), 1, [])), (6, (0, (Int.negSucc 5999), 11999, [])), (7, (0, (Int.negSucc 6008), 11998, []))], [], (0, 0), [(0, 0, 99976), (1, 3, 24), (0, 0, 99939), (1, 5, 2), (0, 0, 99911), (1, 7, 11998), (0, 0, 100000)], [(6, 7, (Int.negSucc 999999999999), 9)], [((0, 0), (2, 0, 0, [3])), ((0, 1), (2, 0, 0, [0]))], [], 0, [], [(20, [0, 8, 9], [60, 5, 3, 839, 2, 3, 4, 5, 1000, 1004, 2002, 2003]), (20, [4, 8, 3], [50, 0, 1, 1004, 1, 2, 1, 0, 4, 5, 3, 1, 4, 1, 2, 0, 1]), (20, [3, 8], [50, 1, 0, 1000, 2, 6, 0, 2, 0, 0, 1, 0, 0, 6, 4, 2, 1, 0, 0, 1, 2, 1, 0]), (20, [6, 4], [61, 0, 843]), (20, [6, 7, 4], [50, 0, 0, 0, 2, 1, 0, 4, 2, 1, 1, 1, 2])])]
def t_Ro_bar_ct : ct_L := [(1, 87, e_Ro_pointOf), (1, 114, e_Gr_half)]
set_option maxRecDepth 100000 in
theorem c_Ro_bar {l : Launch} {D : va_G} {kA : Nat → ClassId} (h_Gr_half : ct_ok PRD l D kA GG y_Gr_half z_Gr_half e_Gr_half) (h_Ro_pointOf : ct_ok PRD l D kA GG y_Ro_pointOf z_Ro_pointOf e_Ro_pointOf) : ct_ok PRD l D kA GG y_Ro_bar z_Ro_bar e_Ro_bar := chk_all_ok (FT := [(9, 9, 0), (26, 9, 4), (41, 9, 9), (108, 3, 0)]) (PT := []) (CT := t_Ro_bar_ct) (KT := []) (NT := []) (AN := n_Ro_bar_an) (OT := [o_Ro_bar_0, o_Ro_bar_1, o_Ro_bar_2, o_Ro_bar_3, o_Ro_bar_4, o_Ro_bar_5]) 7 280 (List.forall_mem_cons.mpr ⟨oo_Ro_bar_0, List.forall_mem_cons.mpr ⟨oo_Ro_bar_1, List.forall_mem_cons.mpr ⟨oo_Ro_bar_2, List.forall_mem_cons.mpr ⟨oo_Ro_bar_3, List.forall_mem_cons.mpr ⟨oo_Ro_bar_4, List.forall_mem_cons.mpr ⟨oo_Ro_bar_5, List.forall_mem_nil _⟩⟩⟩⟩⟩⟩) (by decide +kernel) ⟨List.forall_mem_cons.mpr ⟨gf_Ro_9, List.forall_mem_cons.mpr ⟨gf_Ro_26, List.forall_mem_cons.mpr ⟨gf_Ro_41, List.forall_mem_cons.mpr ⟨gf_Ro_108, List.forall_mem_nil _⟩⟩⟩⟩, List.forall_mem_nil _, List.forall_mem_cons.mpr ⟨cl_virtual (y := y_Ro_pointOf) (ci := 9) rfl rfl ⟨_, _, rfl⟩ (by decide +kernel) h_Ro_pointOf wm_1943 wm_22 wm_1940 wm_1942 wv_9_2 ⟨by decide, by decide, by decide +kernel⟩ (by decide), List.forall_mem_cons.mpr ⟨cl_virtual (y := y_Gr_half) (ci := 3) rfl rfl ⟨_, _, rfl⟩ (by decide +kernel) h_Gr_half wm_1452 wm_3 wm_1932 wm_1450 wm_1451 ⟨by decide, by decide, by decide +kernel⟩ (by decide), List.forall_mem_nil _⟩⟩, List.forall_mem_nil _, List.forall_mem_nil _, GG_pl⟩ (by decide +kernel)

set_option maxHeartbeats 4000000 in
theorem vc_Ro_readWay_0_0 (x1 : Int) (x4 : Int) (start_0 : Int) (width_0 : Int) (height_0 : Int) (turns_0 : Int) (k1 : 0 ≤ x1 ∧ x1 ≤ 5999) (k4 : 0 ≤ x4 ∧ x4 ≤ 0) (g0 : x1 = start_0) (f1 : (1 ≤ width_0) ∧ ((1 ≤ height_0) ∧ ((width_0 * height_0) ≤ 6000))) (f2 : (start_0 + 1) ≤ (width_0 * height_0)) (f3 : 1 * turns_0 + 0 ≤ 0) (kz_0_4 : (-2147483648) ≤ width_0 ∧ width_0 ≤ 2147483647) (kz_0_5 : (-2147483648) ≤ height_0 ∧ height_0 ≤ 2147483647) (kz_0_6 : 0 ≤ start_0 ∧ start_0 ≤ 5999) (kz_0_17 : 0 ≤ turns_0 ∧ turns_0 ≤ 6000) : (x1 + 1) ≤ (width_0 * height_0) := by
  first | assumption | omega | grind
set_option maxHeartbeats 4000000 in
theorem vc_Ro_readWay_0_1 (x1 : Int) (x4 : Int) (start_0 : Int) (width_0 : Int) (height_0 : Int) (turns_0 : Int) (k1 : 0 ≤ x1 ∧ x1 ≤ 5999) (k4 : 0 ≤ x4 ∧ x4 ≤ 0) (g0 : x1 = start_0) (f1 : (1 ≤ width_0) ∧ ((1 ≤ height_0) ∧ ((width_0 * height_0) ≤ 6000))) (f2 : (start_0 + 1) ≤ (width_0 * height_0)) (f3 : 1 * turns_0 + 0 ≤ 0) (kz_0_4 : (-2147483648) ≤ width_0 ∧ width_0 ≤ 2147483647) (kz_0_5 : (-2147483648) ≤ height_0 ∧ height_0 ≤ 2147483647) (kz_0_6 : 0 ≤ start_0 ∧ start_0 ≤ 5999) (kz_0_17 : 0 ≤ turns_0 ∧ turns_0 ≤ 6000) : 1 * turns_0 + ((-1) * x4 + 0) ≤ 0 := by
  first | assumption | omega | grind
def o_Ro_readWay_0 : or_T := (15, 5, [(0, (2, 0, 0, [9])), (1, (0, 0, 5999, [])), (4, (0, 0, 0, []))], [(9, [1, 0], [6]), (20, [0], [50, 2, 0, 4, 5, 2, 7, 0, 2, 0, 1, 2, 0, 4, 2, 7, 0, 2, 0, 1, 2, 0, 5, 0, 8, 6, 3, 2, 0, 4, 2, 0, 5, 0, 6000]), (20, [0], [50, 3, 0, 6, 4, 5, 0, 7, 4, 3, 2, 0, 6, 0, 1, 6, 3, 2, 0, 4, 2, 0, 5]), (20, [0], [30, 0, 1, 1, 17])], [], [], [(20, [1, 0], [50, 2, 0, 1004, 1005, 0, 6, 4, 2, 1, 0, 0, 1, 6, 3, 2, 1, 4, 2, 1, 5]), (20, [0, 4], [30, 0, 1, 1, 17, -1, 0, 0])], [], [])
theorem oo_Ro_readWay_0 {kA : Nat → ClassId} : or_ok PRD kA GG o_Ro_readWay_0 := by
  refine or_mk fun A ta ws vs hD hth hl => ?_
  intro t0 r0 t1 k1 t4 k4 f0 f1 f2 f3
  replace f0 := shm_111 f0
  have g0 : v_iv (n_v vs 1) = w_fi ws (n_v vs 0) 6 := congrArg v_iv f0
  have kz_0_4 := fdq_103 hD hth r0
  have kz_0_5 := fdq_104 hD hth r0
  have kz_0_6 := fdq_267 hD hth r0
  have kz_0_17 := fdq_268 hD hth r0
  have nf0 : fc_1 PRD (20, [1, 0], [50, 2, 0, 1004, 1005, 0, 6, 4, 2, 1, 0, 0, 1, 6, 3, 2, 1, 4, 2, 1, 5]) ws (vs) := ⟨nf_in hl rfl, sgq_467 (vc_Ro_readWay_0_0 (v_iv (n_v vs 1)) (v_iv (n_v vs 4)) (w_fi ws (n_v vs 0) 6) (w_fi ws (n_v vs 0) 4) (w_fi ws (n_v vs 0) 5) (w_fi ws (n_v vs 0) 17) k1 k4 g0 (shm_466 f1) (shm_1119 f2) (shm_1120 f3) kz_0_4 kz_0_5 kz_0_6 kz_0_17)⟩
  have nf1 : fc_1 PRD (20, [0, 4], [30, 0, 1, 1, 17, -1, 0, 0]) ws (vs) := ⟨nf_in hl rfl, sgq_1121 (vc_Ro_readWay_0_1 (v_iv (n_v vs 1)) (v_iv (n_v vs 4)) (w_fi ws (n_v vs 0) 6) (w_fi ws (n_v vs 0) 4) (w_fi ws (n_v vs 0) 5) (w_fi ws (n_v vs 0) 17) k1 k4 g0 (shm_466 f1) (shm_1119 f2) (shm_1120 f3) kz_0_4 kz_0_5 kz_0_6 kz_0_17)⟩
  refine ⟨(fun _ h => (by cases h)), [], trivial, ?_, (fun _ h => (by cases h))⟩
  rw [List.append_nil]
  exact List.forall_mem_cons.mpr ⟨⟨show (20 : Nat) < 100 from by decide, nf0⟩, List.forall_mem_cons.mpr ⟨⟨show (20 : Nat) < 100 from by decide, nf1⟩, (fun _ h => (by cases h))⟩⟩
set_option maxHeartbeats 4000000 in
theorem vc_Ro_readWay_1_0 (x1 : Int) (x4 : Int) (x6 : Int) (x7 : Int) (x10 : Int) (x11 : Int) (x17 : Int) (width_0 : Int) (height_0 : Int) (goal_0 : Int) (turns_0 : Int) (k1 : 0 ≤ x1 ∧ x1 ≤ 5999) (k4 : 0 ≤ x4 ∧ x4 ≤ 5999) (k6 : 6000 ≤ x6 ∧ x6 ≤ 6000) (k7 : 0 ≤ x7 ∧ x7 ≤ 5999) (k10 : 0 ≤ x10 ∧ x10 ≤ 5999) (k11 : (-1) ≤ x11 ∧ x11 ≤ (-1)) (k17 : 1 ≤ x17 ∧ x17 ≤ 6000) (d0 : x4 + 1 ≤ x17 ∧ x17 ≤ x4 + 1) (f0 : x17 = x4 + 1) (f1 : x10 ≠ x11) (f2 : (x10 = (-1)) ∨ ((0 ≤ x10) ∧ ((x10 + 1) ≤ (width_0 * height_0)))) (f3 : x1 ≠ x7) (g4 : x7 = goal_0) (f5 : x4 < x6) (f6 : (1 ≤ width_0) ∧ ((1 ≤ height_0) ∧ ((width_0 * height_0) ≤ 6000))) (f7 : (x1 + 1) ≤ (width_0 * height_0)) (f8 : 1 * turns_0 + ((-1) * x4 + 0) ≤ 0) (kz_0_4 : (-2147483648) ≤ width_0 ∧ width_0 ≤ 2147483647) (kz_0_5 : (-2147483648) ≤ height_0 ∧ height_0 ≤ 2147483647) (kz_0_7 : 0 ≤ goal_0 ∧ goal_0 ≤ 5999) (kz_0_17 : 0 ≤ turns_0 ∧ turns_0 ≤ 6000) : (x10 + 1) ≤ (width_0 * height_0) := by
  first | assumption | (clear f2; omega) | omega | grind
set_option maxHeartbeats 4000000 in
theorem vc_Ro_readWay_1_1 (x1 : Int) (x4 : Int) (x6 : Int) (x7 : Int) (x10 : Int) (x11 : Int) (x17 : Int) (width_0 : Int) (height_0 : Int) (goal_0 : Int) (turns_0 : Int) (k1 : 0 ≤ x1 ∧ x1 ≤ 5999) (k4 : 0 ≤ x4 ∧ x4 ≤ 5999) (k6 : 6000 ≤ x6 ∧ x6 ≤ 6000) (k7 : 0 ≤ x7 ∧ x7 ≤ 5999) (k10 : 0 ≤ x10 ∧ x10 ≤ 5999) (k11 : (-1) ≤ x11 ∧ x11 ≤ (-1)) (k17 : 1 ≤ x17 ∧ x17 ≤ 6000) (d0 : x4 + 1 ≤ x17 ∧ x17 ≤ x4 + 1) (f0 : x17 = x4 + 1) (f1 : x10 ≠ x11) (f2 : (x10 = (-1)) ∨ ((0 ≤ x10) ∧ ((x10 + 1) ≤ (width_0 * height_0)))) (f3 : x1 ≠ x7) (g4 : x7 = goal_0) (f5 : x4 < x6) (f6 : (1 ≤ width_0) ∧ ((1 ≤ height_0) ∧ ((width_0 * height_0) ≤ 6000))) (f7 : (x1 + 1) ≤ (width_0 * height_0)) (f8 : 1 * turns_0 + ((-1) * x4 + 0) ≤ 0) (kz_0_4 : (-2147483648) ≤ width_0 ∧ width_0 ≤ 2147483647) (kz_0_5 : (-2147483648) ≤ height_0 ∧ height_0 ≤ 2147483647) (kz_0_7 : 0 ≤ goal_0 ∧ goal_0 ≤ 5999) (kz_0_17 : 0 ≤ turns_0 ∧ turns_0 ≤ 6000) : 1 * turns_0 + ((-1) * x17 + 0) ≤ 0 := by
  first | assumption | (clear f2; omega) | omega | grind
def o_Ro_readWay_1 : or_T := (15, 18, [(0, (2, 0, 0, [9])), (1, (0, 0, 5999, [])), (4, (0, 0, 5999, [])), (6, (0, 6000, 6000, [])), (7, (0, 0, 5999, [])), (10, (0, 0, 5999, [])), (11, (0, -1, -1, [])), (17, (0, 1, 6000, []))], [(6, [17, 4], [1]), (7, [10, 11], [1]), (20, [10, 0], [50, 2, 0, 1004, 1005, 3, 6, 1, 2, 1, 0, 0, -1, 2, 6, 0, 2, 0, 0, 1, 0, 0, 6, 4, 2, 1, 0, 0, 1, 6, 3, 2, 1, 4, 2, 1, 5]), (7, [1, 7], [1]), (9, [7, 0], [7]), (7, [4, 6], [2]), (20, [0], [50, 2, 0, 4, 5, 2, 7, 0, 2, 0, 1, 2, 0, 4, 2, 7, 0, 2, 0, 1, 2, 0, 5, 0, 8, 6, 3, 2, 0, 4, 2, 0, 5, 0, 6000]), (20, [1, 0], [50, 2, 0, 1004, 1005, 0, 6, 4, 2, 1, 0, 0, 1, 6, 3, 2, 1, 4, 2, 1, 5]), (20, [0, 4], [30, 0, 1, 1, 17, -1, 0, 0])], [], [], [(20, [10, 0], [50, 2, 0, 1004, 1005, 0, 6, 4, 2, 1, 0, 0, 1, 6, 3, 2, 1, 4, 2, 1, 5]), (20, [0, 17], [30, 0, 1, 1, 17, -1, 0, 0])], [], [(17, 4, 1, 1)])
theorem oo_Ro_readWay_1 {kA : Nat → ClassId} : or_ok PRD kA GG o_Ro_readWay_1 := by
  refine or_mk fun A ta ws vs hD hth hl => ?_
  intro t0 r0 t1 k1 t4 k4 t6 k6 t7 k7 t10 k10 t11 k11 t17 k17 d0 f0 f1 f2 f3 f4 f5 f6 f7 f8
  replace f4 := shm_198 f4
  have g4 : v_iv (n_v vs 7) = w_fi ws (n_v vs 0) 7 := congrArg v_iv f4
  have kz_0_4 := fdq_103 hD hth r0
  have kz_0_5 := fdq_104 hD hth r0
  have kz_0_7 := fdq_269 hD hth r0
  have kz_0_17 := fdq_268 hD hth r0
  have nf0 : fc_1 PRD (20, [10, 0], [50, 2, 0, 1004, 1005, 0, 6, 4, 2, 1, 0, 0, 1, 6, 3, 2, 1, 4, 2, 1, 5]) ws (vs) := ⟨nf_in hl rfl, sgq_467 (vc_Ro_readWay_1_0 (v_iv (n_v vs 1)) (v_iv (n_v vs 4)) (v_iv (n_v vs 6)) (v_iv (n_v vs 7)) (v_iv (n_v vs 10)) (v_iv (n_v vs 11)) (v_iv (n_v vs 17)) (w_fi ws (n_v vs 0) 4) (w_fi ws (n_v vs 0) 5) (w_fi ws (n_v vs 0) 7) (w_fi ws (n_v vs 0) 17) k1 k4 k6 k7 k10 k11 k17 d0 (shm_4 f0) (shm_40 f1) (shm_469 f2) (shm_40 f3) g4 (shm_6 f5) (shm_466 f6) (shm_467 f7) (shm_1121 f8) kz_0_4 kz_0_5 kz_0_7 kz_0_17)⟩
  have nf1 : fc_1 PRD (20, [0, 17], [30, 0, 1, 1, 17, -1, 0, 0]) ws (vs) := ⟨nf_in hl rfl, sgq_1121 (vc_Ro_readWay_1_1 (v_iv (n_v vs 1)) (v_iv (n_v vs 4)) (v_iv (n_v vs 6)) (v_iv (n_v vs 7)) (v_iv (n_v vs 10)) (v_iv (n_v vs 11)) (v_iv (n_v vs 17)) (w_fi ws (n_v vs 0) 4) (w_fi ws (n_v vs 0) 5) (w_fi ws (n_v vs 0) 7) (w_fi ws (n_v vs 0) 17) k1 k4 k6 k7 k10 k11 k17 d0 (shm_4 f0) (shm_40 f1) (shm_469 f2) (shm_40 f3) g4 (shm_6 f5) (shm_466 f6) (shm_467 f7) (shm_1121 f8) kz_0_4 kz_0_5 kz_0_7 kz_0_17)⟩
  refine ⟨(fun _ h => (by cases h)), [], trivial, ?_, (fun _ h => (by cases h))⟩
  rw [List.append_nil]
  exact List.forall_mem_cons.mpr ⟨⟨show (20 : Nat) < 100 from by decide, nf0⟩, List.forall_mem_cons.mpr ⟨⟨show (20 : Nat) < 100 from by decide, nf1⟩, (fun _ h => (by cases h))⟩⟩
set_option maxHeartbeats 4000000 in
theorem vc_Ro_readWay_2_r0 (x1 : Int) (x4 : Int) (x5 : Int) (x6 : Int) (x7 : Int) (x10 : Int) (x11 : Int) (x12 : Int) (turns_0 : Int) (goal_0 : Int) (width_0 : Int) (height_0 : Int) (k1 : 0 ≤ x1 ∧ x1 ≤ 5999) (k4 : 0 ≤ x4 ∧ x4 ≤ 5999) (k5 : 24 ≤ x5 ∧ x5 ≤ 6000) (k6 : 6000 ≤ x6 ∧ x6 ≤ 6000) (k7 : 0 ≤ x7 ∧ x7 ≤ 5999) (k10 : 24 ≤ x10 ∧ x10 ≤ 24) (k11 : 1 ≤ x11 ∧ x11 ≤ 1) (k12 : 25 ≤ x12 ∧ x12 ≤ 6001) (d0 : x5 + 1 ≤ x12 ∧ x12 ≤ x5 + 1) (f0 : x12 = x5 + x11) (g1 : x5 = turns_0) (f2 : x10 ≤ x5) (f3 : x1 ≠ x7) (g4 : x7 = goal_0) (f5 : x4 < x6) (f6 : (1 ≤ width_0) ∧ ((1 ≤ height_0) ∧ ((width_0 * height_0) ≤ 6000))) (f7 : (x1 + 1) ≤ (width_0 * height_0)) (f8 : 1 * turns_0 + ((-1) * x4 + 0) ≤ 0) (kz_0_4 : (-2147483648) ≤ width_0 ∧ width_0 ≤ 2147483647) (kz_0_5 : (-2147483648) ≤ height_0 ∧ height_0 ≤ 2147483647) (kz_0_7 : 0 ≤ goal_0 ∧ goal_0 ≤ 5999) (kz_0_17 : 0 ≤ turns_0 ∧ turns_0 ≤ 6000) : 25 ≤ x12 ∧ x12 ≤ 6000 := by
  first | assumption | omega | grind
def o_Ro_readWay_2 : or_T := (107, 13, [(0, (2, 0, 0, [9])), (1, (0, 0, 5999, [])), (4, (0, 0, 5999, [])), (5, (0, 24, 6000, [])), (6, (0, 6000, 6000, [])), (7, (0, 0, 5999, [])), (10, (0, 24, 24, [])), (11, (0, 1, 1, [])), (12, (0, 25, 6001, []))], [(1, [12, 5, 11], []), (9, [5, 0], [17]), (7, [5, 10], [3]), (7, [1, 7], [1]), (9, [7, 0], [7]), (7, [4, 6], [2]), (20, [0], [50, 2, 0, 4, 5, 2, 7, 0, 2, 0, 1, 2, 0, 4, 2, 7, 0, 2, 0, 1, 2, 0, 5, 0, 8, 6, 3, 2, 0, 4, 2, 0, 5, 0, 6000]), (20, [1, 0], [50, 2, 0, 1004, 1005, 0, 6, 4, 2, 1, 0, 0, 1, 6, 3, 2, 1, 4, 2, 1, 5]), (20, [0, 4], [30, 0, 1, 1, 17, -1, 0, 0])], [(12, (0, 25, 6000, []))], [], [], [], [(12, 5, 1, 1)])
theorem oo_Ro_readWay_2 {kA : Nat → ClassId} : or_ok PRD kA GG o_Ro_readWay_2 := by
  refine or_mk fun A ta ws vs hD hth hl => ?_
  intro t0 r0 t1 k1 t4 k4 t5 k5 t6 k6 t7 k7 t10 k10 t11 k11 t12 k12 d0 f0 f1 f2 f3 f4 f5 f6 f7 f8
  replace f1 := shm_795 f1
  replace f4 := shm_198 f4
  have g1 : v_iv (n_v vs 5) = w_fi ws (n_v vs 0) 17 := congrArg v_iv f1
  have g4 : v_iv (n_v vs 7) = w_fi ws (n_v vs 0) 7 := congrArg v_iv f4
  have kz_0_4 := fdq_103 hD hth r0
  have kz_0_5 := fdq_104 hD hth r0
  have kz_0_7 := fdq_269 hD hth r0
  have kz_0_17 := fdq_268 hD hth r0
  have hrf0 : 25 ≤ v_iv (n_v vs 12) ∧ v_iv (n_v vs 12) ≤ 6000 := vc_Ro_readWay_2_r0 (v_iv (n_v vs 1)) (v_iv (n_v vs 4)) (v_iv (n_v vs 5)) (v_iv (n_v vs 6)) (v_iv (n_v vs 7)) (v_iv (n_v vs 10)) (v_iv (n_v vs 11)) (v_iv (n_v vs 12)) (w_fi ws (n_v vs 0) 17) (w_fi ws (n_v vs 0) 7) (w_fi ws (n_v vs 0) 4) (w_fi ws (n_v vs 0) 5) k1 k4 k5 k6 k7 k10 k11 k12 d0 (shm_12 f0) g1 (shm_2 f2) (shm_40 f3) g4 (shm_6 f5) (shm_466 f6) (shm_467 f7) (shm_1121 f8) kz_0_4 kz_0_5 kz_0_7 kz_0_17
  have rf12 : tv_ok ta (0, 25, 6000, []) (n_v vs 12) := tv_in t12 (by first | omega | grind) (by first | omega | grind)
  refine ⟨List.forall_mem_cons.mpr ⟨rf12, (fun _ h => (by cases h))⟩, [], trivial, ?_, (fun _ h => (by cases h))⟩
  rw [List.append_nil]
  exact (fun _ h => (by cases h))
def o_Ro_readWay_3 : or_T := (15, 21, [(0, (2, 0, 0, [9])), (1, (0, 0, 5999, [])), (4, (0, 0, 5999, [])), (5, (0, 24, 6000, [])), (6, (0, 6000, 6000, [])), (7, (0, 0, 5999, [])), (10, (0, 24, 24, [])), (11, (0, 1, 1, [])), (12, (0, 25, 6000, [])), (13, (0, 0, 5999, [])), (14, (0, -1, -1, [])), (20, (0, 1, 6000, []))], [(6, [20, 4], [1]), (7, [13, 14], [1]), (20, [13, 0], [50, 2, 0, 1004, 1005, 3, 6, 1, 2, 1, 0, 0, -1, 2, 6, 0, 2, 0, 0, 1, 0, 0, 6, 4, 2, 1, 0, 0, 1, 6, 3, 2, 1, 4, 2, 1, 5]), (20, [0], [50, 2, 0, 4, 5, 2, 7, 0, 2, 0, 1, 2, 0, 4, 2, 7, 0, 2, 0, 1, 2, 0, 5, 0, 8, 6, 3, 2, 0, 4, 2, 0, 5, 0, 6000]), (20, [1, 0], [50, 2, 0, 1004, 1005, 0, 6, 4, 2, 1, 0, 0, 1, 6, 3, 2, 1, 4, 2, 1, 5]), (101, [0, 12], [17]), (1, [12, 5, 11], []), (9, [5, 0], [17]), (7, [5, 10], [3]), (7, [1, 7], [1]), (9, [7, 0], [7]), (7, [4, 6], [2]), (20, [0], [50, 2, 0, 4, 5, 2, 7, 0, 2, 0, 1, 2, 0, 4, 2, 7, 0, 2, 0, 1, 2, 0, 5, 0, 8, 6, 3, 2, 0, 4, 2, 0, 5, 0, 6000]), (20, [1, 0], [50, 2, 0, 1004, 1005, 0, 6, 4, 2, 1, 0, 0, 1, 6, 3, 2, 1, 4, 2, 1, 5]), (20, [0, 4], [30, 0, 1, 1, 17, -1, 0, 0])], [], [], [(20, [13, 0], [50, 2, 0, 1004, 1005, 0, 6, 4, 2, 1, 0, 0, 1, 6, 3, 2, 1, 4, 2, 1, 5]), (20, [0, 20], [30, 0, 1, 1, 17, -1, 0, 0])], [], [(20, 4, 1, 1), (12, 5, 1, 1)])
theorem oo_Ro_readWay_3 {kA : Nat → ClassId} : or_ok PRD kA GG o_Ro_readWay_3 := by
  refine or_mk fun A ta ws vs hD hth hl => ?_
  intro t0 r0 t1 k1 t4 k4 t5 k5 t6 k6 t7 k7 t10 k10 t11 k11 t12 k12 t13 k13 t14 k14 t20 k20 d0 d1 f0 f1 f2 f3 f4 ta1 w1 le1 s1 f6 f7 f8 f9 f10 f11 f12 f13 f14
  replace f0 := shm_4 f0
  replace f1 := shm_40 f1
  replace f2 := shm_469 f2
  replace f3 := shm_466 f3
  replace f4 := shm_467 f4
  have s1 : (∀ b j, w_el ws b j = w_el w1 b j) ∧ ∀ b j, w_fd ws b j = if b = v_ad (n_v vs 0) ∧ j = 17 then n_v vs 12 else w_fd w1 b j := s1.2
  replace f6 := shm_12 f6
  replace f7 := shm_795 f7
  replace f8 := shm_2 f8
  replace f9 := shm_40 f9
  replace f10 := shm_198 f10
  replace f11 := shm_6 f11
  replace f12 := shm_466 f12
  replace f13 := shm_467 f13
  replace f14 := shm_1121 f14
  have g7 : v_iv (n_v vs 5) = w_fi w1 (n_v vs 0) 17 := congrArg v_iv f7
  have g10 : v_iv (n_v vs 7) = w_fi w1 (n_v vs 0) 7 := congrArg v_iv f10
  have fe_0_4_1 : w_fi ws (n_v vs 0) 4 = w_fi w1 (n_v vs 0) 4 := by show v_iv (w_fd _ _ _) = v_iv (w_fd _ _ _); rw [s1.2, if_neg (fun e => absurd e.2 (by decide))]
  have fe_0_5_1 : w_fi ws (n_v vs 0) 5 = w_fi w1 (n_v vs 0) 5 := by show v_iv (w_fd _ _ _) = v_iv (w_fd _ _ _); rw [s1.2, if_neg (fun e => absurd e.2 (by decide))]
  have fe_0_7_1 : w_fi ws (n_v vs 0) 7 = w_fi w1 (n_v vs 0) 7 := by show v_iv (w_fd _ _ _) = v_iv (w_fd _ _ _); rw [s1.2, if_neg (fun e => absurd e.2 (by decide))]
  have fe_0_17_1 : w_fi ws (n_v vs 0) 17 = v_iv (n_v vs 12) := by show v_iv (w_fd _ _ _) = _; rw [s1.2, if_pos ⟨rfl, rfl⟩]
  have pe_0_4_5_1 : w_fi ws (n_v vs 0) 4 * w_fi ws (n_v vs 0) 5 = w_fi w1 (n_v vs 0) 4 * w_fi w1 (n_v vs 0) 5 := by rw [fe_0_4_1, fe_0_5_1]
  have kz_0_4 := fdq_103 hD hth r0
  have kz_0_5 := fdq_104 hD hth r0
  have kz_0_7 := fdq_269 hD hth r0
  have kz_0_17 := fdq_268 hD hth r0
  have nf0 : fc_1 PRD (20, [13, 0], [50, 2, 0, 1004, 1005, 0, 6, 4, 2, 1, 0, 0, 1, 6, 3, 2, 1, 4, 2, 1, 5]) ws (vs) := by
    refine ⟨nf_in hl rfl, sgq_467 ?_⟩
    · show (v_iv (n_v vs 13) + 1) ≤ (w_fi ws (n_v vs 0) 4 * w_fi ws (n_v vs 0) 5)
      first | omega | grind
  have nf1 : fc_1 PRD (20, [0, 20], [30, 0, 1, 1, 17, -1, 0, 0]) ws (vs) := by
    refine ⟨nf_in hl rfl, sgq_1121 ?_⟩
    · show 1 * w_fi ws (n_v vs 0) 17 + ((-1) * v_iv (n_v vs 20) + 0) ≤ 0
      omega
  refine ⟨(fun _ h => (by cases h)), [], trivial, ?_, (fun _ h => (by cases h))⟩
  rw [List.append_nil]
  exact List.forall_mem_cons.mpr ⟨⟨show (20 : Nat) < 100 from by decide, nf0⟩, List.forall_mem_cons.mpr ⟨⟨show (20 : Nat) < 100 from by decide, nf1⟩, (fun _ h => (by cases h))⟩⟩
