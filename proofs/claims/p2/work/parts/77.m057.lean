set_option maxHeartbeats 4000000 in
theorem vc_Mo_edgeItem_13_0 (x1 : Int) (x4 : Int) (x20 : Int) (all_0 : Int → Int) (r_0 : Int) (k1 : 0 ≤ x1 ∧ x1 ≤ 7) (k4 : 0 ≤ x4 ∧ x4 ≤ 7) (k20 : 0 ≤ x20 ∧ x20 ≤ 7) (d0 : x4 + (-4294967296) ≤ x1 ∧ x1 ≤ x4 + 0) (d1 : x1 + (-4294967296) ≤ x4 ∧ x4 ≤ x1 + 0) (f0 : 1 * x20 + ((-1) * x1 + 0) ≤ 0) (f1 : (-1) * x20 + (1 * x1 + 0) ≤ 0) (f21 : (x20 + 1) ≤ all_0 ((r_0 + 2))) : (x1 + 1) ≤ all_0 ((r_0 + 2)) := by
  first
    | omega
    | (have q1 := (hE_0_2_1 (r_0 + 2) (by omega)).2 (by omega)
       have q2 := (hE_0_2_2 (r_0 + 2) (by omega)).2 (by omega)
       omega)
    | (have q1 := (hE_0_2_1 (r_0 + 1) (by omega)).2 (by omega)
       have q2 := (hE_0_2_2 (r_0 + 1) (by omega)).2 (by omega)
       omega)
    | (have q1 := (hE_0_2_1 (r_0 + 2) (by omega)).2 (by omega)
       omega)
    | (have q1 := (hE_0_2_1 (r_0 + 1) (by omega)).2 (by omega)
       omega)
    | (have q1 := (hE_0_2_1 (r_0 + 2) (by omega)).2 (by omega)
       have q2 := (hE_0_2_2 (r_0 + 2) (by omega)).2 (by omega)
       have q3 := (hE_0_2_3 (r_0 + 2) (by omega)).1 (by omega)
       omega)
    | (have q1 := (hE_0_2_1 (r_0 + 2) (by omega)).2 (by omega)
       have q2 := (hE_0_2_2 (r_0 + 2) (by omega)).2 (by omega)
       have q3 := (hE_0_2_3 (r_0 + 2) (by omega)).2 (by omega)
       omega)
set_option maxHeartbeats 4000000 in
theorem vc_Mo_edgeItem_13_1 (pos_0 : Int) (from_0 : Int) (r_0 : Int) (f13 : 1 * from_0 + ((-1) * pos_0 + 0) ≤ 0) (kz_0_11 : 0 ≤ pos_0 ∧ pos_0 ≤ 2000) (kz_0_15 : 0 ≤ from_0 ∧ from_0 ≤ 2000) : 1 * from_0 + ((-1) * pos_0 + 0) ≤ 0 := by
  first
    | omega
    | (have q1 := (hE_0_2_1 (r_0 + 2) (by omega)).2 (by omega)
       have q2 := (hE_0_2_2 (r_0 + 2) (by omega)).2 (by omega)
       omega)
    | (have q1 := (hE_0_2_1 (r_0 + 1) (by omega)).2 (by omega)
       have q2 := (hE_0_2_2 (r_0 + 1) (by omega)).2 (by omega)
       omega)
    | (have q1 := (hE_0_2_1 (r_0 + 2) (by omega)).2 (by omega)
       omega)
    | (have q1 := (hE_0_2_1 (r_0 + 1) (by omega)).2 (by omega)
       omega)
    | (have q1 := (hE_0_2_1 (r_0 + 2) (by omega)).2 (by omega)
       have q2 := (hE_0_2_2 (r_0 + 2) (by omega)).2 (by omega)
       have q3 := (hE_0_2_3 (r_0 + 2) (by omega)).1 (by omega)
       omega)
    | (have q1 := (hE_0_2_1 (r_0 + 2) (by omega)).2 (by omega)
       have q2 := (hE_0_2_2 (r_0 + 2) (by omega)).2 (by omega)
       have q3 := (hE_0_2_3 (r_0 + 2) (by omega)).2 (by omega)
       omega)
set_option maxHeartbeats 4000000 in
theorem vc_Mo_edgeItem_13_2 (pos_0 : Int) (from_0 : Int) (kind_0 : Int) (r_0 : Int) (f14 : ((kind_0 = 1) → (pos_0 ≤ (from_0 + 8))) ∧ ((kind_0 = 0) ∨ ((from_0 + 1) ≤ pos_0))) (kz_0_11 : 0 ≤ pos_0 ∧ pos_0 ≤ 2000) (kz_0_12 : 0 ≤ kind_0 ∧ kind_0 ≤ 4) (kz_0_15 : 0 ≤ from_0 ∧ from_0 ≤ 2000) : ((kind_0 = 1) → (pos_0 ≤ (from_0 + 8))) ∧ ((kind_0 = 0) ∨ ((from_0 + 1) ≤ pos_0)) := by
  first
    | omega
    | (have q1 := (hE_0_2_1 (r_0 + 2) (by omega)).2 (by omega)
       have q2 := (hE_0_2_2 (r_0 + 2) (by omega)).2 (by omega)
       omega)
    | (have q1 := (hE_0_2_1 (r_0 + 1) (by omega)).2 (by omega)
       have q2 := (hE_0_2_2 (r_0 + 1) (by omega)).2 (by omega)
       omega)
    | (have q1 := (hE_0_2_1 (r_0 + 2) (by omega)).2 (by omega)
       omega)
    | (have q1 := (hE_0_2_1 (r_0 + 1) (by omega)).2 (by omega)
       omega)
    | (have q1 := (hE_0_2_1 (r_0 + 2) (by omega)).2 (by omega)
       have q2 := (hE_0_2_2 (r_0 + 2) (by omega)).2 (by omega)
       have q3 := (hE_0_2_3 (r_0 + 2) (by omega)).1 (by omega)
       omega)
    | (have q1 := (hE_0_2_1 (r_0 + 2) (by omega)).2 (by omega)
       have q2 := (hE_0_2_2 (r_0 + 2) (by omega)).2 (by omega)
       have q3 := (hE_0_2_3 (r_0 + 2) (by omega)).2 (by omega)
       omega)

set_option maxHeartbeats 4000000 in
theorem vc_Mo_edgeItem_13_3 (x2 : Int) (pos_0 : Int) (r_0 : Int) (k2 : 0 ≤ x2 ∧ x2 ≤ 2000) (f2 : 1 * x2 + ((-1) * pos_0 + 0) ≤ (-1)) (kz_0_11 : 0 ≤ pos_0 ∧ pos_0 ≤ 2000) : 1 * x2 + ((-1) * pos_0 + 0) ≤ (-1) := by
  first
    | omega
    | (have q1 := (hE_0_2_1 (r_0 + 2) (by omega)).2 (by omega)
       have q2 := (hE_0_2_2 (r_0 + 2) (by omega)).2 (by omega)
       omega)
    | (have q1 := (hE_0_2_1 (r_0 + 1) (by omega)).2 (by omega)
       have q2 := (hE_0_2_2 (r_0 + 1) (by omega)).2 (by omega)
       omega)
    | (have q1 := (hE_0_2_1 (r_0 + 2) (by omega)).2 (by omega)
       omega)
    | (have q1 := (hE_0_2_1 (r_0 + 1) (by omega)).2 (by omega)
       omega)
    | (have q1 := (hE_0_2_1 (r_0 + 2) (by omega)).2 (by omega)
       have q2 := (hE_0_2_2 (r_0 + 2) (by omega)).2 (by omega)
       have q3 := (hE_0_2_3 (r_0 + 2) (by omega)).1 (by omega)
       omega)
    | (have q1 := (hE_0_2_1 (r_0 + 2) (by omega)).2 (by omega)
       have q2 := (hE_0_2_2 (r_0 + 2) (by omega)).2 (by omega)
       have q3 := (hE_0_2_3 (r_0 + 2) (by omega)).2 (by omega)
       omega)
set_option maxHeartbeats 4000000 in
theorem vc_Mo_edgeItem_13_4 (x7 : Int) (pos_0 : Int) (r_0 : Int) (gx : Int) (k7 : 0 ≤ x7 ∧ x7 ≤ 2000) (f3 : (-1) * x7 + ((-1) * pos_0 + 0) ≤ (-2001)) (kz_0_11 : 0 ≤ pos_0 ∧ pos_0 ≤ 2000) (ex2 : gx = 0 + (1 * x7 + 0)) : (-1) * gx + ((-1) * pos_0 + 0) ≤ (-2001) := by
  first
    | omega
    | (have q1 := (hE_0_2_1 (r_0 + 2) (by omega)).2 (by omega)
       have q2 := (hE_0_2_2 (r_0 + 2) (by omega)).2 (by omega)
       omega)
    | (have q1 := (hE_0_2_1 (r_0 + 1) (by omega)).2 (by omega)
       have q2 := (hE_0_2_2 (r_0 + 1) (by omega)).2 (by omega)
       omega)
    | (have q1 := (hE_0_2_1 (r_0 + 2) (by omega)).2 (by omega)
       omega)
    | (have q1 := (hE_0_2_1 (r_0 + 1) (by omega)).2 (by omega)
       omega)
    | (have q1 := (hE_0_2_1 (r_0 + 2) (by omega)).2 (by omega)
       have q2 := (hE_0_2_2 (r_0 + 2) (by omega)).2 (by omega)
       have q3 := (hE_0_2_3 (r_0 + 2) (by omega)).1 (by omega)
       omega)
    | (have q1 := (hE_0_2_1 (r_0 + 2) (by omega)).2 (by omega)
       have q2 := (hE_0_2_2 (r_0 + 2) (by omega)).2 (by omega)
       have q3 := (hE_0_2_3 (r_0 + 2) (by omega)).2 (by omega)
       omega)
set_option maxHeartbeats 4000000 in
theorem vc_Mo_edgeItem_13_5 (x18 : Int) (r_0 : Int) (k18 : 0 ≤ x18 ∧ x18 ≤ 23) (f25 : (-1) * x18 + 0 ≤ 0) : (-1) * x18 + 0 ≤ 0 := by
  first
    | omega
    | (have q1 := (hE_0_2_1 (r_0 + 2) (by omega)).2 (by omega)
       have q2 := (hE_0_2_2 (r_0 + 2) (by omega)).2 (by omega)
       omega)
    | (have q1 := (hE_0_2_1 (r_0 + 1) (by omega)).2 (by omega)
       have q2 := (hE_0_2_2 (r_0 + 1) (by omega)).2 (by omega)
       omega)
    | (have q1 := (hE_0_2_1 (r_0 + 2) (by omega)).2 (by omega)
       omega)
    | (have q1 := (hE_0_2_1 (r_0 + 1) (by omega)).2 (by omega)
       omega)
    | (have q1 := (hE_0_2_1 (r_0 + 2) (by omega)).2 (by omega)
       have q2 := (hE_0_2_2 (r_0 + 2) (by omega)).2 (by omega)
       have q3 := (hE_0_2_3 (r_0 + 2) (by omega)).1 (by omega)
       omega)
    | (have q1 := (hE_0_2_1 (r_0 + 2) (by omega)).2 (by omega)
       have q2 := (hE_0_2_2 (r_0 + 2) (by omega)).2 (by omega)
       have q3 := (hE_0_2_3 (r_0 + 2) (by omega)).2 (by omega)
       omega)
set_option maxHeartbeats 4000000 in
theorem vc_Mo_edgeItem_13_6 (all_0 : Int → Int) (now_0 : Int → Int) (latest_0 : Int → Int) (r_0 : Int) (f19 : RWS (r_0) (all_0) (now_0) (latest_0)) : RWS (r_0) (all_0) (now_0) (latest_0) := by
  first
    | assumption
set_option maxHeartbeats 4000000 in
theorem vc_Mo_edgeItem_13_7 (x18 : Int) (all_0 : Int → Int) (r_0 : Int) (k18 : 0 ≤ x18 ∧ x18 ≤ 23) (f20 : NDA (r_0) (all_0) (x18)) : NDA (r_0) (all_0) (x18) := by
  first
    | assumption
def o_Mo_edgeItem_13 : or_T := (109, 21, [(0, (2, 0, 0, [165])), (1, (0, 0, 7, [])), (2, (0, 0, 2000, [])), (3, (2, 0, 0, [165])), (4, (0, 0, 7, [])), (7, (0, 0, 2000, [])), (15, (0, 0, 2000, [])), (16, (0, 0, 2000, [])), (17, (0, 0, 2000, [])), (18, (0, 0, 23, [])), (20, (0, 0, 7, []))], [(23, [20, 4], [0, 1, -1]), (23, [20, 4], [0, -1, 1]), (20, [2, 3], [30, -1, 1, 0, 0, -1, 1, 11]), (20, [7, 3], [30, -2001, -1, 0, 0, -1, 1, 11]), (23, [18], [0, -1]), (23, [16, 2], [0, 1, -1]), (23, [16, 2], [0, -1, 1]), (23, [7, 17], [-2000, -1, -1]), (23, [2, 17], [-1, 1, -1]), (23, [2, 15], [-1, 1, -1]), (23, [7, 15], [-2000, -1, -1]), (24, [0, 3], []), (24, [1, 4], []), (20, [3, 3], [30, 0, 1, 1, 15, -1, 1, 11]), (20, [3], [50, 3, 0, 12, 11, 15, 2, 21, 4, 7, 1, 3, 2, 0, 12, 0, 1, 0, 3, 2, 0, 11, 4, 3, 2, 0, 15, 0, 8, 3, 7, 1, 3, 2, 0, 12, 0, 0, 0, 7, 4, 3, 2, 0, 15, 0, 1, 2, 0, 11]), (20, [16, 3], [30, 0, 1, 0, 0, -1, 1, 11]), (20, [3, 16], [50, 3, 0, 8, 12, 11, 3, 7, 0, 2, 0, 1, 2, 0, 8, 3, 7, 1, 3, 2, 0, 12, 0, 0, 0, 6, 4, 2, 1, 1, 0, 1, 2, 0, 11]), (20, [3, 17], [50, 2, 0, 8, 11, 3, 7, 0, 2, 0, 1, 2, 0, 8, 0, 6, 4, 2, 1, 1, 0, 1, 2, 0, 11]), (20, [3, 18], [31, 1, -1, -1, 1, 8, 0, -1, 0, 0]), (20, [3], [60, 1, 3, 199, 5, 2, 3, 4]), (20, [3, 18], [60, 1, 1, 208, 5, 2]), (20, [20, 3], [50, 1, 1, 1005, 1002, 0, 6, 4, 2, 1, 0, 0, 1, 3, 1, 2, 4, 3, 2, 1, 5, 0, 2]), (102, [20], [187072209578355573530071658587684226515959365500928]), (23, [20, 4], [0, 1, -1]), (23, [20, 4], [0, -1, 1]), (23, [18], [0, -1]), (23, [16, 2], [0, 1, -1]), (23, [16, 2], [0, -1, 1]), (23, [7, 17], [-2000, -1, -1]), (23, [2, 17], [-1, 1, -1]), (23, [2, 15], [-1, 1, -1]), (23, [7, 15], [-2000, -1, -1]), (102, [17], [187072209578355573530071658587684226515959365500928, 165008, 165009, 165011, 165012, 165013, 165014, 165015]), (23, [16, 2], [0, 1, -1]), (23, [16, 2], [0, -1, 1]), (23, [7, 17], [-2000, -1, -1]), (23, [2, 17], [-1, 1, -1]), (23, [2, 15], [-1, 1, -1]), (23, [7, 15], [-2000, -1, -1]), (102, [15], [0, 165011, 165012, 165013, 165014, 165015]), (23, [2, 15], [-1, 1, -1]), (23, [7, 15], [-2000, -1, -1])], [], [(0, 0, 2000, [])], [(20, [4, 3], [50, 1, 1, 1005, 1002, 0, 6, 4, 2, 1, 0, 0, 1, 3, 1, 2, 4, 3, 2, 1, 5, 0, 2]), (20, [3, 3], [30, 0, 1, 1, 15, -1, 1, 11]), (20, [3], [50, 3, 0, 12, 11, 15, 2, 21, 4, 7, 1, 3, 2, 0, 12, 0, 1, 0, 3, 2, 0, 11, 4, 3, 2, 0, 15, 0, 8, 3, 7, 1, 3, 2, 0, 12, 0, 0, 0, 7, 4, 3, 2, 0, 15, 0, 1, 2, 0, 11]), (20, [2, 3], [30, -1, 1, 0, 0, -1, 1, 11]), (20, [21, 3], [30, -2001, -1, 0, 0, -1, 1, 11]), (23, [18], [0, -1]), (20, [3], [60, 1, 3, 199, 5, 2, 3, 4]), (20, [3, 18], [60, 1, 1, 208, 5, 2]), (24, [0, 3], []), (24, [1, 4], [])], [(21, 7, 0, 0)], [(1, 4, -4294967296, 0), (4, 1, -4294967296, 0)])
theorem oo_Mo_edgeItem_13 {kA : Nat → ClassId} : or_ok PRD kA GG o_Mo_edgeItem_13 := by
  refine or_mk fun A ta ws vs hD hth hl => ?_
  intro t0 r0 t1 k1 t2 k2 t3 r3 t4 k4 t7 k7 t15 k15 t16 k16 t17 k17 t18 k18 t20 k20 d0 d1 f0 f1 f2 f3 f4 f5 f6 f7 f8 f9 f10 f11 f12 f13 f14 f15 f16 f17 f18 f19 f20 f21 ta1 w1 le1 s1 f23 f24 f25 f26 f27 f28 f29 f30 f31 ta2 w2 le2 s2 f33 f34 f35 f36 f37 f38 ta3 w3 le3 s3 f40 f41
  replace f0 := shm_7 f0
  replace f1 := shm_22 f1
  replace f2 := shm_1891 f2
  replace f3 := shm_1896 f3
  replace f4 := shm_1013 f4
  replace f5 := shm_7 f5
  replace f6 := shm_22 f6
  replace f7 := shm_1894 f7
  replace f8 := shm_211 f8
  replace f9 := shm_211 f9
  replace f10 := shm_1894 f10
  replace f11 := shm_5 f11
  replace f12 := shm_5 f12
  replace f13 := shm_1397 f13
  replace f14 := shm_1398 f14
  replace f15 := shm_1395 f15
  replace f16 := shm_1660 f16
  replace f17 := shm_1659 f17
  replace f18 := shm_1982 f18
  replace f19 := shm_952 f19
  replace f20 := shm_955 f20
  replace f21 := shm_981 f21
  replace f23 := shm_7 f23
  replace f24 := shm_22 f24
  replace f25 := shm_1013 f25
  replace f26 := shm_7 f26
  replace f27 := shm_22 f27
  replace f28 := shm_1894 f28
  replace f29 := shm_211 f29
  replace f30 := shm_211 f30
  replace f31 := shm_1894 f31
  replace f33 := shm_7 f33
  replace f34 := shm_22 f34
  replace f35 := shm_1894 f35
  replace f36 := shm_211 f36
  replace f37 := shm_211 f37
  replace f38 := shm_1894 f38
  replace f40 := shm_211 f40
  replace f41 := shm_1894 f41
  have q3 : n_v vs 3 = n_v vs 0 := f11.symm
  have q4 : n_v vs 4 = n_v vs 1 := f12.symm
  simp only [q4, q3] at f0 f1 f2 f3 f13 f14 f15 f16 f17 f18 f19 f20 f21 f23 f24
  have cr_0_2 := fdq_12 hD hth r0
  have cr_0_3 := fdq_141 hD hth r0
  have cr_0_4 := fdq_142 hD hth r0
  have hK_0_3 := elq_77 hD hth cr_0_3
  have hK_0_4 := elq_78 hD hth cr_0_4
  have kz_0_8 := fdq_14 hD hth r0
  have kz_0_11 := fdq_273 hD hth r0
  have kz_0_12 := fdq_186 hD hth r0
  have kz_0_15 := fdq_274 hD hth r0
  obtain ⟨x, ex, hx⟩ := iv_ex (ta := ta) (lo := 0) (hi := 2000) (z := 0 + (1 * v_iv (n_v vs 7) + 0)) (by omega) (by omega) (by omega) (by omega)
  have ex2 : v_iv (Value.int x) = 0 + (1 * v_iv (n_v vs 7) + 0) := ex
  have ex3 : 0 ≤ v_iv (Value.int x) ∧ v_iv (Value.int x) ≤ 2000 := tv_rng hx
  have e_0 : n_v (vs ++ [Value.int x]) 0 = n_v vs 0 := n_v_old (by rw [hl]; decide)
  have e_1 : n_v (vs ++ [Value.int x]) 1 = n_v vs 1 := n_v_old (by rw [hl]; decide)
  have e_2 : n_v (vs ++ [Value.int x]) 2 = n_v vs 2 := n_v_old (by rw [hl]; decide)
  have e_3 : n_v (vs ++ [Value.int x]) 3 = n_v vs 3 := n_v_old (by rw [hl]; decide)
  have e_4 : n_v (vs ++ [Value.int x]) 4 = n_v vs 4 := n_v_old (by rw [hl]; decide)
  have e_18 : n_v (vs ++ [Value.int x]) 18 = n_v vs 18 := n_v_old (by rw [hl]; decide)
  have e_21 : n_v (vs ++ [Value.int x]) 21 = Value.int x := n_v_new hl
  have nf0 : fc_1 PRD (20, [4, 3], [50, 1, 1, 1005, 1002, 0, 6, 4, 2, 1, 0, 0, 1, 3, 1, 2, 4, 3, 2, 1, 5, 0, 2]) ws (vs ++ [Value.int x]) := by
    refine ⟨nf_inA hl rfl, sgq_981 ?_⟩
    · show (v_iv (n_v (vs ++ [Value.int x]) 4) + 1) ≤ w_ei ws (w_ar ws (n_v (vs ++ [Value.int x]) 3) 2) ((w_fi ws (n_v (vs ++ [Value.int x]) 3) 5 + 2))
      simp only [e_3, e_4, q3, q4]
      exact vc_Mo_edgeItem_13_0 (v_iv (n_v vs 1)) (v_iv (n_v vs 4)) (v_iv (n_v vs 20)) (w_ei ws (w_ar ws (n_v vs 0) 2)) (w_fi ws (n_v vs 0) 5) k1 k4 k20 d0 d1 f0 f1 f21
  have nf1 : fc_1 PRD (20, [3, 3], [30, 0, 1, 1, 15, -1, 1, 11]) ws (vs ++ [Value.int x]) := by
    refine ⟨nf_inA hl rfl, sgq_1397 ?_⟩
    · show 1 * w_fi ws (n_v (vs ++ [Value.int x]) 3) 15 + ((-1) * w_fi ws (n_v (vs ++ [Value.int x]) 3) 11 + 0) ≤ 0
      simp only [e_3, q3]
      exact vc_Mo_edgeItem_13_1 (w_fi ws (n_v vs 0) 11) (w_fi ws (n_v vs 0) 15) (w_fi ws (n_v vs 0) 5) f13 kz_0_11 kz_0_15
  have nf2 : fc_1 PRD (20, [3], [50, 3, 0, 12, 11, 15, 2, 21, 4, 7, 1, 3, 2, 0, 12, 0, 1, 0, 3, 2, 0, 11, 4, 3, 2, 0, 15, 0, 8, 3, 7, 1, 3, 2, 0, 12, 0, 0, 0, 7, 4, 3, 2, 0, 15, 0, 1, 2, 0, 11]) ws (vs ++ [Value.int x]) := by
    refine ⟨nf_inA hl rfl, sgq_1398 ?_⟩
    · show ((w_fi ws (n_v (vs ++ [Value.int x]) 3) 12 = 1) → (w_fi ws (n_v (vs ++ [Value.int x]) 3) 11 ≤ (w_fi ws (n_v (vs ++ [Value.int x]) 3) 15 + 8))) ∧ ((w_fi ws (n_v (vs ++ [Value.int x]) 3) 12 = 0) ∨ ((w_fi ws (n_v (vs ++ [Value.int x]) 3) 15 + 1) ≤ w_fi ws (n_v (vs ++ [Value.int x]) 3) 11))
      simp only [e_3, q3]
      exact vc_Mo_edgeItem_13_2 (w_fi ws (n_v vs 0) 11) (w_fi ws (n_v vs 0) 15) (w_fi ws (n_v vs 0) 12) (w_fi ws (n_v vs 0) 5) f14 kz_0_11 kz_0_12 kz_0_15
  have nf3 : fc_1 PRD (20, [2, 3], [30, -1, 1, 0, 0, -1, 1, 11]) ws (vs ++ [Value.int x]) := by
    refine ⟨nf_inA hl rfl, sgq_1891 ?_⟩
    · show 1 * v_iv (n_v (vs ++ [Value.int x]) 2) + ((-1) * w_fi ws (n_v (vs ++ [Value.int x]) 3) 11 + 0) ≤ (-1)
      simp only [e_2, e_3, q3]
      exact vc_Mo_edgeItem_13_3 (v_iv (n_v vs 2)) (w_fi ws (n_v vs 0) 11) (w_fi ws (n_v vs 0) 5) k2 f2 kz_0_11
  have nf4 : fc_1 PRD (20, [21, 3], [30, -2001, -1, 0, 0, -1, 1, 11]) ws (vs ++ [Value.int x]) := by
    refine ⟨nf_inA hl rfl, sgq_1896 ?_⟩
    · show (-1) * v_iv (n_v (vs ++ [Value.int x]) 21) + ((-1) * w_fi ws (n_v (vs ++ [Value.int x]) 3) 11 + 0) ≤ (-2001)
      simp only [e_3, e_21, q3]
      exact vc_Mo_edgeItem_13_4 (v_iv (n_v vs 7)) (w_fi ws (n_v vs 0) 11) (w_fi ws (n_v vs 0) 5) (v_iv (Value.int x)) k7 f3 kz_0_11 ex2
  have nf5 : fc_1 PRD (23, [18], [0, -1]) ws (vs ++ [Value.int x]) := by
    refine ⟨nf_inA hl rfl, sgq_1013 ?_⟩
    · show (-1) * v_iv (n_v (vs ++ [Value.int x]) 18) + 0 ≤ 0
      rw [e_18]
      exact vc_Mo_edgeItem_13_5 (v_iv (n_v vs 18)) (w_fi ws (n_v vs 0) 5) k18 f25
  have nf6 : fc_1 PRD (20, [3], [60, 1, 3, 199, 5, 2, 3, 4]) ws (vs ++ [Value.int x]) := by
    refine ⟨nf_inA hl rfl, sgq_952 ?_⟩
    · show RWS (w_fi ws (n_v (vs ++ [Value.int x]) 3) 5) (w_ei ws (w_ar ws (n_v (vs ++ [Value.int x]) 3) 2)) (w_ei ws (w_ar ws (n_v (vs ++ [Value.int x]) 3) 3)) (w_ei ws (w_ar ws (n_v (vs ++ [Value.int x]) 3) 4))
      simp only [e_3, q3]
      exact vc_Mo_edgeItem_13_6 (w_ei ws (w_ar ws (n_v vs 0) 2)) (w_ei ws (w_ar ws (n_v vs 0) 3)) (w_ei ws (w_ar ws (n_v vs 0) 4)) (w_fi ws (n_v vs 0) 5) f19
  have nf7 : fc_1 PRD (20, [3, 18], [60, 1, 1, 208, 5, 2]) ws (vs ++ [Value.int x]) := by
    refine ⟨nf_inA hl rfl, sgq_955 ?_⟩
    · show NDA (w_fi ws (n_v (vs ++ [Value.int x]) 3) 5) (w_ei ws (w_ar ws (n_v (vs ++ [Value.int x]) 3) 2)) (v_iv (n_v (vs ++ [Value.int x]) 18))
      simp only [e_3, e_18, q3]
      exact vc_Mo_edgeItem_13_7 (v_iv (n_v vs 18)) (w_ei ws (w_ar ws (n_v vs 0) 2)) (w_fi ws (n_v vs 0) 5) k18 f20
  have nf8 : fc_1 PRD (24, [0, 3], []) ws (vs ++ [Value.int x]) := by
    refine ⟨nf_inA hl rfl, sgq_5 ?_⟩
    · show n_v (vs ++ [Value.int x]) 0 = n_v (vs ++ [Value.int x]) 3
      first | rfl | simp only [e_0, e_3, q3, q4]
  have nf9 : fc_1 PRD (24, [1, 4], []) ws (vs ++ [Value.int x]) := by
    refine ⟨nf_inA hl rfl, sgq_5 ?_⟩
    · show n_v (vs ++ [Value.int x]) 1 = n_v (vs ++ [Value.int x]) 4
      first | rfl | simp only [e_1, e_4, q3, q4]
  obtain ⟨x0, e0, _, _⟩ := tv_int t7 rfl
  have e1 : v_iv (n_v vs 7) = x0.toInt := by rw [e0]; rfl
  have ho : sy_ofs (vs ++ [Value.int x]) (21, 7, 0, 0) := by
    refine ⟨x, x0, by rw [List.getElem?_append_right (by rw [hl]; decide), hl]; rfl, ?_, ?_, ?_⟩
    · rw [List.getElem?_append_left (by rw [hl]; decide)]; exact n_v_some (by rw [hl]; decide) e0
    · show x0.toInt + 0 ≤ x.toInt; omega
    · show x.toInt ≤ x0.toInt + 0; omega
  exact ⟨(fun _ h => (by cases h)), [Value.int x], ag_one hx, List.forall_mem_cons.mpr ⟨⟨show (20 : Nat) < 100 from by decide, nf0⟩, List.forall_mem_cons.mpr ⟨⟨show (20 : Nat) < 100 from by decide, nf1⟩, List.forall_mem_cons.mpr ⟨⟨show (20 : Nat) < 100 from by decide, nf2⟩, List.forall_mem_cons.mpr ⟨⟨show (20 : Nat) < 100 from by decide, nf3⟩, List.forall_mem_cons.mpr ⟨⟨show (20 : Nat) < 100 from by decide, nf4⟩, List.forall_mem_cons.mpr ⟨⟨show (23 : Nat) < 100 from by decide, nf5⟩, List.forall_mem_cons.mpr ⟨⟨show (20 : Nat) < 100 from by decide, nf6⟩, List.forall_mem_cons.mpr ⟨⟨show (20 : Nat) < 100 from by decide, nf7⟩, List.forall_mem_cons.mpr ⟨⟨show (24 : Nat) < 100 from by decide, nf8⟩, List.forall_mem_cons.mpr ⟨⟨show (24 : Nat) < 100 from by decide, nf9⟩, (fun _ h => (by cases h))⟩⟩⟩⟩⟩⟩⟩⟩⟩⟩, List.forall_mem_cons.mpr ⟨ho, (fun _ h => (by cases h))⟩⟩
set_option maxHeartbeats 4000000 in
theorem vc_Mo_edgeItem_14_0 (from_0 : Int) (pos_0 : Int) (r_0 : Int) (f11 : 1 * from_0 + ((-1) * pos_0 + 0) ≤ 0) (kz_0_11 : 0 ≤ pos_0 ∧ pos_0 ≤ 2000) (kz_0_15 : 0 ≤ from_0 ∧ from_0 ≤ 2000) : 1 * from_0 + ((-1) * pos_0 + 0) ≤ 0 := by
  first
    | omega
    | (have q1 := (hE_0_2_1 (r_0 + 2) (by omega)).2 (by omega)
       have q2 := (hE_0_2_2 (r_0 + 2) (by omega)).2 (by omega)
       omega)
    | (have q1 := (hE_0_2_1 (r_0 + 1) (by omega)).2 (by omega)
       have q2 := (hE_0_2_2 (r_0 + 1) (by omega)).2 (by omega)
       omega)
    | (have q1 := (hE_0_2_1 (r_0 + 2) (by omega)).2 (by omega)
       omega)
    | (have q1 := (hE_0_2_1 (r_0 + 1) (by omega)).2 (by omega)
       omega)
    | (have q1 := (hE_0_2_1 (r_0 + 2) (by omega)).2 (by omega)
       have q2 := (hE_0_2_2 (r_0 + 2) (by omega)).2 (by omega)
       have q3 := (hE_0_2_3 (r_0 + 2) (by omega)).1 (by omega)
       omega)
    | (have q1 := (hE_0_2_1 (r_0 + 2) (by omega)).2 (by omega)
       have q2 := (hE_0_2_2 (r_0 + 2) (by omega)).2 (by omega)
       have q3 := (hE_0_2_3 (r_0 + 2) (by omega)).2 (by omega)
       omega)
set_option maxHeartbeats 4000000 in
theorem vc_Mo_edgeItem_14_1 (from_0 : Int) (pos_0 : Int) (kind_0 : Int) (r_0 : Int) (f12 : ((kind_0 = 1) → (pos_0 ≤ (from_0 + 8))) ∧ ((kind_0 = 0) ∨ ((from_0 + 1) ≤ pos_0))) (kz_0_11 : 0 ≤ pos_0 ∧ pos_0 ≤ 2000) (kz_0_12 : 0 ≤ kind_0 ∧ kind_0 ≤ 4) (kz_0_15 : 0 ≤ from_0 ∧ from_0 ≤ 2000) : ((kind_0 = 1) → (pos_0 ≤ (from_0 + 8))) ∧ ((kind_0 = 0) ∨ ((from_0 + 1) ≤ pos_0)) := by
  first
    | omega
    | (have q1 := (hE_0_2_1 (r_0 + 2) (by omega)).2 (by omega)
       have q2 := (hE_0_2_2 (r_0 + 2) (by omega)).2 (by omega)
       omega)
    | (have q1 := (hE_0_2_1 (r_0 + 1) (by omega)).2 (by omega)
       have q2 := (hE_0_2_2 (r_0 + 1) (by omega)).2 (by omega)
       omega)
    | (have q1 := (hE_0_2_1 (r_0 + 2) (by omega)).2 (by omega)
       omega)
    | (have q1 := (hE_0_2_1 (r_0 + 1) (by omega)).2 (by omega)
       omega)
    | (have q1 := (hE_0_2_1 (r_0 + 2) (by omega)).2 (by omega)
       have q2 := (hE_0_2_2 (r_0 + 2) (by omega)).2 (by omega)
       have q3 := (hE_0_2_3 (r_0 + 2) (by omega)).1 (by omega)
       omega)
    | (have q1 := (hE_0_2_1 (r_0 + 2) (by omega)).2 (by omega)
       have q2 := (hE_0_2_2 (r_0 + 2) (by omega)).2 (by omega)
       have q3 := (hE_0_2_3 (r_0 + 2) (by omega)).2 (by omega)
       omega)
set_option maxHeartbeats 4000000 in
theorem vc_Mo_edgeItem_14_2 (x2 : Int) (x16 : Int) (pos_0 : Int) (r_0 : Int) (k2 : 0 ≤ x2 ∧ x2 ≤ 2000) (k16 : 0 ≤ x16 ∧ x16 ≤ 2000) (f2 : 1 * x16 + ((-1) * x2 + 0) ≤ 0) (f3 : (-1) * x16 + (1 * x2 + 0) ≤ 0) (f13 : 1 * x16 + ((-1) * pos_0 + 0) ≤ 0) (kz_0_11 : 0 ≤ pos_0 ∧ pos_0 ≤ 2000) : 1 * x2 + ((-1) * pos_0 + 0) ≤ 0 := by
  first
    | omega
    | (have q1 := (hE_0_2_1 (r_0 + 2) (by omega)).2 (by omega)
       have q2 := (hE_0_2_2 (r_0 + 2) (by omega)).2 (by omega)
       omega)
    | (have q1 := (hE_0_2_1 (r_0 + 1) (by omega)).2 (by omega)
       have q2 := (hE_0_2_2 (r_0 + 1) (by omega)).2 (by omega)
       omega)
    | (have q1 := (hE_0_2_1 (r_0 + 2) (by omega)).2 (by omega)
       omega)
    | (have q1 := (hE_0_2_1 (r_0 + 1) (by omega)).2 (by omega)
       omega)
    | (have q1 := (hE_0_2_1 (r_0 + 2) (by omega)).2 (by omega)
       have q2 := (hE_0_2_2 (r_0 + 2) (by omega)).2 (by omega)
       have q3 := (hE_0_2_3 (r_0 + 2) (by omega)).1 (by omega)
       omega)
    | (have q1 := (hE_0_2_1 (r_0 + 2) (by omega)).2 (by omega)
       have q2 := (hE_0_2_2 (r_0 + 2) (by omega)).2 (by omega)
       have q3 := (hE_0_2_3 (r_0 + 2) (by omega)).2 (by omega)
       omega)
set_option maxHeartbeats 4000000 in
theorem vc_Mo_edgeItem_14_3 (x2 : Int) (x19 : Int) (fault_0 : Int) (pos_0 : Int) (r_0 : Int) (k2 : 0 ≤ x2 ∧ x2 ≤ 2000) (k19 : 1 ≤ x19 ∧ x19 ≤ 5) (g1 : x19 = fault_0) (kz_0_8 : 0 ≤ fault_0 ∧ fault_0 ≤ 5) (kz_0_11 : 0 ≤ pos_0 ∧ pos_0 ≤ 2000) : (1 ≤ fault_0) ∨ ((x2 + 1) ≤ pos_0) := by
  first
    | omega
    | (have q1 := (hE_0_2_1 (r_0 + 2) (by omega)).2 (by omega)
       have q2 := (hE_0_2_2 (r_0 + 2) (by omega)).2 (by omega)
       omega)
    | (have q1 := (hE_0_2_1 (r_0 + 1) (by omega)).2 (by omega)
       have q2 := (hE_0_2_2 (r_0 + 1) (by omega)).2 (by omega)
       omega)
    | (have q1 := (hE_0_2_1 (r_0 + 2) (by omega)).2 (by omega)
       omega)
    | (have q1 := (hE_0_2_1 (r_0 + 1) (by omega)).2 (by omega)
       omega)
    | (have q1 := (hE_0_2_1 (r_0 + 2) (by omega)).2 (by omega)
       have q2 := (hE_0_2_2 (r_0 + 2) (by omega)).2 (by omega)
       have q3 := (hE_0_2_3 (r_0 + 2) (by omega)).1 (by omega)
       omega)
    | (have q1 := (hE_0_2_1 (r_0 + 2) (by omega)).2 (by omega)
       have q2 := (hE_0_2_2 (r_0 + 2) (by omega)).2 (by omega)
       have q3 := (hE_0_2_3 (r_0 + 2) (by omega)).2 (by omega)
       omega)
set_option maxHeartbeats 4000000 in
theorem vc_Mo_edgeItem_14_4 (x1 : Int) (all_0 : Int → Int) (r_0 : Int) (k1 : 0 ≤ x1 ∧ x1 ≤ 7) (f18 : (x1 + 1) ≤ all_0 ((r_0 + 2))) : (x1 + 1) ≤ all_0 ((r_0 + 2)) := by
  first
    | omega
    | (have q1 := (hE_0_2_1 (r_0 + 2) (by omega)).2 (by omega)
       have q2 := (hE_0_2_2 (r_0 + 2) (by omega)).2 (by omega)
       omega)
    | (have q1 := (hE_0_2_1 (r_0 + 1) (by omega)).2 (by omega)
       have q2 := (hE_0_2_2 (r_0 + 1) (by omega)).2 (by omega)
       omega)
    | (have q1 := (hE_0_2_1 (r_0 + 2) (by omega)).2 (by omega)
       omega)
    | (have q1 := (hE_0_2_1 (r_0 + 1) (by omega)).2 (by omega)
       omega)
    | (have q1 := (hE_0_2_1 (r_0 + 2) (by omega)).2 (by omega)
       have q2 := (hE_0_2_2 (r_0 + 2) (by omega)).2 (by omega)
       have q3 := (hE_0_2_3 (r_0 + 2) (by omega)).1 (by omega)
       omega)
    | (have q1 := (hE_0_2_1 (r_0 + 2) (by omega)).2 (by omega)
       have q2 := (hE_0_2_2 (r_0 + 2) (by omega)).2 (by omega)
       have q3 := (hE_0_2_3 (r_0 + 2) (by omega)).2 (by omega)
       omega)
set_option maxHeartbeats 4000000 in
theorem vc_Mo_edgeItem_14_5 (all_0 : Int → Int) (r_0 : Int) (now_0 : Int → Int) (latest_0 : Int → Int) (f19 : RWS (r_0) (all_0) (now_0) (latest_0)) : RWS (r_0) (all_0) (now_0) (latest_0) := by
  first
    | assumption
def o_Mo_edgeItem_14 : or_T := (99, 20, [(0, (2, 0, 0, [165])), (1, (0, 0, 7, [])), (2, (0, 0, 2000, [])), (16, (0, 0, 2000, [])), (19, (0, 1, 5, []))], [(9, [19, 3], [8]), (23, [16, 2], [0, 1, -1]), (23, [16, 2], [0, -1, 1]), (24, [0, 3], []), (24, [1, 4], []), (20, [3, 3], [30, 0, 1, 1, 15, -1, 1, 11]), (20, [3], [50, 3, 0, 12, 11, 15, 2, 21, 4, 7, 1, 3, 2, 0, 12, 0, 1, 0, 3, 2, 0, 11, 4, 3, 2, 0, 15, 0, 8, 3, 7, 1, 3, 2, 0, 12, 0, 0, 0, 7, 4, 3, 2, 0, 15, 0, 1, 2, 0, 11]), (20, [16, 3], [30, 0, 1, 0, 0, -1, 1, 11]), (20, [4, 3], [50, 1, 1, 1005, 1002, 0, 6, 4, 2, 1, 0, 0, 1, 3, 1, 2, 4, 3, 2, 1, 5, 0, 2]), (20, [3], [60, 1, 3, 199, 5, 2, 3, 4])], [], [], [(20, [0, 0], [30, 0, 1, 1, 15, -1, 1, 11]), (20, [0], [50, 3, 0, 12, 11, 15, 2, 21, 4, 7, 1, 3, 2, 0, 12, 0, 1, 0, 3, 2, 0, 11, 4, 3, 2, 0, 15, 0, 8, 3, 7, 1, 3, 2, 0, 12, 0, 0, 0, 7, 4, 3, 2, 0, 15, 0, 1, 2, 0, 11]), (20, [2, 0], [30, 0, 1, 0, 0, -1, 1, 11]), (20, [0, 2], [50, 2, 0, 8, 11, 3, 7, 0, 2, 0, 1, 2, 0, 8, 0, 6, 4, 2, 1, 1, 0, 1, 2, 0, 11]), (20, [1, 0], [50, 1, 1, 1005, 1002, 0, 6, 4, 2, 1, 0, 0, 1, 3, 1, 2, 4, 3, 2, 1, 5, 0, 2]), (20, [0], [60, 1, 3, 199, 5, 2, 3, 4])], [], [])
theorem oo_Mo_edgeItem_14 {kA : Nat → ClassId} : or_ok PRD kA GG o_Mo_edgeItem_14 := by
  refine or_mk fun A ta ws vs hD hth hl => ?_
  intro t0 r0 t1 k1 t2 k2 t16 k16 t19 k19 f1 f2 f3 f9 f10 f11 f12 f13 f18 f19
  replace f1 := shm_143 f1
  replace f9 := shm_5 f9
  replace f10 := shm_5 f10
  replace f11 := shm_1397 f11
  replace f12 := shm_1398 f12
  replace f13 := shm_1395 f13
  replace f18 := shm_981 f18
  replace f19 := shm_952 f19
  have q3 : n_v vs 3 = n_v vs 0 := f9.symm
  have q4 : n_v vs 4 = n_v vs 1 := f10.symm
  simp only [q3, q4] at f1 f11 f12 f13 f18 f19
  have g1 : v_iv (n_v vs 19) = w_fi ws (n_v vs 0) 8 := congrArg v_iv f1
  have kz_0_8 := fdq_14 hD hth r0
  have kz_0_11 := fdq_273 hD hth r0
  have kz_0_12 := fdq_186 hD hth r0
  have kz_0_15 := fdq_274 hD hth r0
  have nf0 : fc_1 PRD (20, [0, 0], [30, 0, 1, 1, 15, -1, 1, 11]) ws (vs) := ⟨nf_in hl rfl, sgq_1397 (vc_Mo_edgeItem_14_0 (w_fi ws (n_v vs 0) 15) (w_fi ws (n_v vs 0) 11) (w_fi ws (n_v vs 0) 5) f11 kz_0_11 kz_0_15)⟩
  have nf1 : fc_1 PRD (20, [0], [50, 3, 0, 12, 11, 15, 2, 21, 4, 7, 1, 3, 2, 0, 12, 0, 1, 0, 3, 2, 0, 11, 4, 3, 2, 0, 15, 0, 8, 3, 7, 1, 3, 2, 0, 12, 0, 0, 0, 7, 4, 3, 2, 0, 15, 0, 1, 2, 0, 11]) ws (vs) := ⟨nf_in hl rfl, sgq_1398 (vc_Mo_edgeItem_14_1 (w_fi ws (n_v vs 0) 15) (w_fi ws (n_v vs 0) 11) (w_fi ws (n_v vs 0) 12) (w_fi ws (n_v vs 0) 5) f12 kz_0_11 kz_0_12 kz_0_15)⟩
  have nf2 : fc_1 PRD (20, [2, 0], [30, 0, 1, 0, 0, -1, 1, 11]) ws (vs) := ⟨nf_in hl rfl, sgq_1395 (vc_Mo_edgeItem_14_2 (v_iv (n_v vs 2)) (v_iv (n_v vs 16)) (w_fi ws (n_v vs 0) 11) (w_fi ws (n_v vs 0) 5) k2 k16 (shm_7 f2) (shm_22 f3) f13 kz_0_11)⟩
  have nf3 : fc_1 PRD (20, [0, 2], [50, 2, 0, 8, 11, 3, 7, 0, 2, 0, 1, 2, 0, 8, 0, 6, 4, 2, 1, 1, 0, 1, 2, 0, 11]) ws (vs) := ⟨nf_in hl rfl, sgq_1659 (vc_Mo_edgeItem_14_3 (v_iv (n_v vs 2)) (v_iv (n_v vs 19)) (w_fi ws (n_v vs 0) 8) (w_fi ws (n_v vs 0) 11) (w_fi ws (n_v vs 0) 5) k2 k19 g1 kz_0_8 kz_0_11)⟩
  have nf4 : fc_1 PRD (20, [1, 0], [50, 1, 1, 1005, 1002, 0, 6, 4, 2, 1, 0, 0, 1, 3, 1, 2, 4, 3, 2, 1, 5, 0, 2]) ws (vs) := ⟨nf_in hl rfl, sgq_981 (vc_Mo_edgeItem_14_4 (v_iv (n_v vs 1)) (w_ei ws (w_ar ws (n_v vs 0) 2)) (w_fi ws (n_v vs 0) 5) k1 f18)⟩
  have nf5 : fc_1 PRD (20, [0], [60, 1, 3, 199, 5, 2, 3, 4]) ws (vs) := ⟨nf_in hl rfl, sgq_952 (vc_Mo_edgeItem_14_5 (w_ei ws (w_ar ws (n_v vs 0) 2)) (w_fi ws (n_v vs 0) 5) (w_ei ws (w_ar ws (n_v vs 0) 3)) (w_ei ws (w_ar ws (n_v vs 0) 4)) f19)⟩
  refine ⟨(fun _ h => (by cases h)), [], trivial, ?_, (fun _ h => (by cases h))⟩
  rw [List.append_nil]
  exact List.forall_mem_cons.mpr ⟨⟨show (20 : Nat) < 100 from by decide, nf0⟩, List.forall_mem_cons.mpr ⟨⟨show (20 : Nat) < 100 from by decide, nf1⟩, List.forall_mem_cons.mpr ⟨⟨show (20 : Nat) < 100 from by decide, nf2⟩, List.forall_mem_cons.mpr ⟨⟨show (20 : Nat) < 100 from by decide, nf3⟩, List.forall_mem_cons.mpr ⟨⟨show (20 : Nat) < 100 from by decide, nf4⟩, List.forall_mem_cons.mpr ⟨⟨show (20 : Nat) < 100 from by decide, nf5⟩, (fun _ h => (by cases h))⟩⟩⟩⟩⟩⟩
set_option maxHeartbeats 4000000 in
theorem vc_Mo_edgeItem_15_0 (x2 : Int) (x5 : Int) (x9 : Int) (kind_0 : Int) (fault_0 : Int) (r_0 : Int) (from_0 : Int) (pos_0 : Int) (k2 : 0 ≤ x2 ∧ x2 ≤ 2000) (k5 : (-1) ≤ x5 ∧ x5 ≤ 23) (k9 : 1 ≤ x9 ∧ x9 ≤ 1) (f1 : (x9 = 1) → ((kind_0 = 3) ∧ (fault_0 = 0))) (f4 : ((kind_0 = 1) → (pos_0 ≤ (from_0 + 8))) ∧ ((kind_0 = 0) ∨ ((from_0 + 1) ≤ pos_0))) (f6 : (1 ≤ fault_0) ∨ ((kind_0 = 0) ∨ ((x2 + 1) ≤ pos_0))) (f7 : ((-1) * fault_0 + 0 ≤ (-1)) ∨ ((-1) * x5 + 0 ≤ 0)) (kz_0_8 : 0 ≤ fault_0 ∧ fault_0 ≤ 5) (kz_0_11 : 0 ≤ pos_0 ∧ pos_0 ≤ 2000) (kz_0_12 : 0 ≤ kind_0 ∧ kind_0 ≤ 4) (kz_0_15 : 0 ≤ from_0 ∧ from_0 ≤ 2000) : (-1) * x5 + 0 ≤ 0 := by
  first
    | omega
    | (have q1 := (hE_0_2_1 (r_0 + 2) (by omega)).2 (by omega)
       have q2 := (hE_0_2_2 (r_0 + 2) (by omega)).2 (by omega)
       omega)
    | (have q1 := (hE_0_2_1 (r_0 + 1) (by omega)).2 (by omega)
       have q2 := (hE_0_2_2 (r_0 + 1) (by omega)).2 (by omega)
       omega)
    | (have q1 := (hE_0_2_1 (r_0 + 2) (by omega)).2 (by omega)
       omega)
    | (have q1 := (hE_0_2_1 (r_0 + 1) (by omega)).2 (by omega)
       omega)
    | (have q1 := (hE_0_2_1 (r_0 + 2) (by omega)).2 (by omega)
       have q2 := (hE_0_2_2 (r_0 + 2) (by omega)).2 (by omega)
       have q3 := (hE_0_2_3 (r_0 + 2) (by omega)).1 (by omega)
       omega)
    | (have q1 := (hE_0_2_1 (r_0 + 2) (by omega)).2 (by omega)
       have q2 := (hE_0_2_2 (r_0 + 2) (by omega)).2 (by omega)
       have q3 := (hE_0_2_3 (r_0 + 2) (by omega)).2 (by omega)
       omega)
set_option maxHeartbeats 4000000 in
theorem vc_Mo_edgeItem_15_1 (x2 : Int) (x5 : Int) (x9 : Int) (kind_0 : Int) (fault_0 : Int) (r_0 : Int) (from_0 : Int) (pos_0 : Int) (k2 : 0 ≤ x2 ∧ x2 ≤ 2000) (k5 : (-1) ≤ x5 ∧ x5 ≤ 23) (k9 : 1 ≤ x9 ∧ x9 ≤ 1) (f1 : (x9 = 1) → ((kind_0 = 3) ∧ (fault_0 = 0))) (f4 : ((kind_0 = 1) → (pos_0 ≤ (from_0 + 8))) ∧ ((kind_0 = 0) ∨ ((from_0 + 1) ≤ pos_0))) (f6 : (1 ≤ fault_0) ∨ ((kind_0 = 0) ∨ ((x2 + 1) ≤ pos_0))) (f7 : ((-1) * fault_0 + 0 ≤ (-1)) ∨ ((-1) * x5 + 0 ≤ 0)) (kz_0_8 : 0 ≤ fault_0 ∧ fault_0 ≤ 5) (kz_0_11 : 0 ≤ pos_0 ∧ pos_0 ≤ 2000) (kz_0_12 : 0 ≤ kind_0 ∧ kind_0 ≤ 4) (kz_0_15 : 0 ≤ from_0 ∧ from_0 ≤ 2000) : fault_0 = 0 := by
  first
    | omega
    | (have q1 := (hE_0_2_1 (r_0 + 2) (by omega)).2 (by omega)
       have q2 := (hE_0_2_2 (r_0 + 2) (by omega)).2 (by omega)
       omega)
    | (have q1 := (hE_0_2_1 (r_0 + 1) (by omega)).2 (by omega)
       have q2 := (hE_0_2_2 (r_0 + 1) (by omega)).2 (by omega)
       omega)
    | (have q1 := (hE_0_2_1 (r_0 + 2) (by omega)).2 (by omega)
       omega)
    | (have q1 := (hE_0_2_1 (r_0 + 1) (by omega)).2 (by omega)
       omega)
    | (have q1 := (hE_0_2_1 (r_0 + 2) (by omega)).2 (by omega)
       have q2 := (hE_0_2_2 (r_0 + 2) (by omega)).2 (by omega)
       have q3 := (hE_0_2_3 (r_0 + 2) (by omega)).1 (by omega)
       omega)
    | (have q1 := (hE_0_2_1 (r_0 + 2) (by omega)).2 (by omega)
       have q2 := (hE_0_2_2 (r_0 + 2) (by omega)).2 (by omega)
       have q3 := (hE_0_2_3 (r_0 + 2) (by omega)).2 (by omega)
       omega)
def o_Mo_edgeItem_15 : or_T := (80, 13, [(0, (2, 0, 0, [165])), (2, (0, 0, 2000, [])), (5, (0, -1, 23, [])), (9, (0, 1, 1, []))], [(20, [9, 3], [50, 2, 0, 1012, 1008, 4, 6, 1, 2, 1, 0, 0, 1, 2, 7, 1, 3, 2, 1, 12, 0, 3, 1, 3, 2, 1, 8, 0, 0]), (20, [3], [50, 3, 0, 12, 11, 15, 2, 21, 4, 7, 1, 3, 2, 0, 12, 0, 1, 0, 3, 2, 0, 11, 4, 3, 2, 0, 15, 0, 8, 3, 7, 1, 3, 2, 0, 12, 0, 0, 0, 7, 4, 3, 2, 0, 15, 0, 1, 2, 0, 11]), (20, [3, 2], [50, 3, 0, 8, 12, 11, 3, 7, 0, 2, 0, 1, 2, 0, 8, 3, 7, 1, 3, 2, 0, 12, 0, 0, 0, 6, 4, 2, 1, 1, 0, 1, 2, 0, 11]), (20, [3, 5], [31, 1, -1, -1, 1, 8, 0, -1, 0, 0]), (24, [0, 3], [])], [], [], [(23, [5], [0, -1]), (20, [3], [50, 1, 0, 8, 1, 3, 2, 0, 8, 0, 0])], [], [])
theorem oo_Mo_edgeItem_15 {kA : Nat → ClassId} : or_ok PRD kA GG o_Mo_edgeItem_15 := by
  refine or_mk fun A ta ws vs hD hth hl => ?_
  intro t0 r0 t2 k2 t5 k5 t9 k9 f1 f4 f6 f7 f10
  replace f1 := shm_717 f1
  replace f4 := shm_1398 f4
  replace f6 := shm_1660 f6
  replace f7 := shm_1982 f7
  replace f10 := shm_5 f10
  have q3 : n_v vs 3 = n_v vs 0 := f10.symm
  simp only [q3] at f1 f4 f6 f7
  have kz_0_8 := fdq_14 hD hth r0
  have kz_0_11 := fdq_273 hD hth r0
  have kz_0_12 := fdq_186 hD hth r0
  have kz_0_15 := fdq_274 hD hth r0
  have nf0 : fc_1 PRD (23, [5], [0, -1]) ws (vs) := ⟨nf_in hl rfl, sgq_1013 (vc_Mo_edgeItem_15_0 (v_iv (n_v vs 2)) (v_iv (n_v vs 5)) (v_iv (n_v vs 9)) (w_fi ws (n_v vs 0) 12) (w_fi ws (n_v vs 0) 8) (w_fi ws (n_v vs 0) 5) (w_fi ws (n_v vs 0) 15) (w_fi ws (n_v vs 0) 11) k2 k5 k9 f1 f4 f6 f7 kz_0_8 kz_0_11 kz_0_12 kz_0_15)⟩
  have nf1 : fc_1 PRD (20, [3], [50, 1, 0, 8, 1, 3, 2, 0, 8, 0, 0]) ws (vs) := by
    refine ⟨nf_in hl rfl, sgq_1998 ?_⟩
    · show w_fi ws (n_v vs 3) 8 = 0
      rw [q3]
      exact vc_Mo_edgeItem_15_1 (v_iv (n_v vs 2)) (v_iv (n_v vs 5)) (v_iv (n_v vs 9)) (w_fi ws (n_v vs 0) 12) (w_fi ws (n_v vs 0) 8) (w_fi ws (n_v vs 0) 5) (w_fi ws (n_v vs 0) 15) (w_fi ws (n_v vs 0) 11) k2 k5 k9 f1 f4 f6 f7 kz_0_8 kz_0_11 kz_0_12 kz_0_15
  refine ⟨(fun _ h => (by cases h)), [], trivial, ?_, (fun _ h => (by cases h))⟩
  rw [List.append_nil]
  exact List.forall_mem_cons.mpr ⟨⟨show (23 : Nat) < 100 from by decide, nf0⟩, List.forall_mem_cons.mpr ⟨⟨show (20 : Nat) < 100 from by decide, nf1⟩, (fun _ h => (by cases h))⟩⟩
set_option maxHeartbeats 4000000 in
theorem vc_Mo_edgeItem_16_0 (r_0 : Int) (pos_0 : Int) (gx : Int) (kz_0_11 : 0 ≤ pos_0 ∧ pos_0 ≤ 2000) (ex2 : gx = pos_0) : 1 * gx + ((-1) * pos_0 + 0) ≤ 0 := by
  first
    | omega
    | (have q1 := (hE_0_2_1 (r_0 + 2) (by omega)).2 (by omega)
       have q2 := (hE_0_2_2 (r_0 + 2) (by omega)).2 (by omega)
       omega)
    | (have q1 := (hE_0_2_1 (r_0 + 1) (by omega)).2 (by omega)
       have q2 := (hE_0_2_2 (r_0 + 1) (by omega)).2 (by omega)
       omega)
    | (have q1 := (hE_0_2_1 (r_0 + 2) (by omega)).2 (by omega)
       omega)
    | (have q1 := (hE_0_2_1 (r_0 + 1) (by omega)).2 (by omega)
       omega)
    | (have q1 := (hE_0_2_1 (r_0 + 2) (by omega)).2 (by omega)
       have q2 := (hE_0_2_2 (r_0 + 2) (by omega)).2 (by omega)
       have q3 := (hE_0_2_3 (r_0 + 2) (by omega)).1 (by omega)
       omega)
    | (have q1 := (hE_0_2_1 (r_0 + 2) (by omega)).2 (by omega)
       have q2 := (hE_0_2_2 (r_0 + 2) (by omega)).2 (by omega)
       have q3 := (hE_0_2_3 (r_0 + 2) (by omega)).2 (by omega)
       omega)
set_option maxHeartbeats 4000000 in
theorem vc_Mo_edgeItem_16_1 (x2 : Int) (x5 : Int) (x9 : Int) (fault_0 : Int) (kind_0 : Int) (r_0 : Int) (from_0 : Int) (pos_0 : Int) (gx : Int) (k2 : 0 ≤ x2 ∧ x2 ≤ 2000) (k5 : (-1) ≤ x5 ∧ x5 ≤ 23) (k9 : 1 ≤ x9 ∧ x9 ≤ 1) (f1 : fault_0 = 0) (f3 : (x9 = 1) → ((kind_0 = 3) ∧ (fault_0 = 0))) (f6 : ((kind_0 = 1) → (pos_0 ≤ (from_0 + 8))) ∧ ((kind_0 = 0) ∨ ((from_0 + 1) ≤ pos_0))) (f7 : 1 * x2 + ((-1) * pos_0 + 0) ≤ 0) (f8 : (1 ≤ fault_0) ∨ ((kind_0 = 0) ∨ ((x2 + 1) ≤ pos_0))) (f9 : ((-1) * fault_0 + 0 ≤ (-1)) ∨ ((-1) * x5 + 0 ≤ 0)) (kz_0_8 : 0 ≤ fault_0 ∧ fault_0 ≤ 5) (kz_0_11 : 0 ≤ pos_0 ∧ pos_0 ≤ 2000) (kz_0_12 : 0 ≤ kind_0 ∧ kind_0 ≤ 4) (kz_0_15 : 0 ≤ from_0 ∧ from_0 ≤ 2000) (ex2 : gx = pos_0) : 1 * x2 + ((-1) * gx + 0) ≤ (-1) := by
  first
    | omega
    | (have q1 := (hE_0_2_1 (r_0 + 2) (by omega)).2 (by omega)
       have q2 := (hE_0_2_2 (r_0 + 2) (by omega)).2 (by omega)
       omega)
    | (have q1 := (hE_0_2_1 (r_0 + 1) (by omega)).2 (by omega)
       have q2 := (hE_0_2_2 (r_0 + 1) (by omega)).2 (by omega)
       omega)
    | (have q1 := (hE_0_2_1 (r_0 + 2) (by omega)).2 (by omega)
       omega)
    | (have q1 := (hE_0_2_1 (r_0 + 1) (by omega)).2 (by omega)
       omega)
    | (have q1 := (hE_0_2_1 (r_0 + 2) (by omega)).2 (by omega)
       have q2 := (hE_0_2_2 (r_0 + 2) (by omega)).2 (by omega)
       have q3 := (hE_0_2_3 (r_0 + 2) (by omega)).1 (by omega)
       omega)
    | (have q1 := (hE_0_2_1 (r_0 + 2) (by omega)).2 (by omega)
       have q2 := (hE_0_2_2 (r_0 + 2) (by omega)).2 (by omega)
       have q3 := (hE_0_2_3 (r_0 + 2) (by omega)).2 (by omega)
       omega)
set_option maxHeartbeats 4000000 in
theorem vc_Mo_edgeItem_16_2 (x7 : Int) (r_0 : Int) (pos_0 : Int) (gx : Int) (k7 : 0 ≤ x7 ∧ x7 ≤ 2000) (f14 : 1 * x7 + (1 * pos_0 + 0) ≤ 2000) (f15 : (-1) * x7 + ((-1) * pos_0 + 0) ≤ (-2000)) (kz_0_11 : 0 ≤ pos_0 ∧ pos_0 ≤ 2000) (ex2 : gx = pos_0) : (-1) * x7 + ((-1) * gx + 0) ≤ (-2000) := by
  first
    | omega
    | (have q1 := (hE_0_2_1 (r_0 + 2) (by omega)).2 (by omega)
       have q2 := (hE_0_2_2 (r_0 + 2) (by omega)).2 (by omega)
       omega)
    | (have q1 := (hE_0_2_1 (r_0 + 1) (by omega)).2 (by omega)
       have q2 := (hE_0_2_2 (r_0 + 1) (by omega)).2 (by omega)
       omega)
    | (have q1 := (hE_0_2_1 (r_0 + 2) (by omega)).2 (by omega)
       omega)
    | (have q1 := (hE_0_2_1 (r_0 + 1) (by omega)).2 (by omega)
       omega)
    | (have q1 := (hE_0_2_1 (r_0 + 2) (by omega)).2 (by omega)
       have q2 := (hE_0_2_2 (r_0 + 2) (by omega)).2 (by omega)
       have q3 := (hE_0_2_3 (r_0 + 2) (by omega)).1 (by omega)
       omega)
    | (have q1 := (hE_0_2_1 (r_0 + 2) (by omega)).2 (by omega)
       have q2 := (hE_0_2_2 (r_0 + 2) (by omega)).2 (by omega)
       have q3 := (hE_0_2_3 (r_0 + 2) (by omega)).2 (by omega)
       omega)
def o_Mo_edgeItem_16 : or_T := (81, 13, [(0, (2, 0, 0, [165])), (2, (0, 0, 2000, [])), (5, (0, -1, 23, [])), (7, (0, 0, 2000, [])), (9, (0, 1, 1, []))], [(20, [3], [50, 1, 0, 8, 1, 3, 2, 0, 8, 0, 0]), (20, [9, 3], [50, 2, 0, 1012, 1008, 4, 6, 1, 2, 1, 0, 0, 1, 2, 7, 1, 3, 2, 1, 12, 0, 3, 1, 3, 2, 1, 8, 0, 0]), (20, [3], [50, 3, 0, 12, 11, 15, 2, 21, 4, 7, 1, 3, 2, 0, 12, 0, 1, 0, 3, 2, 0, 11, 4, 3, 2, 0, 15, 0, 8, 3, 7, 1, 3, 2, 0, 12, 0, 0, 0, 7, 4, 3, 2, 0, 15, 0, 1, 2, 0, 11]), (20, [2, 3], [30, 0, 1, 0, 0, -1, 1, 11]), (20, [3, 2], [50, 3, 0, 8, 12, 11, 3, 7, 0, 2, 0, 1, 2, 0, 8, 3, 7, 1, 3, 2, 0, 12, 0, 0, 0, 6, 4, 2, 1, 1, 0, 1, 2, 0, 11]), (20, [3, 5], [31, 1, -1, -1, 1, 8, 0, -1, 0, 0]), (24, [0, 3], []), (20, [7, 3], [30, 2000, 1, 0, 0, 1, 1, 11]), (20, [7, 3], [30, -2000, -1, 0, 0, -1, 1, 11])], [], [(0, 0, 2000, [])], [(20, [13, 3], [30, 0, 1, 0, 0, -1, 1, 11]), (23, [2, 13], [-1, 1, -1]), (23, [7, 13], [-2000, -1, -1])], [], [])
theorem oo_Mo_edgeItem_16 {kA : Nat → ClassId} : or_ok PRD kA GG o_Mo_edgeItem_16 := by
  refine or_mk fun A ta ws vs hD hth hl => ?_
  intro t0 r0 t2 k2 t5 k5 t7 k7 t9 k9 f1 f3 f6 f7 f8 f9 f12 f14 f15
  replace f1 := shm_1998 f1
  replace f3 := shm_717 f3
  replace f6 := shm_1398 f6
  replace f7 := shm_1395 f7
  replace f8 := shm_1660 f8
  replace f9 := shm_1982 f9
  replace f12 := shm_5 f12
  replace f14 := shm_1892 f14
  replace f15 := shm_1893 f15
  have q3 : n_v vs 3 = n_v vs 0 := f12.symm
  simp only [q3] at f1 f3 f6 f7 f8 f9 f14 f15
  have kz_0_8 := fdq_14 hD hth r0
  have kz_0_11 := fdq_273 hD hth r0
  have kz_0_12 := fdq_186 hD hth r0
  have kz_0_15 := fdq_274 hD hth r0
  obtain ⟨x, ex, hx⟩ := iv_ex (ta := ta) (lo := 0) (hi := 2000) (z := w_fi ws (n_v vs 0) 11) (by omega) (by omega) (by omega) (by omega)
  have ex2 : v_iv (Value.int x) = w_fi ws (n_v vs 0) 11 := ex
  have ex3 : 0 ≤ v_iv (Value.int x) ∧ v_iv (Value.int x) ≤ 2000 := tv_rng hx
  have e_2 : n_v (vs ++ [Value.int x]) 2 = n_v vs 2 := n_v_old (by rw [hl]; decide)
  have e_3 : n_v (vs ++ [Value.int x]) 3 = n_v vs 3 := n_v_old (by rw [hl]; decide)
  have e_7 : n_v (vs ++ [Value.int x]) 7 = n_v vs 7 := n_v_old (by rw [hl]; decide)
  have e_13 : n_v (vs ++ [Value.int x]) 13 = Value.int x := n_v_new hl
  have nf0 : fc_1 PRD (20, [13, 3], [30, 0, 1, 0, 0, -1, 1, 11]) ws (vs ++ [Value.int x]) := by
    refine ⟨nf_inA hl rfl, sgq_1395 ?_⟩
    · show 1 * v_iv (n_v (vs ++ [Value.int x]) 13) + ((-1) * w_fi ws (n_v (vs ++ [Value.int x]) 3) 11 + 0) ≤ 0
      simp only [e_3, e_13, q3]
      exact vc_Mo_edgeItem_16_0 (w_fi ws (n_v vs 0) 5) (w_fi ws (n_v vs 0) 11) (v_iv (Value.int x)) kz_0_11 ex2
  have nf1 : fc_1 PRD (23, [2, 13], [-1, 1, -1]) ws (vs ++ [Value.int x]) := by
    refine ⟨nf_inA hl rfl, sgq_211 ?_⟩
    · show 1 * v_iv (n_v (vs ++ [Value.int x]) 2) + ((-1) * v_iv (n_v (vs ++ [Value.int x]) 13) + 0) ≤ (-1)
      simp only [e_2, e_13]
      exact vc_Mo_edgeItem_16_1 (v_iv (n_v vs 2)) (v_iv (n_v vs 5)) (v_iv (n_v vs 9)) (w_fi ws (n_v vs 0) 8) (w_fi ws (n_v vs 0) 12) (w_fi ws (n_v vs 0) 5) (w_fi ws (n_v vs 0) 15) (w_fi ws (n_v vs 0) 11) (v_iv (Value.int x)) k2 k5 k9 f1 f3 f6 f7 f8 f9 kz_0_8 kz_0_11 kz_0_12 kz_0_15 ex2
  have nf2 : fc_1 PRD (23, [7, 13], [-2000, -1, -1]) ws (vs ++ [Value.int x]) := by
    refine ⟨nf_inA hl rfl, sgq_1894 ?_⟩
    · show (-1) * v_iv (n_v (vs ++ [Value.int x]) 7) + ((-1) * v_iv (n_v (vs ++ [Value.int x]) 13) + 0) ≤ (-2000)
      simp only [e_7, e_13]
      exact vc_Mo_edgeItem_16_2 (v_iv (n_v vs 7)) (w_fi ws (n_v vs 0) 5) (w_fi ws (n_v vs 0) 11) (v_iv (Value.int x)) k7 f14 f15 kz_0_11 ex2
  exact ⟨(fun _ h => (by cases h)), [Value.int x], ag_one hx, List.forall_mem_cons.mpr ⟨⟨show (20 : Nat) < 100 from by decide, nf0⟩, List.forall_mem_cons.mpr ⟨⟨show (23 : Nat) < 100 from by decide, nf1⟩, List.forall_mem_cons.mpr ⟨⟨show (23 : Nat) < 100 from by decide, nf2⟩, (fun _ h => (by cases h))⟩⟩⟩, (fun _ h => (by cases h))⟩
set_option maxHeartbeats 4000000 in
theorem vc_Mo_edgeItem_17_0 (x2 : Int) (r_0 : Int) (gx : Int) (k2 : 0 ≤ x2 ∧ x2 ≤ 2000) (ex2 : gx = x2) : 1 * gx + ((-1) * x2 + 0) ≤ 0 := by
  first
    | omega
    | (have q1 := (hE_0_2_1 (r_0 + 2) (by omega)).2 (by omega)
       have q2 := (hE_0_2_2 (r_0 + 2) (by omega)).2 (by omega)
       omega)
    | (have q1 := (hE_0_2_1 (r_0 + 1) (by omega)).2 (by omega)
       have q2 := (hE_0_2_2 (r_0 + 1) (by omega)).2 (by omega)
       omega)
    | (have q1 := (hE_0_2_1 (r_0 + 2) (by omega)).2 (by omega)
       omega)
    | (have q1 := (hE_0_2_1 (r_0 + 1) (by omega)).2 (by omega)
       omega)
    | (have q1 := (hE_0_2_1 (r_0 + 2) (by omega)).2 (by omega)
       have q2 := (hE_0_2_2 (r_0 + 2) (by omega)).2 (by omega)
       have q3 := (hE_0_2_3 (r_0 + 2) (by omega)).1 (by omega)
       omega)
    | (have q1 := (hE_0_2_1 (r_0 + 2) (by omega)).2 (by omega)
       have q2 := (hE_0_2_2 (r_0 + 2) (by omega)).2 (by omega)
       have q3 := (hE_0_2_3 (r_0 + 2) (by omega)).2 (by omega)
       omega)
set_option maxHeartbeats 4000000 in
theorem vc_Mo_edgeItem_17_1 (x2 : Int) (r_0 : Int) (gx : Int) (k2 : 0 ≤ x2 ∧ x2 ≤ 2000) (ex2 : gx = x2) : (-1) * gx + (1 * x2 + 0) ≤ 0 := by
  first
    | omega
    | (have q1 := (hE_0_2_1 (r_0 + 2) (by omega)).2 (by omega)
       have q2 := (hE_0_2_2 (r_0 + 2) (by omega)).2 (by omega)
       omega)
    | (have q1 := (hE_0_2_1 (r_0 + 1) (by omega)).2 (by omega)
       have q2 := (hE_0_2_2 (r_0 + 1) (by omega)).2 (by omega)
       omega)
    | (have q1 := (hE_0_2_1 (r_0 + 2) (by omega)).2 (by omega)
       omega)
    | (have q1 := (hE_0_2_1 (r_0 + 1) (by omega)).2 (by omega)
       omega)
    | (have q1 := (hE_0_2_1 (r_0 + 2) (by omega)).2 (by omega)
       have q2 := (hE_0_2_2 (r_0 + 2) (by omega)).2 (by omega)
       have q3 := (hE_0_2_3 (r_0 + 2) (by omega)).1 (by omega)
       omega)
    | (have q1 := (hE_0_2_1 (r_0 + 2) (by omega)).2 (by omega)
       have q2 := (hE_0_2_2 (r_0 + 2) (by omega)).2 (by omega)
       have q3 := (hE_0_2_3 (r_0 + 2) (by omega)).2 (by omega)
       omega)
set_option maxHeartbeats 4000000 in
theorem vc_Mo_edgeItem_17_2 (r_0 : Int) (from_0 : Int) (pos_0 : Int) (f10 : 1 * from_0 + ((-1) * pos_0 + 0) ≤ 0) (kz_0_11 : 0 ≤ pos_0 ∧ pos_0 ≤ 2000) (kz_0_15 : 0 ≤ from_0 ∧ from_0 ≤ 2000) : 1 * from_0 + ((-1) * pos_0 + 0) ≤ 0 := by
  first
    | omega
    | (have q1 := (hE_0_2_1 (r_0 + 2) (by omega)).2 (by omega)
       have q2 := (hE_0_2_2 (r_0 + 2) (by omega)).2 (by omega)
       omega)
    | (have q1 := (hE_0_2_1 (r_0 + 1) (by omega)).2 (by omega)
       have q2 := (hE_0_2_2 (r_0 + 1) (by omega)).2 (by omega)
       omega)
    | (have q1 := (hE_0_2_1 (r_0 + 2) (by omega)).2 (by omega)
       omega)
    | (have q1 := (hE_0_2_1 (r_0 + 1) (by omega)).2 (by omega)
       omega)
    | (have q1 := (hE_0_2_1 (r_0 + 2) (by omega)).2 (by omega)
       have q2 := (hE_0_2_2 (r_0 + 2) (by omega)).2 (by omega)
       have q3 := (hE_0_2_3 (r_0 + 2) (by omega)).1 (by omega)
       omega)
    | (have q1 := (hE_0_2_1 (r_0 + 2) (by omega)).2 (by omega)
       have q2 := (hE_0_2_2 (r_0 + 2) (by omega)).2 (by omega)
       have q3 := (hE_0_2_3 (r_0 + 2) (by omega)).2 (by omega)
       omega)
set_option maxHeartbeats 4000000 in
theorem vc_Mo_edgeItem_17_3 (r_0 : Int) (from_0 : Int) (pos_0 : Int) (kind_0 : Int) (f11 : ((kind_0 = 1) → (pos_0 ≤ (from_0 + 8))) ∧ ((kind_0 = 0) ∨ ((from_0 + 1) ≤ pos_0))) (kz_0_11 : 0 ≤ pos_0 ∧ pos_0 ≤ 2000) (kz_0_12 : 0 ≤ kind_0 ∧ kind_0 ≤ 4) (kz_0_15 : 0 ≤ from_0 ∧ from_0 ≤ 2000) : ((kind_0 = 1) → (pos_0 ≤ (from_0 + 8))) ∧ ((kind_0 = 0) ∨ ((from_0 + 1) ≤ pos_0)) := by
  first
    | omega
    | (have q1 := (hE_0_2_1 (r_0 + 2) (by omega)).2 (by omega)
       have q2 := (hE_0_2_2 (r_0 + 2) (by omega)).2 (by omega)
       omega)
    | (have q1 := (hE_0_2_1 (r_0 + 1) (by omega)).2 (by omega)
       have q2 := (hE_0_2_2 (r_0 + 1) (by omega)).2 (by omega)
       omega)
    | (have q1 := (hE_0_2_1 (r_0 + 2) (by omega)).2 (by omega)
       omega)
    | (have q1 := (hE_0_2_1 (r_0 + 1) (by omega)).2 (by omega)
       omega)
    | (have q1 := (hE_0_2_1 (r_0 + 2) (by omega)).2 (by omega)
       have q2 := (hE_0_2_2 (r_0 + 2) (by omega)).2 (by omega)
       have q3 := (hE_0_2_3 (r_0 + 2) (by omega)).1 (by omega)
       omega)
    | (have q1 := (hE_0_2_1 (r_0 + 2) (by omega)).2 (by omega)
       have q2 := (hE_0_2_2 (r_0 + 2) (by omega)).2 (by omega)
       have q3 := (hE_0_2_3 (r_0 + 2) (by omega)).2 (by omega)
       omega)
set_option maxHeartbeats 4000000 in
theorem vc_Mo_edgeItem_17_4 (x2 : Int) (x13 : Int) (r_0 : Int) (from_0 : Int) (pos_0 : Int) (gx : Int) (gy : Int) (k2 : 0 ≤ x2 ∧ x2 ≤ 2000) (k13 : 0 ≤ x13 ∧ x13 ≤ 2000) (f0 : 1 * x2 + ((-1) * x13 + 0) ≤ (-1)) (f10 : 1 * from_0 + ((-1) * pos_0 + 0) ≤ 0) (f12 : 1 * x13 + ((-1) * from_0 + 0) ≤ 0) (kz_0_11 : 0 ≤ pos_0 ∧ pos_0 ≤ 2000) (kz_0_15 : 0 ≤ from_0 ∧ from_0 ≤ 2000) (ex2 : gx = x2) (ey2 : gy = from_0) : 1 * gx + ((-1) * pos_0 + 0) ≤ 0 := by
  first
    | omega
    | (have q1 := (hE_0_2_1 (r_0 + 2) (by omega)).2 (by omega)
       have q2 := (hE_0_2_2 (r_0 + 2) (by omega)).2 (by omega)
       omega)
    | (have q1 := (hE_0_2_1 (r_0 + 1) (by omega)).2 (by omega)
       have q2 := (hE_0_2_2 (r_0 + 1) (by omega)).2 (by omega)
       omega)
    | (have q1 := (hE_0_2_1 (r_0 + 2) (by omega)).2 (by omega)
       omega)
    | (have q1 := (hE_0_2_1 (r_0 + 1) (by omega)).2 (by omega)
       omega)
    | (have q1 := (hE_0_2_1 (r_0 + 2) (by omega)).2 (by omega)
       have q2 := (hE_0_2_2 (r_0 + 2) (by omega)).2 (by omega)
       have q3 := (hE_0_2_3 (r_0 + 2) (by omega)).1 (by omega)
       omega)
    | (have q1 := (hE_0_2_1 (r_0 + 2) (by omega)).2 (by omega)
       have q2 := (hE_0_2_2 (r_0 + 2) (by omega)).2 (by omega)
       have q3 := (hE_0_2_3 (r_0 + 2) (by omega)).2 (by omega)
       omega)
set_option maxHeartbeats 4000000 in
theorem vc_Mo_edgeItem_17_5 (r_0 : Int) (from_0 : Int) (pos_0 : Int) (kind_0 : Int) (gy : Int) (f10 : 1 * from_0 + ((-1) * pos_0 + 0) ≤ 0) (f11 : ((kind_0 = 1) → (pos_0 ≤ (from_0 + 8))) ∧ ((kind_0 = 0) ∨ ((from_0 + 1) ≤ pos_0))) (kz_0_11 : 0 ≤ pos_0 ∧ pos_0 ≤ 2000) (kz_0_12 : 0 ≤ kind_0 ∧ kind_0 ≤ 4) (kz_0_15 : 0 ≤ from_0 ∧ from_0 ≤ 2000) (ey2 : gy = from_0) : (kind_0 = 0) ∨ ((gy + 1) ≤ pos_0) := by
  first
    | omega
    | (have q1 := (hE_0_2_1 (r_0 + 2) (by omega)).2 (by omega)
       have q2 := (hE_0_2_2 (r_0 + 2) (by omega)).2 (by omega)
       omega)
    | (have q1 := (hE_0_2_1 (r_0 + 1) (by omega)).2 (by omega)
       have q2 := (hE_0_2_2 (r_0 + 1) (by omega)).2 (by omega)
       omega)
    | (have q1 := (hE_0_2_1 (r_0 + 2) (by omega)).2 (by omega)
       omega)
    | (have q1 := (hE_0_2_1 (r_0 + 1) (by omega)).2 (by omega)
       omega)
    | (have q1 := (hE_0_2_1 (r_0 + 2) (by omega)).2 (by omega)
       have q2 := (hE_0_2_2 (r_0 + 2) (by omega)).2 (by omega)
       have q3 := (hE_0_2_3 (r_0 + 2) (by omega)).1 (by omega)
       omega)
    | (have q1 := (hE_0_2_1 (r_0 + 2) (by omega)).2 (by omega)
       have q2 := (hE_0_2_2 (r_0 + 2) (by omega)).2 (by omega)
       have q3 := (hE_0_2_3 (r_0 + 2) (by omega)).2 (by omega)
       omega)
set_option maxHeartbeats 4000000 in
theorem vc_Mo_edgeItem_17_6 (x1 : Int) (all_0 : Int → Int) (r_0 : Int) (k1 : 0 ≤ x1 ∧ x1 ≤ 7) (f4 : (x1 + 1) ≤ all_0 ((r_0 + 2))) : (x1 + 1) ≤ all_0 ((r_0 + 2)) := by
  first
    | omega
    | (have q1 := (hE_0_2_1 (r_0 + 2) (by omega)).2 (by omega)
       have q2 := (hE_0_2_2 (r_0 + 2) (by omega)).2 (by omega)
       omega)
    | (have q1 := (hE_0_2_1 (r_0 + 1) (by omega)).2 (by omega)
       have q2 := (hE_0_2_2 (r_0 + 1) (by omega)).2 (by omega)
       omega)
    | (have q1 := (hE_0_2_1 (r_0 + 2) (by omega)).2 (by omega)
       omega)
    | (have q1 := (hE_0_2_1 (r_0 + 1) (by omega)).2 (by omega)
       omega)
    | (have q1 := (hE_0_2_1 (r_0 + 2) (by omega)).2 (by omega)
       have q2 := (hE_0_2_2 (r_0 + 2) (by omega)).2 (by omega)
       have q3 := (hE_0_2_3 (r_0 + 2) (by omega)).1 (by omega)
       omega)
    | (have q1 := (hE_0_2_1 (r_0 + 2) (by omega)).2 (by omega)
       have q2 := (hE_0_2_2 (r_0 + 2) (by omega)).2 (by omega)
       have q3 := (hE_0_2_3 (r_0 + 2) (by omega)).2 (by omega)
       omega)
set_option maxHeartbeats 4000000 in
theorem vc_Mo_edgeItem_17_7 (all_0 : Int → Int) (r_0 : Int) (now_0 : Int → Int) (latest_0 : Int → Int) (f6 : RWS (r_0) (all_0) (now_0) (latest_0)) : RWS (r_0) (all_0) (now_0) (latest_0) := by
  first
    | assumption
set_option maxHeartbeats 4000000 in
theorem vc_Mo_edgeItem_17_8 (x5 : Int) (fault_0 : Int) (all_0 : Int → Int) (r_0 : Int) (k5 : (-1) ≤ x5 ∧ x5 ≤ 23) (f3 : fault_0 = 0) (f7 : EDI (r_0) (fault_0) (all_0) (x5)) (kz_0_8 : 0 ≤ fault_0 ∧ fault_0 ≤ 5) : MEB (r_0) (all_0) (x5) := by
  intro q
  exact (‹EDI _ _ _ _› (by omega)).2
set_option maxHeartbeats 4000000 in
theorem vc_Mo_edgeItem_17_9 (x7 : Int) (x13 : Int) (r_0 : Int) (from_0 : Int) (gy : Int) (k7 : 0 ≤ x7 ∧ x7 ≤ 2000) (k13 : 0 ≤ x13 ∧ x13 ≤ 2000) (f1 : (-1) * x7 + ((-1) * x13 + 0) ≤ (-2000)) (f12 : 1 * x13 + ((-1) * from_0 + 0) ≤ 0) (kz_0_15 : 0 ≤ from_0 ∧ from_0 ≤ 2000) (ey2 : gy = from_0) : (-1) * x7 + ((-1) * gy + 0) ≤ (-2000) := by
  first
    | omega
    | (have q1 := (hE_0_2_1 (r_0 + 2) (by omega)).2 (by omega)
       have q2 := (hE_0_2_2 (r_0 + 2) (by omega)).2 (by omega)
       omega)
    | (have q1 := (hE_0_2_1 (r_0 + 1) (by omega)).2 (by omega)
       have q2 := (hE_0_2_2 (r_0 + 1) (by omega)).2 (by omega)
       omega)
    | (have q1 := (hE_0_2_1 (r_0 + 2) (by omega)).2 (by omega)
       omega)
    | (have q1 := (hE_0_2_1 (r_0 + 1) (by omega)).2 (by omega)
       omega)
    | (have q1 := (hE_0_2_1 (r_0 + 2) (by omega)).2 (by omega)
       have q2 := (hE_0_2_2 (r_0 + 2) (by omega)).2 (by omega)
       have q3 := (hE_0_2_3 (r_0 + 2) (by omega)).1 (by omega)
       omega)
    | (have q1 := (hE_0_2_1 (r_0 + 2) (by omega)).2 (by omega)
       have q2 := (hE_0_2_2 (r_0 + 2) (by omega)).2 (by omega)
       have q3 := (hE_0_2_3 (r_0 + 2) (by omega)).2 (by omega)
       omega)
set_option maxHeartbeats 4000000 in
theorem vc_Mo_edgeItem_17_10 (x2 : Int) (x13 : Int) (r_0 : Int) (from_0 : Int) (gx : Int) (gy : Int) (k2 : 0 ≤ x2 ∧ x2 ≤ 2000) (k13 : 0 ≤ x13 ∧ x13 ≤ 2000) (f0 : 1 * x2 + ((-1) * x13 + 0) ≤ (-1)) (f12 : 1 * x13 + ((-1) * from_0 + 0) ≤ 0) (kz_0_15 : 0 ≤ from_0 ∧ from_0 ≤ 2000) (ex2 : gx = x2) (ey2 : gy = from_0) : 1 * x2 + ((-1) * gy + 0) ≤ (-1) := by
  first
    | omega
    | (have q1 := (hE_0_2_1 (r_0 + 2) (by omega)).2 (by omega)
       have q2 := (hE_0_2_2 (r_0 + 2) (by omega)).2 (by omega)
       omega)
    | (have q1 := (hE_0_2_1 (r_0 + 1) (by omega)).2 (by omega)
       have q2 := (hE_0_2_2 (r_0 + 1) (by omega)).2 (by omega)
       omega)
    | (have q1 := (hE_0_2_1 (r_0 + 2) (by omega)).2 (by omega)
       omega)
    | (have q1 := (hE_0_2_1 (r_0 + 1) (by omega)).2 (by omega)
       omega)
    | (have q1 := (hE_0_2_1 (r_0 + 2) (by omega)).2 (by omega)
       have q2 := (hE_0_2_2 (r_0 + 2) (by omega)).2 (by omega)
       have q3 := (hE_0_2_3 (r_0 + 2) (by omega)).1 (by omega)
       omega)
    | (have q1 := (hE_0_2_1 (r_0 + 2) (by omega)).2 (by omega)
       have q2 := (hE_0_2_2 (r_0 + 2) (by omega)).2 (by omega)
       have q3 := (hE_0_2_3 (r_0 + 2) (by omega)).2 (by omega)
       omega)
def o_Mo_edgeItem_17 : or_T := (87, 14, [(0, (2, 0, 0, [165])), (1, (0, 0, 7, [])), (2, (0, 0, 2000, [])), (5, (0, -1, 23, [])), (7, (0, 0, 2000, [])), (13, (0, 0, 2000, []))], [(23, [2, 13], [-1, 1, -1]), (23, [7, 13], [-2000, -1, -1]), (20, [3], [50, 1, 0, 8, 1, 3, 2, 0, 8, 0, 0]), (20, [4, 3], [50, 1, 1, 1005, 1002, 0, 6, 4, 2, 1, 0, 0, 1, 3, 1, 2, 4, 3, 2, 1, 5, 0, 2]), (20, [3], [60, 1, 3, 199, 5, 2, 3, 4]), (20, [3, 5], [60, 2, 1, 242, 5, 8, 2]), (24, [0, 3], []), (24, [1, 4], []), (20, [3, 3], [30, 0, 1, 1, 15, -1, 1, 11]), (20, [3], [50, 3, 0, 12, 11, 15, 2, 21, 4, 7, 1, 3, 2, 0, 12, 0, 1, 0, 3, 2, 0, 11, 4, 3, 2, 0, 15, 0, 8, 3, 7, 1, 3, 2, 0, 12, 0, 0, 0, 7, 4, 3, 2, 0, 15, 0, 1, 2, 0, 11]), (20, [13, 3], [30, 0, 1, 0, 0, -1, 1, 15])], [], [(0, 0, 2000, []), (0, 0, 2000, [])], [(23, [14, 2], [0, 1, -1]), (23, [14, 2], [0, -1, 1]), (20, [3, 3], [30, 0, 1, 1, 15, -1, 1, 11]), (20, [3], [50, 3, 0, 12, 11, 15, 2, 21, 4, 7, 1, 3, 2, 0, 12, 0, 1, 0, 3, 2, 0, 11, 4, 3, 2, 0, 15, 0, 8, 3, 7, 1, 3, 2, 0, 12, 0, 0, 0, 7, 4, 3, 2, 0, 15, 0, 1, 2, 0, 11]), (20, [14, 3], [30, 0, 1, 0, 0, -1, 1, 11]), (20, [3, 15], [50, 2, 0, 12, 11, 3, 7, 1, 3, 2, 0, 12, 0, 0, 0, 6, 4, 2, 1, 1, 0, 1, 2, 0, 11]), (20, [4, 3], [50, 1, 1, 1005, 1002, 0, 6, 4, 2, 1, 0, 0, 1, 3, 1, 2, 4, 3, 2, 1, 5, 0, 2]), (20, [3], [60, 1, 3, 199, 5, 2, 3, 4]), (20, [3, 5], [60, 1, 1, 241, 5, 2]), (23, [7, 15], [-2000, -1, -1]), (23, [2, 15], [-1, 1, -1])], [], [])
theorem oo_Mo_edgeItem_17 {kA : Nat → ClassId} : or_ok PRD kA GG o_Mo_edgeItem_17 := by
  refine or_mk fun A ta ws vs hD hth hl => ?_
  intro t0 r0 t1 k1 t2 k2 t5 k5 t7 k7 t13 k13 f0 f1 f3 f4 f6 f7 f8 f9 f10 f11 f12
  replace f0 := shm_211 f0
  replace f1 := shm_1894 f1
  replace f3 := shm_1998 f3
  replace f4 := shm_981 f4
  replace f6 := shm_952 f6
  replace f7 := shm_1996 f7
  replace f8 := shm_5 f8
  replace f9 := shm_5 f9
  replace f10 := shm_1397 f10
  replace f11 := shm_1398 f11
  replace f12 := shm_1396 f12
  have q3 : n_v vs 3 = n_v vs 0 := f8.symm
  have q4 : n_v vs 4 = n_v vs 1 := f9.symm
  simp only [q3, q4] at f3 f4 f6 f7 f10 f11 f12
  have kz_0_8 := fdq_14 hD hth r0
  have kz_0_11 := fdq_273 hD hth r0
  have kz_0_12 := fdq_186 hD hth r0
  have kz_0_15 := fdq_274 hD hth r0
  obtain ⟨x, ex, hx⟩ := iv_ex (ta := ta) (lo := 0) (hi := 2000) (z := v_iv (n_v vs 2)) (by omega) (by omega) (by omega) (by omega)
  have ex2 : v_iv (Value.int x) = v_iv (n_v vs 2) := ex
  have ex3 : 0 ≤ v_iv (Value.int x) ∧ v_iv (Value.int x) ≤ 2000 := tv_rng hx
  obtain ⟨y, ey, hy⟩ := iv_ex (ta := ta) (lo := 0) (hi := 2000) (z := w_fi ws (n_v vs 0) 15) (by omega) (by omega) (by omega) (by omega)
  have ey2 : v_iv (Value.int y) = w_fi ws (n_v vs 0) 15 := ey
  have ey3 : 0 ≤ v_iv (Value.int y) ∧ v_iv (Value.int y) ≤ 2000 := tv_rng hy
  have e_2 : n_v (vs ++ [Value.int x, Value.int y]) 2 = n_v vs 2 := n_v_old (by rw [hl]; decide)
  have e_3 : n_v (vs ++ [Value.int x, Value.int y]) 3 = n_v vs 3 := n_v_old (by rw [hl]; decide)
  have e_4 : n_v (vs ++ [Value.int x, Value.int y]) 4 = n_v vs 4 := n_v_old (by rw [hl]; decide)
  have e_5 : n_v (vs ++ [Value.int x, Value.int y]) 5 = n_v vs 5 := n_v_old (by rw [hl]; decide)
  have e_7 : n_v (vs ++ [Value.int x, Value.int y]) 7 = n_v vs 7 := n_v_old (by rw [hl]; decide)
  have e_14 : n_v (vs ++ [Value.int x, Value.int y]) 14 = Value.int x := n_v_new0 hl
  have e_15 : n_v (vs ++ [Value.int x, Value.int y]) 15 = Value.int y := n_v_new1 hl
  have nf0 : fc_1 PRD (23, [14, 2], [0, 1, -1]) ws (vs ++ [Value.int x, Value.int y]) := by
    refine ⟨nf_inA hl rfl, sgq_7 ?_⟩
    · show 1 * v_iv (n_v (vs ++ [Value.int x, Value.int y]) 14) + ((-1) * v_iv (n_v (vs ++ [Value.int x, Value.int y]) 2) + 0) ≤ 0
      simp only [e_2, e_14]
      exact vc_Mo_edgeItem_17_0 (v_iv (n_v vs 2)) (w_fi ws (n_v vs 0) 5) (v_iv (Value.int x)) k2 ex2
  have nf1 : fc_1 PRD (23, [14, 2], [0, -1, 1]) ws (vs ++ [Value.int x, Value.int y]) := by
    refine ⟨nf_inA hl rfl, sgq_22 ?_⟩
    · show (-1) * v_iv (n_v (vs ++ [Value.int x, Value.int y]) 14) + (1 * v_iv (n_v (vs ++ [Value.int x, Value.int y]) 2) + 0) ≤ 0
      simp only [e_2, e_14]
      exact vc_Mo_edgeItem_17_1 (v_iv (n_v vs 2)) (w_fi ws (n_v vs 0) 5) (v_iv (Value.int x)) k2 ex2
  have nf2 : fc_1 PRD (20, [3, 3], [30, 0, 1, 1, 15, -1, 1, 11]) ws (vs ++ [Value.int x, Value.int y]) := by
    refine ⟨nf_inA hl rfl, sgq_1397 ?_⟩
    · show 1 * w_fi ws (n_v (vs ++ [Value.int x, Value.int y]) 3) 15 + ((-1) * w_fi ws (n_v (vs ++ [Value.int x, Value.int y]) 3) 11 + 0) ≤ 0
      simp only [e_3, q3]
      exact vc_Mo_edgeItem_17_2 (w_fi ws (n_v vs 0) 5) (w_fi ws (n_v vs 0) 15) (w_fi ws (n_v vs 0) 11) f10 kz_0_11 kz_0_15
  have nf3 : fc_1 PRD (20, [3], [50, 3, 0, 12, 11, 15, 2, 21, 4, 7, 1, 3, 2, 0, 12, 0, 1, 0, 3, 2, 0, 11, 4, 3, 2, 0, 15, 0, 8, 3, 7, 1, 3, 2, 0, 12, 0, 0, 0, 7, 4, 3, 2, 0, 15, 0, 1, 2, 0, 11]) ws (vs ++ [Value.int x, Value.int y]) := by
    refine ⟨nf_inA hl rfl, sgq_1398 ?_⟩
    · show ((w_fi ws (n_v (vs ++ [Value.int x, Value.int y]) 3) 12 = 1) → (w_fi ws (n_v (vs ++ [Value.int x, Value.int y]) 3) 11 ≤ (w_fi ws (n_v (vs ++ [Value.int x, Value.int y]) 3) 15 + 8))) ∧ ((w_fi ws (n_v (vs ++ [Value.int x, Value.int y]) 3) 12 = 0) ∨ ((w_fi ws (n_v (vs ++ [Value.int x, Value.int y]) 3) 15 + 1) ≤ w_fi ws (n_v (vs ++ [Value.int x, Value.int y]) 3) 11))
      simp only [e_3, q3]
      exact vc_Mo_edgeItem_17_3 (w_fi ws (n_v vs 0) 5) (w_fi ws (n_v vs 0) 15) (w_fi ws (n_v vs 0) 11) (w_fi ws (n_v vs 0) 12) f11 kz_0_11 kz_0_12 kz_0_15
  have nf4 : fc_1 PRD (20, [14, 3], [30, 0, 1, 0, 0, -1, 1, 11]) ws (vs ++ [Value.int x, Value.int y]) := by
    refine ⟨nf_inA hl rfl, sgq_1395 ?_⟩
    · show 1 * v_iv (n_v (vs ++ [Value.int x, Value.int y]) 14) + ((-1) * w_fi ws (n_v (vs ++ [Value.int x, Value.int y]) 3) 11 + 0) ≤ 0
      simp only [e_3, e_14, q3]
      exact vc_Mo_edgeItem_17_4 (v_iv (n_v vs 2)) (v_iv (n_v vs 13)) (w_fi ws (n_v vs 0) 5) (w_fi ws (n_v vs 0) 15) (w_fi ws (n_v vs 0) 11) (v_iv (Value.int x)) (v_iv (Value.int y)) k2 k13 f0 f10 f12 kz_0_11 kz_0_15 ex2 ey2
  have nf5 : fc_1 PRD (20, [3, 15], [50, 2, 0, 12, 11, 3, 7, 1, 3, 2, 0, 12, 0, 0, 0, 6, 4, 2, 1, 1, 0, 1, 2, 0, 11]) ws (vs ++ [Value.int x, Value.int y]) := by
    refine ⟨nf_inA hl rfl, sgq_1978 ?_⟩
    · show (w_fi ws (n_v (vs ++ [Value.int x, Value.int y]) 3) 12 = 0) ∨ ((v_iv (n_v (vs ++ [Value.int x, Value.int y]) 15) + 1) ≤ w_fi ws (n_v (vs ++ [Value.int x, Value.int y]) 3) 11)
      simp only [e_3, e_15, q3]
      exact vc_Mo_edgeItem_17_5 (w_fi ws (n_v vs 0) 5) (w_fi ws (n_v vs 0) 15) (w_fi ws (n_v vs 0) 11) (w_fi ws (n_v vs 0) 12) (v_iv (Value.int y)) f10 f11 kz_0_11 kz_0_12 kz_0_15 ey2
  have nf6 : fc_1 PRD (20, [4, 3], [50, 1, 1, 1005, 1002, 0, 6, 4, 2, 1, 0, 0, 1, 3, 1, 2, 4, 3, 2, 1, 5, 0, 2]) ws (vs ++ [Value.int x, Value.int y]) := by
    refine ⟨nf_inA hl rfl, sgq_981 ?_⟩
    · show (v_iv (n_v (vs ++ [Value.int x, Value.int y]) 4) + 1) ≤ w_ei ws (w_ar ws (n_v (vs ++ [Value.int x, Value.int y]) 3) 2) ((w_fi ws (n_v (vs ++ [Value.int x, Value.int y]) 3) 5 + 2))
      simp only [e_3, e_4, q3, q4]
      exact vc_Mo_edgeItem_17_6 (v_iv (n_v vs 1)) (w_ei ws (w_ar ws (n_v vs 0) 2)) (w_fi ws (n_v vs 0) 5) k1 f4
  have nf7 : fc_1 PRD (20, [3], [60, 1, 3, 199, 5, 2, 3, 4]) ws (vs ++ [Value.int x, Value.int y]) := by
    refine ⟨nf_inA hl rfl, sgq_952 ?_⟩
    · show RWS (w_fi ws (n_v (vs ++ [Value.int x, Value.int y]) 3) 5) (w_ei ws (w_ar ws (n_v (vs ++ [Value.int x, Value.int y]) 3) 2)) (w_ei ws (w_ar ws (n_v (vs ++ [Value.int x, Value.int y]) 3) 3)) (w_ei ws (w_ar ws (n_v (vs ++ [Value.int x, Value.int y]) 3) 4))
      simp only [e_3, q3]
      exact vc_Mo_edgeItem_17_7 (w_ei ws (w_ar ws (n_v vs 0) 2)) (w_fi ws (n_v vs 0) 5) (w_ei ws (w_ar ws (n_v vs 0) 3)) (w_ei ws (w_ar ws (n_v vs 0) 4)) f6
  have nf8 : fc_1 PRD (20, [3, 5], [60, 1, 1, 241, 5, 2]) ws (vs ++ [Value.int x, Value.int y]) := by
    refine ⟨nf_inA hl rfl, sgq_1979 ?_⟩
    · show MEB (w_fi ws (n_v (vs ++ [Value.int x, Value.int y]) 3) 5) (w_ei ws (w_ar ws (n_v (vs ++ [Value.int x, Value.int y]) 3) 2)) (v_iv (n_v (vs ++ [Value.int x, Value.int y]) 5))
      simp only [e_3, e_5, q3]
      exact vc_Mo_edgeItem_17_8 (v_iv (n_v vs 5)) (w_fi ws (n_v vs 0) 8) (w_ei ws (w_ar ws (n_v vs 0) 2)) (w_fi ws (n_v vs 0) 5) k5 f3 f7 kz_0_8
  have nf9 : fc_1 PRD (23, [7, 15], [-2000, -1, -1]) ws (vs ++ [Value.int x, Value.int y]) := by
    refine ⟨nf_inA hl rfl, sgq_1894 ?_⟩
    · show (-1) * v_iv (n_v (vs ++ [Value.int x, Value.int y]) 7) + ((-1) * v_iv (n_v (vs ++ [Value.int x, Value.int y]) 15) + 0) ≤ (-2000)
      simp only [e_7, e_15]
      exact vc_Mo_edgeItem_17_9 (v_iv (n_v vs 7)) (v_iv (n_v vs 13)) (w_fi ws (n_v vs 0) 5) (w_fi ws (n_v vs 0) 15) (v_iv (Value.int y)) k7 k13 f1 f12 kz_0_15 ey2
  have nf10 : fc_1 PRD (23, [2, 15], [-1, 1, -1]) ws (vs ++ [Value.int x, Value.int y]) := by
    refine ⟨nf_inA hl rfl, sgq_211 ?_⟩
    · show 1 * v_iv (n_v (vs ++ [Value.int x, Value.int y]) 2) + ((-1) * v_iv (n_v (vs ++ [Value.int x, Value.int y]) 15) + 0) ≤ (-1)
      simp only [e_2, e_15]
      exact vc_Mo_edgeItem_17_10 (v_iv (n_v vs 2)) (v_iv (n_v vs 13)) (w_fi ws (n_v vs 0) 5) (w_fi ws (n_v vs 0) 15) (v_iv (Value.int x)) (v_iv (Value.int y)) k2 k13 f0 f12 kz_0_15 ex2 ey2
  exact ⟨(fun _ h => (by cases h)), [Value.int x, Value.int y], ag_two hx hy, List.forall_mem_cons.mpr ⟨⟨show (23 : Nat) < 100 from by decide, nf0⟩, List.forall_mem_cons.mpr ⟨⟨show (23 : Nat) < 100 from by decide, nf1⟩, List.forall_mem_cons.mpr ⟨⟨show (20 : Nat) < 100 from by decide, nf2⟩, List.forall_mem_cons.mpr ⟨⟨show (20 : Nat) < 100 from by decide, nf3⟩, List.forall_mem_cons.mpr ⟨⟨show (20 : Nat) < 100 from by decide, nf4⟩, List.forall_mem_cons.mpr ⟨⟨show (20 : Nat) < 100 from by decide, nf5⟩, List.forall_mem_cons.mpr ⟨⟨show (20 : Nat) < 100 from by decide, nf6⟩, List.forall_mem_cons.mpr ⟨⟨show (20 : Nat) < 100 from by decide, nf7⟩, List.forall_mem_cons.mpr ⟨⟨show (20 : Nat) < 100 from by decide, nf8⟩, List.forall_mem_cons.mpr ⟨⟨show (23 : Nat) < 100 from by decide, nf9⟩, List.forall_mem_cons.mpr ⟨⟨show (23 : Nat) < 100 from by decide, nf10⟩, (fun _ h => (by cases h))⟩⟩⟩⟩⟩⟩⟩⟩⟩⟩⟩, (fun _ h => (by cases h))⟩
set_option maxHeartbeats 4000000 in
theorem vc_Mo_edgeItem_18_0 (x5 : Int) (x16 : Int) (x17 : Int) (fault_0 : Int) (all_0 : Int → Int) (r_0 : Int) (k5 : (-1) ≤ x5 ∧ x5 ≤ 23) (k16 : (-1) ≤ x16 ∧ x16 ≤ 23) (k17 : 0 ≤ x17 ∧ x17 ≤ 0) (g1 : x17 = fault_0) (f8 : (-1) * x5 + 0 ≤ 0) (f16 : ((-1) * fault_0 + 0 ≤ (-1)) ∨ ((-1) * x16 + 0 ≤ 0)) (f17 : (1 ≤ fault_0) ∨ ((x5 ≤ (-1)) ∨ (all_0 ((r_0 + 1)) ≤ 47))) (kz_0_8 : 0 ≤ fault_0 ∧ fault_0 ≤ 5) : (-1) * x16 + 0 ≤ 0 := by
  first
    | omega
    | (have q1 := (hE_0_2_1 (r_0 + 2) (by omega)).2 (by omega)
       have q2 := (hE_0_2_2 (r_0 + 2) (by omega)).2 (by omega)
       omega)
    | (have q1 := (hE_0_2_1 (r_0 + 1) (by omega)).2 (by omega)
       have q2 := (hE_0_2_2 (r_0 + 1) (by omega)).2 (by omega)
       omega)
    | (have q1 := (hE_0_2_1 (r_0 + 2) (by omega)).2 (by omega)
       omega)
    | (have q1 := (hE_0_2_1 (r_0 + 1) (by omega)).2 (by omega)
       omega)
    | (have q1 := (hE_0_2_1 (r_0 + 2) (by omega)).2 (by omega)
       have q2 := (hE_0_2_2 (r_0 + 2) (by omega)).2 (by omega)
       have q3 := (hE_0_2_3 (r_0 + 2) (by omega)).1 (by omega)
       omega)
    | (have q1 := (hE_0_2_1 (r_0 + 2) (by omega)).2 (by omega)
       have q2 := (hE_0_2_2 (r_0 + 2) (by omega)).2 (by omega)
       have q3 := (hE_0_2_3 (r_0 + 2) (by omega)).2 (by omega)
       omega)
def o_Mo_edgeItem_18 : or_T := (100, 18, [(0, (2, 0, 0, [165])), (5, (0, -1, 23, [])), (16, (0, -1, 23, [])), (17, (0, 0, 0, []))], [(9, [17, 3], [8]), (23, [5], [0, -1]), (24, [0, 3], []), (20, [3, 16], [31, 1, -1, -1, 1, 8, 0, -1, 0, 0]), (20, [3, 5], [50, 2, 1, 8, 5, 2, 3, 7, 0, 2, 0, 1, 2, 0, 8, 3, 6, 0, 2, 1, 1, 0, -1, 0, 10, 3, 0, 2, 4, 3, 2, 0, 5, 0, 1, 0, 47])], [], [], [(23, [16], [0, -1])], [], [])
theorem oo_Mo_edgeItem_18 {kA : Nat → ClassId} : or_ok PRD kA GG o_Mo_edgeItem_18 := by
  refine or_mk fun A ta ws vs hD hth hl => ?_
  intro t0 r0 t5 k5 t16 k16 t17 k17 f1 f8 f9 f16 f17
  replace f1 := shm_143 f1
  replace f9 := shm_5 f9
  replace f16 := shm_1982 f16
  replace f17 := shm_1983 f17
  have q3 : n_v vs 3 = n_v vs 0 := f9.symm
  simp only [q3] at f1 f16 f17
  have g1 : v_iv (n_v vs 17) = w_fi ws (n_v vs 0) 8 := congrArg v_iv f1
  have kz_0_8 := fdq_14 hD hth r0
  have nf0 : fc_1 PRD (23, [16], [0, -1]) ws (vs) := ⟨nf_in hl rfl, sgq_1013 (vc_Mo_edgeItem_18_0 (v_iv (n_v vs 5)) (v_iv (n_v vs 16)) (v_iv (n_v vs 17)) (w_fi ws (n_v vs 0) 8) (w_ei ws (w_ar ws (n_v vs 0) 2)) (w_fi ws (n_v vs 0) 5) k5 k16 k17 g1 (shm_1013 f8) f16 f17 kz_0_8)⟩
  refine ⟨(fun _ h => (by cases h)), [], trivial, ?_, (fun _ h => (by cases h))⟩
  rw [List.append_nil]
  exact List.forall_mem_cons.mpr ⟨⟨show (23 : Nat) < 100 from by decide, nf0⟩, (fun _ h => (by cases h))⟩
set_option maxHeartbeats 4000000 in
theorem vc_Mo_edgeItem_19_r0 (x16 : Int) (r_0 : Int) (k16 : (-1) ≤ x16 ∧ x16 ≤ 23) (f0 : (-1) * x16 + 0 ≤ 0) : 0 ≤ x16 ∧ x16 ≤ 23 := by
  first
    | omega
    | (have q1 := (hE_0_2_1 (r_0 + 2) (by omega)).2 (by omega)
       have q2 := (hE_0_2_2 (r_0 + 2) (by omega)).2 (by omega)
       omega)
    | (have q1 := (hE_0_2_1 (r_0 + 1) (by omega)).2 (by omega)
       have q2 := (hE_0_2_2 (r_0 + 1) (by omega)).2 (by omega)
       omega)
    | (have q1 := (hE_0_2_1 (r_0 + 2) (by omega)).2 (by omega)
       omega)
    | (have q1 := (hE_0_2_1 (r_0 + 1) (by omega)).2 (by omega)
       omega)
    | (have q1 := (hE_0_2_1 (r_0 + 2) (by omega)).2 (by omega)
       have q2 := (hE_0_2_2 (r_0 + 2) (by omega)).2 (by omega)
       have q3 := (hE_0_2_3 (r_0 + 2) (by omega)).1 (by omega)
       omega)
    | (have q1 := (hE_0_2_1 (r_0 + 2) (by omega)).2 (by omega)
       have q2 := (hE_0_2_2 (r_0 + 2) (by omega)).2 (by omega)
       have q3 := (hE_0_2_3 (r_0 + 2) (by omega)).2 (by omega)
       omega)
set_option maxHeartbeats 4000000 in
theorem vc_Mo_edgeItem_19_r1 (x5 : Int) (r_0 : Int) (k5 : (-1) ≤ x5 ∧ x5 ≤ 23) (f9 : (-1) * x5 + 0 ≤ 0) : 0 ≤ x5 ∧ x5 ≤ 23 := by
  first
    | omega
    | (have q1 := (hE_0_2_1 (r_0 + 2) (by omega)).2 (by omega)
       have q2 := (hE_0_2_2 (r_0 + 2) (by omega)).2 (by omega)
       omega)
    | (have q1 := (hE_0_2_1 (r_0 + 1) (by omega)).2 (by omega)
       have q2 := (hE_0_2_2 (r_0 + 1) (by omega)).2 (by omega)
       omega)
    | (have q1 := (hE_0_2_1 (r_0 + 2) (by omega)).2 (by omega)
       omega)
    | (have q1 := (hE_0_2_1 (r_0 + 1) (by omega)).2 (by omega)
       omega)
    | (have q1 := (hE_0_2_1 (r_0 + 2) (by omega)).2 (by omega)
       have q2 := (hE_0_2_2 (r_0 + 2) (by omega)).2 (by omega)
       have q3 := (hE_0_2_3 (r_0 + 2) (by omega)).1 (by omega)
       omega)
    | (have q1 := (hE_0_2_1 (r_0 + 2) (by omega)).2 (by omega)
       have q2 := (hE_0_2_2 (r_0 + 2) (by omega)).2 (by omega)
       have q3 := (hE_0_2_3 (r_0 + 2) (by omega)).2 (by omega)
       omega)
set_option maxHeartbeats 4000000 in
theorem vc_Mo_edgeItem_19_0 (x1 : Int) (x4 : Int) (r_0 : Int) (gx : Int) (k1 : 0 ≤ x1 ∧ x1 ≤ 7) (k4 : 0 ≤ x4 ∧ x4 ≤ 7) (d0 : x4 + (-4294967296) ≤ x1 ∧ x1 ≤ x4 + 0) (d1 : x1 + (-4294967296) ≤ x4 ∧ x4 ≤ x1 + 0) (ex2 : gx = x1) : 1 * gx + ((-1) * x1 + 0) ≤ 0 := by
  first
    | omega
    | (have q1 := (hE_0_2_1 (r_0 + 2) (by omega)).2 (by omega)
       have q2 := (hE_0_2_2 (r_0 + 2) (by omega)).2 (by omega)
       omega)
    | (have q1 := (hE_0_2_1 (r_0 + 1) (by omega)).2 (by omega)
       have q2 := (hE_0_2_2 (r_0 + 1) (by omega)).2 (by omega)
       omega)
    | (have q1 := (hE_0_2_1 (r_0 + 2) (by omega)).2 (by omega)
       omega)
    | (have q1 := (hE_0_2_1 (r_0 + 1) (by omega)).2 (by omega)
       omega)
    | (have q1 := (hE_0_2_1 (r_0 + 2) (by omega)).2 (by omega)
       have q2 := (hE_0_2_2 (r_0 + 2) (by omega)).2 (by omega)
       have q3 := (hE_0_2_3 (r_0 + 2) (by omega)).1 (by omega)
       omega)
    | (have q1 := (hE_0_2_1 (r_0 + 2) (by omega)).2 (by omega)
       have q2 := (hE_0_2_2 (r_0 + 2) (by omega)).2 (by omega)
       have q3 := (hE_0_2_3 (r_0 + 2) (by omega)).2 (by omega)
       omega)
set_option maxHeartbeats 4000000 in
theorem vc_Mo_edgeItem_19_1 (x1 : Int) (x4 : Int) (r_0 : Int) (gx : Int) (k1 : 0 ≤ x1 ∧ x1 ≤ 7) (k4 : 0 ≤ x4 ∧ x4 ≤ 7) (d0 : x4 + (-4294967296) ≤ x1 ∧ x1 ≤ x4 + 0) (d1 : x1 + (-4294967296) ≤ x4 ∧ x4 ≤ x1 + 0) (ex2 : gx = x1) : (-1) * gx + (1 * x1 + 0) ≤ 0 := by
  first
    | omega
    | (have q1 := (hE_0_2_1 (r_0 + 2) (by omega)).2 (by omega)
       have q2 := (hE_0_2_2 (r_0 + 2) (by omega)).2 (by omega)
       omega)
    | (have q1 := (hE_0_2_1 (r_0 + 1) (by omega)).2 (by omega)
       have q2 := (hE_0_2_2 (r_0 + 1) (by omega)).2 (by omega)
       omega)
    | (have q1 := (hE_0_2_1 (r_0 + 2) (by omega)).2 (by omega)
       omega)
    | (have q1 := (hE_0_2_1 (r_0 + 1) (by omega)).2 (by omega)
       omega)
    | (have q1 := (hE_0_2_1 (r_0 + 2) (by omega)).2 (by omega)
       have q2 := (hE_0_2_2 (r_0 + 2) (by omega)).2 (by omega)
       have q3 := (hE_0_2_3 (r_0 + 2) (by omega)).1 (by omega)
       omega)
    | (have q1 := (hE_0_2_1 (r_0 + 2) (by omega)).2 (by omega)
       have q2 := (hE_0_2_2 (r_0 + 2) (by omega)).2 (by omega)
       have q3 := (hE_0_2_3 (r_0 + 2) (by omega)).2 (by omega)
       omega)
set_option maxHeartbeats 4000000 in
theorem vc_Mo_edgeItem_19_2 (x5 : Int) (x17 : Int) (fault_0 : Int) (all_0 : Int → Int) (r_0 : Int) (k5 : (-1) ≤ x5 ∧ x5 ≤ 23) (k17 : 0 ≤ x17 ∧ x17 ≤ 0) (g2 : x17 = fault_0) (f9 : (-1) * x5 + 0 ≤ 0) (f18 : (1 ≤ fault_0) ∨ ((x5 ≤ (-1)) ∨ (all_0 ((r_0 + 1)) ≤ 47))) (kz_0_8 : 0 ≤ fault_0 ∧ fault_0 ≤ 5) : 1 * all_0 (r_0 + 1) + 0 ≤ 47 := by
  first
    | omega
    | (have q1 := (hE_0_2_1 (r_0 + 2) (by omega)).2 (by omega)
       have q2 := (hE_0_2_2 (r_0 + 2) (by omega)).2 (by omega)
       omega)
    | (have q1 := (hE_0_2_1 (r_0 + 1) (by omega)).2 (by omega)
       have q2 := (hE_0_2_2 (r_0 + 1) (by omega)).2 (by omega)
       omega)
    | (have q1 := (hE_0_2_1 (r_0 + 2) (by omega)).2 (by omega)
       omega)
    | (have q1 := (hE_0_2_1 (r_0 + 1) (by omega)).2 (by omega)
       omega)
    | (have q1 := (hE_0_2_1 (r_0 + 2) (by omega)).2 (by omega)
       have q2 := (hE_0_2_2 (r_0 + 2) (by omega)).2 (by omega)
       have q3 := (hE_0_2_3 (r_0 + 2) (by omega)).1 (by omega)
       omega)
    | (have q1 := (hE_0_2_1 (r_0 + 2) (by omega)).2 (by omega)
       have q2 := (hE_0_2_2 (r_0 + 2) (by omega)).2 (by omega)
       have q3 := (hE_0_2_3 (r_0 + 2) (by omega)).2 (by omega)
       omega)
set_option maxHeartbeats 4000000 in
theorem vc_Mo_edgeItem_19_3 (all_0 : Int → Int) (r_0 : Int) (now_0 : Int → Int) (latest_0 : Int → Int) (f20 : RWS (r_0) (all_0) (now_0) (latest_0)) : RWS (r_0) (all_0) (now_0) (latest_0) := by
  first
    | assumption
set_option maxHeartbeats 4000000 in
theorem vc_Mo_edgeItem_19_4 (x5 : Int) (x16 : Int) (x17 : Int) (fault_0 : Int) (all_0 : Int → Int) (r_0 : Int) (k5 : (-1) ≤ x5 ∧ x5 ≤ 23) (k16 : (-1) ≤ x16 ∧ x16 ≤ 23) (k17 : 0 ≤ x17 ∧ x17 ≤ 0) (g2 : x17 = fault_0) (f9 : (-1) * x5 + 0 ≤ 0) (f21 : MET (r_0) (fault_0) (all_0) (x5) (x16)) (kz_0_8 : 0 ≤ fault_0 ∧ fault_0 ≤ 5) : NWE (r_0) (all_0) (x5) (x16) := by
  have h := (‹MET _ _ _ _ _› (by omega)).2 (by omega)
  first
    | exact h
set_option maxHeartbeats 4000000 in
theorem vc_Mo_edgeItem_19_5 (x1 : Int) (x4 : Int) (all_0 : Int → Int) (r_0 : Int) (gx : Int) (k1 : 0 ≤ x1 ∧ x1 ≤ 7) (k4 : 0 ≤ x4 ∧ x4 ≤ 7) (d0 : x4 + (-4294967296) ≤ x1 ∧ x1 ≤ x4 + 0) (d1 : x1 + (-4294967296) ≤ x4 ∧ x4 ≤ x1 + 0) (f19 : (x1 + 1) ≤ all_0 ((r_0 + 2))) (ex2 : gx = x1) : (gx + 1) ≤ all_0 ((r_0 + 2)) := by
  first
    | omega
    | (have q1 := (hE_0_2_1 (r_0 + 2) (by omega)).2 (by omega)
       have q2 := (hE_0_2_2 (r_0 + 2) (by omega)).2 (by omega)
       omega)
    | (have q1 := (hE_0_2_1 (r_0 + 1) (by omega)).2 (by omega)
       have q2 := (hE_0_2_2 (r_0 + 1) (by omega)).2 (by omega)
       omega)
    | (have q1 := (hE_0_2_1 (r_0 + 2) (by omega)).2 (by omega)
       omega)
    | (have q1 := (hE_0_2_1 (r_0 + 1) (by omega)).2 (by omega)
       omega)
    | (have q1 := (hE_0_2_1 (r_0 + 2) (by omega)).2 (by omega)
       have q2 := (hE_0_2_2 (r_0 + 2) (by omega)).2 (by omega)
       have q3 := (hE_0_2_3 (r_0 + 2) (by omega)).1 (by omega)
       omega)
    | (have q1 := (hE_0_2_1 (r_0 + 2) (by omega)).2 (by omega)
       have q2 := (hE_0_2_2 (r_0 + 2) (by omega)).2 (by omega)
       have q3 := (hE_0_2_3 (r_0 + 2) (by omega)).2 (by omega)
       omega)
set_option maxHeartbeats 4000000 in
theorem vc_Mo_edgeItem_19_6 (x2 : Int) (x5 : Int) (x14 : Int) (x15 : Int) (x16 : Int) (x17 : Int) (fault_0 : Int) (pos_0 : Int) (all_0 : Int → Int) (r_0 : Int) (k2 : 0 ≤ x2 ∧ x2 ≤ 2000) (k5 : (-1) ≤ x5 ∧ x5 ≤ 23) (k14 : 0 ≤ x14 ∧ x14 ≤ 2000) (k15 : 0 ≤ x15 ∧ x15 ≤ 2000) (k16 : (-1) ≤ x16 ∧ x16 ≤ 23) (k17 : 0 ≤ x17 ∧ x17 ≤ 0) (g2 : x17 = fault_0) (f3 : 1 * x14 + ((-1) * x2 + 0) ≤ 0) (f4 : (-1) * x14 + (1 * x2 + 0) ≤ 0) (f6 : 1 * x2 + ((-1) * x15 + 0) ≤ (-1)) (f9 : (-1) * x5 + 0 ≤ 0) (f14 : 1 * x14 + ((-1) * pos_0 + 0) ≤ 0) (f16 : (1 ≤ fault_0) ∨ ((x15 + 1) ≤ pos_0)) (f17 : ((-1) * fault_0 + 0 ≤ (-1)) ∨ ((-1) * x16 + 0 ≤ 0)) (f18 : (1 ≤ fault_0) ∨ ((x5 ≤ (-1)) ∨ (all_0 ((r_0 + 1)) ≤ 47))) (kz_0_8 : 0 ≤ fault_0 ∧ fault_0 ≤ 5) (kz_0_11 : 0 ≤ pos_0 ∧ pos_0 ≤ 2000) : 1 * x2 + ((-1) * pos_0 + 0) ≤ (-1) := by
  first
    | omega
    | (have q1 := (hE_0_2_1 (r_0 + 2) (by omega)).2 (by omega)
       have q2 := (hE_0_2_2 (r_0 + 2) (by omega)).2 (by omega)
       omega)
    | (have q1 := (hE_0_2_1 (r_0 + 1) (by omega)).2 (by omega)
       have q2 := (hE_0_2_2 (r_0 + 1) (by omega)).2 (by omega)
       omega)
    | (have q1 := (hE_0_2_1 (r_0 + 2) (by omega)).2 (by omega)
       omega)
    | (have q1 := (hE_0_2_1 (r_0 + 1) (by omega)).2 (by omega)
       omega)
    | (have q1 := (hE_0_2_1 (r_0 + 2) (by omega)).2 (by omega)
       have q2 := (hE_0_2_2 (r_0 + 2) (by omega)).2 (by omega)
       have q3 := (hE_0_2_3 (r_0 + 2) (by omega)).1 (by omega)
       omega)
    | (have q1 := (hE_0_2_1 (r_0 + 2) (by omega)).2 (by omega)
       have q2 := (hE_0_2_2 (r_0 + 2) (by omega)).2 (by omega)
       have q3 := (hE_0_2_3 (r_0 + 2) (by omega)).2 (by omega)
       omega)
set_option maxHeartbeats 4000000 in
theorem vc_Mo_edgeItem_19_7 (x5 : Int) (x7 : Int) (x15 : Int) (x16 : Int) (x17 : Int) (fault_0 : Int) (pos_0 : Int) (all_0 : Int → Int) (r_0 : Int) (k5 : (-1) ≤ x5 ∧ x5 ≤ 23) (k7 : 0 ≤ x7 ∧ x7 ≤ 2000) (k15 : 0 ≤ x15 ∧ x15 ≤ 2000) (k16 : (-1) ≤ x16 ∧ x16 ≤ 23) (k17 : 0 ≤ x17 ∧ x17 ≤ 0) (g2 : x17 = fault_0) (f5 : (-1) * x7 + ((-1) * x15 + 0) ≤ (-2000)) (f9 : (-1) * x5 + 0 ≤ 0) (f16 : (1 ≤ fault_0) ∨ ((x15 + 1) ≤ pos_0)) (f17 : ((-1) * fault_0 + 0 ≤ (-1)) ∨ ((-1) * x16 + 0 ≤ 0)) (f18 : (1 ≤ fault_0) ∨ ((x5 ≤ (-1)) ∨ (all_0 ((r_0 + 1)) ≤ 47))) (kz_0_8 : 0 ≤ fault_0 ∧ fault_0 ≤ 5) (kz_0_11 : 0 ≤ pos_0 ∧ pos_0 ≤ 2000) : (-1) * x7 + ((-1) * pos_0 + 0) ≤ (-2001) := by
  first
    | omega
    | (have q1 := (hE_0_2_1 (r_0 + 2) (by omega)).2 (by omega)
       have q2 := (hE_0_2_2 (r_0 + 2) (by omega)).2 (by omega)
       omega)
    | (have q1 := (hE_0_2_1 (r_0 + 1) (by omega)).2 (by omega)
       have q2 := (hE_0_2_2 (r_0 + 1) (by omega)).2 (by omega)
       omega)
    | (have q1 := (hE_0_2_1 (r_0 + 2) (by omega)).2 (by omega)
       omega)
    | (have q1 := (hE_0_2_1 (r_0 + 1) (by omega)).2 (by omega)
       omega)
    | (have q1 := (hE_0_2_1 (r_0 + 2) (by omega)).2 (by omega)
       have q2 := (hE_0_2_2 (r_0 + 2) (by omega)).2 (by omega)
       have q3 := (hE_0_2_3 (r_0 + 2) (by omega)).1 (by omega)
       omega)
    | (have q1 := (hE_0_2_1 (r_0 + 2) (by omega)).2 (by omega)
       have q2 := (hE_0_2_2 (r_0 + 2) (by omega)).2 (by omega)
       have q3 := (hE_0_2_3 (r_0 + 2) (by omega)).2 (by omega)
       omega)
def o_Mo_edgeItem_19 : or_T := (106, 18, [(0, (2, 0, 0, [165])), (1, (0, 0, 7, [])), (2, (0, 0, 2000, [])), (3, (2, 0, 0, [165])), (4, (0, 0, 7, [])), (5, (0, -1, 23, [])), (7, (0, 0, 2000, [])), (13, (0, 0, 2000, [])), (14, (0, 0, 2000, [])), (15, (0, 0, 2000, [])), (16, (0, -1, 23, [])), (17, (0, 0, 0, []))], [(23, [16], [0, -1]), (8, [17], [5]), (9, [17, 3], [8]), (23, [14, 2], [0, 1, -1]), (23, [14, 2], [0, -1, 1]), (23, [7, 15], [-2000, -1, -1]), (23, [2, 15], [-1, 1, -1]), (23, [2, 13], [-1, 1, -1]), (23, [7, 13], [-2000, -1, -1]), (23, [5], [0, -1]), (24, [0, 3], []), (24, [1, 4], []), (20, [3, 3], [30, 0, 1, 1, 15, -1, 1, 11]), (20, [3], [50, 3, 0, 12, 11, 15, 2, 21, 4, 7, 1, 3, 2, 0, 12, 0, 1, 0, 3, 2, 0, 11, 4, 3, 2, 0, 15, 0, 8, 3, 7, 1, 3, 2, 0, 12, 0, 0, 0, 7, 4, 3, 2, 0, 15, 0, 1, 2, 0, 11]), (20, [14, 3], [30, 0, 1, 0, 0, -1, 1, 11]), (20, [3, 14], [50, 3, 0, 8, 12, 11, 3, 7, 0, 2, 0, 1, 2, 0, 8, 3, 7, 1, 3, 2, 0, 12, 0, 0, 0, 6, 4, 2, 1, 1, 0, 1, 2, 0, 11]), (20, [3, 15], [50, 2, 0, 8, 11, 3, 7, 0, 2, 0, 1, 2, 0, 8, 0, 6, 4, 2, 1, 1, 0, 1, 2, 0, 11]), (20, [3, 16], [31, 1, -1, -1, 1, 8, 0, -1, 0, 0]), (20, [3, 5], [50, 2, 1, 8, 5, 2, 3, 7, 0, 2, 0, 1, 2, 0, 8, 3, 6, 0, 2, 1, 1, 0, -1, 0, 10, 3, 0, 2, 4, 3, 2, 0, 5, 0, 1, 0, 47]), (20, [4, 3], [50, 1, 1, 1005, 1002, 0, 6, 4, 2, 1, 0, 0, 1, 3, 1, 2, 4, 3, 2, 1, 5, 0, 2]), (20, [3], [60, 1, 3, 199, 5, 2, 3, 4]), (20, [3, 5, 16], [60, 2, 1, 240, 5, 8, 2]), (102, [15], [187072209578355573530071658587684226515959365500928, 165008, 165009, 165011, 165012, 165013, 165014, 165015]), (23, [14, 2], [0, 1, -1]), (23, [14, 2], [0, -1, 1]), (23, [7, 15], [-2000, -1, -1]), (23, [2, 15], [-1, 1, -1]), (23, [2, 13], [-1, 1, -1]), (23, [7, 13], [-2000, -1, -1]), (23, [5], [0, -1]), (102, [13], [0, 165011, 165012, 165013, 165014, 165015]), (23, [2, 13], [-1, 1, -1]), (23, [7, 13], [-2000, -1, -1]), (23, [5], [0, -1])], [(16, (0, 0, 23, [])), (5, (0, 0, 23, []))], [(0, 0, 7, [])], [(23, [18, 4], [0, 1, -1]), (23, [18, 4], [0, -1, 1]), (20, [3], [30, 47, 1, 3, 2005001]), (20, [3], [60, 1, 3, 199, 5, 2, 3, 4]), (20, [3, 5, 16], [60, 1, 1, 203, 5, 2]), (20, [18, 3], [50, 1, 1, 1005, 1002, 0, 6, 4, 2, 1, 0, 0, 1, 3, 1, 2, 4, 3, 2, 1, 5, 0, 2]), (20, [2, 3], [30, -1, 1, 0, 0, -1, 1, 11]), (20, [7, 3], [30, -2001, -1, 0, 0, -1, 1, 11])], [], [(1, 4, -4294967296, 0), (4, 1, -4294967296, 0)])
theorem oo_Mo_edgeItem_19 {kA : Nat → ClassId} : or_ok PRD kA GG o_Mo_edgeItem_19 := by
  refine or_mk fun A ta ws vs hD hth hl => ?_
  intro t0 r0 t1 k1 t2 k2 t3 r3 t4 k4 t5 k5 t7 k7 t13 k13 t14 k14 t15 k15 t16 k16 t17 k17 d0 d1 f0 f1 f2 f3 f4 f5 f6 f7 f8 f9 f10 f11 f12 f13 f14 f15 f16 f17 f18 f19 f20 f21 ta1 w1 le1 s1 f23 f24 f25 f26 f27 f28 f29 ta2 w2 le2 s2 f31 f32 f33
  replace f0 := shm_1013 f0
  replace f2 := shm_143 f2
  replace f3 := shm_7 f3
  replace f4 := shm_22 f4
  replace f5 := shm_1894 f5
  replace f6 := shm_211 f6
  replace f9 := shm_1013 f9
  replace f10 := shm_5 f10
  replace f11 := shm_5 f11
  replace f14 := shm_1395 f14
  replace f16 := shm_1659 f16
  replace f17 := shm_1982 f17
  replace f18 := shm_1983 f18
  replace f19 := shm_981 f19
  replace f20 := shm_952 f20
  replace f21 := shm_1984 f21
  have q3 : n_v vs 3 = n_v vs 0 := f10.symm
  have q4 : n_v vs 4 = n_v vs 1 := f11.symm
  simp only [q3, q4] at f2 f14 f16 f17 f18 f19 f20 f21
  have g2 : v_iv (n_v vs 17) = w_fi ws (n_v vs 0) 8 := congrArg v_iv f2
  have kz_0_8 := fdq_14 hD hth r0
  have kz_0_11 := fdq_273 hD hth r0
  obtain ⟨x, ex, hx⟩ := iv_ex (ta := ta) (lo := 0) (hi := 7) (z := v_iv (n_v vs 1)) (by omega) (by omega) (by omega) (by omega)
  have ex2 : v_iv (Value.int x) = v_iv (n_v vs 1) := ex
  have ex3 : 0 ≤ v_iv (Value.int x) ∧ v_iv (Value.int x) ≤ 7 := tv_rng hx
  have hrf0 : 0 ≤ v_iv (n_v vs 16) ∧ v_iv (n_v vs 16) ≤ 23 := vc_Mo_edgeItem_19_r0 (v_iv (n_v vs 16)) (w_fi ws (n_v vs 0) 5) k16 f0
  have hrf1 : 0 ≤ v_iv (n_v vs 5) ∧ v_iv (n_v vs 5) ≤ 23 := vc_Mo_edgeItem_19_r1 (v_iv (n_v vs 5)) (w_fi ws (n_v vs 0) 5) k5 f9
  have e_2 : n_v (vs ++ [Value.int x]) 2 = n_v vs 2 := n_v_old (by rw [hl]; decide)
  have e_3 : n_v (vs ++ [Value.int x]) 3 = n_v vs 3 := n_v_old (by rw [hl]; decide)
  have e_4 : n_v (vs ++ [Value.int x]) 4 = n_v vs 4 := n_v_old (by rw [hl]; decide)
  have e_5 : n_v (vs ++ [Value.int x]) 5 = n_v vs 5 := n_v_old (by rw [hl]; decide)
  have e_7 : n_v (vs ++ [Value.int x]) 7 = n_v vs 7 := n_v_old (by rw [hl]; decide)
  have e_16 : n_v (vs ++ [Value.int x]) 16 = n_v vs 16 := n_v_old (by rw [hl]; decide)
  have e_18 : n_v (vs ++ [Value.int x]) 18 = Value.int x := n_v_new hl
  have nf0 : fc_1 PRD (23, [18, 4], [0, 1, -1]) ws (vs ++ [Value.int x]) := by
    refine ⟨nf_inA hl rfl, sgq_7 ?_⟩
    · show 1 * v_iv (n_v (vs ++ [Value.int x]) 18) + ((-1) * v_iv (n_v (vs ++ [Value.int x]) 4) + 0) ≤ 0
      simp only [e_4, e_18, q4]
      exact vc_Mo_edgeItem_19_0 (v_iv (n_v vs 1)) (v_iv (n_v vs 4)) (w_fi ws (n_v vs 0) 5) (v_iv (Value.int x)) k1 k4 d0 d1 ex2
  have nf1 : fc_1 PRD (23, [18, 4], [0, -1, 1]) ws (vs ++ [Value.int x]) := by
    refine ⟨nf_inA hl rfl, sgq_22 ?_⟩
    · show (-1) * v_iv (n_v (vs ++ [Value.int x]) 18) + (1 * v_iv (n_v (vs ++ [Value.int x]) 4) + 0) ≤ 0
      simp only [e_4, e_18, q4]
      exact vc_Mo_edgeItem_19_1 (v_iv (n_v vs 1)) (v_iv (n_v vs 4)) (w_fi ws (n_v vs 0) 5) (v_iv (Value.int x)) k1 k4 d0 d1 ex2
  have nf2 : fc_1 PRD (20, [3], [30, 47, 1, 3, 2005001]) ws (vs ++ [Value.int x]) := by
    refine ⟨nf_inA hl rfl, sgq_979 ?_⟩
    · show 1 * w_el ws (w_ar ws (n_v (vs ++ [Value.int x]) 3) 2) (w_fi ws (n_v (vs ++ [Value.int x]) 3) 5 + 1).toNat + 0 ≤ 47
      simp only [e_3, q3]
      exact vc_Mo_edgeItem_19_2 (v_iv (n_v vs 5)) (v_iv (n_v vs 17)) (w_fi ws (n_v vs 0) 8) (w_ei ws (w_ar ws (n_v vs 0) 2)) (w_fi ws (n_v vs 0) 5) k5 k17 g2 f9 f18 kz_0_8
  have nf3 : fc_1 PRD (20, [3], [60, 1, 3, 199, 5, 2, 3, 4]) ws (vs ++ [Value.int x]) := by
    refine ⟨nf_inA hl rfl, sgq_952 ?_⟩
    · show RWS (w_fi ws (n_v (vs ++ [Value.int x]) 3) 5) (w_ei ws (w_ar ws (n_v (vs ++ [Value.int x]) 3) 2)) (w_ei ws (w_ar ws (n_v (vs ++ [Value.int x]) 3) 3)) (w_ei ws (w_ar ws (n_v (vs ++ [Value.int x]) 3) 4))
      simp only [e_3, q3]
      exact vc_Mo_edgeItem_19_3 (w_ei ws (w_ar ws (n_v vs 0) 2)) (w_fi ws (n_v vs 0) 5) (w_ei ws (w_ar ws (n_v vs 0) 3)) (w_ei ws (w_ar ws (n_v vs 0) 4)) f20
  have nf4 : fc_1 PRD (20, [3, 5, 16], [60, 1, 1, 203, 5, 2]) ws (vs ++ [Value.int x]) := by
    refine ⟨nf_inA hl rfl, sgq_980 ?_⟩
    · show NWE (w_fi ws (n_v (vs ++ [Value.int x]) 3) 5) (w_ei ws (w_ar ws (n_v (vs ++ [Value.int x]) 3) 2)) (v_iv (n_v (vs ++ [Value.int x]) 5)) (v_iv (n_v (vs ++ [Value.int x]) 16))
      simp only [e_3, e_5, e_16, q3]
      exact vc_Mo_edgeItem_19_4 (v_iv (n_v vs 5)) (v_iv (n_v vs 16)) (v_iv (n_v vs 17)) (w_fi ws (n_v vs 0) 8) (w_ei ws (w_ar ws (n_v vs 0) 2)) (w_fi ws (n_v vs 0) 5) k5 k16 k17 g2 f9 f21 kz_0_8
  have nf5 : fc_1 PRD (20, [18, 3], [50, 1, 1, 1005, 1002, 0, 6, 4, 2, 1, 0, 0, 1, 3, 1, 2, 4, 3, 2, 1, 5, 0, 2]) ws (vs ++ [Value.int x]) := by
    refine ⟨nf_inA hl rfl, sgq_981 ?_⟩
    · show (v_iv (n_v (vs ++ [Value.int x]) 18) + 1) ≤ w_ei ws (w_ar ws (n_v (vs ++ [Value.int x]) 3) 2) ((w_fi ws (n_v (vs ++ [Value.int x]) 3) 5 + 2))
      simp only [e_3, e_18, q3]
      exact vc_Mo_edgeItem_19_5 (v_iv (n_v vs 1)) (v_iv (n_v vs 4)) (w_ei ws (w_ar ws (n_v vs 0) 2)) (w_fi ws (n_v vs 0) 5) (v_iv (Value.int x)) k1 k4 d0 d1 f19 ex2
  have nf6 : fc_1 PRD (20, [2, 3], [30, -1, 1, 0, 0, -1, 1, 11]) ws (vs ++ [Value.int x]) := by
    refine ⟨nf_inA hl rfl, sgq_1891 ?_⟩
    · show 1 * v_iv (n_v (vs ++ [Value.int x]) 2) + ((-1) * w_fi ws (n_v (vs ++ [Value.int x]) 3) 11 + 0) ≤ (-1)
      simp only [e_2, e_3, q3]
      exact vc_Mo_edgeItem_19_6 (v_iv (n_v vs 2)) (v_iv (n_v vs 5)) (v_iv (n_v vs 14)) (v_iv (n_v vs 15)) (v_iv (n_v vs 16)) (v_iv (n_v vs 17)) (w_fi ws (n_v vs 0) 8) (w_fi ws (n_v vs 0) 11) (w_ei ws (w_ar ws (n_v vs 0) 2)) (w_fi ws (n_v vs 0) 5) k2 k5 k14 k15 k16 k17 g2 f3 f4 f6 f9 f14 f16 f17 f18 kz_0_8 kz_0_11
  have nf7 : fc_1 PRD (20, [7, 3], [30, -2001, -1, 0, 0, -1, 1, 11]) ws (vs ++ [Value.int x]) := by
    refine ⟨nf_inA hl rfl, sgq_1896 ?_⟩
    · show (-1) * v_iv (n_v (vs ++ [Value.int x]) 7) + ((-1) * w_fi ws (n_v (vs ++ [Value.int x]) 3) 11 + 0) ≤ (-2001)
      simp only [e_3, e_7, q3]
      exact vc_Mo_edgeItem_19_7 (v_iv (n_v vs 5)) (v_iv (n_v vs 7)) (v_iv (n_v vs 15)) (v_iv (n_v vs 16)) (v_iv (n_v vs 17)) (w_fi ws (n_v vs 0) 8) (w_fi ws (n_v vs 0) 11) (w_ei ws (w_ar ws (n_v vs 0) 2)) (w_fi ws (n_v vs 0) 5) k5 k7 k15 k16 k17 g2 f5 f9 f16 f17 f18 kz_0_8 kz_0_11
  have rf16 : tv_ok ta (0, 0, 23, []) (n_v vs 16) := tv_in t16 (by first | omega | grind) (by first | omega | grind)
  have rf5 : tv_ok ta (0, 0, 23, []) (n_v vs 5) := tv_in t5 (by first | omega | grind) (by first | omega | grind)
  exact ⟨List.forall_mem_cons.mpr ⟨rf16, List.forall_mem_cons.mpr ⟨rf5, (fun _ h => (by cases h))⟩⟩, [Value.int x], ag_one hx, List.forall_mem_cons.mpr ⟨⟨show (23 : Nat) < 100 from by decide, nf0⟩, List.forall_mem_cons.mpr ⟨⟨show (23 : Nat) < 100 from by decide, nf1⟩, List.forall_mem_cons.mpr ⟨⟨show (20 : Nat) < 100 from by decide, nf2⟩, List.forall_mem_cons.mpr ⟨⟨show (20 : Nat) < 100 from by decide, nf3⟩, List.forall_mem_cons.mpr ⟨⟨show (20 : Nat) < 100 from by decide, nf4⟩, List.forall_mem_cons.mpr ⟨⟨show (20 : Nat) < 100 from by decide, nf5⟩, List.forall_mem_cons.mpr ⟨⟨show (20 : Nat) < 100 from by decide, nf6⟩, List.forall_mem_cons.mpr ⟨⟨show (20 : Nat) < 100 from by decide, nf7⟩, (fun _ h => (by cases h))⟩⟩⟩⟩⟩⟩⟩⟩, (fun _ h => (by cases h))⟩
set_option maxHeartbeats 4000000 in
theorem vc_Mo_edgeItem_20_0 (x1 : Int) (x4 : Int) (x18 : Int) (all_0 : Int → Int) (r_0 : Int) (k1 : 0 ≤ x1 ∧ x1 ≤ 7) (k4 : 0 ≤ x4 ∧ x4 ≤ 7) (k18 : 0 ≤ x18 ∧ x18 ≤ 7) (d0 : x4 + (-4294967296) ≤ x1 ∧ x1 ≤ x4 + 0) (d1 : x1 + (-4294967296) ≤ x4 ∧ x4 ≤ x1 + 0) (f0 : 1 * x18 + ((-1) * x1 + 0) ≤ 0) (f1 : (-1) * x18 + (1 * x1 + 0) ≤ 0) (f21 : (x18 + 1) ≤ all_0 ((r_0 + 2))) : (x1 + 1) ≤ all_0 ((r_0 + 2)) := by
  first
    | omega
    | (have q1 := (hE_0_2_1 (r_0 + 2) (by omega)).2 (by omega)
       have q2 := (hE_0_2_2 (r_0 + 2) (by omega)).2 (by omega)
       omega)
    | (have q1 := (hE_0_2_1 (r_0 + 1) (by omega)).2 (by omega)
       have q2 := (hE_0_2_2 (r_0 + 1) (by omega)).2 (by omega)
       omega)
    | (have q1 := (hE_0_2_1 (r_0 + 2) (by omega)).2 (by omega)
       omega)
    | (have q1 := (hE_0_2_1 (r_0 + 1) (by omega)).2 (by omega)
       omega)
    | (have q1 := (hE_0_2_1 (r_0 + 2) (by omega)).2 (by omega)
       have q2 := (hE_0_2_2 (r_0 + 2) (by omega)).2 (by omega)
       have q3 := (hE_0_2_3 (r_0 + 2) (by omega)).1 (by omega)
       omega)
    | (have q1 := (hE_0_2_1 (r_0 + 2) (by omega)).2 (by omega)
       have q2 := (hE_0_2_2 (r_0 + 2) (by omega)).2 (by omega)
       have q3 := (hE_0_2_3 (r_0 + 2) (by omega)).2 (by omega)
       omega)
set_option maxHeartbeats 4000000 in
theorem vc_Mo_edgeItem_20_1 (pos_0 : Int) (from_0 : Int) (r_0 : Int) (f13 : 1 * from_0 + ((-1) * pos_0 + 0) ≤ 0) (kz_0_11 : 0 ≤ pos_0 ∧ pos_0 ≤ 2000) (kz_0_15 : 0 ≤ from_0 ∧ from_0 ≤ 2000) : 1 * from_0 + ((-1) * pos_0 + 0) ≤ 0 := by
  first
    | omega
    | (have q1 := (hE_0_2_1 (r_0 + 2) (by omega)).2 (by omega)
       have q2 := (hE_0_2_2 (r_0 + 2) (by omega)).2 (by omega)
       omega)
    | (have q1 := (hE_0_2_1 (r_0 + 1) (by omega)).2 (by omega)
       have q2 := (hE_0_2_2 (r_0 + 1) (by omega)).2 (by omega)
       omega)
    | (have q1 := (hE_0_2_1 (r_0 + 2) (by omega)).2 (by omega)
       omega)
    | (have q1 := (hE_0_2_1 (r_0 + 1) (by omega)).2 (by omega)
       omega)
    | (have q1 := (hE_0_2_1 (r_0 + 2) (by omega)).2 (by omega)
       have q2 := (hE_0_2_2 (r_0 + 2) (by omega)).2 (by omega)
       have q3 := (hE_0_2_3 (r_0 + 2) (by omega)).1 (by omega)
       omega)
    | (have q1 := (hE_0_2_1 (r_0 + 2) (by omega)).2 (by omega)
       have q2 := (hE_0_2_2 (r_0 + 2) (by omega)).2 (by omega)
       have q3 := (hE_0_2_3 (r_0 + 2) (by omega)).2 (by omega)
       omega)
set_option maxHeartbeats 4000000 in
theorem vc_Mo_edgeItem_20_2 (pos_0 : Int) (from_0 : Int) (kind_0 : Int) (r_0 : Int) (f14 : ((kind_0 = 1) → (pos_0 ≤ (from_0 + 8))) ∧ ((kind_0 = 0) ∨ ((from_0 + 1) ≤ pos_0))) (kz_0_11 : 0 ≤ pos_0 ∧ pos_0 ≤ 2000) (kz_0_12 : 0 ≤ kind_0 ∧ kind_0 ≤ 4) (kz_0_15 : 0 ≤ from_0 ∧ from_0 ≤ 2000) : ((kind_0 = 1) → (pos_0 ≤ (from_0 + 8))) ∧ ((kind_0 = 0) ∨ ((from_0 + 1) ≤ pos_0)) := by
  first
    | omega
    | (have q1 := (hE_0_2_1 (r_0 + 2) (by omega)).2 (by omega)
       have q2 := (hE_0_2_2 (r_0 + 2) (by omega)).2 (by omega)
       omega)
    | (have q1 := (hE_0_2_1 (r_0 + 1) (by omega)).2 (by omega)
       have q2 := (hE_0_2_2 (r_0 + 1) (by omega)).2 (by omega)
       omega)
    | (have q1 := (hE_0_2_1 (r_0 + 2) (by omega)).2 (by omega)
       omega)
    | (have q1 := (hE_0_2_1 (r_0 + 1) (by omega)).2 (by omega)
       omega)
    | (have q1 := (hE_0_2_1 (r_0 + 2) (by omega)).2 (by omega)
       have q2 := (hE_0_2_2 (r_0 + 2) (by omega)).2 (by omega)
       have q3 := (hE_0_2_3 (r_0 + 2) (by omega)).1 (by omega)
       omega)
    | (have q1 := (hE_0_2_1 (r_0 + 2) (by omega)).2 (by omega)
       have q2 := (hE_0_2_2 (r_0 + 2) (by omega)).2 (by omega)
       have q3 := (hE_0_2_3 (r_0 + 2) (by omega)).2 (by omega)
       omega)
set_option maxHeartbeats 4000000 in
theorem vc_Mo_edgeItem_20_3 (x2 : Int) (pos_0 : Int) (r_0 : Int) (k2 : 0 ≤ x2 ∧ x2 ≤ 2000) (f2 : 1 * x2 + ((-1) * pos_0 + 0) ≤ (-1)) (kz_0_11 : 0 ≤ pos_0 ∧ pos_0 ≤ 2000) : 1 * x2 + ((-1) * pos_0 + 0) ≤ (-1) := by
  first
    | omega
    | (have q1 := (hE_0_2_1 (r_0 + 2) (by omega)).2 (by omega)
       have q2 := (hE_0_2_2 (r_0 + 2) (by omega)).2 (by omega)
       omega)
    | (have q1 := (hE_0_2_1 (r_0 + 1) (by omega)).2 (by omega)
       have q2 := (hE_0_2_2 (r_0 + 1) (by omega)).2 (by omega)
       omega)
    | (have q1 := (hE_0_2_1 (r_0 + 2) (by omega)).2 (by omega)
       omega)
    | (have q1 := (hE_0_2_1 (r_0 + 1) (by omega)).2 (by omega)
       omega)
    | (have q1 := (hE_0_2_1 (r_0 + 2) (by omega)).2 (by omega)
       have q2 := (hE_0_2_2 (r_0 + 2) (by omega)).2 (by omega)
       have q3 := (hE_0_2_3 (r_0 + 2) (by omega)).1 (by omega)
       omega)
    | (have q1 := (hE_0_2_1 (r_0 + 2) (by omega)).2 (by omega)
       have q2 := (hE_0_2_2 (r_0 + 2) (by omega)).2 (by omega)
       have q3 := (hE_0_2_3 (r_0 + 2) (by omega)).2 (by omega)
       omega)
set_option maxHeartbeats 4000000 in
theorem vc_Mo_edgeItem_20_4 (x7 : Int) (pos_0 : Int) (r_0 : Int) (gx : Int) (k7 : 0 ≤ x7 ∧ x7 ≤ 2000) (f3 : (-1) * x7 + ((-1) * pos_0 + 0) ≤ (-2001)) (kz_0_11 : 0 ≤ pos_0 ∧ pos_0 ≤ 2000) (ex2 : gx = 0 + (1 * x7 + 0)) : (-1) * gx + ((-1) * pos_0 + 0) ≤ (-2001) := by
  first
    | omega
    | (have q1 := (hE_0_2_1 (r_0 + 2) (by omega)).2 (by omega)
       have q2 := (hE_0_2_2 (r_0 + 2) (by omega)).2 (by omega)
       omega)
    | (have q1 := (hE_0_2_1 (r_0 + 1) (by omega)).2 (by omega)
       have q2 := (hE_0_2_2 (r_0 + 1) (by omega)).2 (by omega)
       omega)
    | (have q1 := (hE_0_2_1 (r_0 + 2) (by omega)).2 (by omega)
       omega)
    | (have q1 := (hE_0_2_1 (r_0 + 1) (by omega)).2 (by omega)
       omega)
    | (have q1 := (hE_0_2_1 (r_0 + 2) (by omega)).2 (by omega)
       have q2 := (hE_0_2_2 (r_0 + 2) (by omega)).2 (by omega)
       have q3 := (hE_0_2_3 (r_0 + 2) (by omega)).1 (by omega)
       omega)
    | (have q1 := (hE_0_2_1 (r_0 + 2) (by omega)).2 (by omega)
       have q2 := (hE_0_2_2 (r_0 + 2) (by omega)).2 (by omega)
       have q3 := (hE_0_2_3 (r_0 + 2) (by omega)).2 (by omega)
       omega)
set_option maxHeartbeats 4000000 in
theorem vc_Mo_edgeItem_20_5 (x16 : Int) (r_0 : Int) (k16 : 0 ≤ x16 ∧ x16 ≤ 23) (f25 : (-1) * x16 + 0 ≤ 0) : (-1) * x16 + 0 ≤ 0 := by
  first
    | omega
    | (have q1 := (hE_0_2_1 (r_0 + 2) (by omega)).2 (by omega)
       have q2 := (hE_0_2_2 (r_0 + 2) (by omega)).2 (by omega)
       omega)
    | (have q1 := (hE_0_2_1 (r_0 + 1) (by omega)).2 (by omega)
       have q2 := (hE_0_2_2 (r_0 + 1) (by omega)).2 (by omega)
       omega)
    | (have q1 := (hE_0_2_1 (r_0 + 2) (by omega)).2 (by omega)
       omega)
    | (have q1 := (hE_0_2_1 (r_0 + 1) (by omega)).2 (by omega)
       omega)
    | (have q1 := (hE_0_2_1 (r_0 + 2) (by omega)).2 (by omega)
       have q2 := (hE_0_2_2 (r_0 + 2) (by omega)).2 (by omega)
       have q3 := (hE_0_2_3 (r_0 + 2) (by omega)).1 (by omega)
       omega)
    | (have q1 := (hE_0_2_1 (r_0 + 2) (by omega)).2 (by omega)
       have q2 := (hE_0_2_2 (r_0 + 2) (by omega)).2 (by omega)
       have q3 := (hE_0_2_3 (r_0 + 2) (by omega)).2 (by omega)
       omega)
set_option maxHeartbeats 4000000 in
theorem vc_Mo_edgeItem_20_6 (all_0 : Int → Int) (now_0 : Int → Int) (latest_0 : Int → Int) (r_0 : Int) (f19 : RWS (r_0) (all_0) (now_0) (latest_0)) : RWS (r_0) (all_0) (now_0) (latest_0) := by
  first
    | assumption
set_option maxHeartbeats 4000000 in
theorem vc_Mo_edgeItem_20_7 (x16 : Int) (all_0 : Int → Int) (r_0 : Int) (k16 : 0 ≤ x16 ∧ x16 ≤ 23) (f20 : NDA (r_0) (all_0) (x16)) : NDA (r_0) (all_0) (x16) := by
  first
    | assumption
def o_Mo_edgeItem_20 : or_T := (109, 19, [(0, (2, 0, 0, [165])), (1, (0, 0, 7, [])), (2, (0, 0, 2000, [])), (3, (2, 0, 0, [165])), (4, (0, 0, 7, [])), (7, (0, 0, 2000, [])), (13, (0, 0, 2000, [])), (14, (0, 0, 2000, [])), (15, (0, 0, 2000, [])), (16, (0, 0, 23, [])), (18, (0, 0, 7, []))], [(23, [18, 4], [0, 1, -1]), (23, [18, 4], [0, -1, 1]), (20, [2, 3], [30, -1, 1, 0, 0, -1, 1, 11]), (20, [7, 3], [30, -2001, -1, 0, 0, -1, 1, 11]), (23, [16], [0, -1]), (23, [14, 2], [0, 1, -1]), (23, [14, 2], [0, -1, 1]), (23, [7, 15], [-2000, -1, -1]), (23, [2, 15], [-1, 1, -1]), (23, [2, 13], [-1, 1, -1]), (23, [7, 13], [-2000, -1, -1]), (24, [0, 3], []), (24, [1, 4], []), (20, [3, 3], [30, 0, 1, 1, 15, -1, 1, 11]), (20, [3], [50, 3, 0, 12, 11, 15, 2, 21, 4, 7, 1, 3, 2, 0, 12, 0, 1, 0, 3, 2, 0, 11, 4, 3, 2, 0, 15, 0, 8, 3, 7, 1, 3, 2, 0, 12, 0, 0, 0, 7, 4, 3, 2, 0, 15, 0, 1, 2, 0, 11]), (20, [14, 3], [30, 0, 1, 0, 0, -1, 1, 11]), (20, [3, 14], [50, 3, 0, 8, 12, 11, 3, 7, 0, 2, 0, 1, 2, 0, 8, 3, 7, 1, 3, 2, 0, 12, 0, 0, 0, 6, 4, 2, 1, 1, 0, 1, 2, 0, 11]), (20, [3, 15], [50, 2, 0, 8, 11, 3, 7, 0, 2, 0, 1, 2, 0, 8, 0, 6, 4, 2, 1, 1, 0, 1, 2, 0, 11]), (20, [3, 16], [31, 1, -1, -1, 1, 8, 0, -1, 0, 0]), (20, [3], [60, 1, 3, 199, 5, 2, 3, 4]), (20, [3, 16], [60, 1, 1, 208, 5, 2]), (20, [18, 3], [50, 1, 1, 1005, 1002, 0, 6, 4, 2, 1, 0, 0, 1, 3, 1, 2, 4, 3, 2, 1, 5, 0, 2]), (102, [18], [187072209578355573530071658587684226515959365500928]), (23, [18, 4], [0, 1, -1]), (23, [18, 4], [0, -1, 1]), (23, [16], [0, -1]), (23, [14, 2], [0, 1, -1]), (23, [14, 2], [0, -1, 1]), (23, [7, 15], [-2000, -1, -1]), (23, [2, 15], [-1, 1, -1]), (23, [2, 13], [-1, 1, -1]), (23, [7, 13], [-2000, -1, -1]), (102, [15], [187072209578355573530071658587684226515959365500928, 165008, 165009, 165011, 165012, 165013, 165014, 165015]), (23, [14, 2], [0, 1, -1]), (23, [14, 2], [0, -1, 1]), (23, [7, 15], [-2000, -1, -1]), (23, [2, 15], [-1, 1, -1]), (23, [2, 13], [-1, 1, -1]), (23, [7, 13], [-2000, -1, -1]), (102, [13], [0, 165011, 165012, 165013, 165014, 165015]), (23, [2, 13], [-1, 1, -1]), (23, [7, 13], [-2000, -1, -1])], [], [(0, 0, 2000, [])], [(20, [4, 3], [50, 1, 1, 1005, 1002, 0, 6, 4, 2, 1, 0, 0, 1, 3, 1, 2, 4, 3, 2, 1, 5, 0, 2]), (20, [3, 3], [30, 0, 1, 1, 15, -1, 1, 11]), (20, [3], [50, 3, 0, 12, 11, 15, 2, 21, 4, 7, 1, 3, 2, 0, 12, 0, 1, 0, 3, 2, 0, 11, 4, 3, 2, 0, 15, 0, 8, 3, 7, 1, 3, 2, 0, 12, 0, 0, 0, 7, 4, 3, 2, 0, 15, 0, 1, 2, 0, 11]), (20, [2, 3], [30, -1, 1, 0, 0, -1, 1, 11]), (20, [19, 3], [30, -2001, -1, 0, 0, -1, 1, 11]), (23, [16], [0, -1]), (20, [3], [60, 1, 3, 199, 5, 2, 3, 4]), (20, [3, 16], [60, 1, 1, 208, 5, 2]), (24, [0, 3], []), (24, [1, 4], [])], [(19, 7, 0, 0)], [(1, 4, -4294967296, 0), (4, 1, -4294967296, 0)])
theorem oo_Mo_edgeItem_20 {kA : Nat → ClassId} : or_ok PRD kA GG o_Mo_edgeItem_20 := by
  refine or_mk fun A ta ws vs hD hth hl => ?_
  intro t0 r0 t1 k1 t2 k2 t3 r3 t4 k4 t7 k7 t13 k13 t14 k14 t15 k15 t16 k16 t18 k18 d0 d1 f0 f1 f2 f3 f4 f5 f6 f7 f8 f9 f10 f11 f12 f13 f14 f15 f16 f17 f18 f19 f20 f21 ta1 w1 le1 s1 f23 f24 f25 f26 f27 f28 f29 f30 f31 ta2 w2 le2 s2 f33 f34 f35 f36 f37 f38 ta3 w3 le3 s3 f40 f41
  replace f0 := shm_7 f0
  replace f1 := shm_22 f1
  replace f2 := shm_1891 f2
  replace f3 := shm_1896 f3
  replace f4 := shm_1013 f4
  replace f5 := shm_7 f5
  replace f6 := shm_22 f6
  replace f7 := shm_1894 f7
  replace f8 := shm_211 f8
  replace f9 := shm_211 f9
  replace f10 := shm_1894 f10
  replace f11 := shm_5 f11
  replace f12 := shm_5 f12
  replace f13 := shm_1397 f13
  replace f14 := shm_1398 f14
  replace f15 := shm_1395 f15
  replace f16 := shm_1660 f16
  replace f17 := shm_1659 f17
  replace f18 := shm_1982 f18
  replace f19 := shm_952 f19
  replace f20 := shm_955 f20
  replace f21 := shm_981 f21
  replace f23 := shm_7 f23
  replace f24 := shm_22 f24
  replace f25 := shm_1013 f25
  replace f26 := shm_7 f26
  replace f27 := shm_22 f27
  replace f28 := shm_1894 f28
  replace f29 := shm_211 f29
  replace f30 := shm_211 f30
  replace f31 := shm_1894 f31
  replace f33 := shm_7 f33
  replace f34 := shm_22 f34
  replace f35 := shm_1894 f35
  replace f36 := shm_211 f36
  replace f37 := shm_211 f37
  replace f38 := shm_1894 f38
  replace f40 := shm_211 f40
  replace f41 := shm_1894 f41
  have q3 : n_v vs 3 = n_v vs 0 := f11.symm
  have q4 : n_v vs 4 = n_v vs 1 := f12.symm
  simp only [q4, q3] at f0 f1 f2 f3 f13 f14 f15 f16 f17 f18 f19 f20 f21 f23 f24
  have cr_0_2 := fdq_12 hD hth r0
  have cr_0_3 := fdq_141 hD hth r0
  have cr_0_4 := fdq_142 hD hth r0
  have hK_0_3 := elq_77 hD hth cr_0_3
  have hK_0_4 := elq_78 hD hth cr_0_4
  have kz_0_8 := fdq_14 hD hth r0
  have kz_0_11 := fdq_273 hD hth r0
  have kz_0_12 := fdq_186 hD hth r0
  have kz_0_15 := fdq_274 hD hth r0
  obtain ⟨x, ex, hx⟩ := iv_ex (ta := ta) (lo := 0) (hi := 2000) (z := 0 + (1 * v_iv (n_v vs 7) + 0)) (by omega) (by omega) (by omega) (by omega)
  have ex2 : v_iv (Value.int x) = 0 + (1 * v_iv (n_v vs 7) + 0) := ex
  have ex3 : 0 ≤ v_iv (Value.int x) ∧ v_iv (Value.int x) ≤ 2000 := tv_rng hx
  have e_0 : n_v (vs ++ [Value.int x]) 0 = n_v vs 0 := n_v_old (by rw [hl]; decide)
  have e_1 : n_v (vs ++ [Value.int x]) 1 = n_v vs 1 := n_v_old (by rw [hl]; decide)
  have e_2 : n_v (vs ++ [Value.int x]) 2 = n_v vs 2 := n_v_old (by rw [hl]; decide)
  have e_3 : n_v (vs ++ [Value.int x]) 3 = n_v vs 3 := n_v_old (by rw [hl]; decide)
  have e_4 : n_v (vs ++ [Value.int x]) 4 = n_v vs 4 := n_v_old (by rw [hl]; decide)
  have e_16 : n_v (vs ++ [Value.int x]) 16 = n_v vs 16 := n_v_old (by rw [hl]; decide)
  have e_19 : n_v (vs ++ [Value.int x]) 19 = Value.int x := n_v_new hl
  have nf0 : fc_1 PRD (20, [4, 3], [50, 1, 1, 1005, 1002, 0, 6, 4, 2, 1, 0, 0, 1, 3, 1, 2, 4, 3, 2, 1, 5, 0, 2]) ws (vs ++ [Value.int x]) := by
    refine ⟨nf_inA hl rfl, sgq_981 ?_⟩
    · show (v_iv (n_v (vs ++ [Value.int x]) 4) + 1) ≤ w_ei ws (w_ar ws (n_v (vs ++ [Value.int x]) 3) 2) ((w_fi ws (n_v (vs ++ [Value.int x]) 3) 5 + 2))
      simp only [e_3, e_4, q3, q4]
      exact vc_Mo_edgeItem_20_0 (v_iv (n_v vs 1)) (v_iv (n_v vs 4)) (v_iv (n_v vs 18)) (w_ei ws (w_ar ws (n_v vs 0) 2)) (w_fi ws (n_v vs 0) 5) k1 k4 k18 d0 d1 f0 f1 f21
  have nf1 : fc_1 PRD (20, [3, 3], [30, 0, 1, 1, 15, -1, 1, 11]) ws (vs ++ [Value.int x]) := by
    refine ⟨nf_inA hl rfl, sgq_1397 ?_⟩
    · show 1 * w_fi ws (n_v (vs ++ [Value.int x]) 3) 15 + ((-1) * w_fi ws (n_v (vs ++ [Value.int x]) 3) 11 + 0) ≤ 0
      simp only [e_3, q3]
      exact vc_Mo_edgeItem_20_1 (w_fi ws (n_v vs 0) 11) (w_fi ws (n_v vs 0) 15) (w_fi ws (n_v vs 0) 5) f13 kz_0_11 kz_0_15
  have nf2 : fc_1 PRD (20, [3], [50, 3, 0, 12, 11, 15, 2, 21, 4, 7, 1, 3, 2, 0, 12, 0, 1, 0, 3, 2, 0, 11, 4, 3, 2, 0, 15, 0, 8, 3, 7, 1, 3, 2, 0, 12, 0, 0, 0, 7, 4, 3, 2, 0, 15, 0, 1, 2, 0, 11]) ws (vs ++ [Value.int x]) := by
    refine ⟨nf_inA hl rfl, sgq_1398 ?_⟩
    · show ((w_fi ws (n_v (vs ++ [Value.int x]) 3) 12 = 1) → (w_fi ws (n_v (vs ++ [Value.int x]) 3) 11 ≤ (w_fi ws (n_v (vs ++ [Value.int x]) 3) 15 + 8))) ∧ ((w_fi ws (n_v (vs ++ [Value.int x]) 3) 12 = 0) ∨ ((w_fi ws (n_v (vs ++ [Value.int x]) 3) 15 + 1) ≤ w_fi ws (n_v (vs ++ [Value.int x]) 3) 11))
      simp only [e_3, q3]
      exact vc_Mo_edgeItem_20_2 (w_fi ws (n_v vs 0) 11) (w_fi ws (n_v vs 0) 15) (w_fi ws (n_v vs 0) 12) (w_fi ws (n_v vs 0) 5) f14 kz_0_11 kz_0_12 kz_0_15
  have nf3 : fc_1 PRD (20, [2, 3], [30, -1, 1, 0, 0, -1, 1, 11]) ws (vs ++ [Value.int x]) := by
    refine ⟨nf_inA hl rfl, sgq_1891 ?_⟩
    · show 1 * v_iv (n_v (vs ++ [Value.int x]) 2) + ((-1) * w_fi ws (n_v (vs ++ [Value.int x]) 3) 11 + 0) ≤ (-1)
      simp only [e_2, e_3, q3]
      exact vc_Mo_edgeItem_20_3 (v_iv (n_v vs 2)) (w_fi ws (n_v vs 0) 11) (w_fi ws (n_v vs 0) 5) k2 f2 kz_0_11
  have nf4 : fc_1 PRD (20, [19, 3], [30, -2001, -1, 0, 0, -1, 1, 11]) ws (vs ++ [Value.int x]) := by
    refine ⟨nf_inA hl rfl, sgq_1896 ?_⟩
    · show (-1) * v_iv (n_v (vs ++ [Value.int x]) 19) + ((-1) * w_fi ws (n_v (vs ++ [Value.int x]) 3) 11 + 0) ≤ (-2001)
      simp only [e_3, e_19, q3]
      exact vc_Mo_edgeItem_20_4 (v_iv (n_v vs 7)) (w_fi ws (n_v vs 0) 11) (w_fi ws (n_v vs 0) 5) (v_iv (Value.int x)) k7 f3 kz_0_11 ex2
  have nf5 : fc_1 PRD (23, [16], [0, -1]) ws (vs ++ [Value.int x]) := by
    refine ⟨nf_inA hl rfl, sgq_1013 ?_⟩
    · show (-1) * v_iv (n_v (vs ++ [Value.int x]) 16) + 0 ≤ 0
      rw [e_16]
      exact vc_Mo_edgeItem_20_5 (v_iv (n_v vs 16)) (w_fi ws (n_v vs 0) 5) k16 f25
  have nf6 : fc_1 PRD (20, [3], [60, 1, 3, 199, 5, 2, 3, 4]) ws (vs ++ [Value.int x]) := by
    refine ⟨nf_inA hl rfl, sgq_952 ?_⟩
    · show RWS (w_fi ws (n_v (vs ++ [Value.int x]) 3) 5) (w_ei ws (w_ar ws (n_v (vs ++ [Value.int x]) 3) 2)) (w_ei ws (w_ar ws (n_v (vs ++ [Value.int x]) 3) 3)) (w_ei ws (w_ar ws (n_v (vs ++ [Value.int x]) 3) 4))
      simp only [e_3, q3]
      exact vc_Mo_edgeItem_20_6 (w_ei ws (w_ar ws (n_v vs 0) 2)) (w_ei ws (w_ar ws (n_v vs 0) 3)) (w_ei ws (w_ar ws (n_v vs 0) 4)) (w_fi ws (n_v vs 0) 5) f19
  have nf7 : fc_1 PRD (20, [3, 16], [60, 1, 1, 208, 5, 2]) ws (vs ++ [Value.int x]) := by
    refine ⟨nf_inA hl rfl, sgq_955 ?_⟩
    · show NDA (w_fi ws (n_v (vs ++ [Value.int x]) 3) 5) (w_ei ws (w_ar ws (n_v (vs ++ [Value.int x]) 3) 2)) (v_iv (n_v (vs ++ [Value.int x]) 16))
      simp only [e_3, e_16, q3]
      exact vc_Mo_edgeItem_20_7 (v_iv (n_v vs 16)) (w_ei ws (w_ar ws (n_v vs 0) 2)) (w_fi ws (n_v vs 0) 5) k16 f20
  have nf8 : fc_1 PRD (24, [0, 3], []) ws (vs ++ [Value.int x]) := by
    refine ⟨nf_inA hl rfl, sgq_5 ?_⟩
    · show n_v (vs ++ [Value.int x]) 0 = n_v (vs ++ [Value.int x]) 3
      first | rfl | simp only [e_0, e_3, q3, q4]
  have nf9 : fc_1 PRD (24, [1, 4], []) ws (vs ++ [Value.int x]) := by
    refine ⟨nf_inA hl rfl, sgq_5 ?_⟩
    · show n_v (vs ++ [Value.int x]) 1 = n_v (vs ++ [Value.int x]) 4
      first | rfl | simp only [e_1, e_4, q3, q4]
  obtain ⟨x0, e0, _, _⟩ := tv_int t7 rfl
  have e1 : v_iv (n_v vs 7) = x0.toInt := by rw [e0]; rfl
  have ho : sy_ofs (vs ++ [Value.int x]) (19, 7, 0, 0) := by
    refine ⟨x, x0, by rw [List.getElem?_append_right (by rw [hl]; decide), hl]; rfl, ?_, ?_, ?_⟩
    · rw [List.getElem?_append_left (by rw [hl]; decide)]; exact n_v_some (by rw [hl]; decide) e0
    · show x0.toInt + 0 ≤ x.toInt; omega
    · show x.toInt ≤ x0.toInt + 0; omega
  exact ⟨(fun _ h => (by cases h)), [Value.int x], ag_one hx, List.forall_mem_cons.mpr ⟨⟨show (20 : Nat) < 100 from by decide, nf0⟩, List.forall_mem_cons.mpr ⟨⟨show (20 : Nat) < 100 from by decide, nf1⟩, List.forall_mem_cons.mpr ⟨⟨show (20 : Nat) < 100 from by decide, nf2⟩, List.forall_mem_cons.mpr ⟨⟨show (20 : Nat) < 100 from by decide, nf3⟩, List.forall_mem_cons.mpr ⟨⟨show (20 : Nat) < 100 from by decide, nf4⟩, List.forall_mem_cons.mpr ⟨⟨show (23 : Nat) < 100 from by decide, nf5⟩, List.forall_mem_cons.mpr ⟨⟨show (20 : Nat) < 100 from by decide, nf6⟩, List.forall_mem_cons.mpr ⟨⟨show (20 : Nat) < 100 from by decide, nf7⟩, List.forall_mem_cons.mpr ⟨⟨show (24 : Nat) < 100 from by decide, nf8⟩, List.forall_mem_cons.mpr ⟨⟨show (24 : Nat) < 100 from by decide, nf9⟩, (fun _ h => (by cases h))⟩⟩⟩⟩⟩⟩⟩⟩⟩⟩, List.forall_mem_cons.mpr ⟨ho, (fun _ h => (by cases h))⟩⟩
set_option maxHeartbeats 4000000 in
theorem vc_Mo_edgeItem_21_0 (from_0 : Int) (pos_0 : Int) (r_0 : Int) (f11 : 1 * from_0 + ((-1) * pos_0 + 0) ≤ 0) (kz_0_11 : 0 ≤ pos_0 ∧ pos_0 ≤ 2000) (kz_0_15 : 0 ≤ from_0 ∧ from_0 ≤ 2000) : 1 * from_0 + ((-1) * pos_0 + 0) ≤ 0 := by
  first
    | omega
    | (have q1 := (hE_0_2_1 (r_0 + 2) (by omega)).2 (by omega)
       have q2 := (hE_0_2_2 (r_0 + 2) (by omega)).2 (by omega)
       omega)
    | (have q1 := (hE_0_2_1 (r_0 + 1) (by omega)).2 (by omega)
       have q2 := (hE_0_2_2 (r_0 + 1) (by omega)).2 (by omega)
       omega)
    | (have q1 := (hE_0_2_1 (r_0 + 2) (by omega)).2 (by omega)
       omega)
    | (have q1 := (hE_0_2_1 (r_0 + 1) (by omega)).2 (by omega)
       omega)
    | (have q1 := (hE_0_2_1 (r_0 + 2) (by omega)).2 (by omega)
       have q2 := (hE_0_2_2 (r_0 + 2) (by omega)).2 (by omega)
       have q3 := (hE_0_2_3 (r_0 + 2) (by omega)).1 (by omega)
       omega)
    | (have q1 := (hE_0_2_1 (r_0 + 2) (by omega)).2 (by omega)
       have q2 := (hE_0_2_2 (r_0 + 2) (by omega)).2 (by omega)
       have q3 := (hE_0_2_3 (r_0 + 2) (by omega)).2 (by omega)
       omega)
set_option maxHeartbeats 4000000 in
theorem vc_Mo_edgeItem_21_1 (from_0 : Int) (pos_0 : Int) (kind_0 : Int) (r_0 : Int) (f12 : ((kind_0 = 1) → (pos_0 ≤ (from_0 + 8))) ∧ ((kind_0 = 0) ∨ ((from_0 + 1) ≤ pos_0))) (kz_0_11 : 0 ≤ pos_0 ∧ pos_0 ≤ 2000) (kz_0_12 : 0 ≤ kind_0 ∧ kind_0 ≤ 4) (kz_0_15 : 0 ≤ from_0 ∧ from_0 ≤ 2000) : ((kind_0 = 1) → (pos_0 ≤ (from_0 + 8))) ∧ ((kind_0 = 0) ∨ ((from_0 + 1) ≤ pos_0)) := by
  first
    | omega
    | (have q1 := (hE_0_2_1 (r_0 + 2) (by omega)).2 (by omega)
       have q2 := (hE_0_2_2 (r_0 + 2) (by omega)).2 (by omega)
       omega)
    | (have q1 := (hE_0_2_1 (r_0 + 1) (by omega)).2 (by omega)
       have q2 := (hE_0_2_2 (r_0 + 1) (by omega)).2 (by omega)
       omega)
    | (have q1 := (hE_0_2_1 (r_0 + 2) (by omega)).2 (by omega)
       omega)
    | (have q1 := (hE_0_2_1 (r_0 + 1) (by omega)).2 (by omega)
       omega)
    | (have q1 := (hE_0_2_1 (r_0 + 2) (by omega)).2 (by omega)
       have q2 := (hE_0_2_2 (r_0 + 2) (by omega)).2 (by omega)
       have q3 := (hE_0_2_3 (r_0 + 2) (by omega)).1 (by omega)
       omega)
    | (have q1 := (hE_0_2_1 (r_0 + 2) (by omega)).2 (by omega)
       have q2 := (hE_0_2_2 (r_0 + 2) (by omega)).2 (by omega)
       have q3 := (hE_0_2_3 (r_0 + 2) (by omega)).2 (by omega)
       omega)
set_option maxHeartbeats 4000000 in
theorem vc_Mo_edgeItem_21_2 (x2 : Int) (x14 : Int) (pos_0 : Int) (r_0 : Int) (k2 : 0 ≤ x2 ∧ x2 ≤ 2000) (k14 : 0 ≤ x14 ∧ x14 ≤ 2000) (f2 : 1 * x14 + ((-1) * x2 + 0) ≤ 0) (f3 : (-1) * x14 + (1 * x2 + 0) ≤ 0) (f13 : 1 * x14 + ((-1) * pos_0 + 0) ≤ 0) (kz_0_11 : 0 ≤ pos_0 ∧ pos_0 ≤ 2000) : 1 * x2 + ((-1) * pos_0 + 0) ≤ 0 := by
  first
    | omega
    | (have q1 := (hE_0_2_1 (r_0 + 2) (by omega)).2 (by omega)
       have q2 := (hE_0_2_2 (r_0 + 2) (by omega)).2 (by omega)
       omega)
    | (have q1 := (hE_0_2_1 (r_0 + 1) (by omega)).2 (by omega)
       have q2 := (hE_0_2_2 (r_0 + 1) (by omega)).2 (by omega)
       omega)
    | (have q1 := (hE_0_2_1 (r_0 + 2) (by omega)).2 (by omega)
       omega)
    | (have q1 := (hE_0_2_1 (r_0 + 1) (by omega)).2 (by omega)
       omega)
    | (have q1 := (hE_0_2_1 (r_0 + 2) (by omega)).2 (by omega)
       have q2 := (hE_0_2_2 (r_0 + 2) (by omega)).2 (by omega)
       have q3 := (hE_0_2_3 (r_0 + 2) (by omega)).1 (by omega)
       omega)
    | (have q1 := (hE_0_2_1 (r_0 + 2) (by omega)).2 (by omega)
       have q2 := (hE_0_2_2 (r_0 + 2) (by omega)).2 (by omega)
       have q3 := (hE_0_2_3 (r_0 + 2) (by omega)).2 (by omega)
       omega)
set_option maxHeartbeats 4000000 in
theorem vc_Mo_edgeItem_21_3 (x2 : Int) (x17 : Int) (fault_0 : Int) (pos_0 : Int) (r_0 : Int) (k2 : 0 ≤ x2 ∧ x2 ≤ 2000) (k17 : 1 ≤ x17 ∧ x17 ≤ 5) (g1 : x17 = fault_0) (kz_0_8 : 0 ≤ fault_0 ∧ fault_0 ≤ 5) (kz_0_11 : 0 ≤ pos_0 ∧ pos_0 ≤ 2000) : (1 ≤ fault_0) ∨ ((x2 + 1) ≤ pos_0) := by
  first
    | omega
    | (have q1 := (hE_0_2_1 (r_0 + 2) (by omega)).2 (by omega)
       have q2 := (hE_0_2_2 (r_0 + 2) (by omega)).2 (by omega)
       omega)
    | (have q1 := (hE_0_2_1 (r_0 + 1) (by omega)).2 (by omega)
       have q2 := (hE_0_2_2 (r_0 + 1) (by omega)).2 (by omega)
       omega)
    | (have q1 := (hE_0_2_1 (r_0 + 2) (by omega)).2 (by omega)
       omega)
    | (have q1 := (hE_0_2_1 (r_0 + 1) (by omega)).2 (by omega)
       omega)
    | (have q1 := (hE_0_2_1 (r_0 + 2) (by omega)).2 (by omega)
       have q2 := (hE_0_2_2 (r_0 + 2) (by omega)).2 (by omega)
       have q3 := (hE_0_2_3 (r_0 + 2) (by omega)).1 (by omega)
       omega)
    | (have q1 := (hE_0_2_1 (r_0 + 2) (by omega)).2 (by omega)
       have q2 := (hE_0_2_2 (r_0 + 2) (by omega)).2 (by omega)
       have q3 := (hE_0_2_3 (r_0 + 2) (by omega)).2 (by omega)
       omega)
set_option maxHeartbeats 4000000 in
theorem vc_Mo_edgeItem_21_4 (x1 : Int) (all_0 : Int → Int) (r_0 : Int) (k1 : 0 ≤ x1 ∧ x1 ≤ 7) (f18 : (x1 + 1) ≤ all_0 ((r_0 + 2))) : (x1 + 1) ≤ all_0 ((r_0 + 2)) := by
  first
    | omega
    | (have q1 := (hE_0_2_1 (r_0 + 2) (by omega)).2 (by omega)
       have q2 := (hE_0_2_2 (r_0 + 2) (by omega)).2 (by omega)
       omega)
    | (have q1 := (hE_0_2_1 (r_0 + 1) (by omega)).2 (by omega)
       have q2 := (hE_0_2_2 (r_0 + 1) (by omega)).2 (by omega)
       omega)
    | (have q1 := (hE_0_2_1 (r_0 + 2) (by omega)).2 (by omega)
       omega)
    | (have q1 := (hE_0_2_1 (r_0 + 1) (by omega)).2 (by omega)
       omega)
    | (have q1 := (hE_0_2_1 (r_0 + 2) (by omega)).2 (by omega)
       have q2 := (hE_0_2_2 (r_0 + 2) (by omega)).2 (by omega)
       have q3 := (hE_0_2_3 (r_0 + 2) (by omega)).1 (by omega)
       omega)
    | (have q1 := (hE_0_2_1 (r_0 + 2) (by omega)).2 (by omega)
       have q2 := (hE_0_2_2 (r_0 + 2) (by omega)).2 (by omega)
       have q3 := (hE_0_2_3 (r_0 + 2) (by omega)).2 (by omega)
       omega)
set_option maxHeartbeats 4000000 in
theorem vc_Mo_edgeItem_21_5 (all_0 : Int → Int) (r_0 : Int) (now_0 : Int → Int) (latest_0 : Int → Int) (f19 : RWS (r_0) (all_0) (now_0) (latest_0)) : RWS (r_0) (all_0) (now_0) (latest_0) := by
  first
    | assumption
def o_Mo_edgeItem_21 : or_T := (99, 18, [(0, (2, 0, 0, [165])), (1, (0, 0, 7, [])), (2, (0, 0, 2000, [])), (14, (0, 0, 2000, [])), (17, (0, 1, 5, []))], [(9, [17, 3], [8]), (23, [14, 2], [0, 1, -1]), (23, [14, 2], [0, -1, 1]), (24, [0, 3], []), (24, [1, 4], []), (20, [3, 3], [30, 0, 1, 1, 15, -1, 1, 11]), (20, [3], [50, 3, 0, 12, 11, 15, 2, 21, 4, 7, 1, 3, 2, 0, 12, 0, 1, 0, 3, 2, 0, 11, 4, 3, 2, 0, 15, 0, 8, 3, 7, 1, 3, 2, 0, 12, 0, 0, 0, 7, 4, 3, 2, 0, 15, 0, 1, 2, 0, 11]), (20, [14, 3], [30, 0, 1, 0, 0, -1, 1, 11]), (20, [4, 3], [50, 1, 1, 1005, 1002, 0, 6, 4, 2, 1, 0, 0, 1, 3, 1, 2, 4, 3, 2, 1, 5, 0, 2]), (20, [3], [60, 1, 3, 199, 5, 2, 3, 4])], [], [], [(20, [0, 0], [30, 0, 1, 1, 15, -1, 1, 11]), (20, [0], [50, 3, 0, 12, 11, 15, 2, 21, 4, 7, 1, 3, 2, 0, 12, 0, 1, 0, 3, 2, 0, 11, 4, 3, 2, 0, 15, 0, 8, 3, 7, 1, 3, 2, 0, 12, 0, 0, 0, 7, 4, 3, 2, 0, 15, 0, 1, 2, 0, 11]), (20, [2, 0], [30, 0, 1, 0, 0, -1, 1, 11]), (20, [0, 2], [50, 2, 0, 8, 11, 3, 7, 0, 2, 0, 1, 2, 0, 8, 0, 6, 4, 2, 1, 1, 0, 1, 2, 0, 11]), (20, [1, 0], [50, 1, 1, 1005, 1002, 0, 6, 4, 2, 1, 0, 0, 1, 3, 1, 2, 4, 3, 2, 1, 5, 0, 2]), (20, [0], [60, 1, 3, 199, 5, 2, 3, 4])], [], [])
theorem oo_Mo_edgeItem_21 {kA : Nat → ClassId} : or_ok PRD kA GG o_Mo_edgeItem_21 := by
  refine or_mk fun A ta ws vs hD hth hl => ?_
  intro t0 r0 t1 k1 t2 k2 t14 k14 t17 k17 f1 f2 f3 f9 f10 f11 f12 f13 f18 f19
  replace f1 := shm_143 f1
  replace f9 := shm_5 f9
  replace f10 := shm_5 f10
  replace f11 := shm_1397 f11
  replace f12 := shm_1398 f12
  replace f13 := shm_1395 f13
  replace f18 := shm_981 f18
  replace f19 := shm_952 f19
  have q3 : n_v vs 3 = n_v vs 0 := f9.symm
  have q4 : n_v vs 4 = n_v vs 1 := f10.symm
  simp only [q3, q4] at f1 f11 f12 f13 f18 f19
  have g1 : v_iv (n_v vs 17) = w_fi ws (n_v vs 0) 8 := congrArg v_iv f1
  have kz_0_8 := fdq_14 hD hth r0
  have kz_0_11 := fdq_273 hD hth r0
  have kz_0_12 := fdq_186 hD hth r0
  have kz_0_15 := fdq_274 hD hth r0
  have nf0 : fc_1 PRD (20, [0, 0], [30, 0, 1, 1, 15, -1, 1, 11]) ws (vs) := ⟨nf_in hl rfl, sgq_1397 (vc_Mo_edgeItem_21_0 (w_fi ws (n_v vs 0) 15) (w_fi ws (n_v vs 0) 11) (w_fi ws (n_v vs 0) 5) f11 kz_0_11 kz_0_15)⟩
  have nf1 : fc_1 PRD (20, [0], [50, 3, 0, 12, 11, 15, 2, 21, 4, 7, 1, 3, 2, 0, 12, 0, 1, 0, 3, 2, 0, 11, 4, 3, 2, 0, 15, 0, 8, 3, 7, 1, 3, 2, 0, 12, 0, 0, 0, 7, 4, 3, 2, 0, 15, 0, 1, 2, 0, 11]) ws (vs) := ⟨nf_in hl rfl, sgq_1398 (vc_Mo_edgeItem_21_1 (w_fi ws (n_v vs 0) 15) (w_fi ws (n_v vs 0) 11) (w_fi ws (n_v vs 0) 12) (w_fi ws (n_v vs 0) 5) f12 kz_0_11 kz_0_12 kz_0_15)⟩
  have nf2 : fc_1 PRD (20, [2, 0], [30, 0, 1, 0, 0, -1, 1, 11]) ws (vs) := ⟨nf_in hl rfl, sgq_1395 (vc_Mo_edgeItem_21_2 (v_iv (n_v vs 2)) (v_iv (n_v vs 14)) (w_fi ws (n_v vs 0) 11) (w_fi ws (n_v vs 0) 5) k2 k14 (shm_7 f2) (shm_22 f3) f13 kz_0_11)⟩
  have nf3 : fc_1 PRD (20, [0, 2], [50, 2, 0, 8, 11, 3, 7, 0, 2, 0, 1, 2, 0, 8, 0, 6, 4, 2, 1, 1, 0, 1, 2, 0, 11]) ws (vs) := ⟨nf_in hl rfl, sgq_1659 (vc_Mo_edgeItem_21_3 (v_iv (n_v vs 2)) (v_iv (n_v vs 17)) (w_fi ws (n_v vs 0) 8) (w_fi ws (n_v vs 0) 11) (w_fi ws (n_v vs 0) 5) k2 k17 g1 kz_0_8 kz_0_11)⟩
  have nf4 : fc_1 PRD (20, [1, 0], [50, 1, 1, 1005, 1002, 0, 6, 4, 2, 1, 0, 0, 1, 3, 1, 2, 4, 3, 2, 1, 5, 0, 2]) ws (vs) := ⟨nf_in hl rfl, sgq_981 (vc_Mo_edgeItem_21_4 (v_iv (n_v vs 1)) (w_ei ws (w_ar ws (n_v vs 0) 2)) (w_fi ws (n_v vs 0) 5) k1 f18)⟩
  have nf5 : fc_1 PRD (20, [0], [60, 1, 3, 199, 5, 2, 3, 4]) ws (vs) := ⟨nf_in hl rfl, sgq_952 (vc_Mo_edgeItem_21_5 (w_ei ws (w_ar ws (n_v vs 0) 2)) (w_fi ws (n_v vs 0) 5) (w_ei ws (w_ar ws (n_v vs 0) 3)) (w_ei ws (w_ar ws (n_v vs 0) 4)) f19)⟩
  refine ⟨(fun _ h => (by cases h)), [], trivial, ?_, (fun _ h => (by cases h))⟩
  rw [List.append_nil]
  exact List.forall_mem_cons.mpr ⟨⟨show (20 : Nat) < 100 from by decide, nf0⟩, List.forall_mem_cons.mpr ⟨⟨show (20 : Nat) < 100 from by decide, nf1⟩, List.forall_mem_cons.mpr ⟨⟨show (20 : Nat) < 100 from by decide, nf2⟩, List.forall_mem_cons.mpr ⟨⟨show (20 : Nat) < 100 from by decide, nf3⟩, List.forall_mem_cons.mpr ⟨⟨show (20 : Nat) < 100 from by decide, nf4⟩, List.forall_mem_cons.mpr ⟨⟨show (20 : Nat) < 100 from by decide, nf5⟩, (fun _ h => (by cases h))⟩⟩⟩⟩⟩⟩
set_option maxHeartbeats 4000000 in
theorem vc_Mo_edgeItem_22_0 (x1 : Int) (all_0 : Int → Int) (r_0 : Int) (k1 : 0 ≤ x1 ∧ x1 ≤ 7) (f0 : (x1 + 1) ≤ all_0 ((r_0 + 2))) : (x1 + 1) ≤ all_0 ((r_0 + 2)) := by
  first
    | omega
    | (have q1 := (hE_0_2_1 (r_0 + 2) (by omega)).2 (by omega)
       have q2 := (hE_0_2_2 (r_0 + 2) (by omega)).2 (by omega)
       omega)
    | (have q1 := (hE_0_2_1 (r_0 + 1) (by omega)).2 (by omega)
       have q2 := (hE_0_2_2 (r_0 + 1) (by omega)).2 (by omega)
       omega)
    | (have q1 := (hE_0_2_1 (r_0 + 2) (by omega)).2 (by omega)
       omega)
    | (have q1 := (hE_0_2_1 (r_0 + 1) (by omega)).2 (by omega)
       omega)
    | (have q1 := (hE_0_2_1 (r_0 + 2) (by omega)).2 (by omega)
       have q2 := (hE_0_2_2 (r_0 + 2) (by omega)).2 (by omega)
       have q3 := (hE_0_2_3 (r_0 + 2) (by omega)).1 (by omega)
       omega)
    | (have q1 := (hE_0_2_1 (r_0 + 2) (by omega)).2 (by omega)
       have q2 := (hE_0_2_2 (r_0 + 2) (by omega)).2 (by omega)
       have q3 := (hE_0_2_3 (r_0 + 2) (by omega)).2 (by omega)
       omega)
set_option maxHeartbeats 4000000 in
theorem vc_Mo_edgeItem_22_1 (r_0 : Int) (from_0 : Int) (pos_0 : Int) (f1 : 1 * from_0 + ((-1) * pos_0 + 0) ≤ 0) (kz_0_11 : 0 ≤ pos_0 ∧ pos_0 ≤ 2000) (kz_0_15 : 0 ≤ from_0 ∧ from_0 ≤ 2000) : 1 * from_0 + ((-1) * pos_0 + 0) ≤ 0 := by
  first
    | omega
    | (have q1 := (hE_0_2_1 (r_0 + 2) (by omega)).2 (by omega)
       have q2 := (hE_0_2_2 (r_0 + 2) (by omega)).2 (by omega)
       omega)
    | (have q1 := (hE_0_2_1 (r_0 + 1) (by omega)).2 (by omega)
       have q2 := (hE_0_2_2 (r_0 + 1) (by omega)).2 (by omega)
       omega)
    | (have q1 := (hE_0_2_1 (r_0 + 2) (by omega)).2 (by omega)
       omega)
    | (have q1 := (hE_0_2_1 (r_0 + 1) (by omega)).2 (by omega)
       omega)
    | (have q1 := (hE_0_2_1 (r_0 + 2) (by omega)).2 (by omega)
       have q2 := (hE_0_2_2 (r_0 + 2) (by omega)).2 (by omega)
       have q3 := (hE_0_2_3 (r_0 + 2) (by omega)).1 (by omega)
       omega)
    | (have q1 := (hE_0_2_1 (r_0 + 2) (by omega)).2 (by omega)
       have q2 := (hE_0_2_2 (r_0 + 2) (by omega)).2 (by omega)
       have q3 := (hE_0_2_3 (r_0 + 2) (by omega)).2 (by omega)
       omega)
set_option maxHeartbeats 4000000 in
theorem vc_Mo_edgeItem_22_2 (r_0 : Int) (from_0 : Int) (pos_0 : Int) (kind_0 : Int) (f2 : ((kind_0 = 1) → (pos_0 ≤ (from_0 + 8))) ∧ ((kind_0 = 0) ∨ ((from_0 + 1) ≤ pos_0))) (kz_0_11 : 0 ≤ pos_0 ∧ pos_0 ≤ 2000) (kz_0_12 : 0 ≤ kind_0 ∧ kind_0 ≤ 4) (kz_0_15 : 0 ≤ from_0 ∧ from_0 ≤ 2000) : ((kind_0 = 1) → (pos_0 ≤ (from_0 + 8))) ∧ ((kind_0 = 0) ∨ ((from_0 + 1) ≤ pos_0)) := by
  first
    | omega
    | (have q1 := (hE_0_2_1 (r_0 + 2) (by omega)).2 (by omega)
       have q2 := (hE_0_2_2 (r_0 + 2) (by omega)).2 (by omega)
       omega)
    | (have q1 := (hE_0_2_1 (r_0 + 1) (by omega)).2 (by omega)
       have q2 := (hE_0_2_2 (r_0 + 1) (by omega)).2 (by omega)
       omega)
    | (have q1 := (hE_0_2_1 (r_0 + 2) (by omega)).2 (by omega)
       omega)
    | (have q1 := (hE_0_2_1 (r_0 + 1) (by omega)).2 (by omega)
       omega)
    | (have q1 := (hE_0_2_1 (r_0 + 2) (by omega)).2 (by omega)
       have q2 := (hE_0_2_2 (r_0 + 2) (by omega)).2 (by omega)
       have q3 := (hE_0_2_3 (r_0 + 2) (by omega)).1 (by omega)
       omega)
    | (have q1 := (hE_0_2_1 (r_0 + 2) (by omega)).2 (by omega)
       have q2 := (hE_0_2_2 (r_0 + 2) (by omega)).2 (by omega)
       have q3 := (hE_0_2_3 (r_0 + 2) (by omega)).2 (by omega)
       omega)
set_option maxHeartbeats 4000000 in
theorem vc_Mo_edgeItem_22_3 (x2 : Int) (r_0 : Int) (pos_0 : Int) (gx : Int) (k2 : 0 ≤ x2 ∧ x2 ≤ 2000) (f3 : 1 * x2 + ((-1) * pos_0 + 0) ≤ (-1)) (kz_0_11 : 0 ≤ pos_0 ∧ pos_0 ≤ 2000) (ex2 : gx = 2000 + ((-1) * pos_0 + 0)) : 1 * x2 + ((-1) * pos_0 + 0) ≤ 0 := by
  first
    | omega
    | (have q1 := (hE_0_2_1 (r_0 + 2) (by omega)).2 (by omega)
       have q2 := (hE_0_2_2 (r_0 + 2) (by omega)).2 (by omega)
       omega)
    | (have q1 := (hE_0_2_1 (r_0 + 1) (by omega)).2 (by omega)
       have q2 := (hE_0_2_2 (r_0 + 1) (by omega)).2 (by omega)
       omega)
    | (have q1 := (hE_0_2_1 (r_0 + 2) (by omega)).2 (by omega)
       omega)
    | (have q1 := (hE_0_2_1 (r_0 + 1) (by omega)).2 (by omega)
       omega)
    | (have q1 := (hE_0_2_1 (r_0 + 2) (by omega)).2 (by omega)
       have q2 := (hE_0_2_2 (r_0 + 2) (by omega)).2 (by omega)
       have q3 := (hE_0_2_3 (r_0 + 2) (by omega)).1 (by omega)
       omega)
    | (have q1 := (hE_0_2_1 (r_0 + 2) (by omega)).2 (by omega)
       have q2 := (hE_0_2_2 (r_0 + 2) (by omega)).2 (by omega)
       have q3 := (hE_0_2_3 (r_0 + 2) (by omega)).2 (by omega)
       omega)
set_option maxHeartbeats 4000000 in
theorem vc_Mo_edgeItem_22_4 (x2 : Int) (r_0 : Int) (pos_0 : Int) (kind_0 : Int) (fault_0 : Int) (gx : Int) (k2 : 0 ≤ x2 ∧ x2 ≤ 2000) (f3 : 1 * x2 + ((-1) * pos_0 + 0) ≤ (-1)) (kz_0_8 : 0 ≤ fault_0 ∧ fault_0 ≤ 5) (kz_0_11 : 0 ≤ pos_0 ∧ pos_0 ≤ 2000) (kz_0_12 : 0 ≤ kind_0 ∧ kind_0 ≤ 4) (ex2 : gx = 2000 + ((-1) * pos_0 + 0)) : (1 ≤ fault_0) ∨ ((kind_0 = 0) ∨ ((x2 + 1) ≤ pos_0)) := by
  first
    | omega
    | (have q1 := (hE_0_2_1 (r_0 + 2) (by omega)).2 (by omega)
       have q2 := (hE_0_2_2 (r_0 + 2) (by omega)).2 (by omega)
       omega)
    | (have q1 := (hE_0_2_1 (r_0 + 1) (by omega)).2 (by omega)
       have q2 := (hE_0_2_2 (r_0 + 1) (by omega)).2 (by omega)
       omega)
    | (have q1 := (hE_0_2_1 (r_0 + 2) (by omega)).2 (by omega)
       omega)
    | (have q1 := (hE_0_2_1 (r_0 + 1) (by omega)).2 (by omega)
       omega)
    | (have q1 := (hE_0_2_1 (r_0 + 2) (by omega)).2 (by omega)
       have q2 := (hE_0_2_2 (r_0 + 2) (by omega)).2 (by omega)
       have q3 := (hE_0_2_3 (r_0 + 2) (by omega)).1 (by omega)
       omega)
    | (have q1 := (hE_0_2_1 (r_0 + 2) (by omega)).2 (by omega)
       have q2 := (hE_0_2_2 (r_0 + 2) (by omega)).2 (by omega)
       have q3 := (hE_0_2_3 (r_0 + 2) (by omega)).2 (by omega)
       omega)
set_option maxHeartbeats 4000000 in
theorem vc_Mo_edgeItem_22_5 (x8 : Int) (r_0 : Int) (fault_0 : Int) (k8 : 0 ≤ x8 ∧ x8 ≤ 23) (kz_0_8 : 0 ≤ fault_0 ∧ fault_0 ≤ 5) : ((-1) * fault_0 + 0 ≤ (-1)) ∨ ((-1) * x8 + 0 ≤ 0) := by
  first
    | omega
    | (have q1 := (hE_0_2_1 (r_0 + 2) (by omega)).2 (by omega)
       have q2 := (hE_0_2_2 (r_0 + 2) (by omega)).2 (by omega)
       omega)
    | (have q1 := (hE_0_2_1 (r_0 + 1) (by omega)).2 (by omega)
       have q2 := (hE_0_2_2 (r_0 + 1) (by omega)).2 (by omega)
       omega)
    | (have q1 := (hE_0_2_1 (r_0 + 2) (by omega)).2 (by omega)
       omega)
    | (have q1 := (hE_0_2_1 (r_0 + 1) (by omega)).2 (by omega)
       omega)
    | (have q1 := (hE_0_2_1 (r_0 + 2) (by omega)).2 (by omega)
       have q2 := (hE_0_2_2 (r_0 + 2) (by omega)).2 (by omega)
       have q3 := (hE_0_2_3 (r_0 + 2) (by omega)).1 (by omega)
       omega)
    | (have q1 := (hE_0_2_1 (r_0 + 2) (by omega)).2 (by omega)
       have q2 := (hE_0_2_2 (r_0 + 2) (by omega)).2 (by omega)
       have q3 := (hE_0_2_3 (r_0 + 2) (by omega)).2 (by omega)
       omega)
set_option maxHeartbeats 4000000 in
theorem vc_Mo_edgeItem_22_6 (all_0 : Int → Int) (r_0 : Int) (now_0 : Int → Int) (latest_0 : Int → Int) (f6 : RWS (r_0) (all_0) (now_0) (latest_0)) : RWS (r_0) (all_0) (now_0) (latest_0) := by
  first
    | assumption
set_option maxHeartbeats 4000000 in
theorem vc_Mo_edgeItem_22_7 (x8 : Int) (all_0 : Int → Int) (r_0 : Int) (fault_0 : Int) (k8 : 0 ≤ x8 ∧ x8 ≤ 23) (f7 : NDA (r_0) (all_0) (x8)) (kz_0_8 : 0 ≤ fault_0 ∧ fault_0 ≤ 5) : EDI (r_0) (fault_0) (all_0) (x8) := by
  first
    | (intro q; exfalso; omega)
    | exact fun q => (‹MET _ _ _ _ _› (by omega)).1
    | exact fun q => ‹NDA _ _ _›
set_option maxHeartbeats 4000000 in
theorem vc_Mo_edgeItem_22_10 (r_0 : Int) (pos_0 : Int) (gx : Int) (kz_0_11 : 0 ≤ pos_0 ∧ pos_0 ≤ 2000) (ex2 : gx = 2000 + ((-1) * pos_0 + 0)) : 1 * gx + (1 * pos_0 + 0) ≤ 2000 := by
  first
    | omega
    | (have q1 := (hE_0_2_1 (r_0 + 2) (by omega)).2 (by omega)
       have q2 := (hE_0_2_2 (r_0 + 2) (by omega)).2 (by omega)
       omega)
    | (have q1 := (hE_0_2_1 (r_0 + 1) (by omega)).2 (by omega)
       have q2 := (hE_0_2_2 (r_0 + 1) (by omega)).2 (by omega)
       omega)
    | (have q1 := (hE_0_2_1 (r_0 + 2) (by omega)).2 (by omega)
       omega)
    | (have q1 := (hE_0_2_1 (r_0 + 1) (by omega)).2 (by omega)
       omega)
    | (have q1 := (hE_0_2_1 (r_0 + 2) (by omega)).2 (by omega)
       have q2 := (hE_0_2_2 (r_0 + 2) (by omega)).2 (by omega)
       have q3 := (hE_0_2_3 (r_0 + 2) (by omega)).1 (by omega)
       omega)
    | (have q1 := (hE_0_2_1 (r_0 + 2) (by omega)).2 (by omega)
       have q2 := (hE_0_2_2 (r_0 + 2) (by omega)).2 (by omega)
       have q3 := (hE_0_2_3 (r_0 + 2) (by omega)).2 (by omega)
       omega)
set_option maxHeartbeats 4000000 in
theorem vc_Mo_edgeItem_22_11 (r_0 : Int) (pos_0 : Int) (gx : Int) (kz_0_11 : 0 ≤ pos_0 ∧ pos_0 ≤ 2000) (ex2 : gx = 2000 + ((-1) * pos_0 + 0)) : (-1) * gx + ((-1) * pos_0 + 0) ≤ (-2000) := by
  first
    | omega
    | (have q1 := (hE_0_2_1 (r_0 + 2) (by omega)).2 (by omega)
       have q2 := (hE_0_2_2 (r_0 + 2) (by omega)).2 (by omega)
       omega)
    | (have q1 := (hE_0_2_1 (r_0 + 1) (by omega)).2 (by omega)
       have q2 := (hE_0_2_2 (r_0 + 1) (by omega)).2 (by omega)
       omega)
    | (have q1 := (hE_0_2_1 (r_0 + 2) (by omega)).2 (by omega)
       omega)
    | (have q1 := (hE_0_2_1 (r_0 + 1) (by omega)).2 (by omega)
       omega)
    | (have q1 := (hE_0_2_1 (r_0 + 2) (by omega)).2 (by omega)
       have q2 := (hE_0_2_2 (r_0 + 2) (by omega)).2 (by omega)
       have q3 := (hE_0_2_3 (r_0 + 2) (by omega)).1 (by omega)
       omega)
    | (have q1 := (hE_0_2_1 (r_0 + 2) (by omega)).2 (by omega)
       have q2 := (hE_0_2_2 (r_0 + 2) (by omega)).2 (by omega)
       have q3 := (hE_0_2_3 (r_0 + 2) (by omega)).2 (by omega)
       omega)
def o_Mo_edgeItem_22 : or_T := (46, 11, [(0, (2, 0, 0, [165])), (1, (0, 0, 7, [])), (2, (0, 0, 2000, [])), (3, (2, 0, 0, [165])), (4, (0, 0, 7, [])), (8, (0, 0, 23, [])), (10, (0, 0, 2000, []))], [(20, [4, 3], [50, 1, 1, 1005, 1002, 0, 6, 4, 2, 1, 0, 0, 1, 3, 1, 2, 4, 3, 2, 1, 5, 0, 2]), (20, [3, 3], [30, 0, 1, 1, 15, -1, 1, 11]), (20, [3], [50, 3, 0, 12, 11, 15, 2, 21, 4, 7, 1, 3, 2, 0, 12, 0, 1, 0, 3, 2, 0, 11, 4, 3, 2, 0, 15, 0, 8, 3, 7, 1, 3, 2, 0, 12, 0, 0, 0, 7, 4, 3, 2, 0, 15, 0, 1, 2, 0, 11]), (20, [2, 3], [30, -1, 1, 0, 0, -1, 1, 11]), (20, [10, 3], [30, -2001, -1, 0, 0, -1, 1, 11]), (23, [8], [0, -1]), (20, [3], [60, 1, 3, 199, 5, 2, 3, 4]), (20, [3, 8], [60, 1, 1, 208, 5, 2]), (24, [0, 3], []), (24, [1, 4], [])], [], [(0, 0, 2000, [])], [(20, [4, 3], [50, 1, 1, 1005, 1002, 0, 6, 4, 2, 1, 0, 0, 1, 3, 1, 2, 4, 3, 2, 1, 5, 0, 2]), (20, [3, 3], [30, 0, 1, 1, 15, -1, 1, 11]), (20, [3], [50, 3, 0, 12, 11, 15, 2, 21, 4, 7, 1, 3, 2, 0, 12, 0, 1, 0, 3, 2, 0, 11, 4, 3, 2, 0, 15, 0, 8, 3, 7, 1, 3, 2, 0, 12, 0, 0, 0, 7, 4, 3, 2, 0, 15, 0, 1, 2, 0, 11]), (20, [2, 3], [30, 0, 1, 0, 0, -1, 1, 11]), (20, [3, 2], [50, 3, 0, 8, 12, 11, 3, 7, 0, 2, 0, 1, 2, 0, 8, 3, 7, 1, 3, 2, 0, 12, 0, 0, 0, 6, 4, 2, 1, 1, 0, 1, 2, 0, 11]), (20, [3, 8], [31, 1, -1, -1, 1, 8, 0, -1, 0, 0]), (20, [3], [60, 1, 3, 199, 5, 2, 3, 4]), (20, [3, 8], [60, 2, 1, 242, 5, 8, 2]), (24, [0, 3], []), (24, [1, 4], []), (20, [11, 3], [30, 2000, 1, 0, 0, 1, 1, 11]), (20, [11, 3], [30, -2000, -1, 0, 0, -1, 1, 11])], [(11, 10, -1000000000000, -1)], [(1, 4, -4294967296, 0), (4, 1, -4294967296, 0)])
theorem oo_Mo_edgeItem_22 {kA : Nat → ClassId} : or_ok PRD kA GG o_Mo_edgeItem_22 := by
  refine or_mk fun A ta ws vs hD hth hl => ?_
  intro t0 r0 t1 k1 t2 k2 t3 r3 t4 k4 t8 k8 t10 k10 d0 d1 f0 f1 f2 f3 f4 f5 f6 f7 f8 f9
  replace f0 := shm_981 f0
  replace f1 := shm_1397 f1
  replace f2 := shm_1398 f2
  replace f3 := shm_1891 f3
  replace f4 := shm_1896 f4
  replace f5 := shm_1013 f5
  replace f6 := shm_952 f6
  replace f7 := shm_955 f7
  replace f8 := shm_5 f8
  replace f9 := shm_5 f9
  have q3 : n_v vs 3 = n_v vs 0 := f8.symm
  have q4 : n_v vs 4 = n_v vs 1 := f9.symm
  simp only [q3, q4] at f0 f1 f2 f3 f4 f6 f7
  have cr_0_2 := fdq_12 hD hth r0
  have cr_0_3 := fdq_141 hD hth r0
  have cr_0_4 := fdq_142 hD hth r0
  have hK_0_3 := elq_77 hD hth cr_0_3
  have hK_0_4 := elq_78 hD hth cr_0_4
  have kz_0_8 := fdq_14 hD hth r0
  have kz_0_11 := fdq_273 hD hth r0
  have kz_0_12 := fdq_186 hD hth r0
  have kz_0_15 := fdq_274 hD hth r0
  have kb_0_11 := fdq_273 hD hth r0
  obtain ⟨x, ex, hx⟩ := iv_ex (ta := ta) (lo := 0) (hi := 2000) (z := 2000 + ((-1) * w_fi ws (n_v vs 0) 11 + 0)) (by omega) (by omega) (by omega) (by omega)
  have ex2 : v_iv (Value.int x) = 2000 + ((-1) * w_fi ws (n_v vs 0) 11 + 0) := ex
  have ex3 : 0 ≤ v_iv (Value.int x) ∧ v_iv (Value.int x) ≤ 2000 := tv_rng hx
  have e_0 : n_v (vs ++ [Value.int x]) 0 = n_v vs 0 := n_v_old (by rw [hl]; decide)
  have e_1 : n_v (vs ++ [Value.int x]) 1 = n_v vs 1 := n_v_old (by rw [hl]; decide)
  have e_2 : n_v (vs ++ [Value.int x]) 2 = n_v vs 2 := n_v_old (by rw [hl]; decide)
  have e_3 : n_v (vs ++ [Value.int x]) 3 = n_v vs 3 := n_v_old (by rw [hl]; decide)
  have e_4 : n_v (vs ++ [Value.int x]) 4 = n_v vs 4 := n_v_old (by rw [hl]; decide)
  have e_8 : n_v (vs ++ [Value.int x]) 8 = n_v vs 8 := n_v_old (by rw [hl]; decide)
  have e_11 : n_v (vs ++ [Value.int x]) 11 = Value.int x := n_v_new hl
  have nf0 : fc_1 PRD (20, [4, 3], [50, 1, 1, 1005, 1002, 0, 6, 4, 2, 1, 0, 0, 1, 3, 1, 2, 4, 3, 2, 1, 5, 0, 2]) ws (vs ++ [Value.int x]) := by
    refine ⟨nf_inA hl rfl, sgq_981 ?_⟩
    · show (v_iv (n_v (vs ++ [Value.int x]) 4) + 1) ≤ w_ei ws (w_ar ws (n_v (vs ++ [Value.int x]) 3) 2) ((w_fi ws (n_v (vs ++ [Value.int x]) 3) 5 + 2))
      simp only [e_3, e_4, q3, q4]
      exact vc_Mo_edgeItem_22_0 (v_iv (n_v vs 1)) (w_ei ws (w_ar ws (n_v vs 0) 2)) (w_fi ws (n_v vs 0) 5) k1 f0
  have nf1 : fc_1 PRD (20, [3, 3], [30, 0, 1, 1, 15, -1, 1, 11]) ws (vs ++ [Value.int x]) := by
    refine ⟨nf_inA hl rfl, sgq_1397 ?_⟩
    · show 1 * w_fi ws (n_v (vs ++ [Value.int x]) 3) 15 + ((-1) * w_fi ws (n_v (vs ++ [Value.int x]) 3) 11 + 0) ≤ 0
      simp only [e_3, q3]
      exact vc_Mo_edgeItem_22_1 (w_fi ws (n_v vs 0) 5) (w_fi ws (n_v vs 0) 15) (w_fi ws (n_v vs 0) 11) f1 kz_0_11 kz_0_15
  have nf2 : fc_1 PRD (20, [3], [50, 3, 0, 12, 11, 15, 2, 21, 4, 7, 1, 3, 2, 0, 12, 0, 1, 0, 3, 2, 0, 11, 4, 3, 2, 0, 15, 0, 8, 3, 7, 1, 3, 2, 0, 12, 0, 0, 0, 7, 4, 3, 2, 0, 15, 0, 1, 2, 0, 11]) ws (vs ++ [Value.int x]) := by
    refine ⟨nf_inA hl rfl, sgq_1398 ?_⟩
    · show ((w_fi ws (n_v (vs ++ [Value.int x]) 3) 12 = 1) → (w_fi ws (n_v (vs ++ [Value.int x]) 3) 11 ≤ (w_fi ws (n_v (vs ++ [Value.int x]) 3) 15 + 8))) ∧ ((w_fi ws (n_v (vs ++ [Value.int x]) 3) 12 = 0) ∨ ((w_fi ws (n_v (vs ++ [Value.int x]) 3) 15 + 1) ≤ w_fi ws (n_v (vs ++ [Value.int x]) 3) 11))
      simp only [e_3, q3]
      exact vc_Mo_edgeItem_22_2 (w_fi ws (n_v vs 0) 5) (w_fi ws (n_v vs 0) 15) (w_fi ws (n_v vs 0) 11) (w_fi ws (n_v vs 0) 12) f2 kz_0_11 kz_0_12 kz_0_15
  have nf3 : fc_1 PRD (20, [2, 3], [30, 0, 1, 0, 0, -1, 1, 11]) ws (vs ++ [Value.int x]) := by
    refine ⟨nf_inA hl rfl, sgq_1395 ?_⟩
    · show 1 * v_iv (n_v (vs ++ [Value.int x]) 2) + ((-1) * w_fi ws (n_v (vs ++ [Value.int x]) 3) 11 + 0) ≤ 0
      simp only [e_2, e_3, q3]
      exact vc_Mo_edgeItem_22_3 (v_iv (n_v vs 2)) (w_fi ws (n_v vs 0) 5) (w_fi ws (n_v vs 0) 11) (v_iv (Value.int x)) k2 f3 kz_0_11 ex2
  have nf4 : fc_1 PRD (20, [3, 2], [50, 3, 0, 8, 12, 11, 3, 7, 0, 2, 0, 1, 2, 0, 8, 3, 7, 1, 3, 2, 0, 12, 0, 0, 0, 6, 4, 2, 1, 1, 0, 1, 2, 0, 11]) ws (vs ++ [Value.int x]) := by
    refine ⟨nf_inA hl rfl, sgq_1660 ?_⟩
    · show (1 ≤ w_fi ws (n_v (vs ++ [Value.int x]) 3) 8) ∨ ((w_fi ws (n_v (vs ++ [Value.int x]) 3) 12 = 0) ∨ ((v_iv (n_v (vs ++ [Value.int x]) 2) + 1) ≤ w_fi ws (n_v (vs ++ [Value.int x]) 3) 11))
      simp only [e_2, e_3, q3]
      exact vc_Mo_edgeItem_22_4 (v_iv (n_v vs 2)) (w_fi ws (n_v vs 0) 5) (w_fi ws (n_v vs 0) 11) (w_fi ws (n_v vs 0) 12) (w_fi ws (n_v vs 0) 8) (v_iv (Value.int x)) k2 f3 kz_0_8 kz_0_11 kz_0_12 ex2
  have nf5 : fc_1 PRD (20, [3, 8], [31, 1, -1, -1, 1, 8, 0, -1, 0, 0]) ws (vs ++ [Value.int x]) := by
    refine ⟨nf_inA hl rfl, sgq_1982 ?_⟩
    · show ((-1) * w_fi ws (n_v (vs ++ [Value.int x]) 3) 8 + 0 ≤ (-1)) ∨ ((-1) * v_iv (n_v (vs ++ [Value.int x]) 8) + 0 ≤ 0)
      simp only [e_3, e_8, q3]
      exact vc_Mo_edgeItem_22_5 (v_iv (n_v vs 8)) (w_fi ws (n_v vs 0) 5) (w_fi ws (n_v vs 0) 8) k8 kz_0_8
  have nf6 : fc_1 PRD (20, [3], [60, 1, 3, 199, 5, 2, 3, 4]) ws (vs ++ [Value.int x]) := by
    refine ⟨nf_inA hl rfl, sgq_952 ?_⟩
    · show RWS (w_fi ws (n_v (vs ++ [Value.int x]) 3) 5) (w_ei ws (w_ar ws (n_v (vs ++ [Value.int x]) 3) 2)) (w_ei ws (w_ar ws (n_v (vs ++ [Value.int x]) 3) 3)) (w_ei ws (w_ar ws (n_v (vs ++ [Value.int x]) 3) 4))
      simp only [e_3, q3]
      exact vc_Mo_edgeItem_22_6 (w_ei ws (w_ar ws (n_v vs 0) 2)) (w_fi ws (n_v vs 0) 5) (w_ei ws (w_ar ws (n_v vs 0) 3)) (w_ei ws (w_ar ws (n_v vs 0) 4)) f6
  have nf7 : fc_1 PRD (20, [3, 8], [60, 2, 1, 242, 5, 8, 2]) ws (vs ++ [Value.int x]) := by
    refine ⟨nf_inA hl rfl, sgq_1996 ?_⟩
    · show EDI (w_fi ws (n_v (vs ++ [Value.int x]) 3) 5) (w_fi ws (n_v (vs ++ [Value.int x]) 3) 8) (w_ei ws (w_ar ws (n_v (vs ++ [Value.int x]) 3) 2)) (v_iv (n_v (vs ++ [Value.int x]) 8))
      simp only [e_3, e_8, q3]
      exact vc_Mo_edgeItem_22_7 (v_iv (n_v vs 8)) (w_ei ws (w_ar ws (n_v vs 0) 2)) (w_fi ws (n_v vs 0) 5) (w_fi ws (n_v vs 0) 8) k8 f7 kz_0_8
  have nf8 : fc_1 PRD (24, [0, 3], []) ws (vs ++ [Value.int x]) := by
    refine ⟨nf_inA hl rfl, sgq_5 ?_⟩
    · show n_v (vs ++ [Value.int x]) 0 = n_v (vs ++ [Value.int x]) 3
      first | rfl | simp only [e_0, e_3, q3, q4]
  have nf9 : fc_1 PRD (24, [1, 4], []) ws (vs ++ [Value.int x]) := by
    refine ⟨nf_inA hl rfl, sgq_5 ?_⟩
    · show n_v (vs ++ [Value.int x]) 1 = n_v (vs ++ [Value.int x]) 4
      first | rfl | simp only [e_1, e_4, q3, q4]
  have nf10 : fc_1 PRD (20, [11, 3], [30, 2000, 1, 0, 0, 1, 1, 11]) ws (vs ++ [Value.int x]) := by
    refine ⟨nf_inA hl rfl, sgq_1892 ?_⟩
    · show 1 * v_iv (n_v (vs ++ [Value.int x]) 11) + (1 * w_fi ws (n_v (vs ++ [Value.int x]) 3) 11 + 0) ≤ 2000
      simp only [e_3, e_11, q3]
      exact vc_Mo_edgeItem_22_10 (w_fi ws (n_v vs 0) 5) (w_fi ws (n_v vs 0) 11) (v_iv (Value.int x)) kz_0_11 ex2
  have nf11 : fc_1 PRD (20, [11, 3], [30, -2000, -1, 0, 0, -1, 1, 11]) ws (vs ++ [Value.int x]) := by
    refine ⟨nf_inA hl rfl, sgq_1893 ?_⟩
    · show (-1) * v_iv (n_v (vs ++ [Value.int x]) 11) + ((-1) * w_fi ws (n_v (vs ++ [Value.int x]) 3) 11 + 0) ≤ (-2000)
      simp only [e_3, e_11, q3]
      exact vc_Mo_edgeItem_22_11 (w_fi ws (n_v vs 0) 5) (w_fi ws (n_v vs 0) 11) (v_iv (Value.int x)) kz_0_11 ex2
  obtain ⟨x0, e0, _, _⟩ := tv_int t10 rfl
  have e1 : v_iv (n_v vs 10) = x0.toInt := by rw [e0]; rfl
  have ho : sy_ofs (vs ++ [Value.int x]) (11, 10, -1000000000000, -1) := by
    refine ⟨x, x0, by rw [List.getElem?_append_right (by rw [hl]; decide), hl]; rfl, ?_, ?_, ?_⟩
    · rw [List.getElem?_append_left (by rw [hl]; decide)]; exact n_v_some (by rw [hl]; decide) e0
    · show x0.toInt + (-1000000000000) ≤ x.toInt; omega
    · show x.toInt ≤ x0.toInt + (-1); omega
  exact ⟨(fun _ h => (by cases h)), [Value.int x], ag_one hx, List.forall_mem_cons.mpr ⟨⟨show (20 : Nat) < 100 from by decide, nf0⟩, List.forall_mem_cons.mpr ⟨⟨show (20 : Nat) < 100 from by decide, nf1⟩, List.forall_mem_cons.mpr ⟨⟨show (20 : Nat) < 100 from by decide, nf2⟩, List.forall_mem_cons.mpr ⟨⟨show (20 : Nat) < 100 from by decide, nf3⟩, List.forall_mem_cons.mpr ⟨⟨show (20 : Nat) < 100 from by decide, nf4⟩, List.forall_mem_cons.mpr ⟨⟨show (20 : Nat) < 100 from by decide, nf5⟩, List.forall_mem_cons.mpr ⟨⟨show (20 : Nat) < 100 from by decide, nf6⟩, List.forall_mem_cons.mpr ⟨⟨show (20 : Nat) < 100 from by decide, nf7⟩, List.forall_mem_cons.mpr ⟨⟨show (24 : Nat) < 100 from by decide, nf8⟩, List.forall_mem_cons.mpr ⟨⟨show (24 : Nat) < 100 from by decide, nf9⟩, List.forall_mem_cons.mpr ⟨⟨show (20 : Nat) < 100 from by decide, nf10⟩, List.forall_mem_cons.mpr ⟨⟨show (20 : Nat) < 100 from by decide, nf11⟩, (fun _ h => (by cases h))⟩⟩⟩⟩⟩⟩⟩⟩⟩⟩⟩⟩, List.forall_mem_cons.mpr ⟨ho, (fun _ h => (by cases h))⟩⟩
set_option maxHeartbeats 4000000 in
theorem vc_Mo_edgeItem_23_0 (x2 : Int) (r_0 : Int) (gx : Int) (k2 : 0 ≤ x2 ∧ x2 ≤ 2000) (ex2 : gx = x2) : 1 * gx + ((-1) * x2 + 0) ≤ 0 := by
  first
    | omega
    | (have q1 := (hE_0_2_1 (r_0 + 2) (by omega)).2 (by omega)
       have q2 := (hE_0_2_2 (r_0 + 2) (by omega)).2 (by omega)
       omega)
    | (have q1 := (hE_0_2_1 (r_0 + 1) (by omega)).2 (by omega)
       have q2 := (hE_0_2_2 (r_0 + 1) (by omega)).2 (by omega)
       omega)
    | (have q1 := (hE_0_2_1 (r_0 + 2) (by omega)).2 (by omega)
       omega)
    | (have q1 := (hE_0_2_1 (r_0 + 1) (by omega)).2 (by omega)
       omega)
    | (have q1 := (hE_0_2_1 (r_0 + 2) (by omega)).2 (by omega)
       have q2 := (hE_0_2_2 (r_0 + 2) (by omega)).2 (by omega)
       have q3 := (hE_0_2_3 (r_0 + 2) (by omega)).1 (by omega)
       omega)
    | (have q1 := (hE_0_2_1 (r_0 + 2) (by omega)).2 (by omega)
       have q2 := (hE_0_2_2 (r_0 + 2) (by omega)).2 (by omega)
       have q3 := (hE_0_2_3 (r_0 + 2) (by omega)).2 (by omega)
       omega)
set_option maxHeartbeats 4000000 in
theorem vc_Mo_edgeItem_23_1 (x2 : Int) (r_0 : Int) (gx : Int) (k2 : 0 ≤ x2 ∧ x2 ≤ 2000) (ex2 : gx = x2) : (-1) * gx + (1 * x2 + 0) ≤ 0 := by
  first
    | omega
    | (have q1 := (hE_0_2_1 (r_0 + 2) (by omega)).2 (by omega)
       have q2 := (hE_0_2_2 (r_0 + 2) (by omega)).2 (by omega)
       omega)
    | (have q1 := (hE_0_2_1 (r_0 + 1) (by omega)).2 (by omega)
       have q2 := (hE_0_2_2 (r_0 + 1) (by omega)).2 (by omega)
       omega)
    | (have q1 := (hE_0_2_1 (r_0 + 2) (by omega)).2 (by omega)
       omega)
    | (have q1 := (hE_0_2_1 (r_0 + 1) (by omega)).2 (by omega)
       omega)
    | (have q1 := (hE_0_2_1 (r_0 + 2) (by omega)).2 (by omega)
       have q2 := (hE_0_2_2 (r_0 + 2) (by omega)).2 (by omega)
       have q3 := (hE_0_2_3 (r_0 + 2) (by omega)).1 (by omega)
       omega)
    | (have q1 := (hE_0_2_1 (r_0 + 2) (by omega)).2 (by omega)
       have q2 := (hE_0_2_2 (r_0 + 2) (by omega)).2 (by omega)
       have q3 := (hE_0_2_3 (r_0 + 2) (by omega)).2 (by omega)
       omega)
set_option maxHeartbeats 4000000 in
theorem vc_Mo_edgeItem_23_2 (r_0 : Int) (from_0 : Int) (pos_0 : Int) (f4 : 1 * from_0 + ((-1) * pos_0 + 0) ≤ 0) (kz_0_11 : 0 ≤ pos_0 ∧ pos_0 ≤ 2000) (kz_0_15 : 0 ≤ from_0 ∧ from_0 ≤ 2000) : 1 * from_0 + ((-1) * pos_0 + 0) ≤ 0 := by
  first
    | omega
    | (have q1 := (hE_0_2_1 (r_0 + 2) (by omega)).2 (by omega)
       have q2 := (hE_0_2_2 (r_0 + 2) (by omega)).2 (by omega)
       omega)
    | (have q1 := (hE_0_2_1 (r_0 + 1) (by omega)).2 (by omega)
       have q2 := (hE_0_2_2 (r_0 + 1) (by omega)).2 (by omega)
       omega)
    | (have q1 := (hE_0_2_1 (r_0 + 2) (by omega)).2 (by omega)
       omega)
    | (have q1 := (hE_0_2_1 (r_0 + 1) (by omega)).2 (by omega)
       omega)
    | (have q1 := (hE_0_2_1 (r_0 + 2) (by omega)).2 (by omega)
       have q2 := (hE_0_2_2 (r_0 + 2) (by omega)).2 (by omega)
       have q3 := (hE_0_2_3 (r_0 + 2) (by omega)).1 (by omega)
       omega)
    | (have q1 := (hE_0_2_1 (r_0 + 2) (by omega)).2 (by omega)
       have q2 := (hE_0_2_2 (r_0 + 2) (by omega)).2 (by omega)
       have q3 := (hE_0_2_3 (r_0 + 2) (by omega)).2 (by omega)
       omega)
set_option maxHeartbeats 4000000 in
theorem vc_Mo_edgeItem_23_3 (r_0 : Int) (from_0 : Int) (pos_0 : Int) (kind_0 : Int) (f5 : ((kind_0 = 1) → (pos_0 ≤ (from_0 + 8))) ∧ ((kind_0 = 0) ∨ ((from_0 + 1) ≤ pos_0))) (kz_0_11 : 0 ≤ pos_0 ∧ pos_0 ≤ 2000) (kz_0_12 : 0 ≤ kind_0 ∧ kind_0 ≤ 4) (kz_0_15 : 0 ≤ from_0 ∧ from_0 ≤ 2000) : ((kind_0 = 1) → (pos_0 ≤ (from_0 + 8))) ∧ ((kind_0 = 0) ∨ ((from_0 + 1) ≤ pos_0)) := by
  first
    | omega
    | (have q1 := (hE_0_2_1 (r_0 + 2) (by omega)).2 (by omega)
       have q2 := (hE_0_2_2 (r_0 + 2) (by omega)).2 (by omega)
       omega)
    | (have q1 := (hE_0_2_1 (r_0 + 1) (by omega)).2 (by omega)
       have q2 := (hE_0_2_2 (r_0 + 1) (by omega)).2 (by omega)
       omega)
    | (have q1 := (hE_0_2_1 (r_0 + 2) (by omega)).2 (by omega)
       omega)
    | (have q1 := (hE_0_2_1 (r_0 + 1) (by omega)).2 (by omega)
       omega)
    | (have q1 := (hE_0_2_1 (r_0 + 2) (by omega)).2 (by omega)
       have q2 := (hE_0_2_2 (r_0 + 2) (by omega)).2 (by omega)
       have q3 := (hE_0_2_3 (r_0 + 2) (by omega)).1 (by omega)
       omega)
    | (have q1 := (hE_0_2_1 (r_0 + 2) (by omega)).2 (by omega)
       have q2 := (hE_0_2_2 (r_0 + 2) (by omega)).2 (by omega)
       have q3 := (hE_0_2_3 (r_0 + 2) (by omega)).2 (by omega)
       omega)
set_option maxHeartbeats 4000000 in
theorem vc_Mo_edgeItem_23_4 (x2 : Int) (r_0 : Int) (pos_0 : Int) (gx : Int) (k2 : 0 ≤ x2 ∧ x2 ≤ 2000) (f6 : 1 * x2 + ((-1) * pos_0 + 0) ≤ 0) (kz_0_11 : 0 ≤ pos_0 ∧ pos_0 ≤ 2000) (ex2 : gx = x2) : 1 * gx + ((-1) * pos_0 + 0) ≤ 0 := by
  first
    | omega
    | (have q1 := (hE_0_2_1 (r_0 + 2) (by omega)).2 (by omega)
       have q2 := (hE_0_2_2 (r_0 + 2) (by omega)).2 (by omega)
       omega)
    | (have q1 := (hE_0_2_1 (r_0 + 1) (by omega)).2 (by omega)
       have q2 := (hE_0_2_2 (r_0 + 1) (by omega)).2 (by omega)
       omega)
    | (have q1 := (hE_0_2_1 (r_0 + 2) (by omega)).2 (by omega)
       omega)
    | (have q1 := (hE_0_2_1 (r_0 + 1) (by omega)).2 (by omega)
       omega)
    | (have q1 := (hE_0_2_1 (r_0 + 2) (by omega)).2 (by omega)
       have q2 := (hE_0_2_2 (r_0 + 2) (by omega)).2 (by omega)
       have q3 := (hE_0_2_3 (r_0 + 2) (by omega)).1 (by omega)
       omega)
    | (have q1 := (hE_0_2_1 (r_0 + 2) (by omega)).2 (by omega)
       have q2 := (hE_0_2_2 (r_0 + 2) (by omega)).2 (by omega)
       have q3 := (hE_0_2_3 (r_0 + 2) (by omega)).2 (by omega)
       omega)
set_option maxHeartbeats 4000000 in
theorem vc_Mo_edgeItem_23_5 (x2 : Int) (r_0 : Int) (pos_0 : Int) (kind_0 : Int) (fault_0 : Int) (gx : Int) (k2 : 0 ≤ x2 ∧ x2 ≤ 2000) (f6 : 1 * x2 + ((-1) * pos_0 + 0) ≤ 0) (f7 : (1 ≤ fault_0) ∨ ((kind_0 = 0) ∨ ((x2 + 1) ≤ pos_0))) (kz_0_8 : 0 ≤ fault_0 ∧ fault_0 ≤ 5) (kz_0_11 : 0 ≤ pos_0 ∧ pos_0 ≤ 2000) (kz_0_12 : 0 ≤ kind_0 ∧ kind_0 ≤ 4) (ex2 : gx = x2) : (1 ≤ fault_0) ∨ ((kind_0 = 0) ∨ ((gx + 1) ≤ pos_0)) := by
  first
    | omega
    | (have q1 := (hE_0_2_1 (r_0 + 2) (by omega)).2 (by omega)
       have q2 := (hE_0_2_2 (r_0 + 2) (by omega)).2 (by omega)
       omega)
    | (have q1 := (hE_0_2_1 (r_0 + 1) (by omega)).2 (by omega)
       have q2 := (hE_0_2_2 (r_0 + 1) (by omega)).2 (by omega)
       omega)
    | (have q1 := (hE_0_2_1 (r_0 + 2) (by omega)).2 (by omega)
       omega)
    | (have q1 := (hE_0_2_1 (r_0 + 1) (by omega)).2 (by omega)
       omega)
    | (have q1 := (hE_0_2_1 (r_0 + 2) (by omega)).2 (by omega)
       have q2 := (hE_0_2_2 (r_0 + 2) (by omega)).2 (by omega)
       have q3 := (hE_0_2_3 (r_0 + 2) (by omega)).1 (by omega)
       omega)
    | (have q1 := (hE_0_2_1 (r_0 + 2) (by omega)).2 (by omega)
       have q2 := (hE_0_2_2 (r_0 + 2) (by omega)).2 (by omega)
       have q3 := (hE_0_2_3 (r_0 + 2) (by omega)).2 (by omega)
       omega)
def o_Mo_edgeItem_23 : or_T := (177, 11, [(0, (2, 0, 0, [165])), (1, (0, 0, 7, [])), (2, (0, 0, 2000, [])), (3, (2, 0, 0, [165])), (4, (0, 0, 7, [])), (8, (0, 0, 48, [])), (9, (0, 0, 48, []))], [(7, [8, 9], [3]), (20, [9, 3], [30, 0, 1, 0, 0, -1, 3, 2005001]), (20, [9, 3], [30, 0, -1, 0, 0, 1, 3, 2005001]), (20, [4, 3], [50, 1, 1, 1005, 1002, 0, 6, 4, 2, 1, 0, 0, 1, 3, 1, 2, 4, 3, 2, 1, 5, 0, 2]), (20, [3, 3], [30, 0, 1, 1, 15, -1, 1, 11]), (20, [3], [50, 3, 0, 12, 11, 15, 2, 21, 4, 7, 1, 3, 2, 0, 12, 0, 1, 0, 3, 2, 0, 11, 4, 3, 2, 0, 15, 0, 8, 3, 7, 1, 3, 2, 0, 12, 0, 0, 0, 7, 4, 3, 2, 0, 15, 0, 1, 2, 0, 11]), (20, [2, 3], [30, 0, 1, 0, 0, -1, 1, 11]), (20, [3, 2], [50, 3, 0, 8, 12, 11, 3, 7, 0, 2, 0, 1, 2, 0, 8, 3, 7, 1, 3, 2, 0, 12, 0, 0, 0, 6, 4, 2, 1, 1, 0, 1, 2, 0, 11]), (20, [3], [60, 1, 3, 199, 5, 2, 3, 4]), (24, [0, 3], []), (24, [1, 4], [])], [], [(0, 0, 2000, [])], [(23, [11, 2], [0, 1, -1]), (23, [11, 2], [0, -1, 1]), (20, [3, 3], [30, 0, 1, 1, 15, -1, 1, 11]), (20, [3], [50, 3, 0, 12, 11, 15, 2, 21, 4, 7, 1, 3, 2, 0, 12, 0, 1, 0, 3, 2, 0, 11, 4, 3, 2, 0, 15, 0, 8, 3, 7, 1, 3, 2, 0, 12, 0, 0, 0, 7, 4, 3, 2, 0, 15, 0, 1, 2, 0, 11]), (20, [11, 3], [30, 0, 1, 0, 0, -1, 1, 11]), (20, [3, 11], [50, 3, 0, 8, 12, 11, 3, 7, 0, 2, 0, 1, 2, 0, 8, 3, 7, 1, 3, 2, 0, 12, 0, 0, 0, 6, 4, 2, 1, 1, 0, 1, 2, 0, 11])], [], [(8, 9, 0, 4294967296), (1, 4, -4294967296, 0), (4, 1, -4294967296, 0)])
theorem oo_Mo_edgeItem_23 {kA : Nat → ClassId} : or_ok PRD kA GG o_Mo_edgeItem_23 := by
  refine or_mk fun A ta ws vs hD hth hl => ?_
  intro t0 r0 t1 k1 t2 k2 t3 r3 t4 k4 t8 k8 t9 k9 d0 d1 d2 f0 f1 f2 f3 f4 f5 f6 f7 f8 f9 f10
  replace f4 := shm_1397 f4
  replace f5 := shm_1398 f5
  replace f6 := shm_1395 f6
  replace f7 := shm_1660 f7
  replace f9 := shm_5 f9
  have q3 : n_v vs 3 = n_v vs 0 := f9.symm
  simp only [q3] at f4 f5 f6 f7
  have kz_0_8 := fdq_14 hD hth r0
  have kz_0_11 := fdq_273 hD hth r0
  have kz_0_12 := fdq_186 hD hth r0
  have kz_0_15 := fdq_274 hD hth r0
  obtain ⟨x, ex, hx⟩ := iv_ex (ta := ta) (lo := 0) (hi := 2000) (z := v_iv (n_v vs 2)) (by omega) (by omega) (by omega) (by omega)
  have ex2 : v_iv (Value.int x) = v_iv (n_v vs 2) := ex
  have ex3 : 0 ≤ v_iv (Value.int x) ∧ v_iv (Value.int x) ≤ 2000 := tv_rng hx
  have e_2 : n_v (vs ++ [Value.int x]) 2 = n_v vs 2 := n_v_old (by rw [hl]; decide)
  have e_3 : n_v (vs ++ [Value.int x]) 3 = n_v vs 3 := n_v_old (by rw [hl]; decide)
  have e_11 : n_v (vs ++ [Value.int x]) 11 = Value.int x := n_v_new hl
  have nf0 : fc_1 PRD (23, [11, 2], [0, 1, -1]) ws (vs ++ [Value.int x]) := by
    refine ⟨nf_inA hl rfl, sgq_7 ?_⟩
    · show 1 * v_iv (n_v (vs ++ [Value.int x]) 11) + ((-1) * v_iv (n_v (vs ++ [Value.int x]) 2) + 0) ≤ 0
      simp only [e_2, e_11]
      exact vc_Mo_edgeItem_23_0 (v_iv (n_v vs 2)) (w_fi ws (n_v vs 0) 5) (v_iv (Value.int x)) k2 ex2
  have nf1 : fc_1 PRD (23, [11, 2], [0, -1, 1]) ws (vs ++ [Value.int x]) := by
    refine ⟨nf_inA hl rfl, sgq_22 ?_⟩
    · show (-1) * v_iv (n_v (vs ++ [Value.int x]) 11) + (1 * v_iv (n_v (vs ++ [Value.int x]) 2) + 0) ≤ 0
      simp only [e_2, e_11]
      exact vc_Mo_edgeItem_23_1 (v_iv (n_v vs 2)) (w_fi ws (n_v vs 0) 5) (v_iv (Value.int x)) k2 ex2
  have nf2 : fc_1 PRD (20, [3, 3], [30, 0, 1, 1, 15, -1, 1, 11]) ws (vs ++ [Value.int x]) := by
    refine ⟨nf_inA hl rfl, sgq_1397 ?_⟩
    · show 1 * w_fi ws (n_v (vs ++ [Value.int x]) 3) 15 + ((-1) * w_fi ws (n_v (vs ++ [Value.int x]) 3) 11 + 0) ≤ 0
      simp only [e_3, q3]
      exact vc_Mo_edgeItem_23_2 (w_fi ws (n_v vs 0) 5) (w_fi ws (n_v vs 0) 15) (w_fi ws (n_v vs 0) 11) f4 kz_0_11 kz_0_15
  have nf3 : fc_1 PRD (20, [3], [50, 3, 0, 12, 11, 15, 2, 21, 4, 7, 1, 3, 2, 0, 12, 0, 1, 0, 3, 2, 0, 11, 4, 3, 2, 0, 15, 0, 8, 3, 7, 1, 3, 2, 0, 12, 0, 0, 0, 7, 4, 3, 2, 0, 15, 0, 1, 2, 0, 11]) ws (vs ++ [Value.int x]) := by
    refine ⟨nf_inA hl rfl, sgq_1398 ?_⟩
    · show ((w_fi ws (n_v (vs ++ [Value.int x]) 3) 12 = 1) → (w_fi ws (n_v (vs ++ [Value.int x]) 3) 11 ≤ (w_fi ws (n_v (vs ++ [Value.int x]) 3) 15 + 8))) ∧ ((w_fi ws (n_v (vs ++ [Value.int x]) 3) 12 = 0) ∨ ((w_fi ws (n_v (vs ++ [Value.int x]) 3) 15 + 1) ≤ w_fi ws (n_v (vs ++ [Value.int x]) 3) 11))
      simp only [e_3, q3]
      exact vc_Mo_edgeItem_23_3 (w_fi ws (n_v vs 0) 5) (w_fi ws (n_v vs 0) 15) (w_fi ws (n_v vs 0) 11) (w_fi ws (n_v vs 0) 12) f5 kz_0_11 kz_0_12 kz_0_15
  have nf4 : fc_1 PRD (20, [11, 3], [30, 0, 1, 0, 0, -1, 1, 11]) ws (vs ++ [Value.int x]) := by
    refine ⟨nf_inA hl rfl, sgq_1395 ?_⟩
    · show 1 * v_iv (n_v (vs ++ [Value.int x]) 11) + ((-1) * w_fi ws (n_v (vs ++ [Value.int x]) 3) 11 + 0) ≤ 0
      simp only [e_3, e_11, q3]
      exact vc_Mo_edgeItem_23_4 (v_iv (n_v vs 2)) (w_fi ws (n_v vs 0) 5) (w_fi ws (n_v vs 0) 11) (v_iv (Value.int x)) k2 f6 kz_0_11 ex2
  have nf5 : fc_1 PRD (20, [3, 11], [50, 3, 0, 8, 12, 11, 3, 7, 0, 2, 0, 1, 2, 0, 8, 3, 7, 1, 3, 2, 0, 12, 0, 0, 0, 6, 4, 2, 1, 1, 0, 1, 2, 0, 11]) ws (vs ++ [Value.int x]) := by
    refine ⟨nf_inA hl rfl, sgq_1660 ?_⟩
    · show (1 ≤ w_fi ws (n_v (vs ++ [Value.int x]) 3) 8) ∨ ((w_fi ws (n_v (vs ++ [Value.int x]) 3) 12 = 0) ∨ ((v_iv (n_v (vs ++ [Value.int x]) 11) + 1) ≤ w_fi ws (n_v (vs ++ [Value.int x]) 3) 11))
      simp only [e_3, e_11, q3]
      exact vc_Mo_edgeItem_23_5 (v_iv (n_v vs 2)) (w_fi ws (n_v vs 0) 5) (w_fi ws (n_v vs 0) 11) (w_fi ws (n_v vs 0) 12) (w_fi ws (n_v vs 0) 8) (v_iv (Value.int x)) k2 f6 f7 kz_0_8 kz_0_11 kz_0_12 ex2
  exact ⟨(fun _ h => (by cases h)), [Value.int x], ag_one hx, List.forall_mem_cons.mpr ⟨⟨show (23 : Nat) < 100 from by decide, nf0⟩, List.forall_mem_cons.mpr ⟨⟨show (23 : Nat) < 100 from by decide, nf1⟩, List.forall_mem_cons.mpr ⟨⟨show (20 : Nat) < 100 from by decide, nf2⟩, List.forall_mem_cons.mpr ⟨⟨show (20 : Nat) < 100 from by decide, nf3⟩, List.forall_mem_cons.mpr ⟨⟨show (20 : Nat) < 100 from by decide, nf4⟩, List.forall_mem_cons.mpr ⟨⟨show (20 : Nat) < 100 from by decide, nf5⟩, (fun _ h => (by cases h))⟩⟩⟩⟩⟩⟩, (fun _ h => (by cases h))⟩
set_option maxHeartbeats 4000000 in
theorem vc_Mo_edgeItem_24_0 (r_0 : Int) (from_0 : Int) (pos_0 : Int) (f8 : 1 * from_0 + ((-1) * pos_0 + 0) ≤ 0) (kz_0_11 : 0 ≤ pos_0 ∧ pos_0 ≤ 2000) (kz_0_15 : 0 ≤ from_0 ∧ from_0 ≤ 2000) : 1 * from_0 + ((-1) * pos_0 + 0) ≤ 0 := by
  first
    | omega
    | (have q1 := (hE_0_2_1 (r_0 + 2) (by omega)).2 (by omega)
       have q2 := (hE_0_2_2 (r_0 + 2) (by omega)).2 (by omega)
       omega)
    | (have q1 := (hE_0_2_1 (r_0 + 1) (by omega)).2 (by omega)
       have q2 := (hE_0_2_2 (r_0 + 1) (by omega)).2 (by omega)
       omega)
    | (have q1 := (hE_0_2_1 (r_0 + 2) (by omega)).2 (by omega)
       omega)
    | (have q1 := (hE_0_2_1 (r_0 + 1) (by omega)).2 (by omega)
       omega)
    | (have q1 := (hE_0_2_1 (r_0 + 2) (by omega)).2 (by omega)
       have q2 := (hE_0_2_2 (r_0 + 2) (by omega)).2 (by omega)
       have q3 := (hE_0_2_3 (r_0 + 2) (by omega)).1 (by omega)
       omega)
    | (have q1 := (hE_0_2_1 (r_0 + 2) (by omega)).2 (by omega)
       have q2 := (hE_0_2_2 (r_0 + 2) (by omega)).2 (by omega)
       have q3 := (hE_0_2_3 (r_0 + 2) (by omega)).2 (by omega)
       omega)
set_option maxHeartbeats 4000000 in
theorem vc_Mo_edgeItem_24_1 (r_0 : Int) (from_0 : Int) (pos_0 : Int) (kind_0 : Int) (f9 : ((kind_0 = 1) → (pos_0 ≤ (from_0 + 8))) ∧ ((kind_0 = 0) ∨ ((from_0 + 1) ≤ pos_0))) (kz_0_11 : 0 ≤ pos_0 ∧ pos_0 ≤ 2000) (kz_0_12 : 0 ≤ kind_0 ∧ kind_0 ≤ 4) (kz_0_15 : 0 ≤ from_0 ∧ from_0 ≤ 2000) : ((kind_0 = 1) → (pos_0 ≤ (from_0 + 8))) ∧ ((kind_0 = 0) ∨ ((from_0 + 1) ≤ pos_0)) := by
  first
    | omega
    | (have q1 := (hE_0_2_1 (r_0 + 2) (by omega)).2 (by omega)
       have q2 := (hE_0_2_2 (r_0 + 2) (by omega)).2 (by omega)
       omega)
    | (have q1 := (hE_0_2_1 (r_0 + 1) (by omega)).2 (by omega)
       have q2 := (hE_0_2_2 (r_0 + 1) (by omega)).2 (by omega)
       omega)
    | (have q1 := (hE_0_2_1 (r_0 + 2) (by omega)).2 (by omega)
       omega)
    | (have q1 := (hE_0_2_1 (r_0 + 1) (by omega)).2 (by omega)
       omega)
    | (have q1 := (hE_0_2_1 (r_0 + 2) (by omega)).2 (by omega)
       have q2 := (hE_0_2_2 (r_0 + 2) (by omega)).2 (by omega)
       have q3 := (hE_0_2_3 (r_0 + 2) (by omega)).1 (by omega)
       omega)
    | (have q1 := (hE_0_2_1 (r_0 + 2) (by omega)).2 (by omega)
       have q2 := (hE_0_2_2 (r_0 + 2) (by omega)).2 (by omega)
       have q3 := (hE_0_2_3 (r_0 + 2) (by omega)).2 (by omega)
       omega)
set_option maxHeartbeats 4000000 in
theorem vc_Mo_edgeItem_24_2 (x2 : Int) (x11 : Int) (r_0 : Int) (pos_0 : Int) (k2 : 0 ≤ x2 ∧ x2 ≤ 2000) (k11 : 0 ≤ x11 ∧ x11 ≤ 2000) (f0 : 1 * x11 + ((-1) * x2 + 0) ≤ 0) (f1 : (-1) * x11 + (1 * x2 + 0) ≤ 0) (f10 : 1 * x11 + ((-1) * pos_0 + 0) ≤ 0) (kz_0_11 : 0 ≤ pos_0 ∧ pos_0 ≤ 2000) : 1 * x2 + ((-1) * pos_0 + 0) ≤ 0 := by
  first
    | omega
    | (have q1 := (hE_0_2_1 (r_0 + 2) (by omega)).2 (by omega)
       have q2 := (hE_0_2_2 (r_0 + 2) (by omega)).2 (by omega)
       omega)
    | (have q1 := (hE_0_2_1 (r_0 + 1) (by omega)).2 (by omega)
       have q2 := (hE_0_2_2 (r_0 + 1) (by omega)).2 (by omega)
       omega)
    | (have q1 := (hE_0_2_1 (r_0 + 2) (by omega)).2 (by omega)
       omega)
    | (have q1 := (hE_0_2_1 (r_0 + 1) (by omega)).2 (by omega)
       omega)
    | (have q1 := (hE_0_2_1 (r_0 + 2) (by omega)).2 (by omega)
       have q2 := (hE_0_2_2 (r_0 + 2) (by omega)).2 (by omega)
       have q3 := (hE_0_2_3 (r_0 + 2) (by omega)).1 (by omega)
       omega)
    | (have q1 := (hE_0_2_1 (r_0 + 2) (by omega)).2 (by omega)
       have q2 := (hE_0_2_2 (r_0 + 2) (by omega)).2 (by omega)
       have q3 := (hE_0_2_3 (r_0 + 2) (by omega)).2 (by omega)
       omega)
set_option maxHeartbeats 4000000 in
theorem vc_Mo_edgeItem_24_3 (x2 : Int) (x11 : Int) (r_0 : Int) (pos_0 : Int) (fault_0 : Int) (k2 : 0 ≤ x2 ∧ x2 ≤ 2000) (k11 : 0 ≤ x11 ∧ x11 ≤ 2000) (f0 : 1 * x11 + ((-1) * x2 + 0) ≤ 0) (f1 : (-1) * x11 + (1 * x2 + 0) ≤ 0) (f10 : 1 * x11 + ((-1) * pos_0 + 0) ≤ 0) (f11 : (1 ≤ fault_0) ∨ ((x11 + 1) ≤ pos_0)) (kz_0_8 : 0 ≤ fault_0 ∧ fault_0 ≤ 5) (kz_0_11 : 0 ≤ pos_0 ∧ pos_0 ≤ 2000) : (1 ≤ fault_0) ∨ ((x2 + 1) ≤ pos_0) := by
  first
    | omega
    | (have q1 := (hE_0_2_1 (r_0 + 2) (by omega)).2 (by omega)
       have q2 := (hE_0_2_2 (r_0 + 2) (by omega)).2 (by omega)
       omega)
    | (have q1 := (hE_0_2_1 (r_0 + 1) (by omega)).2 (by omega)
       have q2 := (hE_0_2_2 (r_0 + 1) (by omega)).2 (by omega)
       omega)
    | (have q1 := (hE_0_2_1 (r_0 + 2) (by omega)).2 (by omega)
       omega)
    | (have q1 := (hE_0_2_1 (r_0 + 1) (by omega)).2 (by omega)
       omega)
    | (have q1 := (hE_0_2_1 (r_0 + 2) (by omega)).2 (by omega)
       have q2 := (hE_0_2_2 (r_0 + 2) (by omega)).2 (by omega)
       have q3 := (hE_0_2_3 (r_0 + 2) (by omega)).1 (by omega)
       omega)
    | (have q1 := (hE_0_2_1 (r_0 + 2) (by omega)).2 (by omega)
       have q2 := (hE_0_2_2 (r_0 + 2) (by omega)).2 (by omega)
       have q3 := (hE_0_2_3 (r_0 + 2) (by omega)).2 (by omega)
       omega)
set_option maxHeartbeats 4000000 in
theorem vc_Mo_edgeItem_24_4 (x1 : Int) (all_0 : Int → Int) (r_0 : Int) (k1 : 0 ≤ x1 ∧ x1 ≤ 7) (f4 : (x1 + 1) ≤ all_0 ((r_0 + 2))) : (x1 + 1) ≤ all_0 ((r_0 + 2)) := by
  first
    | omega
    | (have q1 := (hE_0_2_1 (r_0 + 2) (by omega)).2 (by omega)
       have q2 := (hE_0_2_2 (r_0 + 2) (by omega)).2 (by omega)
       omega)
    | (have q1 := (hE_0_2_1 (r_0 + 1) (by omega)).2 (by omega)
       have q2 := (hE_0_2_2 (r_0 + 1) (by omega)).2 (by omega)
       omega)
    | (have q1 := (hE_0_2_1 (r_0 + 2) (by omega)).2 (by omega)
       omega)
    | (have q1 := (hE_0_2_1 (r_0 + 1) (by omega)).2 (by omega)
       omega)
    | (have q1 := (hE_0_2_1 (r_0 + 2) (by omega)).2 (by omega)
       have q2 := (hE_0_2_2 (r_0 + 2) (by omega)).2 (by omega)
       have q3 := (hE_0_2_3 (r_0 + 2) (by omega)).1 (by omega)
       omega)
    | (have q1 := (hE_0_2_1 (r_0 + 2) (by omega)).2 (by omega)
       have q2 := (hE_0_2_2 (r_0 + 2) (by omega)).2 (by omega)
       have q3 := (hE_0_2_3 (r_0 + 2) (by omega)).2 (by omega)
       omega)
set_option maxHeartbeats 4000000 in
theorem vc_Mo_edgeItem_24_5 (all_0 : Int → Int) (r_0 : Int) (now_0 : Int → Int) (latest_0 : Int → Int) (f5 : RWS (r_0) (all_0) (now_0) (latest_0)) : RWS (r_0) (all_0) (now_0) (latest_0) := by
  first
    | assumption
def o_Mo_edgeItem_24 : or_T := (180, 12, [(0, (2, 0, 0, [165])), (1, (0, 0, 7, [])), (2, (0, 0, 2000, [])), (3, (2, 0, 0, [165])), (4, (0, 0, 7, [])), (8, (0, 0, 48, [])), (9, (0, 0, 48, [])), (11, (0, 0, 2000, []))], [(23, [11, 2], [0, 1, -1]), (23, [11, 2], [0, -1, 1]), (20, [9, 3], [30, 0, 1, 0, 0, -1, 3, 2005001]), (20, [9, 3], [30, 0, -1, 0, 0, 1, 3, 2005001]), (20, [4, 3], [50, 1, 1, 1005, 1002, 0, 6, 4, 2, 1, 0, 0, 1, 3, 1, 2, 4, 3, 2, 1, 5, 0, 2]), (20, [3], [60, 1, 3, 199, 5, 2, 3, 4]), (24, [0, 3], []), (24, [1, 4], []), (20, [3, 3], [30, 0, 1, 1, 15, -1, 1, 11]), (20, [3], [50, 3, 0, 12, 11, 15, 2, 21, 4, 7, 1, 3, 2, 0, 12, 0, 1, 0, 3, 2, 0, 11, 4, 3, 2, 0, 15, 0, 8, 3, 7, 1, 3, 2, 0, 12, 0, 0, 0, 7, 4, 3, 2, 0, 15, 0, 1, 2, 0, 11]), (20, [11, 3], [30, 0, 1, 0, 0, -1, 1, 11]), (20, [3, 11], [50, 2, 0, 8, 11, 3, 7, 0, 2, 0, 1, 2, 0, 8, 0, 6, 4, 2, 1, 1, 0, 1, 2, 0, 11]), (102, [11], [0, 165008, 165009, 165011, 165012, 165013, 165014, 165015]), (23, [11, 2], [0, 1, -1]), (23, [11, 2], [0, -1, 1]), (7, [8, 9], [3])], [], [], [(20, [0, 0], [30, 0, 1, 1, 15, -1, 1, 11]), (20, [0], [50, 3, 0, 12, 11, 15, 2, 21, 4, 7, 1, 3, 2, 0, 12, 0, 1, 0, 3, 2, 0, 11, 4, 3, 2, 0, 15, 0, 8, 3, 7, 1, 3, 2, 0, 12, 0, 0, 0, 7, 4, 3, 2, 0, 15, 0, 1, 2, 0, 11]), (20, [2, 0], [30, 0, 1, 0, 0, -1, 1, 11]), (20, [0, 2], [50, 2, 0, 8, 11, 3, 7, 0, 2, 0, 1, 2, 0, 8, 0, 6, 4, 2, 1, 1, 0, 1, 2, 0, 11]), (20, [1, 0], [50, 1, 1, 1005, 1002, 0, 6, 4, 2, 1, 0, 0, 1, 3, 1, 2, 4, 3, 2, 1, 5, 0, 2]), (20, [0], [60, 1, 3, 199, 5, 2, 3, 4])], [], [(8, 9, 0, 4294967296), (1, 4, -4294967296, 0), (4, 1, -4294967296, 0)])
theorem oo_Mo_edgeItem_24 {kA : Nat → ClassId} : or_ok PRD kA GG o_Mo_edgeItem_24 := by
  refine or_mk fun A ta ws vs hD hth hl => ?_
  intro t0 r0 t1 k1 t2 k2 t3 r3 t4 k4 t8 k8 t9 k9 t11 k11 d0 d1 d2 f0 f1 f2 f3 f4 f5 f6 f7 f8 f9 f10 f11 ta1 w1 le1 s1 f13 f14 f15
  replace f4 := shm_981 f4
  replace f5 := shm_952 f5
  replace f6 := shm_5 f6
  replace f7 := shm_5 f7
  replace f8 := shm_1397 f8
  replace f9 := shm_1398 f9
  replace f10 := shm_1395 f10
  replace f11 := shm_1659 f11
  have q3 : n_v vs 3 = n_v vs 0 := f6.symm
  have q4 : n_v vs 4 = n_v vs 1 := f7.symm
  simp only [q3, q4] at f4 f5 f8 f9 f10 f11
  have kz_0_8 := fdq_14 hD hth r0
  have kz_0_11 := fdq_273 hD hth r0
  have kz_0_12 := fdq_186 hD hth r0
  have kz_0_15 := fdq_274 hD hth r0
  have nf0 : fc_1 PRD (20, [0, 0], [30, 0, 1, 1, 15, -1, 1, 11]) ws (vs) := ⟨nf_in hl rfl, sgq_1397 (vc_Mo_edgeItem_24_0 (w_fi ws (n_v vs 0) 5) (w_fi ws (n_v vs 0) 15) (w_fi ws (n_v vs 0) 11) f8 kz_0_11 kz_0_15)⟩
  have nf1 : fc_1 PRD (20, [0], [50, 3, 0, 12, 11, 15, 2, 21, 4, 7, 1, 3, 2, 0, 12, 0, 1, 0, 3, 2, 0, 11, 4, 3, 2, 0, 15, 0, 8, 3, 7, 1, 3, 2, 0, 12, 0, 0, 0, 7, 4, 3, 2, 0, 15, 0, 1, 2, 0, 11]) ws (vs) := ⟨nf_in hl rfl, sgq_1398 (vc_Mo_edgeItem_24_1 (w_fi ws (n_v vs 0) 5) (w_fi ws (n_v vs 0) 15) (w_fi ws (n_v vs 0) 11) (w_fi ws (n_v vs 0) 12) f9 kz_0_11 kz_0_12 kz_0_15)⟩
  have nf2 : fc_1 PRD (20, [2, 0], [30, 0, 1, 0, 0, -1, 1, 11]) ws (vs) := ⟨nf_in hl rfl, sgq_1395 (vc_Mo_edgeItem_24_2 (v_iv (n_v vs 2)) (v_iv (n_v vs 11)) (w_fi ws (n_v vs 0) 5) (w_fi ws (n_v vs 0) 11) k2 k11 (shm_7 f0) (shm_22 f1) f10 kz_0_11)⟩
  have nf3 : fc_1 PRD (20, [0, 2], [50, 2, 0, 8, 11, 3, 7, 0, 2, 0, 1, 2, 0, 8, 0, 6, 4, 2, 1, 1, 0, 1, 2, 0, 11]) ws (vs) := ⟨nf_in hl rfl, sgq_1659 (vc_Mo_edgeItem_24_3 (v_iv (n_v vs 2)) (v_iv (n_v vs 11)) (w_fi ws (n_v vs 0) 5) (w_fi ws (n_v vs 0) 11) (w_fi ws (n_v vs 0) 8) k2 k11 (shm_7 f0) (shm_22 f1) f10 f11 kz_0_8 kz_0_11)⟩
  have nf4 : fc_1 PRD (20, [1, 0], [50, 1, 1, 1005, 1002, 0, 6, 4, 2, 1, 0, 0, 1, 3, 1, 2, 4, 3, 2, 1, 5, 0, 2]) ws (vs) := ⟨nf_in hl rfl, sgq_981 (vc_Mo_edgeItem_24_4 (v_iv (n_v vs 1)) (w_ei ws (w_ar ws (n_v vs 0) 2)) (w_fi ws (n_v vs 0) 5) k1 f4)⟩
  have nf5 : fc_1 PRD (20, [0], [60, 1, 3, 199, 5, 2, 3, 4]) ws (vs) := ⟨nf_in hl rfl, sgq_952 (vc_Mo_edgeItem_24_5 (w_ei ws (w_ar ws (n_v vs 0) 2)) (w_fi ws (n_v vs 0) 5) (w_ei ws (w_ar ws (n_v vs 0) 3)) (w_ei ws (w_ar ws (n_v vs 0) 4)) f5)⟩
  refine ⟨(fun _ h => (by cases h)), [], trivial, ?_, (fun _ h => (by cases h))⟩
  rw [List.append_nil]
  exact List.forall_mem_cons.mpr ⟨⟨show (20 : Nat) < 100 from by decide, nf0⟩, List.forall_mem_cons.mpr ⟨⟨show (20 : Nat) < 100 from by decide, nf1⟩, List.forall_mem_cons.mpr ⟨⟨show (20 : Nat) < 100 from by decide, nf2⟩, List.forall_mem_cons.mpr ⟨⟨show (20 : Nat) < 100 from by decide, nf3⟩, List.forall_mem_cons.mpr ⟨⟨show (20 : Nat) < 100 from by decide, nf4⟩, List.forall_mem_cons.mpr ⟨⟨show (20 : Nat) < 100 from by decide, nf5⟩, (fun _ h => (by cases h))⟩⟩⟩⟩⟩⟩
set_option maxHeartbeats 4000000 in
theorem vc_Mo_edgeItem_25_0 (x2 : Int) (r_0 : Int) (gx : Int) (k2 : 0 ≤ x2 ∧ x2 ≤ 2000) (ex2 : gx = x2) : 1 * gx + ((-1) * x2 + 0) ≤ 0 := by
  first
    | omega
    | (have q1 := (hE_0_2_1 (r_0 + 2) (by omega)).2 (by omega)
       have q2 := (hE_0_2_2 (r_0 + 2) (by omega)).2 (by omega)
       omega)
    | (have q1 := (hE_0_2_1 (r_0 + 1) (by omega)).2 (by omega)
       have q2 := (hE_0_2_2 (r_0 + 1) (by omega)).2 (by omega)
       omega)
    | (have q1 := (hE_0_2_1 (r_0 + 2) (by omega)).2 (by omega)
       omega)
    | (have q1 := (hE_0_2_1 (r_0 + 1) (by omega)).2 (by omega)
       omega)
    | (have q1 := (hE_0_2_1 (r_0 + 2) (by omega)).2 (by omega)
       have q2 := (hE_0_2_2 (r_0 + 2) (by omega)).2 (by omega)
       have q3 := (hE_0_2_3 (r_0 + 2) (by omega)).1 (by omega)
       omega)
    | (have q1 := (hE_0_2_1 (r_0 + 2) (by omega)).2 (by omega)
       have q2 := (hE_0_2_2 (r_0 + 2) (by omega)).2 (by omega)
       have q3 := (hE_0_2_3 (r_0 + 2) (by omega)).2 (by omega)
       omega)
set_option maxHeartbeats 4000000 in
theorem vc_Mo_edgeItem_25_1 (x2 : Int) (r_0 : Int) (gx : Int) (k2 : 0 ≤ x2 ∧ x2 ≤ 2000) (ex2 : gx = x2) : (-1) * gx + (1 * x2 + 0) ≤ 0 := by
  first
    | omega
    | (have q1 := (hE_0_2_1 (r_0 + 2) (by omega)).2 (by omega)
       have q2 := (hE_0_2_2 (r_0 + 2) (by omega)).2 (by omega)
       omega)
    | (have q1 := (hE_0_2_1 (r_0 + 1) (by omega)).2 (by omega)
       have q2 := (hE_0_2_2 (r_0 + 1) (by omega)).2 (by omega)
       omega)
    | (have q1 := (hE_0_2_1 (r_0 + 2) (by omega)).2 (by omega)
       omega)
    | (have q1 := (hE_0_2_1 (r_0 + 1) (by omega)).2 (by omega)
       omega)
    | (have q1 := (hE_0_2_1 (r_0 + 2) (by omega)).2 (by omega)
       have q2 := (hE_0_2_2 (r_0 + 2) (by omega)).2 (by omega)
       have q3 := (hE_0_2_3 (r_0 + 2) (by omega)).1 (by omega)
       omega)
    | (have q1 := (hE_0_2_1 (r_0 + 2) (by omega)).2 (by omega)
       have q2 := (hE_0_2_2 (r_0 + 2) (by omega)).2 (by omega)
       have q3 := (hE_0_2_3 (r_0 + 2) (by omega)).2 (by omega)
       omega)
set_option maxHeartbeats 4000000 in
theorem vc_Mo_edgeItem_25_2 (r_0 : Int) (from_0 : Int) (pos_0 : Int) (f4 : 1 * from_0 + ((-1) * pos_0 + 0) ≤ 0) (kz_0_11 : 0 ≤ pos_0 ∧ pos_0 ≤ 2000) (kz_0_15 : 0 ≤ from_0 ∧ from_0 ≤ 2000) : 1 * from_0 + ((-1) * pos_0 + 0) ≤ 0 := by
  first
    | omega
    | (have q1 := (hE_0_2_1 (r_0 + 2) (by omega)).2 (by omega)
       have q2 := (hE_0_2_2 (r_0 + 2) (by omega)).2 (by omega)
       omega)
    | (have q1 := (hE_0_2_1 (r_0 + 1) (by omega)).2 (by omega)
       have q2 := (hE_0_2_2 (r_0 + 1) (by omega)).2 (by omega)
       omega)
    | (have q1 := (hE_0_2_1 (r_0 + 2) (by omega)).2 (by omega)
       omega)
    | (have q1 := (hE_0_2_1 (r_0 + 1) (by omega)).2 (by omega)
       omega)
    | (have q1 := (hE_0_2_1 (r_0 + 2) (by omega)).2 (by omega)
       have q2 := (hE_0_2_2 (r_0 + 2) (by omega)).2 (by omega)
       have q3 := (hE_0_2_3 (r_0 + 2) (by omega)).1 (by omega)
       omega)
    | (have q1 := (hE_0_2_1 (r_0 + 2) (by omega)).2 (by omega)
       have q2 := (hE_0_2_2 (r_0 + 2) (by omega)).2 (by omega)
       have q3 := (hE_0_2_3 (r_0 + 2) (by omega)).2 (by omega)
       omega)
set_option maxHeartbeats 4000000 in
theorem vc_Mo_edgeItem_25_3 (r_0 : Int) (from_0 : Int) (pos_0 : Int) (kind_0 : Int) (f5 : ((kind_0 = 1) → (pos_0 ≤ (from_0 + 8))) ∧ ((kind_0 = 0) ∨ ((from_0 + 1) ≤ pos_0))) (kz_0_11 : 0 ≤ pos_0 ∧ pos_0 ≤ 2000) (kz_0_12 : 0 ≤ kind_0 ∧ kind_0 ≤ 4) (kz_0_15 : 0 ≤ from_0 ∧ from_0 ≤ 2000) : ((kind_0 = 1) → (pos_0 ≤ (from_0 + 8))) ∧ ((kind_0 = 0) ∨ ((from_0 + 1) ≤ pos_0)) := by
  first
    | omega
    | (have q1 := (hE_0_2_1 (r_0 + 2) (by omega)).2 (by omega)
       have q2 := (hE_0_2_2 (r_0 + 2) (by omega)).2 (by omega)
       omega)
    | (have q1 := (hE_0_2_1 (r_0 + 1) (by omega)).2 (by omega)
       have q2 := (hE_0_2_2 (r_0 + 1) (by omega)).2 (by omega)
       omega)
    | (have q1 := (hE_0_2_1 (r_0 + 2) (by omega)).2 (by omega)
       omega)
    | (have q1 := (hE_0_2_1 (r_0 + 1) (by omega)).2 (by omega)
       omega)
    | (have q1 := (hE_0_2_1 (r_0 + 2) (by omega)).2 (by omega)
       have q2 := (hE_0_2_2 (r_0 + 2) (by omega)).2 (by omega)
       have q3 := (hE_0_2_3 (r_0 + 2) (by omega)).1 (by omega)
       omega)
    | (have q1 := (hE_0_2_1 (r_0 + 2) (by omega)).2 (by omega)
       have q2 := (hE_0_2_2 (r_0 + 2) (by omega)).2 (by omega)
       have q3 := (hE_0_2_3 (r_0 + 2) (by omega)).2 (by omega)
       omega)
set_option maxHeartbeats 4000000 in
theorem vc_Mo_edgeItem_25_4 (x2 : Int) (r_0 : Int) (pos_0 : Int) (gx : Int) (k2 : 0 ≤ x2 ∧ x2 ≤ 2000) (f6 : 1 * x2 + ((-1) * pos_0 + 0) ≤ 0) (kz_0_11 : 0 ≤ pos_0 ∧ pos_0 ≤ 2000) (ex2 : gx = x2) : 1 * gx + ((-1) * pos_0 + 0) ≤ 0 := by
  first
    | omega
    | (have q1 := (hE_0_2_1 (r_0 + 2) (by omega)).2 (by omega)
       have q2 := (hE_0_2_2 (r_0 + 2) (by omega)).2 (by omega)
       omega)
    | (have q1 := (hE_0_2_1 (r_0 + 1) (by omega)).2 (by omega)
       have q2 := (hE_0_2_2 (r_0 + 1) (by omega)).2 (by omega)
       omega)
    | (have q1 := (hE_0_2_1 (r_0 + 2) (by omega)).2 (by omega)
       omega)
    | (have q1 := (hE_0_2_1 (r_0 + 1) (by omega)).2 (by omega)
       omega)
    | (have q1 := (hE_0_2_1 (r_0 + 2) (by omega)).2 (by omega)
       have q2 := (hE_0_2_2 (r_0 + 2) (by omega)).2 (by omega)
       have q3 := (hE_0_2_3 (r_0 + 2) (by omega)).1 (by omega)
       omega)
    | (have q1 := (hE_0_2_1 (r_0 + 2) (by omega)).2 (by omega)
       have q2 := (hE_0_2_2 (r_0 + 2) (by omega)).2 (by omega)
       have q3 := (hE_0_2_3 (r_0 + 2) (by omega)).2 (by omega)
       omega)
set_option maxHeartbeats 4000000 in
theorem vc_Mo_edgeItem_25_5 (x2 : Int) (r_0 : Int) (pos_0 : Int) (kind_0 : Int) (fault_0 : Int) (gx : Int) (k2 : 0 ≤ x2 ∧ x2 ≤ 2000) (f6 : 1 * x2 + ((-1) * pos_0 + 0) ≤ 0) (f7 : (1 ≤ fault_0) ∨ ((kind_0 = 0) ∨ ((x2 + 1) ≤ pos_0))) (kz_0_8 : 0 ≤ fault_0 ∧ fault_0 ≤ 5) (kz_0_11 : 0 ≤ pos_0 ∧ pos_0 ≤ 2000) (kz_0_12 : 0 ≤ kind_0 ∧ kind_0 ≤ 4) (ex2 : gx = x2) : (1 ≤ fault_0) ∨ ((kind_0 = 0) ∨ ((gx + 1) ≤ pos_0)) := by
  first
    | omega
    | (have q1 := (hE_0_2_1 (r_0 + 2) (by omega)).2 (by omega)
       have q2 := (hE_0_2_2 (r_0 + 2) (by omega)).2 (by omega)
       omega)
    | (have q1 := (hE_0_2_1 (r_0 + 1) (by omega)).2 (by omega)
       have q2 := (hE_0_2_2 (r_0 + 1) (by omega)).2 (by omega)
       omega)
    | (have q1 := (hE_0_2_1 (r_0 + 2) (by omega)).2 (by omega)
       omega)
    | (have q1 := (hE_0_2_1 (r_0 + 1) (by omega)).2 (by omega)
       omega)
    | (have q1 := (hE_0_2_1 (r_0 + 2) (by omega)).2 (by omega)
       have q2 := (hE_0_2_2 (r_0 + 2) (by omega)).2 (by omega)
       have q3 := (hE_0_2_3 (r_0 + 2) (by omega)).1 (by omega)
       omega)
    | (have q1 := (hE_0_2_1 (r_0 + 2) (by omega)).2 (by omega)
       have q2 := (hE_0_2_2 (r_0 + 2) (by omega)).2 (by omega)
       have q3 := (hE_0_2_3 (r_0 + 2) (by omega)).2 (by omega)
       omega)
def o_Mo_edgeItem_25 : or_T := (177, 11, [(0, (2, 0, 0, [165])), (1, (0, 0, 7, [])), (2, (0, 0, 2000, [])), (3, (2, 0, 0, [165])), (4, (0, 0, 7, [])), (8, (0, 0, 47, [])), (9, (0, 1, 48, []))], [(7, [8, 9], [2]), (20, [9, 3], [30, 0, 1, 0, 0, -1, 3, 2005001]), (20, [9, 3], [30, 0, -1, 0, 0, 1, 3, 2005001]), (20, [4, 3], [50, 1, 1, 1005, 1002, 0, 6, 4, 2, 1, 0, 0, 1, 3, 1, 2, 4, 3, 2, 1, 5, 0, 2]), (20, [3, 3], [30, 0, 1, 1, 15, -1, 1, 11]), (20, [3], [50, 3, 0, 12, 11, 15, 2, 21, 4, 7, 1, 3, 2, 0, 12, 0, 1, 0, 3, 2, 0, 11, 4, 3, 2, 0, 15, 0, 8, 3, 7, 1, 3, 2, 0, 12, 0, 0, 0, 7, 4, 3, 2, 0, 15, 0, 1, 2, 0, 11]), (20, [2, 3], [30, 0, 1, 0, 0, -1, 1, 11]), (20, [3, 2], [50, 3, 0, 8, 12, 11, 3, 7, 0, 2, 0, 1, 2, 0, 8, 3, 7, 1, 3, 2, 0, 12, 0, 0, 0, 6, 4, 2, 1, 1, 0, 1, 2, 0, 11]), (20, [3], [60, 1, 3, 199, 5, 2, 3, 4]), (24, [0, 3], []), (24, [1, 4], [])], [], [(0, 0, 2000, [])], [(23, [11, 2], [0, 1, -1]), (23, [11, 2], [0, -1, 1]), (20, [3, 3], [30, 0, 1, 1, 15, -1, 1, 11]), (20, [3], [50, 3, 0, 12, 11, 15, 2, 21, 4, 7, 1, 3, 2, 0, 12, 0, 1, 0, 3, 2, 0, 11, 4, 3, 2, 0, 15, 0, 8, 3, 7, 1, 3, 2, 0, 12, 0, 0, 0, 7, 4, 3, 2, 0, 15, 0, 1, 2, 0, 11]), (20, [11, 3], [30, 0, 1, 0, 0, -1, 1, 11]), (20, [3, 11], [50, 3, 0, 8, 12, 11, 3, 7, 0, 2, 0, 1, 2, 0, 8, 3, 7, 1, 3, 2, 0, 12, 0, 0, 0, 6, 4, 2, 1, 1, 0, 1, 2, 0, 11])], [], [(8, 9, -4294967296, -1), (1, 4, -4294967296, 0), (4, 1, -4294967296, 0)])
theorem oo_Mo_edgeItem_25 {kA : Nat → ClassId} : or_ok PRD kA GG o_Mo_edgeItem_25 := by
  refine or_mk fun A ta ws vs hD hth hl => ?_
  intro t0 r0 t1 k1 t2 k2 t3 r3 t4 k4 t8 k8 t9 k9 d0 d1 d2 f0 f1 f2 f3 f4 f5 f6 f7 f8 f9 f10
  replace f4 := shm_1397 f4
  replace f5 := shm_1398 f5
  replace f6 := shm_1395 f6
  replace f7 := shm_1660 f7
  replace f9 := shm_5 f9
  have q3 : n_v vs 3 = n_v vs 0 := f9.symm
  simp only [q3] at f4 f5 f6 f7
  have kz_0_8 := fdq_14 hD hth r0
  have kz_0_11 := fdq_273 hD hth r0
  have kz_0_12 := fdq_186 hD hth r0
  have kz_0_15 := fdq_274 hD hth r0
  obtain ⟨x, ex, hx⟩ := iv_ex (ta := ta) (lo := 0) (hi := 2000) (z := v_iv (n_v vs 2)) (by omega) (by omega) (by omega) (by omega)
  have ex2 : v_iv (Value.int x) = v_iv (n_v vs 2) := ex
  have ex3 : 0 ≤ v_iv (Value.int x) ∧ v_iv (Value.int x) ≤ 2000 := tv_rng hx
  have e_2 : n_v (vs ++ [Value.int x]) 2 = n_v vs 2 := n_v_old (by rw [hl]; decide)
  have e_3 : n_v (vs ++ [Value.int x]) 3 = n_v vs 3 := n_v_old (by rw [hl]; decide)
  have e_11 : n_v (vs ++ [Value.int x]) 11 = Value.int x := n_v_new hl
  have nf0 : fc_1 PRD (23, [11, 2], [0, 1, -1]) ws (vs ++ [Value.int x]) := by
    refine ⟨nf_inA hl rfl, sgq_7 ?_⟩
    · show 1 * v_iv (n_v (vs ++ [Value.int x]) 11) + ((-1) * v_iv (n_v (vs ++ [Value.int x]) 2) + 0) ≤ 0
      simp only [e_2, e_11]
      exact vc_Mo_edgeItem_25_0 (v_iv (n_v vs 2)) (w_fi ws (n_v vs 0) 5) (v_iv (Value.int x)) k2 ex2
  have nf1 : fc_1 PRD (23, [11, 2], [0, -1, 1]) ws (vs ++ [Value.int x]) := by
    refine ⟨nf_inA hl rfl, sgq_22 ?_⟩
    · show (-1) * v_iv (n_v (vs ++ [Value.int x]) 11) + (1 * v_iv (n_v (vs ++ [Value.int x]) 2) + 0) ≤ 0
      simp only [e_2, e_11]
      exact vc_Mo_edgeItem_25_1 (v_iv (n_v vs 2)) (w_fi ws (n_v vs 0) 5) (v_iv (Value.int x)) k2 ex2
  have nf2 : fc_1 PRD (20, [3, 3], [30, 0, 1, 1, 15, -1, 1, 11]) ws (vs ++ [Value.int x]) := by
    refine ⟨nf_inA hl rfl, sgq_1397 ?_⟩
    · show 1 * w_fi ws (n_v (vs ++ [Value.int x]) 3) 15 + ((-1) * w_fi ws (n_v (vs ++ [Value.int x]) 3) 11 + 0) ≤ 0
      simp only [e_3, q3]
      exact vc_Mo_edgeItem_25_2 (w_fi ws (n_v vs 0) 5) (w_fi ws (n_v vs 0) 15) (w_fi ws (n_v vs 0) 11) f4 kz_0_11 kz_0_15
  have nf3 : fc_1 PRD (20, [3], [50, 3, 0, 12, 11, 15, 2, 21, 4, 7, 1, 3, 2, 0, 12, 0, 1, 0, 3, 2, 0, 11, 4, 3, 2, 0, 15, 0, 8, 3, 7, 1, 3, 2, 0, 12, 0, 0, 0, 7, 4, 3, 2, 0, 15, 0, 1, 2, 0, 11]) ws (vs ++ [Value.int x]) := by
    refine ⟨nf_inA hl rfl, sgq_1398 ?_⟩
    · show ((w_fi ws (n_v (vs ++ [Value.int x]) 3) 12 = 1) → (w_fi ws (n_v (vs ++ [Value.int x]) 3) 11 ≤ (w_fi ws (n_v (vs ++ [Value.int x]) 3) 15 + 8))) ∧ ((w_fi ws (n_v (vs ++ [Value.int x]) 3) 12 = 0) ∨ ((w_fi ws (n_v (vs ++ [Value.int x]) 3) 15 + 1) ≤ w_fi ws (n_v (vs ++ [Value.int x]) 3) 11))
      simp only [e_3, q3]
      exact vc_Mo_edgeItem_25_3 (w_fi ws (n_v vs 0) 5) (w_fi ws (n_v vs 0) 15) (w_fi ws (n_v vs 0) 11) (w_fi ws (n_v vs 0) 12) f5 kz_0_11 kz_0_12 kz_0_15
  have nf4 : fc_1 PRD (20, [11, 3], [30, 0, 1, 0, 0, -1, 1, 11]) ws (vs ++ [Value.int x]) := by
    refine ⟨nf_inA hl rfl, sgq_1395 ?_⟩
    · show 1 * v_iv (n_v (vs ++ [Value.int x]) 11) + ((-1) * w_fi ws (n_v (vs ++ [Value.int x]) 3) 11 + 0) ≤ 0
      simp only [e_3, e_11, q3]
      exact vc_Mo_edgeItem_25_4 (v_iv (n_v vs 2)) (w_fi ws (n_v vs 0) 5) (w_fi ws (n_v vs 0) 11) (v_iv (Value.int x)) k2 f6 kz_0_11 ex2
  have nf5 : fc_1 PRD (20, [3, 11], [50, 3, 0, 8, 12, 11, 3, 7, 0, 2, 0, 1, 2, 0, 8, 3, 7, 1, 3, 2, 0, 12, 0, 0, 0, 6, 4, 2, 1, 1, 0, 1, 2, 0, 11]) ws (vs ++ [Value.int x]) := by
    refine ⟨nf_inA hl rfl, sgq_1660 ?_⟩
    · show (1 ≤ w_fi ws (n_v (vs ++ [Value.int x]) 3) 8) ∨ ((w_fi ws (n_v (vs ++ [Value.int x]) 3) 12 = 0) ∨ ((v_iv (n_v (vs ++ [Value.int x]) 11) + 1) ≤ w_fi ws (n_v (vs ++ [Value.int x]) 3) 11))
      simp only [e_3, e_11, q3]
      exact vc_Mo_edgeItem_25_5 (v_iv (n_v vs 2)) (w_fi ws (n_v vs 0) 5) (w_fi ws (n_v vs 0) 11) (w_fi ws (n_v vs 0) 12) (w_fi ws (n_v vs 0) 8) (v_iv (Value.int x)) k2 f6 f7 kz_0_8 kz_0_11 kz_0_12 ex2
  exact ⟨(fun _ h => (by cases h)), [Value.int x], ag_one hx, List.forall_mem_cons.mpr ⟨⟨show (23 : Nat) < 100 from by decide, nf0⟩, List.forall_mem_cons.mpr ⟨⟨show (23 : Nat) < 100 from by decide, nf1⟩, List.forall_mem_cons.mpr ⟨⟨show (20 : Nat) < 100 from by decide, nf2⟩, List.forall_mem_cons.mpr ⟨⟨show (20 : Nat) < 100 from by decide, nf3⟩, List.forall_mem_cons.mpr ⟨⟨show (20 : Nat) < 100 from by decide, nf4⟩, List.forall_mem_cons.mpr ⟨⟨show (20 : Nat) < 100 from by decide, nf5⟩, (fun _ h => (by cases h))⟩⟩⟩⟩⟩⟩, (fun _ h => (by cases h))⟩
set_option maxHeartbeats 4000000 in
theorem vc_Mo_edgeItem_26_0 (r_0 : Int) (from_0 : Int) (pos_0 : Int) (f8 : 1 * from_0 + ((-1) * pos_0 + 0) ≤ 0) (kz_0_11 : 0 ≤ pos_0 ∧ pos_0 ≤ 2000) (kz_0_15 : 0 ≤ from_0 ∧ from_0 ≤ 2000) : 1 * from_0 + ((-1) * pos_0 + 0) ≤ 0 := by
  first
    | omega
    | (have q1 := (hE_0_2_1 (r_0 + 2) (by omega)).2 (by omega)
       have q2 := (hE_0_2_2 (r_0 + 2) (by omega)).2 (by omega)
       omega)
    | (have q1 := (hE_0_2_1 (r_0 + 1) (by omega)).2 (by omega)
       have q2 := (hE_0_2_2 (r_0 + 1) (by omega)).2 (by omega)
       omega)
    | (have q1 := (hE_0_2_1 (r_0 + 2) (by omega)).2 (by omega)
       omega)
    | (have q1 := (hE_0_2_1 (r_0 + 1) (by omega)).2 (by omega)
       omega)
    | (have q1 := (hE_0_2_1 (r_0 + 2) (by omega)).2 (by omega)
       have q2 := (hE_0_2_2 (r_0 + 2) (by omega)).2 (by omega)
       have q3 := (hE_0_2_3 (r_0 + 2) (by omega)).1 (by omega)
       omega)
    | (have q1 := (hE_0_2_1 (r_0 + 2) (by omega)).2 (by omega)
       have q2 := (hE_0_2_2 (r_0 + 2) (by omega)).2 (by omega)
       have q3 := (hE_0_2_3 (r_0 + 2) (by omega)).2 (by omega)
       omega)
set_option maxHeartbeats 4000000 in
theorem vc_Mo_edgeItem_26_1 (r_0 : Int) (from_0 : Int) (pos_0 : Int) (kind_0 : Int) (f9 : ((kind_0 = 1) → (pos_0 ≤ (from_0 + 8))) ∧ ((kind_0 = 0) ∨ ((from_0 + 1) ≤ pos_0))) (kz_0_11 : 0 ≤ pos_0 ∧ pos_0 ≤ 2000) (kz_0_12 : 0 ≤ kind_0 ∧ kind_0 ≤ 4) (kz_0_15 : 0 ≤ from_0 ∧ from_0 ≤ 2000) : ((kind_0 = 1) → (pos_0 ≤ (from_0 + 8))) ∧ ((kind_0 = 0) ∨ ((from_0 + 1) ≤ pos_0)) := by
  first
    | omega
    | (have q1 := (hE_0_2_1 (r_0 + 2) (by omega)).2 (by omega)
       have q2 := (hE_0_2_2 (r_0 + 2) (by omega)).2 (by omega)
       omega)
    | (have q1 := (hE_0_2_1 (r_0 + 1) (by omega)).2 (by omega)
       have q2 := (hE_0_2_2 (r_0 + 1) (by omega)).2 (by omega)
       omega)
    | (have q1 := (hE_0_2_1 (r_0 + 2) (by omega)).2 (by omega)
       omega)
    | (have q1 := (hE_0_2_1 (r_0 + 1) (by omega)).2 (by omega)
       omega)
    | (have q1 := (hE_0_2_1 (r_0 + 2) (by omega)).2 (by omega)
       have q2 := (hE_0_2_2 (r_0 + 2) (by omega)).2 (by omega)
       have q3 := (hE_0_2_3 (r_0 + 2) (by omega)).1 (by omega)
       omega)
    | (have q1 := (hE_0_2_1 (r_0 + 2) (by omega)).2 (by omega)
       have q2 := (hE_0_2_2 (r_0 + 2) (by omega)).2 (by omega)
       have q3 := (hE_0_2_3 (r_0 + 2) (by omega)).2 (by omega)
       omega)
set_option maxHeartbeats 4000000 in
theorem vc_Mo_edgeItem_26_2 (x2 : Int) (x11 : Int) (r_0 : Int) (pos_0 : Int) (k2 : 0 ≤ x2 ∧ x2 ≤ 2000) (k11 : 0 ≤ x11 ∧ x11 ≤ 2000) (f0 : 1 * x11 + ((-1) * x2 + 0) ≤ 0) (f1 : (-1) * x11 + (1 * x2 + 0) ≤ 0) (f10 : 1 * x11 + ((-1) * pos_0 + 0) ≤ 0) (kz_0_11 : 0 ≤ pos_0 ∧ pos_0 ≤ 2000) : 1 * x2 + ((-1) * pos_0 + 0) ≤ 0 := by
  first
    | omega
    | (have q1 := (hE_0_2_1 (r_0 + 2) (by omega)).2 (by omega)
       have q2 := (hE_0_2_2 (r_0 + 2) (by omega)).2 (by omega)
       omega)
    | (have q1 := (hE_0_2_1 (r_0 + 1) (by omega)).2 (by omega)
       have q2 := (hE_0_2_2 (r_0 + 1) (by omega)).2 (by omega)
       omega)
    | (have q1 := (hE_0_2_1 (r_0 + 2) (by omega)).2 (by omega)
       omega)
    | (have q1 := (hE_0_2_1 (r_0 + 1) (by omega)).2 (by omega)
       omega)
    | (have q1 := (hE_0_2_1 (r_0 + 2) (by omega)).2 (by omega)
       have q2 := (hE_0_2_2 (r_0 + 2) (by omega)).2 (by omega)
       have q3 := (hE_0_2_3 (r_0 + 2) (by omega)).1 (by omega)
       omega)
    | (have q1 := (hE_0_2_1 (r_0 + 2) (by omega)).2 (by omega)
       have q2 := (hE_0_2_2 (r_0 + 2) (by omega)).2 (by omega)
       have q3 := (hE_0_2_3 (r_0 + 2) (by omega)).2 (by omega)
       omega)
set_option maxHeartbeats 4000000 in
theorem vc_Mo_edgeItem_26_3 (x2 : Int) (x11 : Int) (r_0 : Int) (pos_0 : Int) (fault_0 : Int) (k2 : 0 ≤ x2 ∧ x2 ≤ 2000) (k11 : 0 ≤ x11 ∧ x11 ≤ 2000) (f0 : 1 * x11 + ((-1) * x2 + 0) ≤ 0) (f1 : (-1) * x11 + (1 * x2 + 0) ≤ 0) (f10 : 1 * x11 + ((-1) * pos_0 + 0) ≤ 0) (f11 : (1 ≤ fault_0) ∨ ((x11 + 1) ≤ pos_0)) (kz_0_8 : 0 ≤ fault_0 ∧ fault_0 ≤ 5) (kz_0_11 : 0 ≤ pos_0 ∧ pos_0 ≤ 2000) : (1 ≤ fault_0) ∨ ((x2 + 1) ≤ pos_0) := by
  first
    | omega
    | (have q1 := (hE_0_2_1 (r_0 + 2) (by omega)).2 (by omega)
       have q2 := (hE_0_2_2 (r_0 + 2) (by omega)).2 (by omega)
       omega)
    | (have q1 := (hE_0_2_1 (r_0 + 1) (by omega)).2 (by omega)
       have q2 := (hE_0_2_2 (r_0 + 1) (by omega)).2 (by omega)
       omega)
    | (have q1 := (hE_0_2_1 (r_0 + 2) (by omega)).2 (by omega)
       omega)
    | (have q1 := (hE_0_2_1 (r_0 + 1) (by omega)).2 (by omega)
       omega)
    | (have q1 := (hE_0_2_1 (r_0 + 2) (by omega)).2 (by omega)
       have q2 := (hE_0_2_2 (r_0 + 2) (by omega)).2 (by omega)
       have q3 := (hE_0_2_3 (r_0 + 2) (by omega)).1 (by omega)
       omega)
    | (have q1 := (hE_0_2_1 (r_0 + 2) (by omega)).2 (by omega)
       have q2 := (hE_0_2_2 (r_0 + 2) (by omega)).2 (by omega)
       have q3 := (hE_0_2_3 (r_0 + 2) (by omega)).2 (by omega)
       omega)

set_option maxHeartbeats 4000000 in
theorem vc_Mo_edgeItem_26_4 (x1 : Int) (all_0 : Int → Int) (r_0 : Int) (k1 : 0 ≤ x1 ∧ x1 ≤ 7) (f4 : (x1 + 1) ≤ all_0 ((r_0 + 2))) : (x1 + 1) ≤ all_0 ((r_0 + 2)) := by
  first
    | omega
    | (have q1 := (hE_0_2_1 (r_0 + 2) (by omega)).2 (by omega)
       have q2 := (hE_0_2_2 (r_0 + 2) (by omega)).2 (by omega)
       omega)
    | (have q1 := (hE_0_2_1 (r_0 + 1) (by omega)).2 (by omega)
       have q2 := (hE_0_2_2 (r_0 + 1) (by omega)).2 (by omega)
       omega)
    | (have q1 := (hE_0_2_1 (r_0 + 2) (by omega)).2 (by omega)
       omega)
    | (have q1 := (hE_0_2_1 (r_0 + 1) (by omega)).2 (by omega)
       omega)
    | (have q1 := (hE_0_2_1 (r_0 + 2) (by omega)).2 (by omega)
       have q2 := (hE_0_2_2 (r_0 + 2) (by omega)).2 (by omega)
       have q3 := (hE_0_2_3 (r_0 + 2) (by omega)).1 (by omega)
       omega)
    | (have q1 := (hE_0_2_1 (r_0 + 2) (by omega)).2 (by omega)
       have q2 := (hE_0_2_2 (r_0 + 2) (by omega)).2 (by omega)
       have q3 := (hE_0_2_3 (r_0 + 2) (by omega)).2 (by omega)
       omega)
set_option maxHeartbeats 4000000 in
theorem vc_Mo_edgeItem_26_5 (all_0 : Int → Int) (r_0 : Int) (now_0 : Int → Int) (latest_0 : Int → Int) (f5 : RWS (r_0) (all_0) (now_0) (latest_0)) : RWS (r_0) (all_0) (now_0) (latest_0) := by
  first
    | assumption
def o_Mo_edgeItem_26 : or_T := (180, 12, [(0, (2, 0, 0, [165])), (1, (0, 0, 7, [])), (2, (0, 0, 2000, [])), (3, (2, 0, 0, [165])), (4, (0, 0, 7, [])), (8, (0, 0, 47, [])), (9, (0, 1, 48, [])), (11, (0, 0, 2000, []))], [(23, [11, 2], [0, 1, -1]), (23, [11, 2], [0, -1, 1]), (20, [9, 3], [30, 0, 1, 0, 0, -1, 3, 2005001]), (20, [9, 3], [30, 0, -1, 0, 0, 1, 3, 2005001]), (20, [4, 3], [50, 1, 1, 1005, 1002, 0, 6, 4, 2, 1, 0, 0, 1, 3, 1, 2, 4, 3, 2, 1, 5, 0, 2]), (20, [3], [60, 1, 3, 199, 5, 2, 3, 4]), (24, [0, 3], []), (24, [1, 4], []), (20, [3, 3], [30, 0, 1, 1, 15, -1, 1, 11]), (20, [3], [50, 3, 0, 12, 11, 15, 2, 21, 4, 7, 1, 3, 2, 0, 12, 0, 1, 0, 3, 2, 0, 11, 4, 3, 2, 0, 15, 0, 8, 3, 7, 1, 3, 2, 0, 12, 0, 0, 0, 7, 4, 3, 2, 0, 15, 0, 1, 2, 0, 11]), (20, [11, 3], [30, 0, 1, 0, 0, -1, 1, 11]), (20, [3, 11], [50, 2, 0, 8, 11, 3, 7, 0, 2, 0, 1, 2, 0, 8, 0, 6, 4, 2, 1, 1, 0, 1, 2, 0, 11]), (102, [11], [0, 165008, 165009, 165011, 165012, 165013, 165014, 165015]), (23, [11, 2], [0, 1, -1]), (23, [11, 2], [0, -1, 1]), (7, [8, 9], [2])], [], [], [(20, [0, 0], [30, 0, 1, 1, 15, -1, 1, 11]), (20, [0], [50, 3, 0, 12, 11, 15, 2, 21, 4, 7, 1, 3, 2, 0, 12, 0, 1, 0, 3, 2, 0, 11, 4, 3, 2, 0, 15, 0, 8, 3, 7, 1, 3, 2, 0, 12, 0, 0, 0, 7, 4, 3, 2, 0, 15, 0, 1, 2, 0, 11]), (20, [2, 0], [30, 0, 1, 0, 0, -1, 1, 11]), (20, [0, 2], [50, 2, 0, 8, 11, 3, 7, 0, 2, 0, 1, 2, 0, 8, 0, 6, 4, 2, 1, 1, 0, 1, 2, 0, 11]), (20, [1, 0], [50, 1, 1, 1005, 1002, 0, 6, 4, 2, 1, 0, 0, 1, 3, 1, 2, 4, 3, 2, 1, 5, 0, 2]), (20, [0], [60, 1, 3, 199, 5, 2, 3, 4])], [], [(8, 9, -4294967296, -1), (1, 4, -4294967296, 0), (4, 1, -4294967296, 0)])
theorem oo_Mo_edgeItem_26 {kA : Nat → ClassId} : or_ok PRD kA GG o_Mo_edgeItem_26 := by
  refine or_mk fun A ta ws vs hD hth hl => ?_
  intro t0 r0 t1 k1 t2 k2 t3 r3 t4 k4 t8 k8 t9 k9 t11 k11 d0 d1 d2 f0 f1 f2 f3 f4 f5 f6 f7 f8 f9 f10 f11 ta1 w1 le1 s1 f13 f14 f15
  replace f4 := shm_981 f4
  replace f5 := shm_952 f5
  replace f6 := shm_5 f6
  replace f7 := shm_5 f7
  replace f8 := shm_1397 f8
  replace f9 := shm_1398 f9
  replace f10 := shm_1395 f10
  replace f11 := shm_1659 f11
  have q3 : n_v vs 3 = n_v vs 0 := f6.symm
  have q4 : n_v vs 4 = n_v vs 1 := f7.symm
  simp only [q3, q4] at f4 f5 f8 f9 f10 f11
  have kz_0_8 := fdq_14 hD hth r0
  have kz_0_11 := fdq_273 hD hth r0
  have kz_0_12 := fdq_186 hD hth r0
  have kz_0_15 := fdq_274 hD hth r0
  have nf0 : fc_1 PRD (20, [0, 0], [30, 0, 1, 1, 15, -1, 1, 11]) ws (vs) := ⟨nf_in hl rfl, sgq_1397 (vc_Mo_edgeItem_26_0 (w_fi ws (n_v vs 0) 5) (w_fi ws (n_v vs 0) 15) (w_fi ws (n_v vs 0) 11) f8 kz_0_11 kz_0_15)⟩
  have nf1 : fc_1 PRD (20, [0], [50, 3, 0, 12, 11, 15, 2, 21, 4, 7, 1, 3, 2, 0, 12, 0, 1, 0, 3, 2, 0, 11, 4, 3, 2, 0, 15, 0, 8, 3, 7, 1, 3, 2, 0, 12, 0, 0, 0, 7, 4, 3, 2, 0, 15, 0, 1, 2, 0, 11]) ws (vs) := ⟨nf_in hl rfl, sgq_1398 (vc_Mo_edgeItem_26_1 (w_fi ws (n_v vs 0) 5) (w_fi ws (n_v vs 0) 15) (w_fi ws (n_v vs 0) 11) (w_fi ws (n_v vs 0) 12) f9 kz_0_11 kz_0_12 kz_0_15)⟩
  have nf2 : fc_1 PRD (20, [2, 0], [30, 0, 1, 0, 0, -1, 1, 11]) ws (vs) := ⟨nf_in hl rfl, sgq_1395 (vc_Mo_edgeItem_26_2 (v_iv (n_v vs 2)) (v_iv (n_v vs 11)) (w_fi ws (n_v vs 0) 5) (w_fi ws (n_v vs 0) 11) k2 k11 (shm_7 f0) (shm_22 f1) f10 kz_0_11)⟩
  have nf3 : fc_1 PRD (20, [0, 2], [50, 2, 0, 8, 11, 3, 7, 0, 2, 0, 1, 2, 0, 8, 0, 6, 4, 2, 1, 1, 0, 1, 2, 0, 11]) ws (vs) := ⟨nf_in hl rfl, sgq_1659 (vc_Mo_edgeItem_26_3 (v_iv (n_v vs 2)) (v_iv (n_v vs 11)) (w_fi ws (n_v vs 0) 5) (w_fi ws (n_v vs 0) 11) (w_fi ws (n_v vs 0) 8) k2 k11 (shm_7 f0) (shm_22 f1) f10 f11 kz_0_8 kz_0_11)⟩
  have nf4 : fc_1 PRD (20, [1, 0], [50, 1, 1, 1005, 1002, 0, 6, 4, 2, 1, 0, 0, 1, 3, 1, 2, 4, 3, 2, 1, 5, 0, 2]) ws (vs) := ⟨nf_in hl rfl, sgq_981 (vc_Mo_edgeItem_26_4 (v_iv (n_v vs 1)) (w_ei ws (w_ar ws (n_v vs 0) 2)) (w_fi ws (n_v vs 0) 5) k1 f4)⟩
  have nf5 : fc_1 PRD (20, [0], [60, 1, 3, 199, 5, 2, 3, 4]) ws (vs) := ⟨nf_in hl rfl, sgq_952 (vc_Mo_edgeItem_26_5 (w_ei ws (w_ar ws (n_v vs 0) 2)) (w_fi ws (n_v vs 0) 5) (w_ei ws (w_ar ws (n_v vs 0) 3)) (w_ei ws (w_ar ws (n_v vs 0) 4)) f5)⟩
  refine ⟨(fun _ h => (by cases h)), [], trivial, ?_, (fun _ h => (by cases h))⟩
  rw [List.append_nil]
  exact List.forall_mem_cons.mpr ⟨⟨show (20 : Nat) < 100 from by decide, nf0⟩, List.forall_mem_cons.mpr ⟨⟨show (20 : Nat) < 100 from by decide, nf1⟩, List.forall_mem_cons.mpr ⟨⟨show (20 : Nat) < 100 from by decide, nf2⟩, List.forall_mem_cons.mpr ⟨⟨show (20 : Nat) < 100 from by decide, nf3⟩, List.forall_mem_cons.mpr ⟨⟨show (20 : Nat) < 100 from by decide, nf4⟩, List.forall_mem_cons.mpr ⟨⟨show (20 : Nat) < 100 from by decide, nf5⟩, (fun _ h => (by cases h))⟩⟩⟩⟩⟩⟩
set_option maxHeartbeats 4000000 in
theorem vc_Mo_edgeItem_27_0 (x2 : Int) (r_0 : Int) (gx : Int) (k2 : 0 ≤ x2 ∧ x2 ≤ 2000) (ex2 : gx = x2) : 1 * gx + ((-1) * x2 + 0) ≤ 0 := by
  first
    | omega
    | (have q1 := (hE_0_2_1 (r_0 + 2) (by omega)).2 (by omega)
       have q2 := (hE_0_2_2 (r_0 + 2) (by omega)).2 (by omega)
       omega)
    | (have q1 := (hE_0_2_1 (r_0 + 1) (by omega)).2 (by omega)
       have q2 := (hE_0_2_2 (r_0 + 1) (by omega)).2 (by omega)
       omega)
    | (have q1 := (hE_0_2_1 (r_0 + 2) (by omega)).2 (by omega)
       omega)
    | (have q1 := (hE_0_2_1 (r_0 + 1) (by omega)).2 (by omega)
       omega)
    | (have q1 := (hE_0_2_1 (r_0 + 2) (by omega)).2 (by omega)
       have q2 := (hE_0_2_2 (r_0 + 2) (by omega)).2 (by omega)
       have q3 := (hE_0_2_3 (r_0 + 2) (by omega)).1 (by omega)
       omega)
    | (have q1 := (hE_0_2_1 (r_0 + 2) (by omega)).2 (by omega)
       have q2 := (hE_0_2_2 (r_0 + 2) (by omega)).2 (by omega)
       have q3 := (hE_0_2_3 (r_0 + 2) (by omega)).2 (by omega)
       omega)
set_option maxHeartbeats 4000000 in
theorem vc_Mo_edgeItem_27_1 (x2 : Int) (r_0 : Int) (gx : Int) (k2 : 0 ≤ x2 ∧ x2 ≤ 2000) (ex2 : gx = x2) : (-1) * gx + (1 * x2 + 0) ≤ 0 := by
  first
    | omega
    | (have q1 := (hE_0_2_1 (r_0 + 2) (by omega)).2 (by omega)
       have q2 := (hE_0_2_2 (r_0 + 2) (by omega)).2 (by omega)
       omega)
    | (have q1 := (hE_0_2_1 (r_0 + 1) (by omega)).2 (by omega)
       have q2 := (hE_0_2_2 (r_0 + 1) (by omega)).2 (by omega)
       omega)
    | (have q1 := (hE_0_2_1 (r_0 + 2) (by omega)).2 (by omega)
       omega)
    | (have q1 := (hE_0_2_1 (r_0 + 1) (by omega)).2 (by omega)
       omega)
    | (have q1 := (hE_0_2_1 (r_0 + 2) (by omega)).2 (by omega)
       have q2 := (hE_0_2_2 (r_0 + 2) (by omega)).2 (by omega)
       have q3 := (hE_0_2_3 (r_0 + 2) (by omega)).1 (by omega)
       omega)
    | (have q1 := (hE_0_2_1 (r_0 + 2) (by omega)).2 (by omega)
       have q2 := (hE_0_2_2 (r_0 + 2) (by omega)).2 (by omega)
       have q3 := (hE_0_2_3 (r_0 + 2) (by omega)).2 (by omega)
       omega)
set_option maxHeartbeats 4000000 in
theorem vc_Mo_edgeItem_27_2 (r_0 : Int) (from_0 : Int) (pos_0 : Int) (f6 : 1 * from_0 + ((-1) * pos_0 + 0) ≤ 0) (kz_0_11 : 0 ≤ pos_0 ∧ pos_0 ≤ 2000) (kz_0_15 : 0 ≤ from_0 ∧ from_0 ≤ 2000) : 1 * from_0 + ((-1) * pos_0 + 0) ≤ 0 := by
  first
    | omega
    | (have q1 := (hE_0_2_1 (r_0 + 2) (by omega)).2 (by omega)
       have q2 := (hE_0_2_2 (r_0 + 2) (by omega)).2 (by omega)
       omega)
    | (have q1 := (hE_0_2_1 (r_0 + 1) (by omega)).2 (by omega)
       have q2 := (hE_0_2_2 (r_0 + 1) (by omega)).2 (by omega)
       omega)
    | (have q1 := (hE_0_2_1 (r_0 + 2) (by omega)).2 (by omega)
       omega)
    | (have q1 := (hE_0_2_1 (r_0 + 1) (by omega)).2 (by omega)
       omega)
    | (have q1 := (hE_0_2_1 (r_0 + 2) (by omega)).2 (by omega)
       have q2 := (hE_0_2_2 (r_0 + 2) (by omega)).2 (by omega)
       have q3 := (hE_0_2_3 (r_0 + 2) (by omega)).1 (by omega)
       omega)
    | (have q1 := (hE_0_2_1 (r_0 + 2) (by omega)).2 (by omega)
       have q2 := (hE_0_2_2 (r_0 + 2) (by omega)).2 (by omega)
       have q3 := (hE_0_2_3 (r_0 + 2) (by omega)).2 (by omega)
       omega)
set_option maxHeartbeats 4000000 in
theorem vc_Mo_edgeItem_27_3 (r_0 : Int) (from_0 : Int) (pos_0 : Int) (kind_0 : Int) (f7 : ((kind_0 = 1) → (pos_0 ≤ (from_0 + 8))) ∧ ((kind_0 = 0) ∨ ((from_0 + 1) ≤ pos_0))) (kz_0_11 : 0 ≤ pos_0 ∧ pos_0 ≤ 2000) (kz_0_12 : 0 ≤ kind_0 ∧ kind_0 ≤ 4) (kz_0_15 : 0 ≤ from_0 ∧ from_0 ≤ 2000) : ((kind_0 = 1) → (pos_0 ≤ (from_0 + 8))) ∧ ((kind_0 = 0) ∨ ((from_0 + 1) ≤ pos_0)) := by
  first
    | omega
    | (have q1 := (hE_0_2_1 (r_0 + 2) (by omega)).2 (by omega)
       have q2 := (hE_0_2_2 (r_0 + 2) (by omega)).2 (by omega)
       omega)
    | (have q1 := (hE_0_2_1 (r_0 + 1) (by omega)).2 (by omega)
       have q2 := (hE_0_2_2 (r_0 + 1) (by omega)).2 (by omega)
       omega)
    | (have q1 := (hE_0_2_1 (r_0 + 2) (by omega)).2 (by omega)
       omega)
    | (have q1 := (hE_0_2_1 (r_0 + 1) (by omega)).2 (by omega)
       omega)
    | (have q1 := (hE_0_2_1 (r_0 + 2) (by omega)).2 (by omega)
       have q2 := (hE_0_2_2 (r_0 + 2) (by omega)).2 (by omega)
       have q3 := (hE_0_2_3 (r_0 + 2) (by omega)).1 (by omega)
       omega)
    | (have q1 := (hE_0_2_1 (r_0 + 2) (by omega)).2 (by omega)
       have q2 := (hE_0_2_2 (r_0 + 2) (by omega)).2 (by omega)
       have q3 := (hE_0_2_3 (r_0 + 2) (by omega)).2 (by omega)
       omega)
set_option maxHeartbeats 4000000 in
theorem vc_Mo_edgeItem_27_4 (x2 : Int) (r_0 : Int) (pos_0 : Int) (gx : Int) (k2 : 0 ≤ x2 ∧ x2 ≤ 2000) (f8 : 1 * x2 + ((-1) * pos_0 + 0) ≤ 0) (kz_0_11 : 0 ≤ pos_0 ∧ pos_0 ≤ 2000) (ex2 : gx = x2) : 1 * gx + ((-1) * pos_0 + 0) ≤ 0 := by
  first
    | omega
    | (have q1 := (hE_0_2_1 (r_0 + 2) (by omega)).2 (by omega)
       have q2 := (hE_0_2_2 (r_0 + 2) (by omega)).2 (by omega)
       omega)
    | (have q1 := (hE_0_2_1 (r_0 + 1) (by omega)).2 (by omega)
       have q2 := (hE_0_2_2 (r_0 + 1) (by omega)).2 (by omega)
       omega)
    | (have q1 := (hE_0_2_1 (r_0 + 2) (by omega)).2 (by omega)
       omega)
    | (have q1 := (hE_0_2_1 (r_0 + 1) (by omega)).2 (by omega)
       omega)
    | (have q1 := (hE_0_2_1 (r_0 + 2) (by omega)).2 (by omega)
       have q2 := (hE_0_2_2 (r_0 + 2) (by omega)).2 (by omega)
       have q3 := (hE_0_2_3 (r_0 + 2) (by omega)).1 (by omega)
       omega)
    | (have q1 := (hE_0_2_1 (r_0 + 2) (by omega)).2 (by omega)
       have q2 := (hE_0_2_2 (r_0 + 2) (by omega)).2 (by omega)
       have q3 := (hE_0_2_3 (r_0 + 2) (by omega)).2 (by omega)
       omega)
set_option maxHeartbeats 4000000 in
theorem vc_Mo_edgeItem_27_5 (x10 : Int) (fault_0 : Int) (r_0 : Int) (pos_0 : Int) (kind_0 : Int) (gx : Int) (k10 : 1 ≤ x10 ∧ x10 ≤ 5) (g1 : x10 = fault_0) (kz_0_8 : 0 ≤ fault_0 ∧ fault_0 ≤ 5) (kz_0_11 : 0 ≤ pos_0 ∧ pos_0 ≤ 2000) (kz_0_12 : 0 ≤ kind_0 ∧ kind_0 ≤ 4) : (1 ≤ fault_0) ∨ ((kind_0 = 0) ∨ ((gx + 1) ≤ pos_0)) := by
  first
    | omega
    | (have q1 := (hE_0_2_1 (r_0 + 2) (by omega)).2 (by omega)
       have q2 := (hE_0_2_2 (r_0 + 2) (by omega)).2 (by omega)
       omega)
    | (have q1 := (hE_0_2_1 (r_0 + 1) (by omega)).2 (by omega)
       have q2 := (hE_0_2_2 (r_0 + 1) (by omega)).2 (by omega)
       omega)
    | (have q1 := (hE_0_2_1 (r_0 + 2) (by omega)).2 (by omega)
       omega)
    | (have q1 := (hE_0_2_1 (r_0 + 1) (by omega)).2 (by omega)
       omega)
    | (have q1 := (hE_0_2_1 (r_0 + 2) (by omega)).2 (by omega)
       have q2 := (hE_0_2_2 (r_0 + 2) (by omega)).2 (by omega)
       have q3 := (hE_0_2_3 (r_0 + 2) (by omega)).1 (by omega)
       omega)
    | (have q1 := (hE_0_2_1 (r_0 + 2) (by omega)).2 (by omega)
       have q2 := (hE_0_2_2 (r_0 + 2) (by omega)).2 (by omega)
       have q3 := (hE_0_2_3 (r_0 + 2) (by omega)).2 (by omega)
       omega)
def o_Mo_edgeItem_27 : or_T := (177, 12, [(0, (2, 0, 0, [165])), (2, (0, 0, 2000, [])), (10, (0, 1, 5, []))], [(9, [10, 3], [8]), (20, [3, 3], [30, 0, 1, 1, 15, -1, 1, 11]), (20, [3], [50, 3, 0, 12, 11, 15, 2, 21, 4, 7, 1, 3, 2, 0, 12, 0, 1, 0, 3, 2, 0, 11, 4, 3, 2, 0, 15, 0, 8, 3, 7, 1, 3, 2, 0, 12, 0, 0, 0, 7, 4, 3, 2, 0, 15, 0, 1, 2, 0, 11]), (20, [2, 3], [30, 0, 1, 0, 0, -1, 1, 11]), (24, [0, 3], [])], [], [(0, 0, 2000, [])], [(23, [12, 2], [0, 1, -1]), (23, [12, 2], [0, -1, 1]), (20, [3, 3], [30, 0, 1, 1, 15, -1, 1, 11]), (20, [3], [50, 3, 0, 12, 11, 15, 2, 21, 4, 7, 1, 3, 2, 0, 12, 0, 1, 0, 3, 2, 0, 11, 4, 3, 2, 0, 15, 0, 8, 3, 7, 1, 3, 2, 0, 12, 0, 0, 0, 7, 4, 3, 2, 0, 15, 0, 1, 2, 0, 11]), (20, [12, 3], [30, 0, 1, 0, 0, -1, 1, 11]), (20, [3, 12], [50, 3, 0, 8, 12, 11, 3, 7, 0, 2, 0, 1, 2, 0, 8, 3, 7, 1, 3, 2, 0, 12, 0, 0, 0, 6, 4, 2, 1, 1, 0, 1, 2, 0, 11])], [], [])
theorem oo_Mo_edgeItem_27 {kA : Nat → ClassId} : or_ok PRD kA GG o_Mo_edgeItem_27 := by
  refine or_mk fun A ta ws vs hD hth hl => ?_
  intro t0 r0 t2 k2 t10 k10 f1 f6 f7 f8 f11
  replace f1 := shm_143 f1
  replace f6 := shm_1397 f6
  replace f7 := shm_1398 f7
  replace f8 := shm_1395 f8
  replace f11 := shm_5 f11
  have q3 : n_v vs 3 = n_v vs 0 := f11.symm
  simp only [q3] at f1 f6 f7 f8
  have g1 : v_iv (n_v vs 10) = w_fi ws (n_v vs 0) 8 := congrArg v_iv f1
  have kz_0_8 := fdq_14 hD hth r0
  have kz_0_11 := fdq_273 hD hth r0
  have kz_0_12 := fdq_186 hD hth r0
  have kz_0_15 := fdq_274 hD hth r0
  obtain ⟨x, ex, hx⟩ := iv_ex (ta := ta) (lo := 0) (hi := 2000) (z := v_iv (n_v vs 2)) (by omega) (by omega) (by omega) (by omega)
  have ex2 : v_iv (Value.int x) = v_iv (n_v vs 2) := ex
  have ex3 : 0 ≤ v_iv (Value.int x) ∧ v_iv (Value.int x) ≤ 2000 := tv_rng hx
  have e_2 : n_v (vs ++ [Value.int x]) 2 = n_v vs 2 := n_v_old (by rw [hl]; decide)
  have e_3 : n_v (vs ++ [Value.int x]) 3 = n_v vs 3 := n_v_old (by rw [hl]; decide)
  have e_12 : n_v (vs ++ [Value.int x]) 12 = Value.int x := n_v_new hl
  have nf0 : fc_1 PRD (23, [12, 2], [0, 1, -1]) ws (vs ++ [Value.int x]) := by
    refine ⟨nf_inA hl rfl, sgq_7 ?_⟩
    · show 1 * v_iv (n_v (vs ++ [Value.int x]) 12) + ((-1) * v_iv (n_v (vs ++ [Value.int x]) 2) + 0) ≤ 0
      simp only [e_2, e_12]
      exact vc_Mo_edgeItem_27_0 (v_iv (n_v vs 2)) (w_fi ws (n_v vs 0) 5) (v_iv (Value.int x)) k2 ex2
  have nf1 : fc_1 PRD (23, [12, 2], [0, -1, 1]) ws (vs ++ [Value.int x]) := by
    refine ⟨nf_inA hl rfl, sgq_22 ?_⟩
    · show (-1) * v_iv (n_v (vs ++ [Value.int x]) 12) + (1 * v_iv (n_v (vs ++ [Value.int x]) 2) + 0) ≤ 0
      simp only [e_2, e_12]
      exact vc_Mo_edgeItem_27_1 (v_iv (n_v vs 2)) (w_fi ws (n_v vs 0) 5) (v_iv (Value.int x)) k2 ex2
  have nf2 : fc_1 PRD (20, [3, 3], [30, 0, 1, 1, 15, -1, 1, 11]) ws (vs ++ [Value.int x]) := by
    refine ⟨nf_inA hl rfl, sgq_1397 ?_⟩
    · show 1 * w_fi ws (n_v (vs ++ [Value.int x]) 3) 15 + ((-1) * w_fi ws (n_v (vs ++ [Value.int x]) 3) 11 + 0) ≤ 0
      simp only [e_3, q3]
      exact vc_Mo_edgeItem_27_2 (w_fi ws (n_v vs 0) 5) (w_fi ws (n_v vs 0) 15) (w_fi ws (n_v vs 0) 11) f6 kz_0_11 kz_0_15
  have nf3 : fc_1 PRD (20, [3], [50, 3, 0, 12, 11, 15, 2, 21, 4, 7, 1, 3, 2, 0, 12, 0, 1, 0, 3, 2, 0, 11, 4, 3, 2, 0, 15, 0, 8, 3, 7, 1, 3, 2, 0, 12, 0, 0, 0, 7, 4, 3, 2, 0, 15, 0, 1, 2, 0, 11]) ws (vs ++ [Value.int x]) := by
    refine ⟨nf_inA hl rfl, sgq_1398 ?_⟩
    · show ((w_fi ws (n_v (vs ++ [Value.int x]) 3) 12 = 1) → (w_fi ws (n_v (vs ++ [Value.int x]) 3) 11 ≤ (w_fi ws (n_v (vs ++ [Value.int x]) 3) 15 + 8))) ∧ ((w_fi ws (n_v (vs ++ [Value.int x]) 3) 12 = 0) ∨ ((w_fi ws (n_v (vs ++ [Value.int x]) 3) 15 + 1) ≤ w_fi ws (n_v (vs ++ [Value.int x]) 3) 11))
      simp only [e_3, q3]
      exact vc_Mo_edgeItem_27_3 (w_fi ws (n_v vs 0) 5) (w_fi ws (n_v vs 0) 15) (w_fi ws (n_v vs 0) 11) (w_fi ws (n_v vs 0) 12) f7 kz_0_11 kz_0_12 kz_0_15
  have nf4 : fc_1 PRD (20, [12, 3], [30, 0, 1, 0, 0, -1, 1, 11]) ws (vs ++ [Value.int x]) := by
    refine ⟨nf_inA hl rfl, sgq_1395 ?_⟩
    · show 1 * v_iv (n_v (vs ++ [Value.int x]) 12) + ((-1) * w_fi ws (n_v (vs ++ [Value.int x]) 3) 11 + 0) ≤ 0
      simp only [e_3, e_12, q3]
      exact vc_Mo_edgeItem_27_4 (v_iv (n_v vs 2)) (w_fi ws (n_v vs 0) 5) (w_fi ws (n_v vs 0) 11) (v_iv (Value.int x)) k2 f8 kz_0_11 ex2
  have nf5 : fc_1 PRD (20, [3, 12], [50, 3, 0, 8, 12, 11, 3, 7, 0, 2, 0, 1, 2, 0, 8, 3, 7, 1, 3, 2, 0, 12, 0, 0, 0, 6, 4, 2, 1, 1, 0, 1, 2, 0, 11]) ws (vs ++ [Value.int x]) := by
    refine ⟨nf_inA hl rfl, sgq_1660 ?_⟩
    · show (1 ≤ w_fi ws (n_v (vs ++ [Value.int x]) 3) 8) ∨ ((w_fi ws (n_v (vs ++ [Value.int x]) 3) 12 = 0) ∨ ((v_iv (n_v (vs ++ [Value.int x]) 12) + 1) ≤ w_fi ws (n_v (vs ++ [Value.int x]) 3) 11))
      simp only [e_3, e_12, q3]
      exact vc_Mo_edgeItem_27_5 (v_iv (n_v vs 10)) (w_fi ws (n_v vs 0) 8) (w_fi ws (n_v vs 0) 5) (w_fi ws (n_v vs 0) 11) (w_fi ws (n_v vs 0) 12) (v_iv (Value.int x)) k10 g1 kz_0_8 kz_0_11 kz_0_12
  exact ⟨(fun _ h => (by cases h)), [Value.int x], ag_one hx, List.forall_mem_cons.mpr ⟨⟨show (23 : Nat) < 100 from by decide, nf0⟩, List.forall_mem_cons.mpr ⟨⟨show (23 : Nat) < 100 from by decide, nf1⟩, List.forall_mem_cons.mpr ⟨⟨show (20 : Nat) < 100 from by decide, nf2⟩, List.forall_mem_cons.mpr ⟨⟨show (20 : Nat) < 100 from by decide, nf3⟩, List.forall_mem_cons.mpr ⟨⟨show (20 : Nat) < 100 from by decide, nf4⟩, List.forall_mem_cons.mpr ⟨⟨show (20 : Nat) < 100 from by decide, nf5⟩, (fun _ h => (by cases h))⟩⟩⟩⟩⟩⟩, (fun _ h => (by cases h))⟩
set_option maxHeartbeats 4000000 in
theorem vc_Mo_edgeItem_28_0 (r_0 : Int) (from_0 : Int) (pos_0 : Int) (f8 : 1 * from_0 + ((-1) * pos_0 + 0) ≤ 0) (kz_0_11 : 0 ≤ pos_0 ∧ pos_0 ≤ 2000) (kz_0_15 : 0 ≤ from_0 ∧ from_0 ≤ 2000) : 1 * from_0 + ((-1) * pos_0 + 0) ≤ 0 := by
  first
    | omega
    | (have q1 := (hE_0_2_1 (r_0 + 2) (by omega)).2 (by omega)
       have q2 := (hE_0_2_2 (r_0 + 2) (by omega)).2 (by omega)
       omega)
    | (have q1 := (hE_0_2_1 (r_0 + 1) (by omega)).2 (by omega)
       have q2 := (hE_0_2_2 (r_0 + 1) (by omega)).2 (by omega)
       omega)
    | (have q1 := (hE_0_2_1 (r_0 + 2) (by omega)).2 (by omega)
       omega)
    | (have q1 := (hE_0_2_1 (r_0 + 1) (by omega)).2 (by omega)
       omega)
    | (have q1 := (hE_0_2_1 (r_0 + 2) (by omega)).2 (by omega)
       have q2 := (hE_0_2_2 (r_0 + 2) (by omega)).2 (by omega)
       have q3 := (hE_0_2_3 (r_0 + 2) (by omega)).1 (by omega)
       omega)
    | (have q1 := (hE_0_2_1 (r_0 + 2) (by omega)).2 (by omega)
       have q2 := (hE_0_2_2 (r_0 + 2) (by omega)).2 (by omega)
       have q3 := (hE_0_2_3 (r_0 + 2) (by omega)).2 (by omega)
       omega)
set_option maxHeartbeats 4000000 in
theorem vc_Mo_edgeItem_28_1 (r_0 : Int) (from_0 : Int) (pos_0 : Int) (kind_0 : Int) (f9 : ((kind_0 = 1) → (pos_0 ≤ (from_0 + 8))) ∧ ((kind_0 = 0) ∨ ((from_0 + 1) ≤ pos_0))) (kz_0_11 : 0 ≤ pos_0 ∧ pos_0 ≤ 2000) (kz_0_12 : 0 ≤ kind_0 ∧ kind_0 ≤ 4) (kz_0_15 : 0 ≤ from_0 ∧ from_0 ≤ 2000) : ((kind_0 = 1) → (pos_0 ≤ (from_0 + 8))) ∧ ((kind_0 = 0) ∨ ((from_0 + 1) ≤ pos_0)) := by
  first
    | omega
    | (have q1 := (hE_0_2_1 (r_0 + 2) (by omega)).2 (by omega)
       have q2 := (hE_0_2_2 (r_0 + 2) (by omega)).2 (by omega)
       omega)
    | (have q1 := (hE_0_2_1 (r_0 + 1) (by omega)).2 (by omega)
       have q2 := (hE_0_2_2 (r_0 + 1) (by omega)).2 (by omega)
       omega)
    | (have q1 := (hE_0_2_1 (r_0 + 2) (by omega)).2 (by omega)
       omega)
    | (have q1 := (hE_0_2_1 (r_0 + 1) (by omega)).2 (by omega)
       omega)
    | (have q1 := (hE_0_2_1 (r_0 + 2) (by omega)).2 (by omega)
       have q2 := (hE_0_2_2 (r_0 + 2) (by omega)).2 (by omega)
       have q3 := (hE_0_2_3 (r_0 + 2) (by omega)).1 (by omega)
       omega)
    | (have q1 := (hE_0_2_1 (r_0 + 2) (by omega)).2 (by omega)
       have q2 := (hE_0_2_2 (r_0 + 2) (by omega)).2 (by omega)
       have q3 := (hE_0_2_3 (r_0 + 2) (by omega)).2 (by omega)
       omega)
set_option maxHeartbeats 4000000 in
theorem vc_Mo_edgeItem_28_2 (x2 : Int) (x12 : Int) (r_0 : Int) (pos_0 : Int) (k2 : 0 ≤ x2 ∧ x2 ≤ 2000) (k12 : 0 ≤ x12 ∧ x12 ≤ 2000) (f0 : 1 * x12 + ((-1) * x2 + 0) ≤ 0) (f1 : (-1) * x12 + (1 * x2 + 0) ≤ 0) (f10 : 1 * x12 + ((-1) * pos_0 + 0) ≤ 0) (kz_0_11 : 0 ≤ pos_0 ∧ pos_0 ≤ 2000) : 1 * x2 + ((-1) * pos_0 + 0) ≤ 0 := by
  first
    | omega
    | (have q1 := (hE_0_2_1 (r_0 + 2) (by omega)).2 (by omega)
       have q2 := (hE_0_2_2 (r_0 + 2) (by omega)).2 (by omega)
       omega)
    | (have q1 := (hE_0_2_1 (r_0 + 1) (by omega)).2 (by omega)
       have q2 := (hE_0_2_2 (r_0 + 1) (by omega)).2 (by omega)
       omega)
    | (have q1 := (hE_0_2_1 (r_0 + 2) (by omega)).2 (by omega)
       omega)
    | (have q1 := (hE_0_2_1 (r_0 + 1) (by omega)).2 (by omega)
       omega)
    | (have q1 := (hE_0_2_1 (r_0 + 2) (by omega)).2 (by omega)
       have q2 := (hE_0_2_2 (r_0 + 2) (by omega)).2 (by omega)
       have q3 := (hE_0_2_3 (r_0 + 2) (by omega)).1 (by omega)
       omega)
    | (have q1 := (hE_0_2_1 (r_0 + 2) (by omega)).2 (by omega)
       have q2 := (hE_0_2_2 (r_0 + 2) (by omega)).2 (by omega)
       have q3 := (hE_0_2_3 (r_0 + 2) (by omega)).2 (by omega)
       omega)
set_option maxHeartbeats 4000000 in
theorem vc_Mo_edgeItem_28_3 (x2 : Int) (x12 : Int) (r_0 : Int) (pos_0 : Int) (fault_0 : Int) (k2 : 0 ≤ x2 ∧ x2 ≤ 2000) (k12 : 0 ≤ x12 ∧ x12 ≤ 2000) (f0 : 1 * x12 + ((-1) * x2 + 0) ≤ 0) (f1 : (-1) * x12 + (1 * x2 + 0) ≤ 0) (f10 : 1 * x12 + ((-1) * pos_0 + 0) ≤ 0) (f11 : (1 ≤ fault_0) ∨ ((x12 + 1) ≤ pos_0)) (kz_0_8 : 0 ≤ fault_0 ∧ fault_0 ≤ 5) (kz_0_11 : 0 ≤ pos_0 ∧ pos_0 ≤ 2000) : (1 ≤ fault_0) ∨ ((x2 + 1) ≤ pos_0) := by
  first
    | omega
    | (have q1 := (hE_0_2_1 (r_0 + 2) (by omega)).2 (by omega)
       have q2 := (hE_0_2_2 (r_0 + 2) (by omega)).2 (by omega)
       omega)
    | (have q1 := (hE_0_2_1 (r_0 + 1) (by omega)).2 (by omega)
       have q2 := (hE_0_2_2 (r_0 + 1) (by omega)).2 (by omega)
       omega)
    | (have q1 := (hE_0_2_1 (r_0 + 2) (by omega)).2 (by omega)
       omega)
    | (have q1 := (hE_0_2_1 (r_0 + 1) (by omega)).2 (by omega)
       omega)
    | (have q1 := (hE_0_2_1 (r_0 + 2) (by omega)).2 (by omega)
       have q2 := (hE_0_2_2 (r_0 + 2) (by omega)).2 (by omega)
       have q3 := (hE_0_2_3 (r_0 + 2) (by omega)).1 (by omega)
       omega)
    | (have q1 := (hE_0_2_1 (r_0 + 2) (by omega)).2 (by omega)
       have q2 := (hE_0_2_2 (r_0 + 2) (by omega)).2 (by omega)
       have q3 := (hE_0_2_3 (r_0 + 2) (by omega)).2 (by omega)
       omega)
set_option maxHeartbeats 4000000 in
theorem vc_Mo_edgeItem_28_4 (x1 : Int) (all_0 : Int → Int) (r_0 : Int) (k1 : 0 ≤ x1 ∧ x1 ≤ 7) (f4 : (x1 + 1) ≤ all_0 ((r_0 + 2))) : (x1 + 1) ≤ all_0 ((r_0 + 2)) := by
  first
    | omega
    | (have q1 := (hE_0_2_1 (r_0 + 2) (by omega)).2 (by omega)
       have q2 := (hE_0_2_2 (r_0 + 2) (by omega)).2 (by omega)
       omega)
    | (have q1 := (hE_0_2_1 (r_0 + 1) (by omega)).2 (by omega)
       have q2 := (hE_0_2_2 (r_0 + 1) (by omega)).2 (by omega)
       omega)
    | (have q1 := (hE_0_2_1 (r_0 + 2) (by omega)).2 (by omega)
       omega)
    | (have q1 := (hE_0_2_1 (r_0 + 1) (by omega)).2 (by omega)
       omega)
    | (have q1 := (hE_0_2_1 (r_0 + 2) (by omega)).2 (by omega)
       have q2 := (hE_0_2_2 (r_0 + 2) (by omega)).2 (by omega)
       have q3 := (hE_0_2_3 (r_0 + 2) (by omega)).1 (by omega)
       omega)
    | (have q1 := (hE_0_2_1 (r_0 + 2) (by omega)).2 (by omega)
       have q2 := (hE_0_2_2 (r_0 + 2) (by omega)).2 (by omega)
       have q3 := (hE_0_2_3 (r_0 + 2) (by omega)).2 (by omega)
       omega)
set_option maxHeartbeats 4000000 in
theorem vc_Mo_edgeItem_28_5 (all_0 : Int → Int) (r_0 : Int) (now_0 : Int → Int) (latest_0 : Int → Int) (f5 : RWS (r_0) (all_0) (now_0) (latest_0)) : RWS (r_0) (all_0) (now_0) (latest_0) := by
  first
    | assumption
def o_Mo_edgeItem_28 : or_T := (180, 13, [(0, (2, 0, 0, [165])), (1, (0, 0, 7, [])), (2, (0, 0, 2000, [])), (12, (0, 0, 2000, []))], [(23, [12, 2], [0, 1, -1]), (23, [12, 2], [0, -1, 1]), (20, [4, 3], [50, 1, 1, 1005, 1002, 0, 6, 4, 2, 1, 0, 0, 1, 3, 1, 2, 4, 3, 2, 1, 5, 0, 2]), (20, [3], [60, 1, 3, 199, 5, 2, 3, 4]), (24, [0, 3], []), (24, [1, 4], []), (20, [3, 3], [30, 0, 1, 1, 15, -1, 1, 11]), (20, [3], [50, 3, 0, 12, 11, 15, 2, 21, 4, 7, 1, 3, 2, 0, 12, 0, 1, 0, 3, 2, 0, 11, 4, 3, 2, 0, 15, 0, 8, 3, 7, 1, 3, 2, 0, 12, 0, 0, 0, 7, 4, 3, 2, 0, 15, 0, 1, 2, 0, 11]), (20, [12, 3], [30, 0, 1, 0, 0, -1, 1, 11]), (20, [3, 12], [50, 2, 0, 8, 11, 3, 7, 0, 2, 0, 1, 2, 0, 8, 0, 6, 4, 2, 1, 1, 0, 1, 2, 0, 11])], [], [], [(20, [0, 0], [30, 0, 1, 1, 15, -1, 1, 11]), (20, [0], [50, 3, 0, 12, 11, 15, 2, 21, 4, 7, 1, 3, 2, 0, 12, 0, 1, 0, 3, 2, 0, 11, 4, 3, 2, 0, 15, 0, 8, 3, 7, 1, 3, 2, 0, 12, 0, 0, 0, 7, 4, 3, 2, 0, 15, 0, 1, 2, 0, 11]), (20, [2, 0], [30, 0, 1, 0, 0, -1, 1, 11]), (20, [0, 2], [50, 2, 0, 8, 11, 3, 7, 0, 2, 0, 1, 2, 0, 8, 0, 6, 4, 2, 1, 1, 0, 1, 2, 0, 11]), (20, [1, 0], [50, 1, 1, 1005, 1002, 0, 6, 4, 2, 1, 0, 0, 1, 3, 1, 2, 4, 3, 2, 1, 5, 0, 2]), (20, [0], [60, 1, 3, 199, 5, 2, 3, 4])], [], [])
theorem oo_Mo_edgeItem_28 {kA : Nat → ClassId} : or_ok PRD kA GG o_Mo_edgeItem_28 := by
  refine or_mk fun A ta ws vs hD hth hl => ?_
  intro t0 r0 t1 k1 t2 k2 t12 k12 f0 f1 f4 f5 f6 f7 f8 f9 f10 f11
  replace f4 := shm_981 f4
  replace f5 := shm_952 f5
  replace f6 := shm_5 f6
  replace f7 := shm_5 f7
  replace f8 := shm_1397 f8
  replace f9 := shm_1398 f9
  replace f10 := shm_1395 f10
  replace f11 := shm_1659 f11
  have q3 : n_v vs 3 = n_v vs 0 := f6.symm
  have q4 : n_v vs 4 = n_v vs 1 := f7.symm
  simp only [q3, q4] at f4 f5 f8 f9 f10 f11
  have kz_0_8 := fdq_14 hD hth r0
  have kz_0_11 := fdq_273 hD hth r0
  have kz_0_12 := fdq_186 hD hth r0
  have kz_0_15 := fdq_274 hD hth r0
  have nf0 : fc_1 PRD (20, [0, 0], [30, 0, 1, 1, 15, -1, 1, 11]) ws (vs) := ⟨nf_in hl rfl, sgq_1397 (vc_Mo_edgeItem_28_0 (w_fi ws (n_v vs 0) 5) (w_fi ws (n_v vs 0) 15) (w_fi ws (n_v vs 0) 11) f8 kz_0_11 kz_0_15)⟩
  have nf1 : fc_1 PRD (20, [0], [50, 3, 0, 12, 11, 15, 2, 21, 4, 7, 1, 3, 2, 0, 12, 0, 1, 0, 3, 2, 0, 11, 4, 3, 2, 0, 15, 0, 8, 3, 7, 1, 3, 2, 0, 12, 0, 0, 0, 7, 4, 3, 2, 0, 15, 0, 1, 2, 0, 11]) ws (vs) := ⟨nf_in hl rfl, sgq_1398 (vc_Mo_edgeItem_28_1 (w_fi ws (n_v vs 0) 5) (w_fi ws (n_v vs 0) 15) (w_fi ws (n_v vs 0) 11) (w_fi ws (n_v vs 0) 12) f9 kz_0_11 kz_0_12 kz_0_15)⟩
  have nf2 : fc_1 PRD (20, [2, 0], [30, 0, 1, 0, 0, -1, 1, 11]) ws (vs) := ⟨nf_in hl rfl, sgq_1395 (vc_Mo_edgeItem_28_2 (v_iv (n_v vs 2)) (v_iv (n_v vs 12)) (w_fi ws (n_v vs 0) 5) (w_fi ws (n_v vs 0) 11) k2 k12 (shm_7 f0) (shm_22 f1) f10 kz_0_11)⟩
  have nf3 : fc_1 PRD (20, [0, 2], [50, 2, 0, 8, 11, 3, 7, 0, 2, 0, 1, 2, 0, 8, 0, 6, 4, 2, 1, 1, 0, 1, 2, 0, 11]) ws (vs) := ⟨nf_in hl rfl, sgq_1659 (vc_Mo_edgeItem_28_3 (v_iv (n_v vs 2)) (v_iv (n_v vs 12)) (w_fi ws (n_v vs 0) 5) (w_fi ws (n_v vs 0) 11) (w_fi ws (n_v vs 0) 8) k2 k12 (shm_7 f0) (shm_22 f1) f10 f11 kz_0_8 kz_0_11)⟩
  have nf4 : fc_1 PRD (20, [1, 0], [50, 1, 1, 1005, 1002, 0, 6, 4, 2, 1, 0, 0, 1, 3, 1, 2, 4, 3, 2, 1, 5, 0, 2]) ws (vs) := ⟨nf_in hl rfl, sgq_981 (vc_Mo_edgeItem_28_4 (v_iv (n_v vs 1)) (w_ei ws (w_ar ws (n_v vs 0) 2)) (w_fi ws (n_v vs 0) 5) k1 f4)⟩
  have nf5 : fc_1 PRD (20, [0], [60, 1, 3, 199, 5, 2, 3, 4]) ws (vs) := ⟨nf_in hl rfl, sgq_952 (vc_Mo_edgeItem_28_5 (w_ei ws (w_ar ws (n_v vs 0) 2)) (w_fi ws (n_v vs 0) 5) (w_ei ws (w_ar ws (n_v vs 0) 3)) (w_ei ws (w_ar ws (n_v vs 0) 4)) f5)⟩
  refine ⟨(fun _ h => (by cases h)), [], trivial, ?_, (fun _ h => (by cases h))⟩
  rw [List.append_nil]
  exact List.forall_mem_cons.mpr ⟨⟨show (20 : Nat) < 100 from by decide, nf0⟩, List.forall_mem_cons.mpr ⟨⟨show (20 : Nat) < 100 from by decide, nf1⟩, List.forall_mem_cons.mpr ⟨⟨show (20 : Nat) < 100 from by decide, nf2⟩, List.forall_mem_cons.mpr ⟨⟨show (20 : Nat) < 100 from by decide, nf3⟩, List.forall_mem_cons.mpr ⟨⟨show (20 : Nat) < 100 from by decide, nf4⟩, List.forall_mem_cons.mpr ⟨⟨show (20 : Nat) < 100 from by decide, nf5⟩, (fun _ h => (by cases h))⟩⟩⟩⟩⟩⟩
set_option maxHeartbeats 4000000 in
theorem vc_Mo_edgeItem_29_r0 (x7 : Int) (r_0 : Int) (k7 : 1 ≤ x7 ∧ x7 ≤ 2147483647) (f15 : 1 * x7 + 0 ≤ 9) : 1 ≤ x7 ∧ x7 ≤ 9 := by
  first
    | omega
    | (have q1 := (hE_0_2_1 (r_0 + 2) (by omega)).2 (by omega)
       have q2 := (hE_0_2_2 (r_0 + 2) (by omega)).2 (by omega)
       omega)
    | (have q1 := (hE_0_2_1 (r_0 + 1) (by omega)).2 (by omega)
       have q2 := (hE_0_2_2 (r_0 + 1) (by omega)).2 (by omega)
       omega)
    | (have q1 := (hE_0_2_1 (r_0 + 2) (by omega)).2 (by omega)
       omega)
    | (have q1 := (hE_0_2_1 (r_0 + 1) (by omega)).2 (by omega)
       omega)
    | (have q1 := (hE_0_2_1 (r_0 + 2) (by omega)).2 (by omega)
       have q2 := (hE_0_2_2 (r_0 + 2) (by omega)).2 (by omega)
       have q3 := (hE_0_2_3 (r_0 + 2) (by omega)).1 (by omega)
       omega)
    | (have q1 := (hE_0_2_1 (r_0 + 2) (by omega)).2 (by omega)
       have q2 := (hE_0_2_2 (r_0 + 2) (by omega)).2 (by omega)
       have q3 := (hE_0_2_3 (r_0 + 2) (by omega)).2 (by omega)
       omega)
def o_Mo_edgeItem_29 : or_T := (167, 16, [(0, (2, 0, 0, [165])), (1, (0, 0, 7, [])), (2, (0, 0, 2000, [])), (3, (2, 0, 0, [165])), (4, (0, 0, 7, [])), (7, (0, 1, 2147483647, [])), (8, (0, 0, 47, [])), (9, (0, 1, 48, [])), (10, (0, 0, 0, [])), (11, (2, 0, 0, [167])), (12, (0, 0, 66297, [])), (13, (0, 363, 363, [])), (14, (0, 363, 66660, [])), (15, (0, 363, 66707, []))], [(1, [15, 14, 8], []), (1, [14, 12, 13], []), (9, [12, 3], [5]), (9, [11, 3], [2]), (8, [10], [0]), (9, [10, 3], [8]), (8, [7], [4]), (7, [8, 9], [2]), (20, [9, 3], [30, 0, 1, 0, 0, -1, 3, 2005001]), (20, [9, 3], [30, 0, -1, 0, 0, 1, 3, 2005001]), (20, [4, 3], [50, 1, 1, 1005, 1002, 0, 6, 4, 2, 1, 0, 0, 1, 3, 1, 2, 4, 3, 2, 1, 5, 0, 2]), (20, [3, 3], [30, 0, 1, 1, 15, -1, 1, 11]), (20, [3], [50, 3, 0, 12, 11, 15, 2, 21, 4, 7, 1, 3, 2, 0, 12, 0, 1, 0, 3, 2, 0, 11, 4, 3, 2, 0, 15, 0, 8, 3, 7, 1, 3, 2, 0, 12, 0, 0, 0, 7, 4, 3, 2, 0, 15, 0, 1, 2, 0, 11]), (20, [2, 3], [30, 0, 1, 0, 0, -1, 1, 11]), (20, [3, 2], [50, 3, 0, 8, 12, 11, 3, 7, 0, 2, 0, 1, 2, 0, 8, 3, 7, 1, 3, 2, 0, 12, 0, 0, 0, 6, 4, 2, 1, 1, 0, 1, 2, 0, 11]), (23, [7], [9, 1]), (20, [3], [60, 1, 3, 199, 5, 2, 3, 4]), (24, [0, 3], []), (24, [1, 4], [])], [(7, (0, 1, 9, []))], [], [], [], [(15, 8, 363, 66660), (15, 9, -4294967296, 66659), (15, 14, 0, 47), (15, 12, 363, 410), (14, 12, 363, 363), (8, 9, -4294967296, -1), (1, 4, -4294967296, 0), (4, 1, -4294967296, 0)])
theorem oo_Mo_edgeItem_29 {kA : Nat → ClassId} : or_ok PRD kA GG o_Mo_edgeItem_29 := by
  refine or_mk fun A ta ws vs hD hth hl => ?_
  intro t0 r0 t1 k1 t2 k2 t3 r3 t4 k4 t7 k7 t8 k8 t9 k9 t10 k10 t11 r11 t12 k12 t13 k13 t14 k14 t15 k15 d0 d1 d2 d3 d4 d5 d6 d7 f0 f1 f2 f3 f4 f5 f6 f7 f8 f9 f10 f11 f12 f13 f14 f15 f16 f17 f18
  have hrf0 : 1 ≤ v_iv (n_v vs 7) ∧ v_iv (n_v vs 7) ≤ 9 := vc_Mo_edgeItem_29_r0 (v_iv (n_v vs 7)) (w_fi ws (n_v vs 0) 5) k7 (shm_1997 f15)
  have rf7 : tv_ok ta (0, 1, 9, []) (n_v vs 7) := tv_in t7 (by first | omega | grind) (by first | omega | grind)
  refine ⟨List.forall_mem_cons.mpr ⟨rf7, (fun _ h => (by cases h))⟩, [], trivial, ?_, (fun _ h => (by cases h))⟩
  rw [List.append_nil]
  exact (fun _ h => (by cases h))
set_option maxHeartbeats 4000000 in
theorem vc_Mo_edgeItem_30_0 (x1 : Int) (x4 : Int) (x7 : Int) (x8 : Int) (x12 : Int) (x14 : Int) (x15 : Int) (x16 : Int) (from_0 : Int) (pos_0 : Int) (kind_0 : Int) (fault_0 : Int) (r_1 : Int) (fault_1 : Int) (all_1 : Int → Int) (r_0 : Int) (from_1 : Int) (pos_1 : Int) (kind_1 : Int) (now_1 : Int → Int) (latest_1 : Int → Int) (all_0 : Int → Int) (now_0 : Int → Int) (latest_0 : Int → Int) (k1 : 0 ≤ x1 ∧ x1 ≤ 7) (k4 : 0 ≤ x4 ∧ x4 ≤ 7) (k7 : 1 ≤ x7 ∧ x7 ≤ 9) (k8 : 0 ≤ x8 ∧ x8 ≤ 47) (k12 : 0 ≤ x12 ∧ x12 ≤ 66297) (k14 : 363 ≤ x14 ∧ x14 ≤ 66660) (k15 : 363 ≤ x15 ∧ x15 ≤ 66707) (k16 : 1 ≤ x16 ∧ x16 ≤ 48) (d0 : x8 + 1 ≤ x16 ∧ x16 ≤ x8 + 1) (d6 : x12 + 363 ≤ x14 ∧ x14 ≤ x12 + 363) (d8 : x4 + (-4294967296) ≤ x1 ∧ x1 ≤ x4 + 0) (d9 : x1 + (-4294967296) ≤ x4 ∧ x4 ≤ x1 + 0) (f9 : x15 = x14 + x8) (g11 : x12 = r_1) (f19 : (x1 + 1) ≤ all_1 ((r_1 + 2))) (fe_0_5_1 : r_0 = r_1) (fe_0_8_1 : fault_0 = fault_1) (fe_0_11_1 : pos_0 = pos_1) (fe_0_12_1 : kind_0 = kind_1) (fe_0_15_1 : from_0 = from_1) (hE_0_2_1 : ∀ j : Int, 0 ≤ j → (j = x15 → all_0 j = x7) ∧ (j ≠ x15 → all_0 j = all_1 j)) (hE_0_3_1 : ∀ j : Int, now_0 j = now_1 j) (hE_0_4_1 : ∀ j : Int, latest_0 j = latest_1 j) (kz_0_8 : 0 ≤ fault_0 ∧ fault_0 ≤ 5) (kz_0_11 : 0 ≤ pos_0 ∧ pos_0 ≤ 2000) (kz_0_12 : 0 ≤ kind_0 ∧ kind_0 ≤ 4) (kz_0_15 : 0 ≤ from_0 ∧ from_0 ≤ 2000) : (x1 + 1) ≤ all_0 ((r_0 + 2)) := by
  subst fe_0_5_1
  subst fe_0_8_1
  subst fe_0_11_1
  subst fe_0_12_1
  subst fe_0_15_1
  have e_hE_0_3_1 := funext hE_0_3_1; subst e_hE_0_3_1
  have e_hE_0_4_1 := funext hE_0_4_1; subst e_hE_0_4_1
  first
    | omega
    | (have q1 := (hE_0_2_1 (r_0 + 2) (by omega)).2 (by omega)
       have q2 := (hE_0_2_2 (r_0 + 2) (by omega)).2 (by omega)
       omega)
    | (have q1 := (hE_0_2_1 (r_0 + 1) (by omega)).2 (by omega)
       have q2 := (hE_0_2_2 (r_0 + 1) (by omega)).2 (by omega)
       omega)
    | (have q1 := (hE_0_2_1 (r_0 + 2) (by omega)).2 (by omega)
       omega)
    | (have q1 := (hE_0_2_1 (r_0 + 1) (by omega)).2 (by omega)
       omega)
    | (have q1 := (hE_0_2_1 (r_0 + 2) (by omega)).2 (by omega)
       have q2 := (hE_0_2_2 (r_0 + 2) (by omega)).2 (by omega)
       have q3 := (hE_0_2_3 (r_0 + 2) (by omega)).1 (by omega)
       omega)
    | (have q1 := (hE_0_2_1 (r_0 + 2) (by omega)).2 (by omega)
       have q2 := (hE_0_2_2 (r_0 + 2) (by omega)).2 (by omega)
       have q3 := (hE_0_2_3 (r_0 + 2) (by omega)).2 (by omega)
       omega)
set_option maxHeartbeats 4000000 in
theorem vc_Mo_edgeItem_30_1 (x7 : Int) (x8 : Int) (x12 : Int) (x14 : Int) (x15 : Int) (x16 : Int) (from_0 : Int) (pos_0 : Int) (kind_0 : Int) (fault_0 : Int) (r_1 : Int) (fault_1 : Int) (all_1 : Int → Int) (r_0 : Int) (from_1 : Int) (pos_1 : Int) (kind_1 : Int) (now_1 : Int → Int) (latest_1 : Int → Int) (all_0 : Int → Int) (now_0 : Int → Int) (latest_0 : Int → Int) (k7 : 1 ≤ x7 ∧ x7 ≤ 9) (k8 : 0 ≤ x8 ∧ x8 ≤ 47) (k12 : 0 ≤ x12 ∧ x12 ≤ 66297) (k14 : 363 ≤ x14 ∧ x14 ≤ 66660) (k15 : 363 ≤ x15 ∧ x15 ≤ 66707) (k16 : 1 ≤ x16 ∧ x16 ≤ 48) (d0 : x8 + 1 ≤ x16 ∧ x16 ≤ x8 + 1) (d6 : x12 + 363 ≤ x14 ∧ x14 ≤ x12 + 363) (f9 : x15 = x14 + x8) (g11 : x12 = r_1) (f25 : RWS (r_1) (all_1) (now_1) (latest_1)) (fe_0_5_1 : r_0 = r_1) (fe_0_8_1 : fault_0 = fault_1) (fe_0_11_1 : pos_0 = pos_1) (fe_0_12_1 : kind_0 = kind_1) (fe_0_15_1 : from_0 = from_1) (hE_0_2_1 : ∀ j : Int, 0 ≤ j → (j = x15 → all_0 j = x7) ∧ (j ≠ x15 → all_0 j = all_1 j)) (hE_0_3_1 : ∀ j : Int, now_0 j = now_1 j) (hE_0_4_1 : ∀ j : Int, latest_0 j = latest_1 j) (kz_0_8 : 0 ≤ fault_0 ∧ fault_0 ≤ 5) (kz_0_11 : 0 ≤ pos_0 ∧ pos_0 ≤ 2000) (kz_0_12 : 0 ≤ kind_0 ∧ kind_0 ≤ 4) (kz_0_15 : 0 ≤ from_0 ∧ from_0 ≤ 2000) : RWS (r_0) (all_0) (now_0) (latest_0) := by
  subst fe_0_5_1
  subst fe_0_8_1
  subst fe_0_11_1
  subst fe_0_12_1
  subst fe_0_15_1
  have e_hE_0_3_1 := funext hE_0_3_1; subst e_hE_0_3_1
  have e_hE_0_4_1 := funext hE_0_4_1; subst e_hE_0_4_1
  first
    | assumption
    | (have hr := rws_r ‹RWS _ _ _ _›
       have hc := (rws_sg ‹RWS _ _ _ _›).1
       exact rws_off ‹RWS _ _ _ _› (by assumption) (by omega))
def o_Mo_edgeItem_30 : or_T := (129, 17, [(0, (2, 0, 0, [165])), (1, (0, 0, 7, [])), (2, (0, 0, 2000, [])), (3, (2, 0, 0, [165])), (4, (0, 0, 7, [])), (7, (0, 1, 9, [])), (8, (0, 0, 47, [])), (9, (0, 1, 48, [])), (10, (0, 0, 0, [])), (11, (2, 0, 0, [167])), (12, (0, 0, 66297, [])), (13, (0, 363, 363, [])), (14, (0, 363, 66660, [])), (15, (0, 363, 66707, [])), (16, (0, 1, 48, []))], [(6, [16, 8], [1]), (20, [3, 3], [30, 0, 1, 1, 15, -1, 1, 11]), (20, [3], [50, 3, 0, 12, 11, 15, 2, 21, 4, 7, 1, 3, 2, 0, 12, 0, 1, 0, 3, 2, 0, 11, 4, 3, 2, 0, 15, 0, 8, 3, 7, 1, 3, 2, 0, 12, 0, 0, 0, 7, 4, 3, 2, 0, 15, 0, 1, 2, 0, 11]), (20, [2, 3], [30, 0, 1, 0, 0, -1, 1, 11]), (20, [3, 2], [50, 3, 0, 8, 12, 11, 3, 7, 0, 2, 0, 1, 2, 0, 8, 3, 7, 1, 3, 2, 0, 12, 0, 0, 0, 6, 4, 2, 1, 1, 0, 1, 2, 0, 11]), (23, [7], [9, 1]), (24, [0, 3], []), (24, [1, 4], []), (100, [11, 15, 7], []), (1, [15, 14, 8], []), (1, [14, 12, 13], []), (9, [12, 3], [5]), (9, [11, 3], [2]), (8, [10], [0]), (9, [10, 3], [8]), (8, [7], [4]), (7, [8, 9], [2]), (20, [9, 3], [30, 0, 1, 0, 0, -1, 3, 2005001]), (20, [9, 3], [30, 0, -1, 0, 0, 1, 3, 2005001]), (20, [4, 3], [50, 1, 1, 1005, 1002, 0, 6, 4, 2, 1, 0, 0, 1, 3, 1, 2, 4, 3, 2, 1, 5, 0, 2]), (20, [3, 3], [30, 0, 1, 1, 15, -1, 1, 11]), (20, [3], [50, 3, 0, 12, 11, 15, 2, 21, 4, 7, 1, 3, 2, 0, 12, 0, 1, 0, 3, 2, 0, 11, 4, 3, 2, 0, 15, 0, 8, 3, 7, 1, 3, 2, 0, 12, 0, 0, 0, 7, 4, 3, 2, 0, 15, 0, 1, 2, 0, 11]), (20, [2, 3], [30, 0, 1, 0, 0, -1, 1, 11]), (20, [3, 2], [50, 3, 0, 8, 12, 11, 3, 7, 0, 2, 0, 1, 2, 0, 8, 3, 7, 1, 3, 2, 0, 12, 0, 0, 0, 6, 4, 2, 1, 1, 0, 1, 2, 0, 11]), (23, [7], [9, 1]), (20, [3], [60, 1, 3, 199, 5, 2, 3, 4])], [], [], [(20, [4, 3], [50, 1, 1, 1005, 1002, 0, 6, 4, 2, 1, 0, 0, 1, 3, 1, 2, 4, 3, 2, 1, 5, 0, 2]), (20, [3], [60, 1, 3, 199, 5, 2, 3, 4])], [], [(16, 8, 1, 1), (16, 9, -4294967296, 0), (15, 8, 363, 66660), (15, 9, -4294967296, 66659), (15, 14, 0, 47), (15, 12, 363, 410), (14, 12, 363, 363), (8, 9, -4294967296, -1), (1, 4, -4294967296, 0), (4, 1, -4294967296, 0)])
theorem oo_Mo_edgeItem_30 {kA : Nat → ClassId} : or_ok PRD kA GG o_Mo_edgeItem_30 := by
  refine or_mk fun A ta ws vs hD hth hl => ?_
  intro t0 r0 t1 k1 t2 k2 t3 r3 t4 k4 t7 k7 t8 k8 t9 k9 t10 k10 t11 r11 t12 k12 t13 k13 t14 k14 t15 k15 t16 k16 d0 d1 d2 d3 d4 d5 d6 d7 d8 d9 f0 f1 f2 f3 f4 f5 f6 f7 ta1 w1 le1 s1 f9 f10 f11 f12 f13 f14 f15 f16 f17 f18 f19 f20 f21 f22 f23 f24 f25
  replace f0 := shm_4 f0
  replace f1 := shm_1397 f1
  replace f2 := shm_1398 f2
  replace f3 := shm_1395 f3
  replace f4 := shm_1660 f4
  replace f5 := shm_1997 f5
  replace f6 := shm_5 f6
  replace f7 := shm_5 f7
  have s1 : (∀ b j, w_el ws b j = if b = v_ad (n_v vs 11) ∧ j = (v_iv (n_v vs 15)).toNat then v_iv (n_v vs 7) else w_el w1 b j) ∧ ∀ b k, w_fd ws b k = w_fd w1 b k := s1.2
  replace f9 := shm_12 f9
  replace f10 := shm_12 f10
  replace f11 := shm_109 f11
  replace f12 := shm_129 f12
  replace f13 := shm_210 f13
  replace f14 := shm_143 f14
  replace f15 := shm_145 f15
  replace f16 := shm_6 f16
  replace f17 := shm_130 f17
  replace f18 := shm_131 f18
  replace f19 := shm_981 f19
  replace f20 := shm_1397 f20
  replace f21 := shm_1398 f21
  replace f22 := shm_1395 f22
  replace f23 := shm_1660 f23
  replace f24 := shm_1997 f24
  replace f25 := shm_952 f25
  have q3 : n_v vs 3 = n_v vs 0 := f6.symm
  have q4 : n_v vs 4 = n_v vs 1 := f7.symm
  simp only [q3, q4] at f1 f2 f3 f4 f11 f12 f14 f17 f18 f19 f20 f21 f22 f23 f25
  have ar_0_2_1 : w_ar w1 (n_v vs 0) 2 = w_ar ws (n_v vs 0) 2 := congrArg v_ad (s1.2 _ _).symm
  have cr_0_2 := fdq_12 hD hth r0
  have ar_0_3_1 : w_ar w1 (n_v vs 0) 3 = w_ar ws (n_v vs 0) 3 := congrArg v_ad (s1.2 _ _).symm
  have cr_0_3 := fdq_141 hD hth r0
  have ar_0_4_1 : w_ar w1 (n_v vs 0) 4 = w_ar ws (n_v vs 0) 4 := congrArg v_ad (s1.2 _ _).symm
  have cr_0_4 := fdq_142 hD hth r0
  have fi_0_5_1 : w_fi w1 (n_v vs 0) 5 = w_fi ws (n_v vs 0) 5 := by show v_iv (w_fd w1 _ _) = v_iv (w_fd ws _ _); rw [s1.2]
  have ad_11 : v_ad (n_v vs 11) = w_ar ws (n_v vs 0) 2 := (congrArg v_ad f12).trans ar_0_2_1
  have g11 : v_iv (n_v vs 12) = w_fi w1 (n_v vs 0) 5 := congrArg v_iv f11
  have g14 : v_iv (n_v vs 10) = w_fi w1 (n_v vs 0) 8 := congrArg v_iv f14
  simp only [ar_0_2_1, ar_0_3_1, ar_0_4_1] at f17 f18 f19 f25
  simp only [fi_0_5_1] at f17 f18
  have fe_0_5_1 : w_fi ws (n_v vs 0) 5 = w_fi w1 (n_v vs 0) 5 := congrArg v_iv (s1.2 _ _)
  have fe_0_8_1 : w_fi ws (n_v vs 0) 8 = w_fi w1 (n_v vs 0) 8 := congrArg v_iv (s1.2 _ _)
  have fe_0_11_1 : w_fi ws (n_v vs 0) 11 = w_fi w1 (n_v vs 0) 11 := congrArg v_iv (s1.2 _ _)
  have fe_0_12_1 : w_fi ws (n_v vs 0) 12 = w_fi w1 (n_v vs 0) 12 := congrArg v_iv (s1.2 _ _)
  have fe_0_15_1 : w_fi ws (n_v vs 0) 15 = w_fi w1 (n_v vs 0) 15 := congrArg v_iv (s1.2 _ _)
  have hE_0_2_1 : ∀ j : Int, 0 ≤ j → (j = v_iv (n_v vs 15) → w_ei ws (w_ar ws (n_v vs 0) 2) j = v_iv (n_v vs 7)) ∧ (j ≠ v_iv (n_v vs 15) → w_ei ws (w_ar ws (n_v vs 0) 2) j = w_ei w1 (w_ar ws (n_v vs 0) 2) j) := fun j hj => ⟨fun h => by unfold w_ei; rw [s1.1, if_pos ⟨ad_11.symm, by rw [h]⟩], fun h => by unfold w_ei; rw [s1.1, if_neg (fun e => h (by have := e.2; omega))]⟩
  have hE_0_3_1 : ∀ j : Int, w_ei ws (w_ar ws (n_v vs 0) 3) j = w_ei w1 (w_ar ws (n_v vs 0) 3) j := el_kp s1.1 r11 cr_0_3 (by decide)
  have hK_0_3 := elq_77 hD hth cr_0_3
  have hE_0_4_1 : ∀ j : Int, w_ei ws (w_ar ws (n_v vs 0) 4) j = w_ei w1 (w_ar ws (n_v vs 0) 4) j := el_kp s1.1 r11 cr_0_4 (by decide)
  have hK_0_4 := elq_78 hD hth cr_0_4
  have kz_0_8 := fdq_14 hD hth r0
  have kz_0_11 := fdq_273 hD hth r0
  have kz_0_12 := fdq_186 hD hth r0
  have kz_0_15 := fdq_274 hD hth r0
  first | have hJ0 : w_ei w1 (w_ar ws (n_v vs 0) 2) ((w_fi w1 (n_v vs 0) 5 + 2)) = w_ei w1 (w_ar ws (n_v vs 0) 2) ((w_fi ws (n_v vs 0) 5 + 2)) := congrArg _ (show ((w_fi w1 (n_v vs 0) 5 + 2) : Int) = (w_fi ws (n_v vs 0) 5 + 2) from by omega) | skip
  first | have hI1 := (hE_0_2_1 ((w_fi ws (n_v vs 0) 5 + 2)) (by omega)).2 (by omega) | have hI1 := (hE_0_2_1 ((w_fi ws (n_v vs 0) 5 + 2)) (by omega)).1 (by omega) | skip
  have nf0 : fc_1 PRD (20, [4, 3], [50, 1, 1, 1005, 1002, 0, 6, 4, 2, 1, 0, 0, 1, 3, 1, 2, 4, 3, 2, 1, 5, 0, 2]) ws (vs) := by
    refine ⟨nf_in hl rfl, sgq_981 ?_⟩
    · show (v_iv (n_v vs 4) + 1) ≤ w_ei ws (w_ar ws (n_v vs 3) 2) ((w_fi ws (n_v vs 3) 5 + 2))
      simp only [q3, q4]
      exact vc_Mo_edgeItem_30_0 (v_iv (n_v vs 1)) (v_iv (n_v vs 4)) (v_iv (n_v vs 7)) (v_iv (n_v vs 8)) (v_iv (n_v vs 12)) (v_iv (n_v vs 14)) (v_iv (n_v vs 15)) (v_iv (n_v vs 16)) (w_fi ws (n_v vs 0) 15) (w_fi ws (n_v vs 0) 11) (w_fi ws (n_v vs 0) 12) (w_fi ws (n_v vs 0) 8) (w_fi w1 (n_v vs 0) 5) (w_fi w1 (n_v vs 0) 8) (w_ei w1 (w_ar ws (n_v vs 0) 2)) (w_fi ws (n_v vs 0) 5) (w_fi w1 (n_v vs 0) 15) (w_fi w1 (n_v vs 0) 11) (w_fi w1 (n_v vs 0) 12) (w_ei w1 (w_ar ws (n_v vs 0) 3)) (w_ei w1 (w_ar ws (n_v vs 0) 4)) (w_ei ws (w_ar ws (n_v vs 0) 2)) (w_ei ws (w_ar ws (n_v vs 0) 3)) (w_ei ws (w_ar ws (n_v vs 0) 4)) k1 k4 k7 k8 k12 k14 k15 k16 d0 d6 d8 d9 f9 g11 f19 fe_0_5_1 fe_0_8_1 fe_0_11_1 fe_0_12_1 fe_0_15_1 hE_0_2_1 hE_0_3_1 hE_0_4_1 kz_0_8 kz_0_11 kz_0_12 kz_0_15
  have nf1 : fc_1 PRD (20, [3], [60, 1, 3, 199, 5, 2, 3, 4]) ws (vs) := by
    refine ⟨nf_in hl rfl, sgq_952 ?_⟩
    · show RWS (w_fi ws (n_v vs 3) 5) (w_ei ws (w_ar ws (n_v vs 3) 2)) (w_ei ws (w_ar ws (n_v vs 3) 3)) (w_ei ws (w_ar ws (n_v vs 3) 4))
      rw [q3]
      exact vc_Mo_edgeItem_30_1 (v_iv (n_v vs 7)) (v_iv (n_v vs 8)) (v_iv (n_v vs 12)) (v_iv (n_v vs 14)) (v_iv (n_v vs 15)) (v_iv (n_v vs 16)) (w_fi ws (n_v vs 0) 15) (w_fi ws (n_v vs 0) 11) (w_fi ws (n_v vs 0) 12) (w_fi ws (n_v vs 0) 8) (w_fi w1 (n_v vs 0) 5) (w_fi w1 (n_v vs 0) 8) (w_ei w1 (w_ar ws (n_v vs 0) 2)) (w_fi ws (n_v vs 0) 5) (w_fi w1 (n_v vs 0) 15) (w_fi w1 (n_v vs 0) 11) (w_fi w1 (n_v vs 0) 12) (w_ei w1 (w_ar ws (n_v vs 0) 3)) (w_ei w1 (w_ar ws (n_v vs 0) 4)) (w_ei ws (w_ar ws (n_v vs 0) 2)) (w_ei ws (w_ar ws (n_v vs 0) 3)) (w_ei ws (w_ar ws (n_v vs 0) 4)) k7 k8 k12 k14 k15 k16 d0 d6 f9 g11 f25 fe_0_5_1 fe_0_8_1 fe_0_11_1 fe_0_12_1 fe_0_15_1 hE_0_2_1 hE_0_3_1 hE_0_4_1 kz_0_8 kz_0_11 kz_0_12 kz_0_15
  refine ⟨(fun _ h => (by cases h)), [], trivial, ?_, (fun _ h => (by cases h))⟩
  rw [List.append_nil]
  exact List.forall_mem_cons.mpr ⟨⟨show (20 : Nat) < 100 from by decide, nf0⟩, List.forall_mem_cons.mpr ⟨⟨show (20 : Nat) < 100 from by decide, nf1⟩, (fun _ h => (by cases h))⟩⟩
def n_Mo_edgeItem_an : List an_T := [(46, [(0, (2, 0, 0, [165])), (1, (0, 0, 7, [])), (2, (0, (Int.negSucc 0), 23, [])), (3, (0, 0, 48, []))], [], (0, 0), [(0, 0, 99954), (2, 7, 0), (0, 0, 100000)], [(1, 4, (Int.negSucc 999999999999), 0), (4, 1, (Int.negSucc 999999999999), 0)], [], [(2, 0, 0, [165]), (0, 0, 7, []), (0, 0, 2000, [])], 0, [(0, 0, 2000, [])], [(20, [4, 3], [50, 1, 1, 1005, 1002, 0, 6, 4, 2, 1, 0, 0, 1, 3, 1, 2, 4, 3, 2, 1, 5, 0, 2]), (20, [3, 3], [30, 0, 1, 1, 15, (Int.negSucc 0), 1, 11]), (20, [3], [50, 3, 0, 12, 11, 15, 2, 21, 4, 7, 1, 3, 2, 0, 12, 0, 1, 0, 3, 2, 0, 11, 4, 3, 2, 0, 15, 0, 8, 3, 7, 1, 3, 2, 0, 12, 0, 0, 0, 7, 4, 3, 2, 0, 15, 0, 1, 2, 0, 11]), (20, [2, 3], [30, 0, 1, 0, 0, (Int.negSucc 0), 1, 11]), (20, [3, 2], [50, 3, 0, 8, 12, 11, 3, 7, 0, 2, 0, 1, 2, 0, 8, 3, 7, 1, 3, 2, 0, 12, 0, 0, 0, 6, 4, 2, 1, 1, 0, 1, 2, 0, 11]), (20, [3, 5], [31, 1, (Int.negSucc 0), (Int.negSucc 0), 1, 8, 0, (Int.negSucc 0), 0, 0]), (20, [3], [60, 1, 3, 199, 5, 2, 3, 4]), (20, [3, 5], [60, 2, 1, 242, 5, 8, 2]), (24, [0, 3], []), (24, [1, 4], []), (20, [7, 3], [30, 2000, 1, 0, 0, 1, 1, 11]), (20, [7, 3], [30, (Int.negSucc 1999), (Int.negSucc 0), 0, 0, (Int.negSucc 0), 1, 11])]), (109, [(0, (2, 0, 0, [165])), (1, (0, 0, 7, [])), (2, (0, 0, 23, [])), (3, (0, 0, 48, [])), (4, (0, 0, 1, [])), (5, (0, 0, 23, []))], [], (0, 0), [(0, 0, 99954), (2, 10, 0), (0, 0, 99891)], [(1, 4, (Int.negSucc 999999999999), 0), (4, 1, (Int.negSucc 999999999999), 0)], [((0, 8), (0, 0, 0, []))], [(2, 0, 0, [165]), (0, 0, 7, []), (0, 0, 2000, [])], 0, [(0, 0, 2000, [])], [(20, [4, 3], [50, 1, 1, 1005, 1002, 0, 6, 4, 2, 1, 0, 0, 1, 3, 1, 2, 4, 3, 2, 1, 5, 0, 2]), (20, [3, 3], [30, 0, 1, 1, 15, (Int.negSucc 0), 1, 11]), (20, [3], [50, 3, 0, 12, 11, 15, 2, 21, 4, 7, 1, 3, 2, 0, 12, 0, 1, 0, 3, 2, 0, 11, 4, 3, 2, 0, 15, 0, 8, 3, 7, 1, 3, 2, 0, 12, 0, 0, 0, 7, 4, 3, 2, 0, 15, 0, 1, 2, 0, 11]), (20, [2, 3], [30, (Int.negSucc 0), 1, 0, 0, (Int.negSucc 0), 1, 11]), (20, [10, 3], [30, (Int.negSucc 2000), (Int.negSucc 0), 0, 0, (Int.negSucc 0), 1, 11]), (23, [8], [0, (Int.negSucc 0)]), (20, [3], [60, 1, 3, 199, 5, 2, 3, 4]), (20, [3, 8], [60, 1, 1, 208, 5, 2]), (24, [0, 3], []), (24, [1, 4], [])]), (129, [(0, (2, 0, 0, [165])), (1, (0, 0, 7, [])), (2, (0, (Int.negSucc 0), 23, [])), (3, (0, 0, 48, [])), (4, (0, (Int.negSucc 2147483647), 2147483647, [])), (5, (0, 0, 48, []))], [], (0, 0), [(0, 0, 99871), (1, 8, 48), (0, 0, 100000)], [(1, 4, (Int.negSucc 999999999999), 0), (4, 1, (Int.negSucc 999999999999), 0), (6, 8, (Int.negSucc 999999999999), 0)], [], [(2, 0, 0, [165]), (0, 0, 7, []), (0, 0, 2000, [])], 0, [], [(20, [4, 3], [50, 1, 1, 1005, 1002, 0, 6, 4, 2, 1, 0, 0, 1, 3, 1, 2, 4, 3, 2, 1, 5, 0, 2]), (20, [3, 3], [30, 0, 1, 1, 15, (Int.negSucc 0), 1, 11]), (20, [3], [50, 3, 0, 12, 11, 15, 2, 21, 4, 7, 1, 3, 2, 0, 12, 0, 1, 0, 3, 2, 0, 11, 4, 3, 2, 0, 15, 0, 8, 3, 7, 1, 3, 2, 0, 12, 0, 0, 0, 7, 4, 3, 2, 0, 15, 0, 1, 2, 0, 11]), (20, [2, 3], [30, 0, 1, 0, 0, (Int.negSucc 0), 1, 11]), (20, [3, 2], [50, 3, 0, 8, 12, 11, 3, 7, 0, 2, 0, 1, 2, 0, 8, 3, 7, 1, 3, 2, 0, 12, 0, 0, 0, 6, 4, 2, 1, 1, 0, 1, 2, 0, 11]), (23, [7], [9, 1]), (20, [3], [60, 1, 3, 199, 5, 2, 3, 4]), (24, [0, 3], []), (24, [1, 4], [])])]
def t_Mo_edgeItem_ct : ct_L := [(1, 401, e_Mo_edges), (1, 457, e_Mo_sign), (1, 460, e_Mo_next), (1, 463, e_Mo_wrong), (1, 491, e_Mo_need), (1, 494, e_Mo_met), (322, 515, e_Mo_newEdge_at_g0), (367, 499, e_Mo_of_at_s5003), (1000001, 519, en_ro [] (2, 0, 0, [5003]))]
set_option maxRecDepth 100000 in
theorem c_Mo_edgeItem {l : Launch} {D : va_G} {kA : Nat → ClassId} (h_Mo_edges : ct_ok PRD l D kA GG y_Mo_edges z_Mo_edges e_Mo_edges) (h_Mo_met : ct_ok PRD l D kA GG y_Mo_met z_Mo_met e_Mo_met) (h_Mo_need : ct_ok PRD l D kA GG y_Mo_need z_Mo_need e_Mo_need) (h_Mo_newEdge_at_g0 : ct_ok PRD l D kA GG y_Mo_newEdge_at_g0 z_Mo_newEdge_at_g0 e_Mo_newEdge_at_g0) (h_Mo_next : ct_ok PRD l D kA GG y_Mo_next z_Mo_next e_Mo_next) (h_Mo_of_at_s5003 : ct_ok PRD l D kA GG y_Mo_of_at_s5003 z_Mo_of_at_s5003 e_Mo_of_at_s5003) (h_Mo_sign : ct_ok PRD l D kA GG y_Mo_sign z_Mo_sign e_Mo_sign) (h_Mo_wrong : ct_ok PRD l D kA GG y_Mo_wrong z_Mo_wrong e_Mo_wrong) : ct_ok PRD l D kA GG y_Mo_edgeItem z_Mo_edgeItem e_Mo_edgeItem := chk_all_ok (FT := [(16, 13, 2), (391, 13, 5), (413, 13, 8), (428, 13, 13), (437, 13, 14)]) (PT := []) (CT := t_Mo_edgeItem_ct) (KT := []) (NT := []) (AN := n_Mo_edgeItem_an) (OT := [o_Mo_edgeItem_0, o_Mo_edgeItem_1, o_Mo_edgeItem_2, o_Mo_edgeItem_3, o_Mo_edgeItem_4, o_Mo_edgeItem_5, o_Mo_edgeItem_6, o_Mo_edgeItem_7, o_Mo_edgeItem_8, o_Mo_edgeItem_9, o_Mo_edgeItem_10, o_Mo_edgeItem_11, o_Mo_edgeItem_12, o_Mo_edgeItem_13, o_Mo_edgeItem_14, o_Mo_edgeItem_15, o_Mo_edgeItem_16, o_Mo_edgeItem_17, o_Mo_edgeItem_18, o_Mo_edgeItem_19, o_Mo_edgeItem_20, o_Mo_edgeItem_21, o_Mo_edgeItem_22, o_Mo_edgeItem_23, o_Mo_edgeItem_24, o_Mo_edgeItem_25, o_Mo_edgeItem_26, o_Mo_edgeItem_27, o_Mo_edgeItem_28, o_Mo_edgeItem_29, o_Mo_edgeItem_30]) 3 644 (List.forall_mem_cons.mpr ⟨oo_Mo_edgeItem_0, List.forall_mem_cons.mpr ⟨oo_Mo_edgeItem_1, List.forall_mem_cons.mpr ⟨oo_Mo_edgeItem_2, List.forall_mem_cons.mpr ⟨oo_Mo_edgeItem_3, List.forall_mem_cons.mpr ⟨oo_Mo_edgeItem_4, List.forall_mem_cons.mpr ⟨oo_Mo_edgeItem_5, List.forall_mem_cons.mpr ⟨oo_Mo_edgeItem_6, List.forall_mem_cons.mpr ⟨oo_Mo_edgeItem_7, List.forall_mem_cons.mpr ⟨oo_Mo_edgeItem_8, List.forall_mem_cons.mpr ⟨oo_Mo_edgeItem_9, List.forall_mem_cons.mpr ⟨oo_Mo_edgeItem_10, List.forall_mem_cons.mpr ⟨oo_Mo_edgeItem_11, List.forall_mem_cons.mpr ⟨oo_Mo_edgeItem_12, List.forall_mem_cons.mpr ⟨oo_Mo_edgeItem_13, List.forall_mem_cons.mpr ⟨oo_Mo_edgeItem_14, List.forall_mem_cons.mpr ⟨oo_Mo_edgeItem_15, List.forall_mem_cons.mpr ⟨oo_Mo_edgeItem_16, List.forall_mem_cons.mpr ⟨oo_Mo_edgeItem_17, List.forall_mem_cons.mpr ⟨oo_Mo_edgeItem_18, List.forall_mem_cons.mpr ⟨oo_Mo_edgeItem_19, List.forall_mem_cons.mpr ⟨oo_Mo_edgeItem_20, List.forall_mem_cons.mpr ⟨oo_Mo_edgeItem_21, List.forall_mem_cons.mpr ⟨oo_Mo_edgeItem_22, List.forall_mem_cons.mpr ⟨oo_Mo_edgeItem_23, List.forall_mem_cons.mpr ⟨oo_Mo_edgeItem_24, List.forall_mem_cons.mpr ⟨oo_Mo_edgeItem_25, List.forall_mem_cons.mpr ⟨oo_Mo_edgeItem_26, List.forall_mem_cons.mpr ⟨oo_Mo_edgeItem_27, List.forall_mem_cons.mpr ⟨oo_Mo_edgeItem_28, List.forall_mem_cons.mpr ⟨oo_Mo_edgeItem_29, List.forall_mem_cons.mpr ⟨oo_Mo_edgeItem_30, List.forall_mem_nil _⟩⟩⟩⟩⟩⟩⟩⟩⟩⟩⟩⟩⟩⟩⟩⟩⟩⟩⟩⟩⟩⟩⟩⟩⟩⟩⟩⟩⟩⟩⟩) (by decide +kernel) ⟨List.forall_mem_cons.mpr ⟨gf_Mo_16, List.forall_mem_cons.mpr ⟨gf_Mo_391, List.forall_mem_cons.mpr ⟨gf_Mo_413, List.forall_mem_cons.mpr ⟨gf_Mo_428, List.forall_mem_cons.mpr ⟨gf_Mo_437, List.forall_mem_nil _⟩⟩⟩⟩⟩, List.forall_mem_nil _, List.forall_mem_cons.mpr ⟨cl_virtual (y := y_Mo_edges) (ci := 13) rfl rfl ⟨_, _, rfl⟩ (by decide +kernel) h_Mo_edges wm_3037 wm_9 wm_3034 wm_3036 wv_13_6 ⟨by decide, by decide, by decide +kernel⟩ (by decide), List.forall_mem_cons.mpr ⟨cl_virtual (y := y_Mo_sign) (ci := 13) rfl rfl ⟨_, _, rfl⟩ (by decide +kernel) h_Mo_sign wm_3058 wm_9 wm_3055 wm_3057 wv_13_11 ⟨by decide, by decide, by decide +kernel⟩ (by decide), List.forall_mem_cons.mpr ⟨cl_virtual (y := y_Mo_next) (ci := 13) rfl rfl ⟨_, _, rfl⟩ (by decide +kernel) h_Mo_next wm_2982 wm_9 wm_2979 wm_2981 wv_12_11 ⟨by decide, by decide, by decide +kernel⟩ (by decide), List.forall_mem_cons.mpr ⟨cl_virtual (y := y_Mo_wrong) (ci := 13) rfl rfl ⟨_, _, rfl⟩ (by decide +kernel) h_Mo_wrong wm_3017 wm_9 wm_3014 wm_3016 wv_13_1 ⟨by decide, by decide, by decide +kernel⟩ (by decide), List.forall_mem_cons.mpr ⟨cl_virtual (y := y_Mo_need) (ci := 13) rfl rfl ⟨_, _, rfl⟩ (by decide +kernel) h_Mo_need wm_3062 wm_9 wm_3059 wm_3061 wv_13_12 ⟨by decide, by decide, by decide +kernel⟩ (by decide), List.forall_mem_cons.mpr ⟨cl_virtual (y := y_Mo_met) (ci := 13) rfl rfl ⟨_, _, rfl⟩ (by decide +kernel) h_Mo_met wm_3008 wm_9 wm_3005 wm_3007 wv_12_15 ⟨by decide, by decide, by decide +kernel⟩ (by decide), List.forall_mem_cons.mpr ⟨cl_virtual (y := y_Mo_newEdge_at_g0) (ci := 13) rfl rfl ⟨_, _, rfl⟩ (by decide +kernel) h_Mo_newEdge_at_g0 wm_3078 wm_9 wm_3075 wm_3077 wv_14_0 ⟨by decide, by decide, by decide +kernel⟩ (by decide), List.forall_mem_cons.mpr ⟨cl_virtual (y := y_Mo_of_at_s5003) (ci := 13) rfl rfl ⟨_, _, rfl⟩ (by decide +kernel) h_Mo_of_at_s5003 wm_3054 wm_9 wm_3051 wm_3053 wv_13_10 ⟨by decide, by decide, by decide +kernel⟩ (by decide), List.forall_mem_cons.mpr ⟨cl_ldcw (own := "DrawingHouseModel") (idx := 519) (i := 3) (tx := "weight") (by decide +kernel) (by decide +kernel) (by decide +kernel), List.forall_mem_nil _⟩⟩⟩⟩⟩⟩⟩⟩⟩, List.forall_mem_nil _, List.forall_mem_nil _, GG_pl⟩ (by decide +kernel)
set_option maxHeartbeats 4000000 in
theorem vc_Sy_compileRule_0_r0 (x2 : Int) (x3 : Int) (rules_0 : Int) (k2 : 0 ≤ x2 ∧ x2 ≤ 112) (k3 : 0 ≤ x3 ∧ x3 ≤ 111) (g0 : x2 = rules_0) (f1 : 1 * rules_0 + ((-1) * x3 + 0) ≤ 0) (kz_0_0 : 0 ≤ rules_0 ∧ rules_0 ≤ 112) : 0 ≤ x2 ∧ x2 ≤ 111 := by
  first
    | omega
  
def o_Sy_compileRule_0 : or_T := (42, 9, [(0, (2, 0, 0, [11])), (2, (0, 0, 112, [])), (3, (0, 0, 111, []))], [(9, [2, 0], [0]), (20, [0, 3], [30, 0, 1, 1, 0, -1, 0, 0]), (20, [0], [50, 2, 0, 6, 8, 3, 7, 7, 3, 2, 0, 6, 0, 3, 0, 3, 2, 0, 8, 0, 9999])], [(2, (0, 0, 111, []))], [], [], [], [])
theorem oo_Sy_compileRule_0 {kA : Nat → ClassId} : or_ok PRD kA GG o_Sy_compileRule_0 := by
  refine or_mk fun A ta ws vs hD hth hl => ?_
  intro t0 r0 t2 k2 t3 k3 f0 f1 f2
  replace f0 := shm_175 f0
  have g0 : v_iv (n_v vs 2) = w_fi ws (n_v vs 0) 0 := congrArg v_iv f0
  have kz_0_0 := fdq_321 hD hth r0
  have hrf0 : 0 ≤ v_iv (n_v vs 2) ∧ v_iv (n_v vs 2) ≤ 111 := vc_Sy_compileRule_0_r0 (v_iv (n_v vs 2)) (v_iv (n_v vs 3)) (w_fi ws (n_v vs 0) 0) k2 k3 g0 (shm_1999 f1) kz_0_0
  have rf2 : tv_ok ta (0, 0, 111, []) (n_v vs 2) := tv_in t2 (by first | omega | grind) (by first | omega | grind)
  refine ⟨List.forall_mem_cons.mpr ⟨rf2, (fun _ h => (by cases h))⟩, [], trivial, ?_, (fun _ h => (by cases h))⟩
  rw [List.append_nil]
  exact (fun _ h => (by cases h))
set_option maxHeartbeats 4000000 in
theorem vc_Sy_compileRule_1_0 (x2 : Int) (x3 : Int) (x12 : Int) (rules_0 : Int) (kind_0 : Int) (number_0 : Int) (rules_1 : Int) (kind_1 : Int) (number_1 : Int) (rules_2 : Int) (kind_2 : Int) (number_2 : Int) (rules_3 : Int) (kind_3 : Int) (number_3 : Int) (ruleStart_0 : Int → Int) (ruleStart_1 : Int → Int) (ruleStart_2 : Int → Int) (ruleStart_3 : Int → Int) (ruleKind_0 : Int → Int) (ruleKind_1 : Int → Int) (ruleKind_2 : Int → Int) (k2 : 0 ≤ x2 ∧ x2 ≤ 111) (k3 : 0 ≤ x3 ∧ x3 ≤ 111) (k12 : 1 ≤ x12 ∧ x12 ≤ 112) (d0 : x2 + 1 ≤ x12 ∧ x12 ≤ x2 + 1) (g0 : x12 = rules_0) (g6 : x2 = rules_1) (f7 : 1 * rules_1 + ((-1) * x3 + 0) ≤ 0) (fe_0_6_1 : kind_0 = kind_1) (fe_0_8_1 : number_0 = number_1) (fe_0_0_2 : rules_1 = rules_2) (fe_0_6_2 : kind_1 = kind_2) (fe_0_8_2 : number_1 = number_2) (fe_0_0_3 : rules_2 = rules_3) (fe_0_6_3 : kind_2 = kind_3) (fe_0_8_3 : number_2 = number_3) (hE_0_12_1 : ∀ j : Int, ruleStart_0 j = ruleStart_1 j) (hE_0_12_3 : ∀ j : Int, ruleStart_2 j = ruleStart_3 j) (hE_0_13_1 : ∀ j : Int, ruleKind_0 j = ruleKind_1 j) (hE_0_13_2 : ∀ j : Int, ruleKind_1 j = ruleKind_2 j) (kz_0_0 : 0 ≤ rules_0 ∧ rules_0 ≤ 112) (kz_0_6 : 0 ≤ kind_0 ∧ kind_0 ≤ 127) (kz_0_8 : 0 ≤ number_0 ∧ number_0 ≤ 1000000) : 1 * rules_0 + ((-1) * x3 + 0) ≤ 1 := by
  subst fe_0_6_1
  subst fe_0_8_1
  subst fe_0_0_2
  subst fe_0_6_2
  subst fe_0_8_2
  subst fe_0_0_3
  subst fe_0_6_3
  subst fe_0_8_3
  have e_hE_0_12_1 := funext hE_0_12_1; subst e_hE_0_12_1
  have e_hE_0_12_3 := funext hE_0_12_3; subst e_hE_0_12_3
  have e_hE_0_13_1 := funext hE_0_13_1; subst e_hE_0_13_1
  have e_hE_0_13_2 := funext hE_0_13_2; subst e_hE_0_13_2
  first
    | omega
  
def o_Sy_compileRule_1 : or_T := (66, 13, [(0, (2, 0, 0, [11])), (2, (0, 0, 111, [])), (3, (0, 0, 111, [])), (8, (2, 0, 0, [128])), (9, (2, 0, 0, [127])), (12, (0, 1, 112, []))], [(9, [12, 0], [0]), (101, [0, 12], [0]), (9, [2, 0], [0]), (20, [0, 3], [30, 0, 1, 1, 0, -1, 0, 0]), (100, [9, 2, 10], []), (100, [8, 2, 5], [])], [], [], [(20, [0, 3], [30, 1, 1, 1, 0, -1, 0, 0])], [], [(12, 2, 1, 1)])
theorem oo_Sy_compileRule_1 {kA : Nat → ClassId} : or_ok PRD kA GG o_Sy_compileRule_1 := by
  refine or_mk fun A ta ws vs hD hth hl => ?_
  intro t0 r0 t2 k2 t3 k3 t8 r8 t9 r9 t12 k12 d0 f0 ta1 w1 le1 s1 f6 f7 ta2 w2 le2 s2 ta3 w3 le3 s3
  replace f0 := shm_175 f0
  have s1 : (∀ b j, w_el ws b j = w_el w1 b j) ∧ ∀ b j, w_fd ws b j = if b = v_ad (n_v vs 0) ∧ j = 0 then n_v vs 12 else w_fd w1 b j := s1.2
  replace f6 := shm_175 f6
  have s2 : (∀ b j, w_el w1 b j = if b = v_ad (n_v vs 9) ∧ j = (v_iv (n_v vs 2)).toNat then v_iv (n_v vs 10) else w_el w2 b j) ∧ ∀ b k, w_fd w1 b k = w_fd w2 b k := s2.2
  have s3 : (∀ b j, w_el w2 b j = if b = v_ad (n_v vs 8) ∧ j = (v_iv (n_v vs 2)).toNat then v_iv (n_v vs 5) else w_el w3 b j) ∧ ∀ b k, w_fd w2 b k = w_fd w3 b k := s3.2
  have cr_0_12 := fdq_299 hD hth r0
  have cr_0_13 := fdq_322 hD hth r0
  have g0 : v_iv (n_v vs 12) = w_fi ws (n_v vs 0) 0 := congrArg v_iv f0
  have g6 : v_iv (n_v vs 2) = w_fi w1 (n_v vs 0) 0 := congrArg v_iv f6
  have fe_0_6_1 : w_fi ws (n_v vs 0) 6 = w_fi w1 (n_v vs 0) 6 := by show v_iv (w_fd _ _ _) = v_iv (w_fd _ _ _); rw [s1.2, if_neg (fun e => absurd e.2 (by decide))]
  have fe_0_8_1 : w_fi ws (n_v vs 0) 8 = w_fi w1 (n_v vs 0) 8 := by show v_iv (w_fd _ _ _) = v_iv (w_fd _ _ _); rw [s1.2, if_neg (fun e => absurd e.2 (by decide))]
  have fe_0_0_2 : w_fi w1 (n_v vs 0) 0 = w_fi w2 (n_v vs 0) 0 := congrArg v_iv (s2.2 _ _)
  have fe_0_6_2 : w_fi w1 (n_v vs 0) 6 = w_fi w2 (n_v vs 0) 6 := congrArg v_iv (s2.2 _ _)
  have fe_0_8_2 : w_fi w1 (n_v vs 0) 8 = w_fi w2 (n_v vs 0) 8 := congrArg v_iv (s2.2 _ _)
  have fe_0_0_3 : w_fi w2 (n_v vs 0) 0 = w_fi w3 (n_v vs 0) 0 := congrArg v_iv (s3.2 _ _)
  have fe_0_6_3 : w_fi w2 (n_v vs 0) 6 = w_fi w3 (n_v vs 0) 6 := congrArg v_iv (s3.2 _ _)
  have fe_0_8_3 : w_fi w2 (n_v vs 0) 8 = w_fi w3 (n_v vs 0) 8 := congrArg v_iv (s3.2 _ _)
  have hE_0_12_1 : ∀ j : Int, w_ei ws (w_ar ws (n_v vs 0) 12) j = w_ei w1 (w_ar ws (n_v vs 0) 12) j := fun j => s1.1 _ _
  have hE_0_12_3 : ∀ j : Int, w_ei w2 (w_ar ws (n_v vs 0) 12) j = w_ei w3 (w_ar ws (n_v vs 0) 12) j := el_kp s3.1 r8 cr_0_12 (by decide)
  have hE_0_13_1 : ∀ j : Int, w_ei ws (w_ar ws (n_v vs 0) 13) j = w_ei w1 (w_ar ws (n_v vs 0) 13) j := fun j => s1.1 _ _
  have hE_0_13_2 : ∀ j : Int, w_ei w1 (w_ar ws (n_v vs 0) 13) j = w_ei w2 (w_ar ws (n_v vs 0) 13) j := el_kp s2.1 r9 cr_0_13 (by decide)
  have kz_0_0 := fdq_321 hD hth r0
  have kz_0_6 := fdq_304 hD hth r0
  have kz_0_8 := fdq_305 hD hth r0
  have nf0 : fc_1 PRD (20, [0, 3], [30, 1, 1, 1, 0, -1, 0, 0]) ws (vs) := ⟨nf_in hl rfl, sgq_2000 (vc_Sy_compileRule_1_0 (v_iv (n_v vs 2)) (v_iv (n_v vs 3)) (v_iv (n_v vs 12)) (w_fi ws (n_v vs 0) 0) (w_fi ws (n_v vs 0) 6) (w_fi ws (n_v vs 0) 8) (w_fi w1 (n_v vs 0) 0) (w_fi w1 (n_v vs 0) 6) (w_fi w1 (n_v vs 0) 8) (w_fi w2 (n_v vs 0) 0) (w_fi w2 (n_v vs 0) 6) (w_fi w2 (n_v vs 0) 8) (w_fi w3 (n_v vs 0) 0) (w_fi w3 (n_v vs 0) 6) (w_fi w3 (n_v vs 0) 8) (w_ei ws (w_ar ws (n_v vs 0) 12)) (w_ei w1 (w_ar ws (n_v vs 0) 12)) (w_ei w2 (w_ar ws (n_v vs 0) 12)) (w_ei w3 (w_ar ws (n_v vs 0) 12)) (w_ei ws (w_ar ws (n_v vs 0) 13)) (w_ei w1 (w_ar ws (n_v vs 0) 13)) (w_ei w2 (w_ar ws (n_v vs 0) 13)) k2 k3 k12 d0 g0 g6 (shm_1999 f7) fe_0_6_1 fe_0_8_1 fe_0_0_2 fe_0_6_2 fe_0_8_2 fe_0_0_3 fe_0_6_3 fe_0_8_3 hE_0_12_1 hE_0_12_3 hE_0_13_1 hE_0_13_2 kz_0_0 kz_0_6 kz_0_8)⟩
  refine ⟨(fun _ h => (by cases h)), [], trivial, ?_, (fun _ h => (by cases h))⟩
  rw [List.append_nil]
  exact List.forall_mem_cons.mpr ⟨⟨show (20 : Nat) < 100 from by decide, nf0⟩, (fun _ h => (by cases h))⟩
set_option maxHeartbeats 4000000 in
theorem vc_Sy_compileRule_2_0 (x20 : Int) (x21 : Int) (k20 : 12 ≤ x20 ∧ x20 ≤ 12) (k21 : 0 ≤ x21 ∧ x21 ≤ 0) : (0 ≤ x20) ∧ ((0 ≤ x21) ∧ (((x20 * 65536) + x21) ≤ 851970)) := by
  first
    | omega
  
def o_Sy_compileRule_2 : or_T := (119, 22, [(20, (0, 12, 12, [])), (21, (0, 0, 0, []))], [], [], [], [(20, [20, 21], [50, 0, 0, 2, 6, 0, 2, 0, 0, 1, 0, 2, 6, 0, 2, 0, 0, 1, 1, 0, 10, 4, 6, 6, 2, 1, 0, 0, 65536, 1, 1, 0, 851970])], [], [])
theorem oo_Sy_compileRule_2 {kA : Nat → ClassId} : or_ok PRD kA GG o_Sy_compileRule_2 := by
  refine or_mk fun A ta ws vs hD hth hl => ?_
  intro t20 k20 t21 k21
  have nf0 : fc_1 PRD (20, [20, 21], [50, 0, 0, 2, 6, 0, 2, 0, 0, 1, 0, 2, 6, 0, 2, 0, 0, 1, 1, 0, 10, 4, 6, 6, 2, 1, 0, 0, 65536, 1, 1, 0, 851970]) ws (vs) := ⟨nf_in hl rfl, sgq_487 (vc_Sy_compileRule_2_0 (v_iv (n_v vs 20)) (v_iv (n_v vs 21)) k20 k21)⟩
  refine ⟨(fun _ h => (by cases h)), [], trivial, ?_, (fun _ h => (by cases h))⟩
  rw [List.append_nil]
  exact List.forall_mem_cons.mpr ⟨⟨show (20 : Nat) < 100 from by decide, nf0⟩, (fun _ h => (by cases h))⟩
def o_Sy_compileRule_3 : or_T := (124, 23, [], [], [], [], [(24, [0, 0], [])], [], [])
theorem oo_Sy_compileRule_3 {kA : Nat → ClassId} : or_ok PRD kA GG o_Sy_compileRule_3 := by
  refine or_mk fun A ta ws vs hD hth hl => ?_
  have nf0 : fc_1 PRD (24, [0, 0], []) ws (vs) := by
    refine ⟨nf_in hl rfl, sgq_1 ?_⟩
    · show n_v vs 0 = n_v vs 0
      first | rfl | simp only [true_and]
  refine ⟨(fun _ h => (by cases h)), [], trivial, ?_, (fun _ h => (by cases h))⟩
  rw [List.append_nil]
  exact List.forall_mem_cons.mpr ⟨⟨show (24 : Nat) < 100 from by decide, nf0⟩, (fun _ h => (by cases h))⟩
set_option maxHeartbeats 4000000 in
theorem vc_Sy_compileRule_4_0 (x3 : Int) (rules_0 : Int) (k3 : 0 ≤ x3 ∧ x3 ≤ 111) (f1 : 1 * rules_0 + ((-1) * x3 + 0) ≤ 0) (kz_0_0 : 0 ≤ rules_0 ∧ rules_0 ≤ 112) : 1 * rules_0 + ((-1) * x3 + 0) ≤ 1 := by
  first
    | omega
  
def o_Sy_compileRule_4 : or_T := (17, 9, [(0, (2, 0, 0, [11])), (3, (0, 0, 111, []))], [(20, [0, 3], [30, 0, 1, 1, 0, -1, 0, 0])], [], [], [(20, [0, 3], [30, 1, 1, 1, 0, -1, 0, 0])], [], [])
theorem oo_Sy_compileRule_4 {kA : Nat → ClassId} : or_ok PRD kA GG o_Sy_compileRule_4 := by
  refine or_mk fun A ta ws vs hD hth hl => ?_
  intro t0 r0 t3 k3 f1
  have kz_0_0 := fdq_321 hD hth r0
  have nf0 : fc_1 PRD (20, [0, 3], [30, 1, 1, 1, 0, -1, 0, 0]) ws (vs) := ⟨nf_in hl rfl, sgq_2000 (vc_Sy_compileRule_4_0 (v_iv (n_v vs 3)) (w_fi ws (n_v vs 0) 0) k3 (shm_1999 f1) kz_0_0)⟩
  refine ⟨(fun _ h => (by cases h)), [], trivial, ?_, (fun _ h => (by cases h))⟩
  rw [List.append_nil]
  exact List.forall_mem_cons.mpr ⟨⟨show (20 : Nat) < 100 from by decide, nf0⟩, (fun _ h => (by cases h))⟩
set_option maxHeartbeats 4000000 in
theorem vc_Sy_compileRule_5_0 (x3 : Int) (rules_0 : Int) (k3 : 0 ≤ x3 ∧ x3 ≤ 111) (f0 : 1 * rules_0 + ((-1) * x3 + 0) ≤ 1) (kz_0_0 : 0 ≤ rules_0 ∧ rules_0 ≤ 112) : 1 * rules_0 + ((-1) * x3 + 0) ≤ 1 := by
  first
    | omega
  
set_option maxHeartbeats 4000000 in
theorem vc_Sy_compileRule_5_1 (kind_0 : Int) (number_0 : Int) (f2 : (kind_0 ≠ 3) ∨ (number_0 ≤ 9999)) (kz_0_6 : 0 ≤ kind_0 ∧ kind_0 ≤ 127) (kz_0_8 : 0 ≤ number_0 ∧ number_0 ≤ 1000000) : (kind_0 ≠ 3) ∨ (number_0 ≤ 9999) := by
  first
    | omega
  
def o_Sy_compileRule_5 : or_T := (179, 12, [(0, (2, 0, 0, [11])), (3, (0, 0, 111, []))], [(20, [4, 3], [30, 1, 1, 1, 0, -1, 0, 0]), (24, [0, 4], []), (20, [4], [50, 2, 0, 6, 8, 3, 7, 7, 3, 2, 0, 6, 0, 3, 0, 3, 2, 0, 8, 0, 9999])], [], [], [(20, [0, 3], [30, 1, 1, 1, 0, -1, 0, 0]), (20, [0], [50, 2, 0, 6, 8, 3, 7, 7, 3, 2, 0, 6, 0, 3, 0, 3, 2, 0, 8, 0, 9999])], [], [])
theorem oo_Sy_compileRule_5 {kA : Nat → ClassId} : or_ok PRD kA GG o_Sy_compileRule_5 := by
  refine or_mk fun A ta ws vs hD hth hl => ?_
  intro t0 r0 t3 k3 f0 f1 f2
  replace f0 := shm_2000 f0
  replace f1 := shm_5 f1
  replace f2 := shm_1747 f2
  have q4 : n_v vs 4 = n_v vs 0 := f1.symm
  simp only [q4] at f0 f2
  have kz_0_0 := fdq_321 hD hth r0
  have kz_0_6 := fdq_304 hD hth r0
  have kz_0_8 := fdq_305 hD hth r0
  have nf0 : fc_1 PRD (20, [0, 3], [30, 1, 1, 1, 0, -1, 0, 0]) ws (vs) := ⟨nf_in hl rfl, sgq_2000 (vc_Sy_compileRule_5_0 (v_iv (n_v vs 3)) (w_fi ws (n_v vs 0) 0) k3 f0 kz_0_0)⟩
  have nf1 : fc_1 PRD (20, [0], [50, 2, 0, 6, 8, 3, 7, 7, 3, 2, 0, 6, 0, 3, 0, 3, 2, 0, 8, 0, 9999]) ws (vs) := ⟨nf_in hl rfl, sgq_1747 (vc_Sy_compileRule_5_1 (w_fi ws (n_v vs 0) 6) (w_fi ws (n_v vs 0) 8) f2 kz_0_6 kz_0_8)⟩
  refine ⟨(fun _ h => (by cases h)), [], trivial, ?_, (fun _ h => (by cases h))⟩
  rw [List.append_nil]
  exact List.forall_mem_cons.mpr ⟨⟨show (20 : Nat) < 100 from by decide, nf0⟩, List.forall_mem_cons.mpr ⟨⟨show (20 : Nat) < 100 from by decide, nf1⟩, (fun _ h => (by cases h))⟩⟩
set_option maxHeartbeats 4000000 in
theorem vc_Sy_compileRule_6_0 (x3 : Int) (rules_0 : Int) (k3 : 0 ≤ x3 ∧ x3 ≤ 111) (f1 : 1 * rules_0 + ((-1) * x3 + 0) ≤ 1) (kz_0_0 : 0 ≤ rules_0 ∧ rules_0 ≤ 112) : 1 * rules_0 + ((-1) * x3 + 0) ≤ 1 := by
  first
    | omega
  
set_option maxHeartbeats 4000000 in
theorem vc_Sy_compileRule_6_1 (kind_0 : Int) (number_0 : Int) (f2 : (kind_0 ≠ 3) ∨ (number_0 ≤ 9999)) (kz_0_6 : 0 ≤ kind_0 ∧ kind_0 ≤ 127) (kz_0_8 : 0 ≤ number_0 ∧ number_0 ≤ 1000000) : (kind_0 ≠ 3) ∨ (number_0 ≤ 9999) := by
  first
    | omega
  
def o_Sy_compileRule_6 : or_T := (173, 13, [(0, (2, 0, 0, [11])), (3, (0, 0, 111, []))], [(20, [4, 3], [30, 1, 1, 1, 0, -1, 0, 0]), (20, [4], [50, 2, 0, 6, 8, 3, 7, 7, 3, 2, 0, 6, 0, 3, 0, 3, 2, 0, 8, 0, 9999]), (24, [0, 4], [])], [], [], [(20, [0, 3], [30, 1, 1, 1, 0, -1, 0, 0]), (20, [0], [50, 2, 0, 6, 8, 3, 7, 7, 3, 2, 0, 6, 0, 3, 0, 3, 2, 0, 8, 0, 9999])], [], [])
theorem oo_Sy_compileRule_6 {kA : Nat → ClassId} : or_ok PRD kA GG o_Sy_compileRule_6 := by
  refine or_mk fun A ta ws vs hD hth hl => ?_
  intro t0 r0 t3 k3 f1 f2 f3
  replace f1 := shm_2000 f1
  replace f2 := shm_1747 f2
  replace f3 := shm_5 f3
  have q4 : n_v vs 4 = n_v vs 0 := f3.symm
  simp only [q4] at f1 f2
  have kz_0_0 := fdq_321 hD hth r0
  have kz_0_6 := fdq_304 hD hth r0
  have kz_0_8 := fdq_305 hD hth r0
  have nf0 : fc_1 PRD (20, [0, 3], [30, 1, 1, 1, 0, -1, 0, 0]) ws (vs) := ⟨nf_in hl rfl, sgq_2000 (vc_Sy_compileRule_6_0 (v_iv (n_v vs 3)) (w_fi ws (n_v vs 0) 0) k3 f1 kz_0_0)⟩
  have nf1 : fc_1 PRD (20, [0], [50, 2, 0, 6, 8, 3, 7, 7, 3, 2, 0, 6, 0, 3, 0, 3, 2, 0, 8, 0, 9999]) ws (vs) := ⟨nf_in hl rfl, sgq_1747 (vc_Sy_compileRule_6_1 (w_fi ws (n_v vs 0) 6) (w_fi ws (n_v vs 0) 8) f2 kz_0_6 kz_0_8)⟩
  refine ⟨(fun _ h => (by cases h)), [], trivial, ?_, (fun _ h => (by cases h))⟩
  rw [List.append_nil]
  exact List.forall_mem_cons.mpr ⟨⟨show (20 : Nat) < 100 from by decide, nf0⟩, List.forall_mem_cons.mpr ⟨⟨show (20 : Nat) < 100 from by decide, nf1⟩, (fun _ h => (by cases h))⟩⟩
set_option maxHeartbeats 4000000 in
theorem vc_Sy_compileRule_7_0 (x3 : Int) (rules_0 : Int) (k3 : 0 ≤ x3 ∧ x3 ≤ 111) (f0 : 1 * rules_0 + ((-1) * x3 + 0) ≤ 1) (kz_0_0 : 0 ≤ rules_0 ∧ rules_0 ≤ 112) : 1 * rules_0 + ((-1) * x3 + 0) ≤ 1 := by
  first
    | omega
  
set_option maxHeartbeats 4000000 in
theorem vc_Sy_compileRule_7_1 (kind_0 : Int) (number_0 : Int) (f2 : (kind_0 ≠ 3) ∨ (number_0 ≤ 9999)) (kz_0_6 : 0 ≤ kind_0 ∧ kind_0 ≤ 127) (kz_0_8 : 0 ≤ number_0 ∧ number_0 ≤ 1000000) : (kind_0 ≠ 3) ∨ (number_0 ≤ 9999) := by
  first
    | omega
  
def o_Sy_compileRule_7 : or_T := (152, 11, [(0, (2, 0, 0, [11])), (3, (0, 0, 111, []))], [(20, [4, 3], [30, 1, 1, 1, 0, -1, 0, 0]), (24, [0, 4], []), (20, [4], [50, 2, 0, 6, 8, 3, 7, 7, 3, 2, 0, 6, 0, 3, 0, 3, 2, 0, 8, 0, 9999])], [], [], [(20, [0, 3], [30, 1, 1, 1, 0, -1, 0, 0]), (20, [0], [50, 2, 0, 6, 8, 3, 7, 7, 3, 2, 0, 6, 0, 3, 0, 3, 2, 0, 8, 0, 9999])], [], [])
theorem oo_Sy_compileRule_7 {kA : Nat → ClassId} : or_ok PRD kA GG o_Sy_compileRule_7 := by
  refine or_mk fun A ta ws vs hD hth hl => ?_
  intro t0 r0 t3 k3 f0 f1 f2
  replace f0 := shm_2000 f0
  replace f1 := shm_5 f1
  replace f2 := shm_1747 f2
  have q4 : n_v vs 4 = n_v vs 0 := f1.symm
  simp only [q4] at f0 f2
  have kz_0_0 := fdq_321 hD hth r0
  have kz_0_6 := fdq_304 hD hth r0
  have kz_0_8 := fdq_305 hD hth r0
  have nf0 : fc_1 PRD (20, [0, 3], [30, 1, 1, 1, 0, -1, 0, 0]) ws (vs) := ⟨nf_in hl rfl, sgq_2000 (vc_Sy_compileRule_7_0 (v_iv (n_v vs 3)) (w_fi ws (n_v vs 0) 0) k3 f0 kz_0_0)⟩
  have nf1 : fc_1 PRD (20, [0], [50, 2, 0, 6, 8, 3, 7, 7, 3, 2, 0, 6, 0, 3, 0, 3, 2, 0, 8, 0, 9999]) ws (vs) := ⟨nf_in hl rfl, sgq_1747 (vc_Sy_compileRule_7_1 (w_fi ws (n_v vs 0) 6) (w_fi ws (n_v vs 0) 8) f2 kz_0_6 kz_0_8)⟩
  refine ⟨(fun _ h => (by cases h)), [], trivial, ?_, (fun _ h => (by cases h))⟩
  rw [List.append_nil]
  exact List.forall_mem_cons.mpr ⟨⟨show (20 : Nat) < 100 from by decide, nf0⟩, List.forall_mem_cons.mpr ⟨⟨show (20 : Nat) < 100 from by decide, nf1⟩, (fun _ h => (by cases h))⟩⟩
set_option maxHeartbeats 4000000 in
theorem vc_Sy_compileRule_8_0 (x3 : Int) (rules_0 : Int) (k3 : 0 ≤ x3 ∧ x3 ≤ 111) (f0 : 1 * rules_0 + ((-1) * x3 + 0) ≤ 1) (kz_0_0 : 0 ≤ rules_0 ∧ rules_0 ≤ 112) : 1 * rules_0 + ((-1) * x3 + 0) ≤ 1 := by
  first
    | omega
  
set_option maxHeartbeats 4000000 in
theorem vc_Sy_compileRule_8_1 (kind_0 : Int) (number_0 : Int) (f2 : (kind_0 ≠ 3) ∨ (number_0 ≤ 9999)) (kz_0_6 : 0 ≤ kind_0 ∧ kind_0 ≤ 127) (kz_0_8 : 0 ≤ number_0 ∧ number_0 ≤ 1000000) : (kind_0 ≠ 3) ∨ (number_0 ≤ 9999) := by
  first
    | omega
  
def o_Sy_compileRule_8 : or_T := (179, 13, [(0, (2, 0, 0, [11])), (3, (0, 0, 111, []))], [(20, [4, 3], [30, 1, 1, 1, 0, -1, 0, 0]), (24, [0, 4], []), (20, [4], [50, 2, 0, 6, 8, 3, 7, 7, 3, 2, 0, 6, 0, 3, 0, 3, 2, 0, 8, 0, 9999])], [], [], [(20, [0, 3], [30, 1, 1, 1, 0, -1, 0, 0]), (20, [0], [50, 2, 0, 6, 8, 3, 7, 7, 3, 2, 0, 6, 0, 3, 0, 3, 2, 0, 8, 0, 9999])], [], [])
theorem oo_Sy_compileRule_8 {kA : Nat → ClassId} : or_ok PRD kA GG o_Sy_compileRule_8 := by
  refine or_mk fun A ta ws vs hD hth hl => ?_
  intro t0 r0 t3 k3 f0 f1 f2
  replace f0 := shm_2000 f0
  replace f1 := shm_5 f1
  replace f2 := shm_1747 f2
  have q4 : n_v vs 4 = n_v vs 0 := f1.symm
  simp only [q4] at f0 f2
  have kz_0_0 := fdq_321 hD hth r0
  have kz_0_6 := fdq_304 hD hth r0
  have kz_0_8 := fdq_305 hD hth r0
  have nf0 : fc_1 PRD (20, [0, 3], [30, 1, 1, 1, 0, -1, 0, 0]) ws (vs) := ⟨nf_in hl rfl, sgq_2000 (vc_Sy_compileRule_8_0 (v_iv (n_v vs 3)) (w_fi ws (n_v vs 0) 0) k3 f0 kz_0_0)⟩
  have nf1 : fc_1 PRD (20, [0], [50, 2, 0, 6, 8, 3, 7, 7, 3, 2, 0, 6, 0, 3, 0, 3, 2, 0, 8, 0, 9999]) ws (vs) := ⟨nf_in hl rfl, sgq_1747 (vc_Sy_compileRule_8_1 (w_fi ws (n_v vs 0) 6) (w_fi ws (n_v vs 0) 8) f2 kz_0_6 kz_0_8)⟩
  refine ⟨(fun _ h => (by cases h)), [], trivial, ?_, (fun _ h => (by cases h))⟩
  rw [List.append_nil]
  exact List.forall_mem_cons.mpr ⟨⟨show (20 : Nat) < 100 from by decide, nf0⟩, List.forall_mem_cons.mpr ⟨⟨show (20 : Nat) < 100 from by decide, nf1⟩, (fun _ h => (by cases h))⟩⟩
set_option maxHeartbeats 4000000 in
theorem vc_Sy_compileRule_9_0 (x3 : Int) (rules_0 : Int) (k3 : 0 ≤ x3 ∧ x3 ≤ 111) (f1 : 1 * rules_0 + ((-1) * x3 + 0) ≤ 1) (kz_0_0 : 0 ≤ rules_0 ∧ rules_0 ≤ 112) : 1 * rules_0 + ((-1) * x3 + 0) ≤ 1 := by
  first
    | omega
  
set_option maxHeartbeats 4000000 in
theorem vc_Sy_compileRule_9_1 (kind_0 : Int) (number_0 : Int) (f2 : (kind_0 ≠ 3) ∨ (number_0 ≤ 9999)) (kz_0_6 : 0 ≤ kind_0 ∧ kind_0 ≤ 127) (kz_0_8 : 0 ≤ number_0 ∧ number_0 ≤ 1000000) : (kind_0 ≠ 3) ∨ (number_0 ≤ 9999) := by
  first
    | omega
  
def o_Sy_compileRule_9 : or_T := (173, 14, [(0, (2, 0, 0, [11])), (3, (0, 0, 111, []))], [(20, [4, 3], [30, 1, 1, 1, 0, -1, 0, 0]), (20, [4], [50, 2, 0, 6, 8, 3, 7, 7, 3, 2, 0, 6, 0, 3, 0, 3, 2, 0, 8, 0, 9999]), (24, [0, 4], [])], [], [], [(20, [0, 3], [30, 1, 1, 1, 0, -1, 0, 0]), (20, [0], [50, 2, 0, 6, 8, 3, 7, 7, 3, 2, 0, 6, 0, 3, 0, 3, 2, 0, 8, 0, 9999])], [], [])
theorem oo_Sy_compileRule_9 {kA : Nat → ClassId} : or_ok PRD kA GG o_Sy_compileRule_9 := by
  refine or_mk fun A ta ws vs hD hth hl => ?_
  intro t0 r0 t3 k3 f1 f2 f3
  replace f1 := shm_2000 f1
  replace f2 := shm_1747 f2
  replace f3 := shm_5 f3
  have q4 : n_v vs 4 = n_v vs 0 := f3.symm
  simp only [q4] at f1 f2
  have kz_0_0 := fdq_321 hD hth r0
  have kz_0_6 := fdq_304 hD hth r0
  have kz_0_8 := fdq_305 hD hth r0
  have nf0 : fc_1 PRD (20, [0, 3], [30, 1, 1, 1, 0, -1, 0, 0]) ws (vs) := ⟨nf_in hl rfl, sgq_2000 (vc_Sy_compileRule_9_0 (v_iv (n_v vs 3)) (w_fi ws (n_v vs 0) 0) k3 f1 kz_0_0)⟩
  have nf1 : fc_1 PRD (20, [0], [50, 2, 0, 6, 8, 3, 7, 7, 3, 2, 0, 6, 0, 3, 0, 3, 2, 0, 8, 0, 9999]) ws (vs) := ⟨nf_in hl rfl, sgq_1747 (vc_Sy_compileRule_9_1 (w_fi ws (n_v vs 0) 6) (w_fi ws (n_v vs 0) 8) f2 kz_0_6 kz_0_8)⟩
  refine ⟨(fun _ h => (by cases h)), [], trivial, ?_, (fun _ h => (by cases h))⟩
  rw [List.append_nil]
  exact List.forall_mem_cons.mpr ⟨⟨show (20 : Nat) < 100 from by decide, nf0⟩, List.forall_mem_cons.mpr ⟨⟨show (20 : Nat) < 100 from by decide, nf1⟩, (fun _ h => (by cases h))⟩⟩
set_option maxHeartbeats 4000000 in
theorem vc_Sy_compileRule_10_0 (x3 : Int) (rules_0 : Int) (k3 : 0 ≤ x3 ∧ x3 ≤ 111) (f0 : 1 * rules_0 + ((-1) * x3 + 0) ≤ 1) (kz_0_0 : 0 ≤ rules_0 ∧ rules_0 ≤ 112) : 1 * rules_0 + ((-1) * x3 + 0) ≤ 1 := by
  first
    | omega
  
set_option maxHeartbeats 4000000 in
theorem vc_Sy_compileRule_10_1 (kind_0 : Int) (number_0 : Int) (f2 : (kind_0 ≠ 3) ∨ (number_0 ≤ 9999)) (kz_0_6 : 0 ≤ kind_0 ∧ kind_0 ≤ 127) (kz_0_8 : 0 ≤ number_0 ∧ number_0 ≤ 1000000) : (kind_0 ≠ 3) ∨ (number_0 ≤ 9999) := by
  first
    | omega
  
def o_Sy_compileRule_10 : or_T := (152, 13, [(0, (2, 0, 0, [11])), (3, (0, 0, 111, []))], [(20, [4, 3], [30, 1, 1, 1, 0, -1, 0, 0]), (24, [0, 4], []), (20, [4], [50, 2, 0, 6, 8, 3, 7, 7, 3, 2, 0, 6, 0, 3, 0, 3, 2, 0, 8, 0, 9999])], [], [], [(20, [0, 3], [30, 1, 1, 1, 0, -1, 0, 0]), (20, [0], [50, 2, 0, 6, 8, 3, 7, 7, 3, 2, 0, 6, 0, 3, 0, 3, 2, 0, 8, 0, 9999])], [], [])
theorem oo_Sy_compileRule_10 {kA : Nat → ClassId} : or_ok PRD kA GG o_Sy_compileRule_10 := by
  refine or_mk fun A ta ws vs hD hth hl => ?_
  intro t0 r0 t3 k3 f0 f1 f2
  replace f0 := shm_2000 f0
  replace f1 := shm_5 f1
  replace f2 := shm_1747 f2
  have q4 : n_v vs 4 = n_v vs 0 := f1.symm
  simp only [q4] at f0 f2
  have kz_0_0 := fdq_321 hD hth r0
  have kz_0_6 := fdq_304 hD hth r0
  have kz_0_8 := fdq_305 hD hth r0
  have nf0 : fc_1 PRD (20, [0, 3], [30, 1, 1, 1, 0, -1, 0, 0]) ws (vs) := ⟨nf_in hl rfl, sgq_2000 (vc_Sy_compileRule_10_0 (v_iv (n_v vs 3)) (w_fi ws (n_v vs 0) 0) k3 f0 kz_0_0)⟩
  have nf1 : fc_1 PRD (20, [0], [50, 2, 0, 6, 8, 3, 7, 7, 3, 2, 0, 6, 0, 3, 0, 3, 2, 0, 8, 0, 9999]) ws (vs) := ⟨nf_in hl rfl, sgq_1747 (vc_Sy_compileRule_10_1 (w_fi ws (n_v vs 0) 6) (w_fi ws (n_v vs 0) 8) f2 kz_0_6 kz_0_8)⟩
  refine ⟨(fun _ h => (by cases h)), [], trivial, ?_, (fun _ h => (by cases h))⟩
  rw [List.append_nil]
  exact List.forall_mem_cons.mpr ⟨⟨show (20 : Nat) < 100 from by decide, nf0⟩, List.forall_mem_cons.mpr ⟨⟨show (20 : Nat) < 100 from by decide, nf1⟩, (fun _ h => (by cases h))⟩⟩
def n_Sy_compileRule_an : List an_T := [(124, [(0, (2, 0, 0, [11])), (1, (0, 0, 1, [])), (2, (0, 0, 2000, []))], [], (0, 0), [(0, 0, 99876), (1, 6, 2000), (0, 0, 100000)], [(2, 3, (Int.negSucc 999999999999), 111), (2, 5, (Int.negSucc 999999999999), 111), (2, 6, (Int.negSucc 999999999999), 111)], [((0, 3), (2, 0, 0, [109]))], [(2, 0, 0, [11]), (2, 0, 0, [109]), (0, 0, 112, []), (0, 0, 111, [])], 0, [], [(20, [4, 3], [30, 1, 1, 1, 0, (Int.negSucc 0), 0, 0]), (20, [4], [50, 2, 0, 6, 8, 3, 7, 7, 3, 2, 0, 6, 0, 3, 0, 3, 2, 0, 8, 0, 9999]), (24, [0, 4], [])])]
def t_Sy_compileRule_ct : ct_L := [(1, 69, e_Sy_advance), (1, 118, e_Sy_fail), (1, 128, e_Sy_emit), (1, 132, e_Sy_compileSetting), (13, 114, e_Sy_wordIn_at_s5006), (223, 114, e_Sy_wordIn_at_s5008), (280, 125, e_Sy_compileTest_at_k0), (1000000, 40, en_ro [] (2, 0, 0, [5004])), (1000000, 112, en_ro [] (2, 0, 0, [5006])), (1000000, 121, en_ro [] (2, 0, 0, [5007])), (1000000, 123, en_ro [] (2, 0, 0, [5008]))]
set_option maxRecDepth 100000 in
theorem c_Sy_compileRule {l : Launch} {D : va_G} {kA : Nat → ClassId} (h_Sy_advance : ct_ok PRD l D kA GG y_Sy_advance z_Sy_advance e_Sy_advance) (h_Sy_compileSetting : ct_ok PRD l D kA GG y_Sy_compileSetting z_Sy_compileSetting e_Sy_compileSetting) (h_Sy_compileTest_at_k0 : ct_ok PRD l D kA GG y_Sy_compileTest_at_k0 z_Sy_compileTest_at_k0 e_Sy_compileTest_at_k0) (h_Sy_emit : ct_ok PRD l D kA GG y_Sy_emit z_Sy_emit e_Sy_emit) (h_Sy_fail : ct_ok PRD l D kA GG y_Sy_fail z_Sy_fail e_Sy_fail) (h_Sy_wordIn_at_s5006 : ct_ok PRD l D kA GG y_Sy_wordIn_at_s5006 z_Sy_wordIn_at_s5006 e_Sy_wordIn_at_s5006) (h_Sy_wordIn_at_s5008 : ct_ok PRD l D kA GG y_Sy_wordIn_at_s5008 z_Sy_wordIn_at_s5008 e_Sy_wordIn_at_s5008) : ct_ok PRD l D kA GG y_Sy_compileRule z_Sy_compileRule e_Sy_compileRule := chk_all_ok (FT := [(9, 11, 0), (31, 11, 6), (50, 11, 11), (53, 11, 12), (56, 11, 13)]) (PT := [(9, 11, 0, .int), (42, 11, 9, .object "java/lang/String")]) (CT := t_Sy_compileRule_ct) (KT := []) (NT := []) (AN := n_Sy_compileRule_an) (OT := [o_Sy_compileRule_0, o_Sy_compileRule_1, o_Sy_compileRule_2, o_Sy_compileRule_3, o_Sy_compileRule_4, o_Sy_compileRule_5, o_Sy_compileRule_6, o_Sy_compileRule_7, o_Sy_compileRule_8, o_Sy_compileRule_9, o_Sy_compileRule_10]) 3 688 (List.forall_mem_cons.mpr ⟨oo_Sy_compileRule_0, List.forall_mem_cons.mpr ⟨oo_Sy_compileRule_1, List.forall_mem_cons.mpr ⟨oo_Sy_compileRule_2, List.forall_mem_cons.mpr ⟨oo_Sy_compileRule_3, List.forall_mem_cons.mpr ⟨oo_Sy_compileRule_4, List.forall_mem_cons.mpr ⟨oo_Sy_compileRule_5, List.forall_mem_cons.mpr ⟨oo_Sy_compileRule_6, List.forall_mem_cons.mpr ⟨oo_Sy_compileRule_7, List.forall_mem_cons.mpr ⟨oo_Sy_compileRule_8, List.forall_mem_cons.mpr ⟨oo_Sy_compileRule_9, List.forall_mem_cons.mpr ⟨oo_Sy_compileRule_10, List.forall_mem_nil _⟩⟩⟩⟩⟩⟩⟩⟩⟩⟩⟩) (by decide +kernel) ⟨List.forall_mem_cons.mpr ⟨gf_Sy_9, List.forall_mem_cons.mpr ⟨gf_Sy_31, List.forall_mem_cons.mpr ⟨gf_Sy_50, List.forall_mem_cons.mpr ⟨gf_Sy_53, List.forall_mem_cons.mpr ⟨gf_Sy_56, List.forall_mem_nil _⟩⟩⟩⟩⟩, List.forall_mem_cons.mpr ⟨pf_Sy_9, List.forall_mem_cons.mpr ⟨pf_Sy_42, List.forall_mem_nil _⟩⟩, List.forall_mem_cons.mpr ⟨cl_virtual (y := y_Sy_advance) (ci := 11) rfl rfl ⟨_, _, rfl⟩ (by decide +kernel) h_Sy_advance wm_2158 wm_23 wm_2155 wm_2157 wv_10_10 ⟨by decide, by decide, by decide +kernel⟩ (by decide), List.forall_mem_cons.mpr ⟨cl_virtual (y := y_Sy_fail) (ci := 11) rfl rfl ⟨_, _, rfl⟩ (by decide +kernel) h_Sy_fail wm_2239 wm_23 wm_2236 wm_2238 wv_10_14 ⟨by decide, by decide, by decide +kernel⟩ (by decide), List.forall_mem_cons.mpr ⟨cl_virtual (y := y_Sy_emit) (ci := 11) rfl rfl ⟨_, _, rfl⟩ (by decide +kernel) h_Sy_emit wm_2258 wm_23 wm_2255 wm_2257 wv_11_2 ⟨by decide, by decide, by decide +kernel⟩ (by decide), List.forall_mem_cons.mpr ⟨cl_virtual (y := y_Sy_compileSetting) (ci := 11) rfl rfl ⟨_, _, rfl⟩ (by decide +kernel) h_Sy_compileSetting wm_2280 wm_23 wm_2277 wm_2279 wv_11_7 ⟨by decide, by decide, by decide +kernel⟩ (by decide), List.forall_mem_cons.mpr ⟨cl_virtual (y := y_Sy_wordIn_at_s5006) (ci := 11) rfl rfl ⟨_, _, rfl⟩ (by decide +kernel) h_Sy_wordIn_at_s5006 wm_2229 wm_23 wm_2226 wm_2228 wv_10_12 ⟨by decide, by decide, by decide +kernel⟩ (by decide), List.forall_mem_cons.mpr ⟨cl_virtual (y := y_Sy_wordIn_at_s5008) (ci := 11) rfl rfl ⟨_, _, rfl⟩ (by decide +kernel) h_Sy_wordIn_at_s5008 wm_2229 wm_23 wm_2226 wm_2228 wv_10_12 ⟨by decide, by decide, by decide +kernel⟩ (by decide), List.forall_mem_cons.mpr ⟨cl_virtual (y := y_Sy_compileTest_at_k0) (ci := 11) rfl rfl ⟨_, _, rfl⟩ (by decide +kernel) h_Sy_compileTest_at_k0 wm_2245 wm_23 wm_2242 wm_2244 wv_10_15 ⟨by decide, by decide, by decide +kernel⟩ (by decide), List.forall_mem_cons.mpr ⟨cl_ldc (own := "DrawingHouse$Styler") (idx := 40) (i := 4) (tx := "deg in out size group far core cut x y ") (by decide +kernel) (by decide +kernel) (by decide +kernel), List.forall_mem_cons.mpr ⟨cl_ldc (own := "DrawingHouse$Styler") (idx := 112) (i := 6) (tx := "node edge ") (by decide +kernel) (by decide +kernel) (by decide +kernel), List.forall_mem_cons.mpr ⟨cl_ldc (own := "DrawingHouse$Styler") (idx := 121) (i := 7) (tx := "weight turned bridge from to block long one ") (by decide +kernel) (by decide +kernel) (by decide +kernel), List.forall_mem_cons.mpr ⟨cl_ldc (own := "DrawingHouse$Styler") (idx := 123) (i := 8) (tx := "if ") (by decide +kernel) (by decide +kernel) (by decide +kernel), List.forall_mem_nil _⟩⟩⟩⟩⟩⟩⟩⟩⟩⟩⟩, List.forall_mem_nil _, List.forall_mem_nil _, GG_pl⟩ (by decide +kernel)
set_option maxHeartbeats 4000000 in
theorem vc_Em_bar_0_0 (x5 : Int) (barredEdges_0o2 : Int) (k5 : 0 ≤ x5 ∧ x5 ≤ 0) (f1 : barredEdges_0o2 = 0) (kz_2_3 : 0 ≤ barredEdges_0o2 ∧ barredEdges_0o2 ≤ 48) : barredEdges_0o2 ≤ x5 := by
  first
    | omega
  
def o_Em_bar_0 : or_T := (77, 6, [(2, (2, 0, 0, [5])), (5, (0, 0, 0, []))], [(20, [2], [50, 1, 0, 3, 1, 3, 2, 0, 3, 0, 0])], [], [], [(20, [2, 5], [50, 1, 0, 3, 0, 3, 2, 0, 3, 1, 1])], [], [])
theorem oo_Em_bar_0 {kA : Nat → ClassId} : or_ok PRD kA GG o_Em_bar_0 := by
  refine or_mk fun A ta ws vs hD hth hl => ?_
  intro t2 r2 t5 k5 f1
  have kz_2_3 := fdq_83 hD hth r2
  have nf0 : fc_1 PRD (20, [2, 5], [50, 1, 0, 3, 0, 3, 2, 0, 3, 1, 1]) ws (vs) := ⟨nf_in hl rfl, sgq_2001 (vc_Em_bar_0_0 (v_iv (n_v vs 5)) (w_fi ws (n_v vs 2) 3) k5 (shm_417 f1) kz_2_3)⟩
  refine ⟨(fun _ h => (by cases h)), [], trivial, ?_, (fun _ h => (by cases h))⟩
  rw [List.append_nil]
  exact List.forall_mem_cons.mpr ⟨⟨show (20 : Nat) < 100 from by decide, nf0⟩, (fun _ h => (by cases h))⟩
set_option maxHeartbeats 4000000 in
theorem vc_Em_bar_1_0 (x3 : Int) (x7 : Int) (barredEdges_0o2 : Int) (k3 : 0 ≤ x3 ∧ x3 ≤ 47) (k7 : 1 ≤ x7 ∧ x7 ≤ 48) (d0 : x3 + 1 ≤ x7 ∧ x7 ≤ x3 + 1) (f3 : barredEdges_0o2 ≤ x3) (kz_2_3 : 0 ≤ barredEdges_0o2 ∧ barredEdges_0o2 ≤ 48) : barredEdges_0o2 ≤ x7 := by
  first
    | omega
  
def o_Em_bar_1 : or_T := (77, 8, [(2, (2, 0, 0, [5])), (3, (0, 0, 47, [])), (7, (0, 1, 48, []))], [(20, [2, 3], [50, 1, 0, 3, 0, 3, 2, 0, 3, 1, 1])], [], [], [(20, [2, 7], [50, 1, 0, 3, 0, 3, 2, 0, 3, 1, 1])], [], [(7, 3, 1, 1)])
theorem oo_Em_bar_1 {kA : Nat → ClassId} : or_ok PRD kA GG o_Em_bar_1 := by
  refine or_mk fun A ta ws vs hD hth hl => ?_
  intro t2 r2 t3 k3 t7 k7 d0 f3
  have kz_2_3 := fdq_83 hD hth r2
  have nf0 : fc_1 PRD (20, [2, 7], [50, 1, 0, 3, 0, 3, 2, 0, 3, 1, 1]) ws (vs) := ⟨nf_in hl rfl, sgq_2001 (vc_Em_bar_1_0 (v_iv (n_v vs 3)) (v_iv (n_v vs 7)) (w_fi ws (n_v vs 2) 3) k3 k7 d0 (shm_2001 f3) kz_2_3)⟩
  refine ⟨(fun _ h => (by cases h)), [], trivial, ?_, (fun _ h => (by cases h))⟩
  rw [List.append_nil]
  exact List.forall_mem_cons.mpr ⟨⟨show (20 : Nat) < 100 from by decide, nf0⟩, (fun _ h => (by cases h))⟩
set_option maxHeartbeats 4000000 in
theorem vc_Em_bar_2_r0 (x3 : Int) (x8 : Int) (barredEdges_0o2 : Int) (k3 : 0 ≤ x3 ∧ x3 ≤ 47) (k8 : 0 ≤ x8 ∧ x8 ≤ 48) (g0 : x8 = barredEdges_0o2) (f3 : barredEdges_0o2 ≤ x3) (kz_2_3 : 0 ≤ barredEdges_0o2 ∧ barredEdges_0o2 ≤ 48) : 0 ≤ x8 ∧ x8 ≤ 47 := by
  first
    | omega
  
def o_Em_bar_2 : or_T := (103, 9, [(1, (2, 0, 0, [3])), (2, (2, 0, 0, [5])), (3, (0, 0, 47, [])), (4, (0, 1, 48, [])), (8, (0, 0, 48, []))], [(9, [8, 2], [3]), (7, [3, 4], [2]), (9, [4, 1], [1]), (20, [2, 3], [50, 1, 0, 3, 0, 3, 2, 0, 3, 1, 1])], [(8, (0, 0, 47, []))], [], [], [], [(3, 4, -4294967296, -1)])
theorem oo_Em_bar_2 {kA : Nat → ClassId} : or_ok PRD kA GG o_Em_bar_2 := by
  refine or_mk fun A ta ws vs hD hth hl => ?_
  intro t1 r1 t2 r2 t3 k3 t4 k4 t8 k8 d0 f0 f1 f2 f3
  replace f0 := shm_149 f0
  have g0 : v_iv (n_v vs 8) = w_fi ws (n_v vs 2) 3 := congrArg v_iv f0
  have kz_2_3 := fdq_83 hD hth r2
  have hrf0 : 0 ≤ v_iv (n_v vs 8) ∧ v_iv (n_v vs 8) ≤ 47 := vc_Em_bar_2_r0 (v_iv (n_v vs 3)) (v_iv (n_v vs 8)) (w_fi ws (n_v vs 2) 3) k3 k8 g0 (shm_2001 f3) kz_2_3
  have rf8 : tv_ok ta (0, 0, 47, []) (n_v vs 8) := tv_in t8 (by first | omega | grind) (by first | omega | grind)
  refine ⟨List.forall_mem_cons.mpr ⟨rf8, (fun _ h => (by cases h))⟩, [], trivial, ?_, (fun _ h => (by cases h))⟩
  rw [List.append_nil]
  exact (fun _ h => (by cases h))
set_option maxHeartbeats 4000000 in
theorem vc_Em_bar_3_0 (x3 : Int) (x8 : Int) (x10 : Int) (x11 : Int) (barredEdges_1o2 : Int) (edges_2o1 : Int) (barredEdges_2o2 : Int) (edges_0o1 : Int) (edges_1o1 : Int) (barredEdges_0o2 : Int) (barred_0o2 : Int → Int) (barred_1o2 : Int → Int) (k3 : 0 ≤ x3 ∧ x3 ≤ 47) (k8 : 0 ≤ x8 ∧ x8 ≤ 47) (k10 : 1 ≤ x10 ∧ x10 ≤ 48) (k11 : 1 ≤ x11 ∧ x11 ≤ 48) (d0 : x3 + 1 ≤ x11 ∧ x11 ≤ x3 + 1) (d2 : x8 + 1 ≤ x10 ∧ x10 ≤ x8 + 1) (g3 : x8 = barredEdges_1o2) (f4 : barredEdges_1o2 ≤ x3) (fe_1_1_1 : edges_0o1 = edges_1o1) (fe_2_3_1 : barredEdges_0o2 = x10) (fe_1_1_2 : edges_1o1 = edges_2o1) (fe_2_3_2 : barredEdges_1o2 = barredEdges_2o2) (hE_2_4_1 : ∀ j : Int, barred_0o2 j = barred_1o2 j) (kz_1_1 : 0 ≤ edges_0o1 ∧ edges_0o1 ≤ 48) (kz_2_3 : 0 ≤ barredEdges_0o2 ∧ barredEdges_0o2 ≤ 48) : barredEdges_0o2 ≤ x11 := by
  subst fe_1_1_1
  subst fe_1_1_2
  subst fe_2_3_2
  have e_hE_2_4_1 := funext hE_2_4_1; subst e_hE_2_4_1
  first
    | omega
  
def o_Em_bar_3 : or_T := (77, 12, [(1, (2, 0, 0, [3])), (2, (2, 0, 0, [5])), (3, (0, 0, 47, [])), (8, (0, 0, 47, [])), (10, (0, 1, 48, [])), (11, (0, 1, 48, []))], [(101, [2, 10], [3]), (9, [8, 2], [3]), (20, [2, 3], [50, 1, 0, 3, 0, 3, 2, 0, 3, 1, 1]), (100, [7, 8, 3], [])], [], [], [(20, [2, 11], [50, 1, 0, 3, 0, 3, 2, 0, 3, 1, 1])], [], [(11, 3, 1, 1), (10, 8, 1, 1)])
theorem oo_Em_bar_3 {kA : Nat → ClassId} : or_ok PRD kA GG o_Em_bar_3 := by
  refine or_mk fun A ta ws vs hD hth hl => ?_
  intro t1 r1 t2 r2 t3 k3 t8 k8 t10 k10 t11 k11 d0 d2 ta1 w1 le1 s1 f3 f4 ta2 w2 le2 s2
  have s1 : (∀ b j, w_el ws b j = w_el w1 b j) ∧ ∀ b j, w_fd ws b j = if b = v_ad (n_v vs 2) ∧ j = 3 then n_v vs 10 else w_fd w1 b j := s1.2
  replace f3 := shm_149 f3
  have s2 : (∀ b j, w_el w1 b j = if b = v_ad (n_v vs 7) ∧ j = (v_iv (n_v vs 8)).toNat then v_iv (n_v vs 3) else w_el w2 b j) ∧ ∀ b k, w_fd w1 b k = w_fd w2 b k := s2.2
  have g3 : v_iv (n_v vs 8) = w_fi w1 (n_v vs 2) 3 := congrArg v_iv f3
  have fe_1_1_1 : w_fi ws (n_v vs 1) 1 = w_fi w1 (n_v vs 1) 1 := by show v_iv (w_fd _ _ _) = v_iv (w_fd _ _ _); rw [s1.2, if_neg (fun e => absurd e.2 (by decide))]
  have fe_2_3_1 : w_fi ws (n_v vs 2) 3 = v_iv (n_v vs 10) := by show v_iv (w_fd _ _ _) = _; rw [s1.2, if_pos ⟨rfl, rfl⟩]
  have fe_1_1_2 : w_fi w1 (n_v vs 1) 1 = w_fi w2 (n_v vs 1) 1 := congrArg v_iv (s2.2 _ _)
  have fe_2_3_2 : w_fi w1 (n_v vs 2) 3 = w_fi w2 (n_v vs 2) 3 := congrArg v_iv (s2.2 _ _)
  have hE_2_4_1 : ∀ j : Int, w_ei ws (w_ar ws (n_v vs 2) 4) j = w_ei w1 (w_ar ws (n_v vs 2) 4) j := fun j => s1.1 _ _
  have kz_1_1 := fdq_38 hD hth r1
  have kz_2_3 := fdq_83 hD hth r2
  have nf0 : fc_1 PRD (20, [2, 11], [50, 1, 0, 3, 0, 3, 2, 0, 3, 1, 1]) ws (vs) := ⟨nf_in hl rfl, sgq_2001 (vc_Em_bar_3_0 (v_iv (n_v vs 3)) (v_iv (n_v vs 8)) (v_iv (n_v vs 10)) (v_iv (n_v vs 11)) (w_fi w1 (n_v vs 2) 3) (w_fi w2 (n_v vs 1) 1) (w_fi w2 (n_v vs 2) 3) (w_fi ws (n_v vs 1) 1) (w_fi w1 (n_v vs 1) 1) (w_fi ws (n_v vs 2) 3) (w_ei ws (w_ar ws (n_v vs 2) 4)) (w_ei w1 (w_ar ws (n_v vs 2) 4)) k3 k8 k10 k11 d0 d2 g3 (shm_2001 f4) fe_1_1_1 fe_2_3_1 fe_1_1_2 fe_2_3_2 hE_2_4_1 kz_1_1 kz_2_3)⟩
  refine ⟨(fun _ h => (by cases h)), [], trivial, ?_, (fun _ h => (by cases h))⟩
  rw [List.append_nil]
  exact List.forall_mem_cons.mpr ⟨⟨show (20 : Nat) < 100 from by decide, nf0⟩, (fun _ h => (by cases h))⟩
def n_Em_bar_an : List an_T := [(2, [(0, (2, 0, 0, [1])), (1, (2, 0, 0, [3])), (2, (2, 0, 0, [5])), (3, (0, 0, 48, []))], [], (0, 0), [(0, 0, 99998), (1, 3, 48), (0, 0, 100000)], [], [], [], 0, [], [(20, [1], [60, 2, 2, 596, 0, 1, 7, 8]), (20, [2], [50, 1, 0, 3, 1, 3, 2, 0, 3, 0, 0])]), (30, [(0, (2, 0, 0, [1])), (1, (2, 0, 0, [3])), (2, (2, 0, 0, [5])), (3, (0, (Int.negSucc 0), 47, []))], [], (0, 0), [(0, 0, 99970), (2, 3, (Int.negSucc 0)), (0, 0, 100000)], [], [], [], 0, [], [(20, [1], [60, 2, 2, 596, 0, 1, 7, 8]), (20, [2], [50, 1, 0, 3, 1, 3, 2, 0, 3, 0, 0])]), (77, [(0, (2, 0, 0, [1])), (1, (2, 0, 0, [3])), (2, (2, 0, 0, [5])), (3, (0, 0, 48, []))], [], (0, 0), [(0, 0, 99923), (1, 3, 48), (0, 0, 100000)], [], [], [], 0, [], [(20, [2, 3], [50, 1, 0, 3, 0, 3, 2, 0, 3, 1, 1])]), (128, [(0, (2, 0, 0, [1])), (1, (2, 0, 0, [3])), (2, (2, 0, 0, [5])), (3, (0, 0, 25, []))], [], (0, 0), [(0, 0, 99872), (1, 3, 25), (0, 0, 100000)], [], [], [], 0, [], [])]
def t_Em_bar_ct : ct_L := [(1, 102, e_Em_loadKept), (157, 95, e_Em_embed_at_gp), (447, 117, e_jInt_bitCount_v772)]
set_option maxRecDepth 100000 in
theorem c_Em_bar {l : Launch} {D : va_G} {kA : Nat → ClassId} (h_Em_embed_at_gp : ct_ok PRD l D kA GG y_Em_embed_at_gp z_Em_embed_at_gp e_Em_embed_at_gp) (h_Em_loadKept : ct_ok PRD l D kA GG y_Em_loadKept z_Em_loadKept e_Em_loadKept) : ct_ok PRD l D kA GG y_Em_bar z_Em_bar e_Em_bar := chk_all_ok (FT := [(18, 1, 1), (29, 1, 4), (85, 5, 5), (99, 3, 1), (105, 5, 4), (108, 5, 3), (114, 5, 9)]) (PT := [(108, 5, 3, .int), (111, 5, 2, .int)]) (CT := t_Em_bar_ct) (KT := []) (NT := []) (AN := n_Em_bar_an) (OT := [o_Em_bar_0, o_Em_bar_1, o_Em_bar_2, o_Em_bar_3]) 3 392 (List.forall_mem_cons.mpr ⟨oo_Em_bar_0, List.forall_mem_cons.mpr ⟨oo_Em_bar_1, List.forall_mem_cons.mpr ⟨oo_Em_bar_2, List.forall_mem_cons.mpr ⟨oo_Em_bar_3, List.forall_mem_nil _⟩⟩⟩⟩) (by decide +kernel) ⟨List.forall_mem_cons.mpr ⟨gf_Em_18, List.forall_mem_cons.mpr ⟨gf_Em_29, List.forall_mem_cons.mpr ⟨gf_Em_85, List.forall_mem_cons.mpr ⟨gf_Em_99, List.forall_mem_cons.mpr ⟨gf_Em_105, List.forall_mem_cons.mpr ⟨gf_Em_108, List.forall_mem_cons.mpr ⟨gf_Em_114, List.forall_mem_nil _⟩⟩⟩⟩⟩⟩⟩, List.forall_mem_cons.mpr ⟨pf_Em_108, List.forall_mem_cons.mpr ⟨pf_Em_111, List.forall_mem_nil _⟩⟩, List.forall_mem_cons.mpr ⟨cl_virtual (y := y_Em_loadKept) (ci := 1) rfl rfl ⟨_, _, rfl⟩ (by decide +kernel) h_Em_loadKept wm_1159 wm_5 wm_1156 wm_1158 wv_4_6 ⟨by decide, by decide, by decide +kernel⟩ (by decide), List.forall_mem_cons.mpr ⟨cl_virtual (y := y_Em_embed_at_gp) (ci := 1) rfl rfl ⟨_, _, rfl⟩ (by decide +kernel) h_Em_embed_at_gp wm_1069 wm_5 wm_1162 wm_1067 wm_1068 ⟨by decide, by decide, by decide +kernel⟩ (by decide), List.forall_mem_cons.mpr ⟨cl_static (y := y_jInt_bitCount) c_jInt_bitCount_v772 wm_870 wm_17 wm_1163 wm_869 ⟨by decide, by decide, by decide +kernel⟩ (by decide), List.forall_mem_nil _⟩⟩⟩, List.forall_mem_nil _, List.forall_mem_nil _, GG_pl⟩ (by decide +kernel)
set_option maxHeartbeats 4000000 in
theorem vc_Em_outer_0_r0 (x6 : Int) (x8 : Int) (nodes_0o5 : Int) (nodes_0o1 : Int) (k6 : 0 ≤ x6 ∧ x6 ≤ 25) (k8 : 1 ≤ x8 ∧ x8 ≤ 26) (d0 : x6 + 1 ≤ x8 ∧ x8 ≤ x6 + 1) (g1 : x6 = nodes_0o5) (f4 : nodes_0o5 = nodes_0o1) (kz_1_0 : 0 ≤ nodes_0o1 ∧ nodes_0o1 ≤ 24) (kz_5_5 : 0 ≤ nodes_0o5 ∧ nodes_0o5 ≤ 25) : 1 ≤ x8 ∧ x8 ≤ 25 := by
  first
    | omega
  
def o_Em_outer_0 : or_T := (26, 9, [(1, (2, 0, 0, [3])), (5, (2, 0, 0, [149])), (6, (0, 0, 25, [])), (7, (0, 1, 1, [])), (8, (0, 1, 26, []))], [(1, [8, 6, 7], []), (9, [6, 5], [5]), (20, [1], [60, 2, 2, 596, 0, 1, 7, 8]), (20, [5], [60, 2, 3, 595, 5, 6, 7, 8, 9]), (20, [5, 1], [50, 2, 0, 5, 1000, 1, 3, 2, 0, 5, 2, 1, 0]), (20, [5, 1], [50, 2, 0, 6, 1001, 1, 3, 2, 0, 6, 2, 1, 1])], [(8, (0, 1, 25, []))], [], [], [], [(8, 6, 1, 1)])
theorem oo_Em_outer_0 {kA : Nat → ClassId} : or_ok PRD kA GG o_Em_outer_0 := by
  refine or_mk fun A ta ws vs hD hth hl => ?_
  intro t1 r1 t5 r5 t6 k6 t7 k7 t8 k8 d0 f0 f1 f2 f3 f4 f5
  replace f1 := shm_109 f1
  have g1 : v_iv (n_v vs 6) = w_fi ws (n_v vs 5) 5 := congrArg v_iv f1
  have kz_1_0 := fdq_23 hD hth r1
  have kz_5_5 := fdq_89 hD hth r5
  have hrf0 : 1 ≤ v_iv (n_v vs 8) ∧ v_iv (n_v vs 8) ≤ 25 := vc_Em_outer_0_r0 (v_iv (n_v vs 6)) (v_iv (n_v vs 8)) (w_fi ws (n_v vs 5) 5) (w_fi ws (n_v vs 1) 0) k6 k8 d0 g1 (shm_1146 f4) kz_1_0 kz_5_5
  have rf8 : tv_ok ta (0, 1, 25, []) (n_v vs 8) := tv_in t8 (by first | omega | grind) (by first | omega | grind)
  refine ⟨List.forall_mem_cons.mpr ⟨rf8, (fun _ h => (by cases h))⟩, [], trivial, ?_, (fun _ h => (by cases h))⟩
  rw [List.append_nil]
  exact (fun _ h => (by cases h))
set_option maxHeartbeats 4000000 in
theorem vc_Em_outer_1_0 (x6 : Int) (x8 : Int) (nodes_0o5 : Int) (tail_0o1 : Int → Int) (head_0o1 : Int → Int) (nodes_0o1 : Int) (edges_0o1 : Int) (edges_0o5 : Int) (nodes_1o5 : Int) (tail_1o1 : Int → Int) (head_1o1 : Int → Int) (nodes_1o1 : Int) (edges_1o1 : Int) (tail_1o5 : Int → Int) (head_1o5 : Int → Int) (near_1o5 : Int → Int) (edges_1o5 : Int) (tail_0o5 : Int → Int) (head_0o5 : Int → Int) (near_0o5 : Int → Int) (k6 : 0 ≤ x6 ∧ x6 ≤ 25) (k8 : 1 ≤ x8 ∧ x8 ≤ 25) (d0 : x6 + 1 ≤ x8 ∧ x8 ≤ x6 + 1) (g0 : x8 = nodes_0o5) (g5 : x6 = nodes_1o5) (f7 : NOK (nodes_1o5) (edges_1o5) (tail_1o5) (head_1o5) (near_1o5)) (f8 : nodes_1o5 = nodes_1o1) (fe_1_0_1 : nodes_0o1 = nodes_1o1) (fe_1_1_1 : edges_0o1 = edges_1o1) (fe_5_6_1 : edges_0o5 = edges_1o5) (hE_1_7_1 : ∀ j : Int, tail_0o1 j = tail_1o1 j) (hE_1_8_1 : ∀ j : Int, head_0o1 j = head_1o1 j) (hE_5_7_1 : ∀ j : Int, tail_0o5 j = tail_1o5 j) (hE_5_8_1 : ∀ j : Int, head_0o5 j = head_1o5 j) (hE_5_9_1 : ∀ j : Int, near_0o5 j = near_1o5 j) (kz_1_0 : 0 ≤ nodes_0o1 ∧ nodes_0o1 ≤ 24) (kz_1_1 : 0 ≤ edges_0o1 ∧ edges_0o1 ≤ 48) (kz_5_5 : 0 ≤ nodes_0o5 ∧ nodes_0o5 ≤ 25) (kz_5_6 : 0 ≤ edges_0o5 ∧ edges_0o5 ≤ 72) : NOK (nodes_0o5) (edges_0o5) (tail_0o5) (head_0o5) (near_0o5) := by
  subst fe_1_0_1
  subst fe_1_1_1
  subst fe_5_6_1
  have e_hE_1_7_1 := funext hE_1_7_1; subst e_hE_1_7_1
  have e_hE_1_8_1 := funext hE_1_8_1; subst e_hE_1_8_1
  have e_hE_5_7_1 := funext hE_5_7_1; subst e_hE_5_7_1
  have e_hE_5_8_1 := funext hE_5_8_1; subst e_hE_5_8_1
  have e_hE_5_9_1 := funext hE_5_9_1; subst e_hE_5_9_1
  first
    | assumption
    | exact nok_more ‹NOK _ _ _ _ _› (by omega) (by omega) (by omega)
  
set_option maxHeartbeats 4000000 in
theorem vc_Em_outer_1_1 (x6 : Int) (x8 : Int) (nodes_0o5 : Int) (tail_0o1 : Int → Int) (head_0o1 : Int → Int) (nodes_0o1 : Int) (edges_0o1 : Int) (edges_0o5 : Int) (nodes_1o5 : Int) (tail_1o1 : Int → Int) (head_1o1 : Int → Int) (nodes_1o1 : Int) (edges_1o1 : Int) (tail_1o5 : Int → Int) (head_1o5 : Int → Int) (near_1o5 : Int → Int) (edges_1o5 : Int) (tail_0o5 : Int → Int) (head_0o5 : Int → Int) (near_0o5 : Int → Int) (k6 : 0 ≤ x6 ∧ x6 ≤ 25) (k8 : 1 ≤ x8 ∧ x8 ≤ 25) (d0 : x6 + 1 ≤ x8 ∧ x8 ≤ x6 + 1) (g0 : x8 = nodes_0o5) (g5 : x6 = nodes_1o5) (f8 : nodes_1o5 = nodes_1o1) (fe_1_0_1 : nodes_0o1 = nodes_1o1) (fe_1_1_1 : edges_0o1 = edges_1o1) (fe_5_6_1 : edges_0o5 = edges_1o5) (hE_1_7_1 : ∀ j : Int, tail_0o1 j = tail_1o1 j) (hE_1_8_1 : ∀ j : Int, head_0o1 j = head_1o1 j) (hE_5_7_1 : ∀ j : Int, tail_0o5 j = tail_1o5 j) (hE_5_8_1 : ∀ j : Int, head_0o5 j = head_1o5 j) (hE_5_9_1 : ∀ j : Int, near_0o5 j = near_1o5 j) (kz_1_0 : 0 ≤ nodes_0o1 ∧ nodes_0o1 ≤ 24) (kz_1_1 : 0 ≤ edges_0o1 ∧ edges_0o1 ≤ 48) (kz_5_5 : 0 ≤ nodes_0o5 ∧ nodes_0o5 ≤ 25) (kz_5_6 : 0 ≤ edges_0o5 ∧ edges_0o5 ≤ 72) : nodes_0o5 = (nodes_0o1 + 1) := by
  subst fe_1_0_1
  subst fe_1_1_1
  subst fe_5_6_1
  have e_hE_1_7_1 := funext hE_1_7_1; subst e_hE_1_7_1
  have e_hE_1_8_1 := funext hE_1_8_1; subst e_hE_1_8_1
  have e_hE_5_7_1 := funext hE_5_7_1; subst e_hE_5_7_1
  have e_hE_5_8_1 := funext hE_5_8_1; subst e_hE_5_8_1
  have e_hE_5_9_1 := funext hE_5_9_1; subst e_hE_5_9_1
  first
    | omega
  
def o_Em_outer_1 : or_T := (31, 10, [(1, (2, 0, 0, [3])), (5, (2, 0, 0, [149])), (6, (0, 0, 25, [])), (8, (0, 1, 25, []))], [(9, [8, 5], [5]), (101, [5, 8], [5]), (9, [6, 5], [5]), (20, [5], [60, 2, 3, 595, 5, 6, 7, 8, 9]), (20, [5, 1], [50, 2, 0, 5, 1000, 1, 3, 2, 0, 5, 2, 1, 0])], [], [], [(20, [5], [60, 2, 3, 595, 5, 6, 7, 8, 9]), (20, [5, 1], [50, 2, 0, 5, 1000, 1, 3, 2, 0, 5, 4, 3, 2, 1, 0, 0, 1])], [], [(8, 6, 1, 1)])
theorem oo_Em_outer_1 {kA : Nat → ClassId} : or_ok PRD kA GG o_Em_outer_1 := by
  refine or_mk fun A ta ws vs hD hth hl => ?_
  intro t1 r1 t5 r5 t6 k6 t8 k8 d0 f0 ta1 w1 le1 s1 f5 f7 f8
  replace f0 := shm_109 f0
  have s1 : (∀ b j, w_el ws b j = w_el w1 b j) ∧ ∀ b j, w_fd ws b j = if b = v_ad (n_v vs 5) ∧ j = 5 then n_v vs 8 else w_fd w1 b j := s1.2
  replace f5 := shm_109 f5
  replace f7 := shm_421 f7
  have ar_1_7_1 : w_ar w1 (n_v vs 1) 7 = w_ar ws (n_v vs 1) 7 := by show v_ad (w_fd w1 _ _) = v_ad (w_fd ws _ _); rw [s1.2, if_neg (fun e => absurd e.2 (by decide))]
  have ar_1_8_1 : w_ar w1 (n_v vs 1) 8 = w_ar ws (n_v vs 1) 8 := by show v_ad (w_fd w1 _ _) = v_ad (w_fd ws _ _); rw [s1.2, if_neg (fun e => absurd e.2 (by decide))]
  have ar_5_7_1 : w_ar w1 (n_v vs 5) 7 = w_ar ws (n_v vs 5) 7 := by show v_ad (w_fd w1 _ _) = v_ad (w_fd ws _ _); rw [s1.2, if_neg (fun e => absurd e.2 (by decide))]
  have ar_5_8_1 : w_ar w1 (n_v vs 5) 8 = w_ar ws (n_v vs 5) 8 := by show v_ad (w_fd w1 _ _) = v_ad (w_fd ws _ _); rw [s1.2, if_neg (fun e => absurd e.2 (by decide))]
  have ar_5_9_1 : w_ar w1 (n_v vs 5) 9 = w_ar ws (n_v vs 5) 9 := by show v_ad (w_fd w1 _ _) = v_ad (w_fd ws _ _); rw [s1.2, if_neg (fun e => absurd e.2 (by decide))]
  have g0 : v_iv (n_v vs 8) = w_fi ws (n_v vs 5) 5 := congrArg v_iv f0
  have g5 : v_iv (n_v vs 6) = w_fi w1 (n_v vs 5) 5 := congrArg v_iv f5
  simp only [ar_1_7_1, ar_1_8_1, ar_5_7_1, ar_5_8_1, ar_5_9_1] at f7
  have fe_1_0_1 : w_fi ws (n_v vs 1) 0 = w_fi w1 (n_v vs 1) 0 := by show v_iv (w_fd _ _ _) = v_iv (w_fd _ _ _); rw [s1.2, if_neg (fun e => absurd e.2 (by decide))]
  have fe_1_1_1 : w_fi ws (n_v vs 1) 1 = w_fi w1 (n_v vs 1) 1 := by show v_iv (w_fd _ _ _) = v_iv (w_fd _ _ _); rw [s1.2, if_neg (fun e => absurd e.2 (by decide))]
  have fe_5_6_1 : w_fi ws (n_v vs 5) 6 = w_fi w1 (n_v vs 5) 6 := by show v_iv (w_fd _ _ _) = v_iv (w_fd _ _ _); rw [s1.2, if_neg (fun e => absurd e.2 (by decide))]
  have hE_1_7_1 : ∀ j : Int, w_ei ws (w_ar ws (n_v vs 1) 7) j = w_ei w1 (w_ar ws (n_v vs 1) 7) j := fun j => s1.1 _ _
  have hE_1_8_1 : ∀ j : Int, w_ei ws (w_ar ws (n_v vs 1) 8) j = w_ei w1 (w_ar ws (n_v vs 1) 8) j := fun j => s1.1 _ _
  have hE_5_7_1 : ∀ j : Int, w_ei ws (w_ar ws (n_v vs 5) 7) j = w_ei w1 (w_ar ws (n_v vs 5) 7) j := fun j => s1.1 _ _
  have hE_5_8_1 : ∀ j : Int, w_ei ws (w_ar ws (n_v vs 5) 8) j = w_ei w1 (w_ar ws (n_v vs 5) 8) j := fun j => s1.1 _ _
  have hE_5_9_1 : ∀ j : Int, w_ei ws (w_ar ws (n_v vs 5) 9) j = w_ei w1 (w_ar ws (n_v vs 5) 9) j := fun j => s1.1 _ _
  have kz_1_0 := fdq_23 hD hth r1
  have kz_1_1 := fdq_38 hD hth r1
  have kz_5_5 := fdq_89 hD hth r5
  have kz_5_6 := fdq_68 hD hth r5
  have nf0 : fc_1 PRD (20, [5], [60, 2, 3, 595, 5, 6, 7, 8, 9]) ws (vs) := ⟨nf_in hl rfl, sgq_421 (vc_Em_outer_1_0 (v_iv (n_v vs 6)) (v_iv (n_v vs 8)) (w_fi ws (n_v vs 5) 5) (w_ei ws (w_ar ws (n_v vs 1) 7)) (w_ei ws (w_ar ws (n_v vs 1) 8)) (w_fi ws (n_v vs 1) 0) (w_fi ws (n_v vs 1) 1) (w_fi ws (n_v vs 5) 6) (w_fi w1 (n_v vs 5) 5) (w_ei w1 (w_ar ws (n_v vs 1) 7)) (w_ei w1 (w_ar ws (n_v vs 1) 8)) (w_fi w1 (n_v vs 1) 0) (w_fi w1 (n_v vs 1) 1) (w_ei w1 (w_ar ws (n_v vs 5) 7)) (w_ei w1 (w_ar ws (n_v vs 5) 8)) (w_ei w1 (w_ar ws (n_v vs 5) 9)) (w_fi w1 (n_v vs 5) 6) (w_ei ws (w_ar ws (n_v vs 5) 7)) (w_ei ws (w_ar ws (n_v vs 5) 8)) (w_ei ws (w_ar ws (n_v vs 5) 9)) k6 k8 d0 g0 g5 f7 (shm_1146 f8) fe_1_0_1 fe_1_1_1 fe_5_6_1 hE_1_7_1 hE_1_8_1 hE_5_7_1 hE_5_8_1 hE_5_9_1 kz_1_0 kz_1_1 kz_5_5 kz_5_6)⟩
  have nf1 : fc_1 PRD (20, [5, 1], [50, 2, 0, 5, 1000, 1, 3, 2, 0, 5, 4, 3, 2, 1, 0, 0, 1]) ws (vs) := ⟨nf_in hl rfl, sgq_2002 (vc_Em_outer_1_1 (v_iv (n_v vs 6)) (v_iv (n_v vs 8)) (w_fi ws (n_v vs 5) 5) (w_ei ws (w_ar ws (n_v vs 1) 7)) (w_ei ws (w_ar ws (n_v vs 1) 8)) (w_fi ws (n_v vs 1) 0) (w_fi ws (n_v vs 1) 1) (w_fi ws (n_v vs 5) 6) (w_fi w1 (n_v vs 5) 5) (w_ei w1 (w_ar ws (n_v vs 1) 7)) (w_ei w1 (w_ar ws (n_v vs 1) 8)) (w_fi w1 (n_v vs 1) 0) (w_fi w1 (n_v vs 1) 1) (w_ei w1 (w_ar ws (n_v vs 5) 7)) (w_ei w1 (w_ar ws (n_v vs 5) 8)) (w_ei w1 (w_ar ws (n_v vs 5) 9)) (w_fi w1 (n_v vs 5) 6) (w_ei ws (w_ar ws (n_v vs 5) 7)) (w_ei ws (w_ar ws (n_v vs 5) 8)) (w_ei ws (w_ar ws (n_v vs 5) 9)) k6 k8 d0 g0 g5 (shm_1146 f8) fe_1_0_1 fe_1_1_1 fe_5_6_1 hE_1_7_1 hE_1_8_1 hE_5_7_1 hE_5_8_1 hE_5_9_1 kz_1_0 kz_1_1 kz_5_5 kz_5_6)⟩
  refine ⟨(fun _ h => (by cases h)), [], trivial, ?_, (fun _ h => (by cases h))⟩
  rw [List.append_nil]
  exact List.forall_mem_cons.mpr ⟨⟨show (20 : Nat) < 100 from by decide, nf0⟩, List.forall_mem_cons.mpr ⟨⟨show (20 : Nat) < 100 from by decide, nf1⟩, (fun _ h => (by cases h))⟩⟩
set_option maxHeartbeats 4000000 in
theorem vc_Em_outer_2_0 (tail_0o4 : Int → Int) (head_0o4 : Int → Int) (near_0o4 : Int → Int) (nodes_0o4 : Int) (edges_0o4 : Int) (f2 : NOK (nodes_0o4) (edges_0o4) (tail_0o4) (head_0o4) (near_0o4)) (kz_4_5 : 0 ≤ nodes_0o4 ∧ nodes_0o4 ≤ 25) (kz_4_6 : 0 ≤ edges_0o4 ∧ edges_0o4 ≤ 72) : NOK (nodes_0o4) (edges_0o4) (tail_0o4) (head_0o4) (near_0o4) := by
  first
    | assumption
    | exact nok_more ‹NOK _ _ _ _ _› (by omega) (by omega) (by omega)
  
set_option maxHeartbeats 4000000 in
theorem vc_Em_outer_2_1 (x3 : Int) (x5 : Int) (nodes_0o1 : Int) (nodes_0o4 : Int) (k3 : 0 ≤ x3 ∧ x3 ≤ 23) (k5 : 1 ≤ x5 ∧ x5 ≤ 24) (d0 : x5 + (-4294967296) ≤ x3 ∧ x3 ≤ x5 + (-1)) (g0 : x5 = nodes_0o1) (f3 : nodes_0o4 = (nodes_0o1 + 1)) (kz_1_0 : 0 ≤ nodes_0o1 ∧ nodes_0o1 ≤ 24) (kz_4_5 : 0 ≤ nodes_0o4 ∧ nodes_0o4 ≤ 25) : (0 ≤ x3) ∧ ((x3 + 1) ≤ nodes_0o4) := by
  first
    | omega
  
set_option maxHeartbeats 4000000 in
theorem vc_Em_outer_2_2 (x5 : Int) (nodes_0o1 : Int) (nodes_0o4 : Int) (k5 : 1 ≤ x5 ∧ x5 ≤ 24) (g0 : x5 = nodes_0o1) (f3 : nodes_0o4 = (nodes_0o1 + 1)) (kz_1_0 : 0 ≤ nodes_0o1 ∧ nodes_0o1 ≤ 24) (kz_4_5 : 0 ≤ nodes_0o4 ∧ nodes_0o4 ≤ 25) : (0 ≤ x5) ∧ ((x5 + 1) ≤ nodes_0o4) := by
  first
    | omega
  
set_option maxHeartbeats 4000000 in
theorem vc_Em_outer_2_3 (x3 : Int) (x5 : Int) (nodes_0o1 : Int) (nodes_0o4 : Int) (k3 : 0 ≤ x3 ∧ x3 ≤ 23) (k5 : 1 ≤ x5 ∧ x5 ≤ 24) (d0 : x5 + (-4294967296) ≤ x3 ∧ x3 ≤ x5 + (-1)) (g0 : x5 = nodes_0o1) (f3 : nodes_0o4 = (nodes_0o1 + 1)) (kz_1_0 : 0 ≤ nodes_0o1 ∧ nodes_0o1 ≤ 24) (kz_4_5 : 0 ≤ nodes_0o4 ∧ nodes_0o4 ≤ 25) : x3 ≠ x5 := by
  first
    | omega
  
set_option maxHeartbeats 4000000 in
theorem vc_Em_outer_2_4 (edges_0o4 : Int) (gx : Int) (kz_4_6 : 0 ≤ edges_0o4 ∧ edges_0o4 ≤ 72) (ex2 : gx = edges_0o4) : edges_0o4 = gx := by
  first
    | omega
  
def o_Em_outer_2 : or_T := (48, 6, [(1, (2, 0, 0, [3])), (3, (0, 0, 23, [])), (4, (2, 0, 0, [149])), (5, (0, 1, 24, []))], [(9, [5, 1], [0]), (20, [4], [60, 2, 3, 595, 5, 6, 7, 8, 9]), (20, [4, 1], [50, 2, 0, 5, 1000, 1, 3, 2, 0, 5, 4, 3, 2, 1, 0, 0, 1])], [], [(0, 0, 72, [])], [(20, [4], [60, 2, 3, 595, 5, 6, 7, 8, 9]), (20, [3, 4], [50, 1, 0, 1005, 2, 6, 0, 2, 0, 0, 1, 0, 0, 6, 4, 2, 1, 0, 0, 1, 2, 1, 5]), (20, [5, 4], [50, 1, 0, 1005, 2, 6, 0, 2, 0, 0, 1, 0, 0, 6, 4, 2, 1, 0, 0, 1, 2, 1, 5]), (20, [3, 5], [50, 0, 0, 7, 2, 1, 0, 1, 1]), (20, [4, 6], [50, 1, 0, 6, 1, 3, 2, 0, 6, 1, 1])], [], [(3, 5, -4294967296, -1)])
theorem oo_Em_outer_2 {kA : Nat → ClassId} : or_ok PRD kA GG o_Em_outer_2 := by
  refine or_mk fun A ta ws vs hD hth hl => ?_
  intro t1 r1 t3 k3 t4 r4 t5 k5 d0 f0 f2 f3
  replace f0 := shm_175 f0
  replace f2 := shm_421 f2
  replace f3 := shm_2002 f3
  have g0 : v_iv (n_v vs 5) = w_fi ws (n_v vs 1) 0 := congrArg v_iv f0
  have kz_1_0 := fdq_23 hD hth r1
  have kz_4_5 := fdq_89 hD hth r4
  have kz_4_6 := fdq_68 hD hth r4
  obtain ⟨x, ex, hx⟩ := iv_ex (ta := ta) (lo := 0) (hi := 72) (z := w_fi ws (n_v vs 4) 6) (by omega) (by omega) (by omega) (by omega)
  have ex2 : v_iv (Value.int x) = w_fi ws (n_v vs 4) 6 := ex
  have ex3 : 0 ≤ v_iv (Value.int x) ∧ v_iv (Value.int x) ≤ 72 := tv_rng hx
  have e_3 : n_v (vs ++ [Value.int x]) 3 = n_v vs 3 := n_v_old (by rw [hl]; decide)
  have e_4 : n_v (vs ++ [Value.int x]) 4 = n_v vs 4 := n_v_old (by rw [hl]; decide)
  have e_5 : n_v (vs ++ [Value.int x]) 5 = n_v vs 5 := n_v_old (by rw [hl]; decide)
  have e_6 : n_v (vs ++ [Value.int x]) 6 = Value.int x := n_v_new hl
  have nf0 : fc_1 PRD (20, [4], [60, 2, 3, 595, 5, 6, 7, 8, 9]) ws (vs ++ [Value.int x]) := by
    refine ⟨nf_inA hl rfl, sgq_421 ?_⟩
    · show NOK (w_fi ws (n_v (vs ++ [Value.int x]) 4) 5) (w_fi ws (n_v (vs ++ [Value.int x]) 4) 6) (w_ei ws (w_ar ws (n_v (vs ++ [Value.int x]) 4) 7)) (w_ei ws (w_ar ws (n_v (vs ++ [Value.int x]) 4) 8)) (w_ei ws (w_ar ws (n_v (vs ++ [Value.int x]) 4) 9))
      rw [e_4]
      exact vc_Em_outer_2_0 (w_ei ws (w_ar ws (n_v vs 4) 7)) (w_ei ws (w_ar ws (n_v vs 4) 8)) (w_ei ws (w_ar ws (n_v vs 4) 9)) (w_fi ws (n_v vs 4) 5) (w_fi ws (n_v vs 4) 6) f2 kz_4_5 kz_4_6
  have nf1 : fc_1 PRD (20, [3, 4], [50, 1, 0, 1005, 2, 6, 0, 2, 0, 0, 1, 0, 0, 6, 4, 2, 1, 0, 0, 1, 2, 1, 5]) ws (vs ++ [Value.int x]) := by
    refine ⟨nf_inA hl rfl, sgq_418 ?_⟩
    · show (0 ≤ v_iv (n_v (vs ++ [Value.int x]) 3)) ∧ ((v_iv (n_v (vs ++ [Value.int x]) 3) + 1) ≤ w_fi ws (n_v (vs ++ [Value.int x]) 4) 5)
      simp only [e_3, e_4]
      exact vc_Em_outer_2_1 (v_iv (n_v vs 3)) (v_iv (n_v vs 5)) (w_fi ws (n_v vs 1) 0) (w_fi ws (n_v vs 4) 5) k3 k5 d0 g0 f3 kz_1_0 kz_4_5
  have nf2 : fc_1 PRD (20, [5, 4], [50, 1, 0, 1005, 2, 6, 0, 2, 0, 0, 1, 0, 0, 6, 4, 2, 1, 0, 0, 1, 2, 1, 5]) ws (vs ++ [Value.int x]) := by
    refine ⟨nf_inA hl rfl, sgq_418 ?_⟩
    · show (0 ≤ v_iv (n_v (vs ++ [Value.int x]) 5)) ∧ ((v_iv (n_v (vs ++ [Value.int x]) 5) + 1) ≤ w_fi ws (n_v (vs ++ [Value.int x]) 4) 5)
      simp only [e_4, e_5]
      exact vc_Em_outer_2_2 (v_iv (n_v vs 5)) (w_fi ws (n_v vs 1) 0) (w_fi ws (n_v vs 4) 5) k5 g0 f3 kz_1_0 kz_4_5
  have nf3 : fc_1 PRD (20, [3, 5], [50, 0, 0, 7, 2, 1, 0, 1, 1]) ws (vs ++ [Value.int x]) := by
    refine ⟨nf_inA hl rfl, sgq_419 ?_⟩
    · show v_iv (n_v (vs ++ [Value.int x]) 3) ≠ v_iv (n_v (vs ++ [Value.int x]) 5)
      simp only [e_3, e_5]
      exact vc_Em_outer_2_3 (v_iv (n_v vs 3)) (v_iv (n_v vs 5)) (w_fi ws (n_v vs 1) 0) (w_fi ws (n_v vs 4) 5) k3 k5 d0 g0 f3 kz_1_0 kz_4_5
  have nf4 : fc_1 PRD (20, [4, 6], [50, 1, 0, 6, 1, 3, 2, 0, 6, 1, 1]) ws (vs ++ [Value.int x]) := by
    refine ⟨nf_inA hl rfl, sgq_420 ?_⟩
    · show w_fi ws (n_v (vs ++ [Value.int x]) 4) 6 = v_iv (n_v (vs ++ [Value.int x]) 6)
      simp only [e_4, e_6]
      exact vc_Em_outer_2_4 (w_fi ws (n_v vs 4) 6) (v_iv (Value.int x)) kz_4_6 ex2
  exact ⟨(fun _ h => (by cases h)), [Value.int x], ag_one hx, List.forall_mem_cons.mpr ⟨⟨show (20 : Nat) < 100 from by decide, nf0⟩, List.forall_mem_cons.mpr ⟨⟨show (20 : Nat) < 100 from by decide, nf1⟩, List.forall_mem_cons.mpr ⟨⟨show (20 : Nat) < 100 from by decide, nf2⟩, List.forall_mem_cons.mpr ⟨⟨show (20 : Nat) < 100 from by decide, nf3⟩, List.forall_mem_cons.mpr ⟨⟨show (20 : Nat) < 100 from by decide, nf4⟩, (fun _ h => (by cases h))⟩⟩⟩⟩⟩, (fun _ h => (by cases h))⟩
def n_Em_outer_an : List an_T := [(31, [(0, (2, 0, 0, [1])), (1, (2, 0, 0, [3])), (2, (2, 0, 0, [5])), (3, (0, 0, 24, []))], [], (0, 0), [(0, 0, 99969), (1, 3, 24), (0, 0, 100000)], [], [((0, 1), (2, 0, 0, [149]))], [], 0, [], [(20, [4], [60, 2, 3, 595, 5, 6, 7, 8, 9]), (20, [4, 1], [50, 2, 0, 5, 1000, 1, 3, 2, 0, 5, 4, 3, 2, 1, 0, 0, 1])])]
def t_Em_outer_ct : ct_L := [(43, 81, e_Ne_load_at_Np), (148, 91, e_Ne_join_at_Np_gk), (196, 95, e_Em_embed_at_gp)]
set_option maxRecDepth 100000 in
theorem c_Em_outer {l : Launch} {D : va_G} {kA : Nat → ClassId} (h_Em_embed_at_gp : ct_ok PRD l D kA GG y_Em_embed_at_gp z_Em_embed_at_gp e_Em_embed_at_gp) (h_Ne_join_at_Np_gk : ct_ok PRD l D kA GG y_Ne_join_at_Np_gk z_Ne_join_at_Np_gk e_Ne_join_at_Np_gk) (h_Ne_load_at_Np : ct_ok PRD l D kA GG y_Ne_load_at_Np z_Ne_load_at_Np e_Ne_load_at_Np) : ct_ok PRD l D kA GG y_Em_outer z_Em_outer e_Em_outer := chk_all_ok (FT := [(18, 1, 1), (78, 5, 1), (85, 5, 5), (88, 3, 0)]) (PT := [(78, 5, 1, .int), (85, 5, 5, .int)]) (CT := t_Em_outer_ct) (KT := []) (NT := []) (AN := n_Em_outer_an) (OT := [o_Em_outer_0, o_Em_outer_1, o_Em_outer_2]) 3 200 (List.forall_mem_cons.mpr ⟨oo_Em_outer_0, List.forall_mem_cons.mpr ⟨oo_Em_outer_1, List.forall_mem_cons.mpr ⟨oo_Em_outer_2, List.forall_mem_nil _⟩⟩⟩) (by decide +kernel) ⟨List.forall_mem_cons.mpr ⟨gf_Em_18, List.forall_mem_cons.mpr ⟨gf_Em_78, List.forall_mem_cons.mpr ⟨gf_Em_85, List.forall_mem_cons.mpr ⟨gf_Em_88, List.forall_mem_nil _⟩⟩⟩⟩, List.forall_mem_cons.mpr ⟨pf_Em_78, List.forall_mem_cons.mpr ⟨pf_Em_85, List.forall_mem_nil _⟩⟩, List.forall_mem_cons.mpr ⟨cl_virtual (y := y_Ne_load_at_Np) (ci := 5) rfl rfl ⟨_, _, rfl⟩ (by decide +kernel) h_Ne_load_at_Np wm_1056 wm_6 wm_1168 wm_1054 wm_1055 ⟨by decide, by decide, by decide +kernel⟩ (by decide), List.forall_mem_cons.mpr ⟨cl_virtual (y := y_Ne_join_at_Np_gk) (ci := 5) rfl rfl ⟨_, _, rfl⟩ (by decide +kernel) h_Ne_join_at_Np_gk wm_1065 wm_6 wm_1161 wm_1063 wm_1064 ⟨by decide, by decide, by decide +kernel⟩ (by decide), List.forall_mem_cons.mpr ⟨cl_virtual (y := y_Em_embed_at_gp) (ci := 1) rfl rfl ⟨_, _, rfl⟩ (by decide +kernel) h_Em_embed_at_gp wm_1069 wm_5 wm_1162 wm_1067 wm_1068 ⟨by decide, by decide, by decide +kernel⟩ (by decide), List.forall_mem_nil _⟩⟩⟩, List.forall_mem_nil _, List.forall_mem_nil _, GG_pl⟩ (by decide +kernel)
set_option maxHeartbeats 4000000 in
theorem vc_Sy_compile_0_0 (x4 : Int) (rules_0 : Int) (rules_1 : Int) (rules_2 : Int) (rules_3 : Int) (k4 : 0 ≤ x4 ∧ x4 ≤ 0) (g0 : x4 = rules_0) (fe_0_0_1 : rules_0 = rules_1) (fe_0_0_2 : rules_1 = rules_2) (fe_0_0_3 : rules_2 = rules_3) (kz_0_0 : 0 ≤ rules_0 ∧ rules_0 ≤ 112) : 1 * rules_0 + 0 ≤ 0 := by
  subst fe_0_0_1
  subst fe_0_0_2
  subst fe_0_0_3
  first
    | omega
  
def o_Sy_compile_0 : or_T := (36, 8, [(0, (2, 0, 0, [11])), (4, (0, 0, 0, []))], [(9, [4, 0], [0]), (101, [0, 7], [2]), (101, [0, 6], [1]), (101, [0, 5], [11])], [], [], [(20, [0], [30, 0, 1, 1, 0])], [], [])
theorem oo_Sy_compile_0 {kA : Nat → ClassId} : or_ok PRD kA GG o_Sy_compile_0 := by
  refine or_mk fun A ta ws vs hD hth hl => ?_
  intro t0 r0 t4 k4 f0 ta1 w1 le1 s1 ta2 w2 le2 s2 ta3 w3 le3 s3
  replace f0 := shm_175 f0
  have s1 : (∀ b j, w_el ws b j = w_el w1 b j) ∧ ∀ b j, w_fd ws b j = if b = v_ad (n_v vs 0) ∧ j = 2 then n_v vs 7 else w_fd w1 b j := s1.2
  have s2 : (∀ b j, w_el w1 b j = w_el w2 b j) ∧ ∀ b j, w_fd w1 b j = if b = v_ad (n_v vs 0) ∧ j = 1 then n_v vs 6 else w_fd w2 b j := s2.2
  have s3 : (∀ b j, w_el w2 b j = w_el w3 b j) ∧ ∀ b j, w_fd w2 b j = if b = v_ad (n_v vs 0) ∧ j = 11 then n_v vs 5 else w_fd w3 b j := s3.2
  have g0 : v_iv (n_v vs 4) = w_fi ws (n_v vs 0) 0 := congrArg v_iv f0
  have fe_0_0_1 : w_fi ws (n_v vs 0) 0 = w_fi w1 (n_v vs 0) 0 := by show v_iv (w_fd _ _ _) = v_iv (w_fd _ _ _); rw [s1.2, if_neg (fun e => absurd e.2 (by decide))]
  have fe_0_0_2 : w_fi w1 (n_v vs 0) 0 = w_fi w2 (n_v vs 0) 0 := by show v_iv (w_fd _ _ _) = v_iv (w_fd _ _ _); rw [s2.2, if_neg (fun e => absurd e.2 (by decide))]
  have fe_0_0_3 : w_fi w2 (n_v vs 0) 0 = w_fi w3 (n_v vs 0) 0 := by show v_iv (w_fd _ _ _) = v_iv (w_fd _ _ _); rw [s3.2, if_neg (fun e => absurd e.2 (by decide))]
  have kz_0_0 := fdq_321 hD hth r0
  have nf0 : fc_1 PRD (20, [0], [30, 0, 1, 1, 0]) ws (vs) := ⟨nf_in hl rfl, sgq_2003 (vc_Sy_compile_0_0 (v_iv (n_v vs 4)) (w_fi ws (n_v vs 0) 0) (w_fi w1 (n_v vs 0) 0) (w_fi w2 (n_v vs 0) 0) (w_fi w3 (n_v vs 0) 0) k4 g0 fe_0_0_1 fe_0_0_2 fe_0_0_3 kz_0_0)⟩
  refine ⟨(fun _ h => (by cases h)), [], trivial, ?_, (fun _ h => (by cases h))⟩
  rw [List.append_nil]
  exact List.forall_mem_cons.mpr ⟨⟨show (20 : Nat) < 100 from by decide, nf0⟩, (fun _ h => (by cases h))⟩
set_option maxHeartbeats 4000000 in
theorem vc_Sy_compile_1_0 (x4 : Int) (x8 : Int) (rules_0 : Int) (k4 : 0 ≤ x4 ∧ x4 ≤ 0) (k8 : 0 ≤ x8 ∧ x8 ≤ 0) (g0 : x4 = rules_0) (kz_0_0 : 0 ≤ rules_0 ∧ rules_0 ≤ 112) : 1 * rules_0 + ((-1) * x8 + 0) ≤ 0 := by
  first
    | omega
  
def o_Sy_compile_1 : or_T := (41, 9, [(0, (2, 0, 0, [11])), (4, (0, 0, 0, [])), (8, (0, 0, 0, []))], [(9, [4, 0], [0])], [], [], [(20, [0, 8], [30, 0, 1, 1, 0, -1, 0, 0])], [], [])
theorem oo_Sy_compile_1 {kA : Nat → ClassId} : or_ok PRD kA GG o_Sy_compile_1 := by
  refine or_mk fun A ta ws vs hD hth hl => ?_
  intro t0 r0 t4 k4 t8 k8 f0
  replace f0 := shm_175 f0
  have g0 : v_iv (n_v vs 4) = w_fi ws (n_v vs 0) 0 := congrArg v_iv f0
  have kz_0_0 := fdq_321 hD hth r0
  have nf0 : fc_1 PRD (20, [0, 8], [30, 0, 1, 1, 0, -1, 0, 0]) ws (vs) := ⟨nf_in hl rfl, sgq_1999 (vc_Sy_compile_1_0 (v_iv (n_v vs 4)) (v_iv (n_v vs 8)) (w_fi ws (n_v vs 0) 0) k4 k8 g0 kz_0_0)⟩
  refine ⟨(fun _ h => (by cases h)), [], trivial, ?_, (fun _ h => (by cases h))⟩
  rw [List.append_nil]
  exact List.forall_mem_cons.mpr ⟨⟨show (20 : Nat) < 100 from by decide, nf0⟩, (fun _ h => (by cases h))⟩
set_option maxHeartbeats 4000000 in
theorem vc_Sy_compile_2_0 (rules_0 : Int) (gx : Int) (kz_0_0 : 0 ≤ rules_0 ∧ rules_0 ≤ 112) (ex2 : gx = rules_0) : 1 * rules_0 + ((-1) * gx + 0) ≤ 0 := by
  first
    | omega
  
set_option maxHeartbeats 4000000 in
theorem vc_Sy_compile_2_1 (kind_0 : Int) (number_0 : Int) (f5 : (kind_0 ≠ 3) ∨ (number_0 ≤ 9999)) (kz_0_6 : 0 ≤ kind_0 ∧ kind_0 ≤ 127) (kz_0_8 : 0 ≤ number_0 ∧ number_0 ≤ 1000000) : (kind_0 ≠ 3) ∨ (number_0 ≤ 9999) := by
  first
    | omega
  
set_option maxHeartbeats 4000000 in
theorem vc_Sy_compile_2_2 (x3 : Int) (x4 : Int) (rules_0 : Int) (gx : Int) (k3 : 0 ≤ x3 ∧ x3 ≤ 111) (k4 : 0 ≤ x4 ∧ x4 ≤ 112) (d0 : x3 + (-4294967296) ≤ x4 ∧ x4 ≤ x3 + 111) (g0 : x4 = rules_0) (f4 : 1 * rules_0 + ((-1) * x3 + 0) ≤ 0) (kz_0_0 : 0 ≤ rules_0 ∧ rules_0 ≤ 112) (ex2 : gx = rules_0) : 1 * gx + ((-1) * x3 + 0) ≤ 0 := by
  first
    | omega
  
def o_Sy_compile_2 : or_T := (55, 8, [(0, (2, 0, 0, [11])), (3, (0, 0, 111, [])), (4, (0, 0, 112, [])), (6, (0, 112, 112, [])), (7, (0, 1, 127, []))], [(9, [4, 0], [0]), (8, [7], [1]), (9, [7, 0], [6]), (7, [3, 6], [2]), (20, [0, 3], [30, 0, 1, 1, 0, -1, 0, 0]), (20, [0], [50, 2, 0, 6, 8, 3, 7, 7, 3, 2, 0, 6, 0, 3, 0, 3, 2, 0, 8, 0, 9999])], [], [(0, 0, 111, [])], [(20, [0, 8], [30, 0, 1, 1, 0, -1, 0, 0]), (20, [0], [50, 2, 0, 6, 8, 3, 7, 7, 3, 2, 0, 6, 0, 3, 0, 3, 2, 0, 8, 0, 9999]), (23, [8, 3], [0, 1, -1])], [], [(4, 3, -4294967296, 111)])
theorem oo_Sy_compile_2 {kA : Nat → ClassId} : or_ok PRD kA GG o_Sy_compile_2 := by
  refine or_mk fun A ta ws vs hD hth hl => ?_
  intro t0 r0 t3 k3 t4 k4 t6 k6 t7 k7 d0 f0 f1 f2 f3 f4 f5
  replace f0 := shm_175 f0
  replace f1 := shm_154 f1
  replace f2 := shm_110 f2
  replace f3 := shm_6 f3
  replace f4 := shm_1999 f4
  replace f5 := shm_1747 f5
  have g0 : v_iv (n_v vs 4) = w_fi ws (n_v vs 0) 0 := congrArg v_iv f0
  have g2 : v_iv (n_v vs 7) = w_fi ws (n_v vs 0) 6 := congrArg v_iv f2
  have kz_0_0 := fdq_321 hD hth r0
  have kz_0_6 := fdq_304 hD hth r0
  have kz_0_8 := fdq_305 hD hth r0
  have kv0 := fdq_321 hD hth r0
  obtain ⟨x, ex, hx⟩ := iv_ex (ta := ta) (lo := 0) (hi := 111) (z := w_fi ws (n_v vs 0) 0) (by omega) (by omega) (by omega) (by omega)
  have ex2 : v_iv (Value.int x) = w_fi ws (n_v vs 0) 0 := ex
  have ex3 : 0 ≤ v_iv (Value.int x) ∧ v_iv (Value.int x) ≤ 111 := tv_rng hx
  have e_0 : n_v (vs ++ [Value.int x]) 0 = n_v vs 0 := n_v_old (by rw [hl]; decide)
  have e_3 : n_v (vs ++ [Value.int x]) 3 = n_v vs 3 := n_v_old (by rw [hl]; decide)
  have e_8 : n_v (vs ++ [Value.int x]) 8 = Value.int x := n_v_new hl
  have nf0 : fc_1 PRD (20, [0, 8], [30, 0, 1, 1, 0, -1, 0, 0]) ws (vs ++ [Value.int x]) := by
    refine ⟨nf_inA hl rfl, sgq_1999 ?_⟩
    · show 1 * w_fi ws (n_v (vs ++ [Value.int x]) 0) 0 + ((-1) * v_iv (n_v (vs ++ [Value.int x]) 8) + 0) ≤ 0
      simp only [e_0, e_8]
      exact vc_Sy_compile_2_0 (w_fi ws (n_v vs 0) 0) (v_iv (Value.int x)) kz_0_0 ex2
  have nf1 : fc_1 PRD (20, [0], [50, 2, 0, 6, 8, 3, 7, 7, 3, 2, 0, 6, 0, 3, 0, 3, 2, 0, 8, 0, 9999]) ws (vs ++ [Value.int x]) := by
    refine ⟨nf_inA hl rfl, sgq_1747 ?_⟩
    · show (w_fi ws (n_v (vs ++ [Value.int x]) 0) 6 ≠ 3) ∨ (w_fi ws (n_v (vs ++ [Value.int x]) 0) 8 ≤ 9999)
      rw [e_0]
      exact vc_Sy_compile_2_1 (w_fi ws (n_v vs 0) 6) (w_fi ws (n_v vs 0) 8) f5 kz_0_6 kz_0_8
  have nf2 : fc_1 PRD (23, [8, 3], [0, 1, -1]) ws (vs ++ [Value.int x]) := by
    refine ⟨nf_inA hl rfl, sgq_7 ?_⟩
    · show 1 * v_iv (n_v (vs ++ [Value.int x]) 8) + ((-1) * v_iv (n_v (vs ++ [Value.int x]) 3) + 0) ≤ 0
      simp only [e_3, e_8]
      exact vc_Sy_compile_2_2 (v_iv (n_v vs 3)) (v_iv (n_v vs 4)) (w_fi ws (n_v vs 0) 0) (v_iv (Value.int x)) k3 k4 d0 g0 f4 kz_0_0 ex2
  exact ⟨(fun _ h => (by cases h)), [Value.int x], ag_one hx, List.forall_mem_cons.mpr ⟨⟨show (20 : Nat) < 100 from by decide, nf0⟩, List.forall_mem_cons.mpr ⟨⟨show (20 : Nat) < 100 from by decide, nf1⟩, List.forall_mem_cons.mpr ⟨⟨show (23 : Nat) < 100 from by decide, nf2⟩, (fun _ h => (by cases h))⟩⟩⟩, (fun _ h => (by cases h))⟩
set_option maxHeartbeats 4000000 in
theorem vc_Sy_compile_3_0 (x3 : Int) (x8 : Int) (x10 : Int) (rules_0 : Int) (k3 : 0 ≤ x3 ∧ x3 ≤ 111) (k8 : 0 ≤ x8 ∧ x8 ≤ 111) (k10 : 1 ≤ x10 ∧ x10 ≤ 112) (d0 : x3 + 1 ≤ x10 ∧ x10 ≤ x3 + 1) (f1 : 1 * x8 + ((-1) * x3 + 0) ≤ 0) (f2 : 1 * rules_0 + ((-1) * x8 + 0) ≤ 1) (kz_0_0 : 0 ≤ rules_0 ∧ rules_0 ≤ 112) : 1 * rules_0 + ((-1) * x10 + 0) ≤ 0 := by
  first
    | omega
  
def o_Sy_compile_3 : or_T := (41, 11, [(0, (2, 0, 0, [11])), (3, (0, 0, 111, [])), (8, (0, 0, 111, [])), (10, (0, 1, 112, []))], [(23, [8, 3], [0, 1, -1]), (20, [0, 8], [30, 1, 1, 1, 0, -1, 0, 0])], [], [], [(20, [0, 10], [30, 0, 1, 1, 0, -1, 0, 0])], [], [(10, 3, 1, 1)])
theorem oo_Sy_compile_3 {kA : Nat → ClassId} : or_ok PRD kA GG o_Sy_compile_3 := by
  refine or_mk fun A ta ws vs hD hth hl => ?_
  intro t0 r0 t3 k3 t8 k8 t10 k10 d0 f1 f2
  have kz_0_0 := fdq_321 hD hth r0
  have nf0 : fc_1 PRD (20, [0, 10], [30, 0, 1, 1, 0, -1, 0, 0]) ws (vs) := ⟨nf_in hl rfl, sgq_1999 (vc_Sy_compile_3_0 (v_iv (n_v vs 3)) (v_iv (n_v vs 8)) (v_iv (n_v vs 10)) (w_fi ws (n_v vs 0) 0) k3 k8 k10 d0 (shm_7 f1) (shm_2000 f2) kz_0_0)⟩
  refine ⟨(fun _ h => (by cases h)), [], trivial, ?_, (fun _ h => (by cases h))⟩
  rw [List.append_nil]
  exact List.forall_mem_cons.mpr ⟨⟨show (20 : Nat) < 100 from by decide, nf0⟩, (fun _ h => (by cases h))⟩
def n_Sy_compile_an : List an_T := [(41, [(0, (2, 0, 0, [11])), (1, (2, 0, 0, [109])), (2, (0, 0, 2000, [])), (3, (0, 0, 112, []))], [], (0, 0), [(0, 0, 99959), (1, 3, 112), (0, 0, 100000)], [(4, 3, (Int.negSucc 999999999999), 111)], [((0, 0), (0, 0, 112, [])), ((0, 3), (2, 0, 0, [109]))], [], 0, [], [(20, [0, 3], [30, 0, 1, 1, 0, (Int.negSucc 0), 0, 0]), (20, [0], [50, 2, 0, 6, 8, 3, 7, 7, 3, 2, 0, 6, 0, 3, 0, 3, 2, 0, 8, 0, 9999])])]
def t_Sy_compile_ct : ct_L := [(1, 69, e_Sy_advance), (1, 72, e_Sy_compileRule)]
set_option maxRecDepth 100000 in
theorem c_Sy_compile {l : Launch} {D : va_G} {kA : Nat → ClassId} (h_Sy_advance : ct_ok PRD l D kA GG y_Sy_advance z_Sy_advance e_Sy_advance) (h_Sy_compileRule : ct_ok PRD l D kA GG y_Sy_compileRule z_Sy_compileRule e_Sy_compileRule) : ct_ok PRD l D kA GG y_Sy_compile z_Sy_compile e_Sy_compile := chk_all_ok (FT := [(9, 11, 0), (31, 11, 6), (50, 11, 11), (53, 11, 12)]) (PT := [(9, 11, 0, .int), (15, 11, 1, .int), (18, 11, 2, .int), (21, 11, 3, .array .byte), (25, 11, 4, .int), (28, 11, 5, .int), (50, 11, 11, .int)]) (CT := t_Sy_compile_ct) (KT := []) (NT := []) (AN := n_Sy_compile_an) (OT := [o_Sy_compile_0, o_Sy_compile_1, o_Sy_compile_2, o_Sy_compile_3]) 3 224 (List.forall_mem_cons.mpr ⟨oo_Sy_compile_0, List.forall_mem_cons.mpr ⟨oo_Sy_compile_1, List.forall_mem_cons.mpr ⟨oo_Sy_compile_2, List.forall_mem_cons.mpr ⟨oo_Sy_compile_3, List.forall_mem_nil _⟩⟩⟩⟩) (by decide +kernel) ⟨List.forall_mem_cons.mpr ⟨gf_Sy_9, List.forall_mem_cons.mpr ⟨gf_Sy_31, List.forall_mem_cons.mpr ⟨gf_Sy_50, List.forall_mem_cons.mpr ⟨gf_Sy_53, List.forall_mem_nil _⟩⟩⟩⟩, List.forall_mem_cons.mpr ⟨pf_Sy_9, List.forall_mem_cons.mpr ⟨pf_Sy_15, List.forall_mem_cons.mpr ⟨pf_Sy_18, List.forall_mem_cons.mpr ⟨pf_Sy_21, List.forall_mem_cons.mpr ⟨pf_Sy_25, List.forall_mem_cons.mpr ⟨pf_Sy_28, List.forall_mem_cons.mpr ⟨pf_Sy_50, List.forall_mem_nil _⟩⟩⟩⟩⟩⟩⟩, List.forall_mem_cons.mpr ⟨cl_virtual (y := y_Sy_advance) (ci := 11) rfl rfl ⟨_, _, rfl⟩ (by decide +kernel) h_Sy_advance wm_2158 wm_23 wm_2155 wm_2157 wv_10_10 ⟨by decide, by decide, by decide +kernel⟩ (by decide), List.forall_mem_cons.mpr ⟨cl_virtual (y := y_Sy_compileRule) (ci := 11) rfl rfl ⟨_, _, rfl⟩ (by decide +kernel) h_Sy_compileRule wm_2224 wm_23 wm_2221 wm_2223 wv_10_11 ⟨by decide, by decide, by decide +kernel⟩ (by decide), List.forall_mem_nil _⟩⟩, List.forall_mem_nil _, List.forall_mem_nil _, GG_pl⟩ (by decide +kernel)
def o_Re_readGraph_0 : or_T := (41, 11, [], [], [], [], [(24, [2, 2], []), (24, [0, 0], [])], [], [])
theorem oo_Re_readGraph_0 {kA : Nat → ClassId} : or_ok PRD kA GG o_Re_readGraph_0 := by
  refine or_mk fun A ta ws vs hD hth hl => ?_
  have nf0 : fc_1 PRD (24, [2, 2], []) ws (vs) := by
    refine ⟨nf_in hl rfl, sgq_1 ?_⟩
    · show n_v vs 2 = n_v vs 2
      first | rfl | simp only [true_and]
  have nf1 : fc_1 PRD (24, [0, 0], []) ws (vs) := by
    refine ⟨nf_in hl rfl, sgq_1 ?_⟩
    · show n_v vs 0 = n_v vs 0
      first | rfl | simp only [true_and]
  refine ⟨(fun _ h => (by cases h)), [], trivial, ?_, (fun _ h => (by cases h))⟩
  rw [List.append_nil]
  exact List.forall_mem_cons.mpr ⟨⟨show (24 : Nat) < 100 from by decide, nf0⟩, List.forall_mem_cons.mpr ⟨⟨show (24 : Nat) < 100 from by decide, nf1⟩, (fun _ h => (by cases h))⟩⟩
set_option maxHeartbeats 4000000 in
theorem vc_Re_readGraph_1_0 (near_0o2 : Int → Int) (tail_0o2 : Int → Int) (head_0o2 : Int → Int) (nodes_0o2 : Int) (edges_0o2 : Int) (f0 : GNB (nodes_0o2) (edges_0o2) (near_0o2) (tail_0o2) (head_0o2)) (kz_2_0 : 0 ≤ nodes_0o2 ∧ nodes_0o2 ≤ 24) (kz_2_1 : 0 ≤ edges_0o2 ∧ edges_0o2 ≤ 48) : GNB (nodes_0o2) (edges_0o2) (near_0o2) (tail_0o2) (head_0o2) := by
  first
    | assumption
  
set_option maxHeartbeats 4000000 in
theorem vc_Re_readGraph_1_1 (tail_0o2 : Int → Int) (head_0o2 : Int → Int) (nodes_0o2 : Int) (edges_0o2 : Int) (f1 : GKE (nodes_0o2) (edges_0o2) (tail_0o2) (head_0o2)) (kz_2_0 : 0 ≤ nodes_0o2 ∧ nodes_0o2 ≤ 24) (kz_2_1 : 0 ≤ edges_0o2 ∧ edges_0o2 ≤ 48) : GKE (nodes_0o2) (edges_0o2) (tail_0o2) (head_0o2) := by
  first
    | assumption
  
def o_Re_readGraph_1 : or_T := (82, 8, [(2, (2, 0, 0, [164]))], [(20, [6], [60, 2, 3, 670, 0, 1, 14, 7, 8]), (20, [6], [60, 2, 2, 596, 0, 1, 7, 8]), (24, [2, 6], [])], [], [], [(20, [2], [60, 2, 3, 670, 0, 1, 14, 7, 8]), (20, [2], [60, 2, 2, 596, 0, 1, 7, 8])], [], [])
theorem oo_Re_readGraph_1 {kA : Nat → ClassId} : or_ok PRD kA GG o_Re_readGraph_1 := by
  refine or_mk fun A ta ws vs hD hth hl => ?_
  intro t2 r2 f0 f1 f2
  replace f0 := shm_811 f0
  replace f1 := shm_401 f1
  replace f2 := shm_5 f2
  have q6 : n_v vs 6 = n_v vs 2 := f2.symm
  simp only [q6] at f0 f1
  have kz_2_0 := fdq_77 hD hth r2
  have kz_2_1 := fdq_78 hD hth r2
  have nf0 : fc_1 PRD (20, [2], [60, 2, 3, 670, 0, 1, 14, 7, 8]) ws (vs) := ⟨nf_in hl rfl, sgq_811 (vc_Re_readGraph_1_0 (w_ei ws (w_ar ws (n_v vs 2) 14)) (w_ei ws (w_ar ws (n_v vs 2) 7)) (w_ei ws (w_ar ws (n_v vs 2) 8)) (w_fi ws (n_v vs 2) 0) (w_fi ws (n_v vs 2) 1) f0 kz_2_0 kz_2_1)⟩
  have nf1 : fc_1 PRD (20, [2], [60, 2, 2, 596, 0, 1, 7, 8]) ws (vs) := ⟨nf_in hl rfl, sgq_401 (vc_Re_readGraph_1_1 (w_ei ws (w_ar ws (n_v vs 2) 7)) (w_ei ws (w_ar ws (n_v vs 2) 8)) (w_fi ws (n_v vs 2) 0) (w_fi ws (n_v vs 2) 1) f1 kz_2_0 kz_2_1)⟩
  refine ⟨(fun _ h => (by cases h)), [], trivial, ?_, (fun _ h => (by cases h))⟩
  rw [List.append_nil]
  exact List.forall_mem_cons.mpr ⟨⟨show (20 : Nat) < 100 from by decide, nf0⟩, List.forall_mem_cons.mpr ⟨⟨show (20 : Nat) < 100 from by decide, nf1⟩, (fun _ h => (by cases h))⟩⟩
set_option maxHeartbeats 4000000 in
theorem vc_Re_readGraph_2_0 (number_0 : Int) (gx : Int) (kz_0_9 : (-2147483648) ≤ number_0 ∧ number_0 ≤ 1000000) (ex2 : gx = number_0) : 1 * number_0 + ((-1) * gx + 0) ≤ 0 := by
  first
    | omega
  
set_option maxHeartbeats 4000000 in
theorem vc_Re_readGraph_2_1 (number_0 : Int) (gx : Int) (kz_0_9 : (-2147483648) ≤ number_0 ∧ number_0 ≤ 1000000) (ex2 : gx = number_0) : (-1) * number_0 + (1 * gx + 0) ≤ 0 := by
  first
    | omega
  
def o_Re_readGraph_2 : or_T := (47, 7, [(0, (2, 0, 0, [8]))], [(24, [0, 3], [])], [], [(0, -2147483648, 1000000, [])], [(20, [3, 7], [30, 0, 1, 1, 9, -1, 0, 0]), (20, [3, 7], [30, 0, -1, 1, 9, 1, 0, 0])], [], [])
theorem oo_Re_readGraph_2 {kA : Nat → ClassId} : or_ok PRD kA GG o_Re_readGraph_2 := by
  refine or_mk fun A ta ws vs hD hth hl => ?_
  intro t0 r0 f3
  replace f3 := shm_5 f3
  have q3 : n_v vs 3 = n_v vs 0 := f3.symm
  have kz_0_9 := fdq_27 hD hth r0
  obtain ⟨x, ex, hx⟩ := iv_ex (ta := ta) (lo := (-2147483648)) (hi := 1000000) (z := w_fi ws (n_v vs 0) 9) (by omega) (by omega) (by omega) (by omega)
  have ex2 : v_iv (Value.int x) = w_fi ws (n_v vs 0) 9 := ex
  have ex3 : (-2147483648) ≤ v_iv (Value.int x) ∧ v_iv (Value.int x) ≤ 1000000 := tv_rng hx
  have e_3 : n_v (vs ++ [Value.int x]) 3 = n_v vs 3 := n_v_old (by rw [hl]; decide)
  have e_7 : n_v (vs ++ [Value.int x]) 7 = Value.int x := n_v_new hl
  have nf0 : fc_1 PRD (20, [3, 7], [30, 0, 1, 1, 9, -1, 0, 0]) ws (vs ++ [Value.int x]) := by
    refine ⟨nf_inA hl rfl, sgq_199 ?_⟩
    · show 1 * w_fi ws (n_v (vs ++ [Value.int x]) 3) 9 + ((-1) * v_iv (n_v (vs ++ [Value.int x]) 7) + 0) ≤ 0
      simp only [e_3, e_7, q3]
      exact vc_Re_readGraph_2_0 (w_fi ws (n_v vs 0) 9) (v_iv (Value.int x)) kz_0_9 ex2
  have nf1 : fc_1 PRD (20, [3, 7], [30, 0, -1, 1, 9, 1, 0, 0]) ws (vs ++ [Value.int x]) := by
    refine ⟨nf_inA hl rfl, sgq_200 ?_⟩
    · show (-1) * w_fi ws (n_v (vs ++ [Value.int x]) 3) 9 + (1 * v_iv (n_v (vs ++ [Value.int x]) 7) + 0) ≤ 0
      simp only [e_3, e_7, q3]
      exact vc_Re_readGraph_2_1 (w_fi ws (n_v vs 0) 9) (v_iv (Value.int x)) kz_0_9 ex2
  exact ⟨(fun _ h => (by cases h)), [Value.int x], ag_one hx, List.forall_mem_cons.mpr ⟨⟨show (20 : Nat) < 100 from by decide, nf0⟩, List.forall_mem_cons.mpr ⟨⟨show (20 : Nat) < 100 from by decide, nf1⟩, (fun _ h => (by cases h))⟩⟩, (fun _ h => (by cases h))⟩
set_option maxHeartbeats 4000000 in
theorem vc_Re_readGraph_3_0 (near_0o2 : Int → Int) (tail_0o2 : Int → Int) (head_0o2 : Int → Int) (nodes_0o2 : Int) (edges_0o2 : Int) (f2 : GNB (nodes_0o2) (edges_0o2) (near_0o2) (tail_0o2) (head_0o2)) (kz_2_0 : 0 ≤ nodes_0o2 ∧ nodes_0o2 ≤ 24) (kz_2_1 : 0 ≤ edges_0o2 ∧ edges_0o2 ≤ 48) : GNB (nodes_0o2) (edges_0o2) (near_0o2) (tail_0o2) (head_0o2) := by
  first
    | assumption
  
set_option maxHeartbeats 4000000 in
theorem vc_Re_readGraph_3_1 (tail_0o2 : Int → Int) (head_0o2 : Int → Int) (nodes_0o2 : Int) (edges_0o2 : Int) (f3 : GKE (nodes_0o2) (edges_0o2) (tail_0o2) (head_0o2)) (kz_2_0 : 0 ≤ nodes_0o2 ∧ nodes_0o2 ≤ 24) (kz_2_1 : 0 ≤ edges_0o2 ∧ edges_0o2 ≤ 48) : GKE (nodes_0o2) (edges_0o2) (tail_0o2) (head_0o2) := by
  first
    | assumption
  
def o_Re_readGraph_3 : or_T := (74, 11, [(2, (2, 0, 0, [164]))], [(24, [2, 6], []), (20, [6], [60, 2, 3, 670, 0, 1, 14, 7, 8]), (20, [6], [60, 2, 2, 596, 0, 1, 7, 8])], [], [], [(20, [2], [60, 2, 3, 670, 0, 1, 14, 7, 8]), (20, [2], [60, 2, 2, 596, 0, 1, 7, 8])], [], [])
theorem oo_Re_readGraph_3 {kA : Nat → ClassId} : or_ok PRD kA GG o_Re_readGraph_3 := by
  refine or_mk fun A ta ws vs hD hth hl => ?_
  intro t2 r2 f0 f2 f3
  replace f0 := shm_5 f0
  replace f2 := shm_811 f2
  replace f3 := shm_401 f3
  have q6 : n_v vs 6 = n_v vs 2 := f0.symm
  simp only [q6] at f2 f3
  have kz_2_0 := fdq_77 hD hth r2
  have kz_2_1 := fdq_78 hD hth r2
  have nf0 : fc_1 PRD (20, [2], [60, 2, 3, 670, 0, 1, 14, 7, 8]) ws (vs) := ⟨nf_in hl rfl, sgq_811 (vc_Re_readGraph_3_0 (w_ei ws (w_ar ws (n_v vs 2) 14)) (w_ei ws (w_ar ws (n_v vs 2) 7)) (w_ei ws (w_ar ws (n_v vs 2) 8)) (w_fi ws (n_v vs 2) 0) (w_fi ws (n_v vs 2) 1) f2 kz_2_0 kz_2_1)⟩
  have nf1 : fc_1 PRD (20, [2], [60, 2, 2, 596, 0, 1, 7, 8]) ws (vs) := ⟨nf_in hl rfl, sgq_401 (vc_Re_readGraph_3_1 (w_ei ws (w_ar ws (n_v vs 2) 7)) (w_ei ws (w_ar ws (n_v vs 2) 8)) (w_fi ws (n_v vs 2) 0) (w_fi ws (n_v vs 2) 1) f3 kz_2_0 kz_2_1)⟩
  refine ⟨(fun _ h => (by cases h)), [], trivial, ?_, (fun _ h => (by cases h))⟩
  rw [List.append_nil]
  exact List.forall_mem_cons.mpr ⟨⟨show (20 : Nat) < 100 from by decide, nf0⟩, List.forall_mem_cons.mpr ⟨⟨show (20 : Nat) < 100 from by decide, nf1⟩, (fun _ h => (by cases h))⟩⟩
set_option maxHeartbeats 4000000 in
theorem vc_Re_readGraph_4_0 (near_0o2 : Int → Int) (tail_0o2 : Int → Int) (head_0o2 : Int → Int) (nodes_0o2 : Int) (edges_0o2 : Int) (f2 : GNB (nodes_0o2) (edges_0o2) (near_0o2) (tail_0o2) (head_0o2)) (kz_2_0 : 0 ≤ nodes_0o2 ∧ nodes_0o2 ≤ 24) (kz_2_1 : 0 ≤ edges_0o2 ∧ edges_0o2 ≤ 48) : GNB (nodes_0o2) (edges_0o2) (near_0o2) (tail_0o2) (head_0o2) := by
  first
    | assumption
  
set_option maxHeartbeats 4000000 in
theorem vc_Re_readGraph_4_1 (tail_0o2 : Int → Int) (head_0o2 : Int → Int) (nodes_0o2 : Int) (edges_0o2 : Int) (f3 : GKE (nodes_0o2) (edges_0o2) (tail_0o2) (head_0o2)) (kz_2_0 : 0 ≤ nodes_0o2 ∧ nodes_0o2 ≤ 24) (kz_2_1 : 0 ≤ edges_0o2 ∧ edges_0o2 ≤ 48) : GKE (nodes_0o2) (edges_0o2) (tail_0o2) (head_0o2) := by
  first
    | assumption
  
def o_Re_readGraph_4 : or_T := (74, 12, [(2, (2, 0, 0, [164]))], [(24, [2, 6], []), (20, [6], [60, 2, 3, 670, 0, 1, 14, 7, 8]), (20, [6], [60, 2, 2, 596, 0, 1, 7, 8])], [], [], [(20, [2], [60, 2, 3, 670, 0, 1, 14, 7, 8]), (20, [2], [60, 2, 2, 596, 0, 1, 7, 8])], [], [])
theorem oo_Re_readGraph_4 {kA : Nat → ClassId} : or_ok PRD kA GG o_Re_readGraph_4 := by
  refine or_mk fun A ta ws vs hD hth hl => ?_
  intro t2 r2 f0 f2 f3
  replace f0 := shm_5 f0
  replace f2 := shm_811 f2
  replace f3 := shm_401 f3
  have q6 : n_v vs 6 = n_v vs 2 := f0.symm
  simp only [q6] at f2 f3
  have kz_2_0 := fdq_77 hD hth r2
  have kz_2_1 := fdq_78 hD hth r2
  have nf0 : fc_1 PRD (20, [2], [60, 2, 3, 670, 0, 1, 14, 7, 8]) ws (vs) := ⟨nf_in hl rfl, sgq_811 (vc_Re_readGraph_4_0 (w_ei ws (w_ar ws (n_v vs 2) 14)) (w_ei ws (w_ar ws (n_v vs 2) 7)) (w_ei ws (w_ar ws (n_v vs 2) 8)) (w_fi ws (n_v vs 2) 0) (w_fi ws (n_v vs 2) 1) f2 kz_2_0 kz_2_1)⟩
  have nf1 : fc_1 PRD (20, [2], [60, 2, 2, 596, 0, 1, 7, 8]) ws (vs) := ⟨nf_in hl rfl, sgq_401 (vc_Re_readGraph_4_1 (w_ei ws (w_ar ws (n_v vs 2) 7)) (w_ei ws (w_ar ws (n_v vs 2) 8)) (w_fi ws (n_v vs 2) 0) (w_fi ws (n_v vs 2) 1) f3 kz_2_0 kz_2_1)⟩
  refine ⟨(fun _ h => (by cases h)), [], trivial, ?_, (fun _ h => (by cases h))⟩
  rw [List.append_nil]
  exact List.forall_mem_cons.mpr ⟨⟨show (20 : Nat) < 100 from by decide, nf0⟩, List.forall_mem_cons.mpr ⟨⟨show (20 : Nat) < 100 from by decide, nf1⟩, (fun _ h => (by cases h))⟩⟩
set_option maxHeartbeats 4000000 in
theorem vc_Re_readGraph_5_0 (near_0o2 : Int → Int) (tail_0o2 : Int → Int) (head_0o2 : Int → Int) (nodes_0o2 : Int) (edges_0o2 : Int) (f2 : GNB (nodes_0o2) (edges_0o2) (near_0o2) (tail_0o2) (head_0o2)) (kz_2_0 : 0 ≤ nodes_0o2 ∧ nodes_0o2 ≤ 24) (kz_2_1 : 0 ≤ edges_0o2 ∧ edges_0o2 ≤ 48) : GNB (nodes_0o2) (edges_0o2) (near_0o2) (tail_0o2) (head_0o2) := by
  first
    | assumption
  
set_option maxHeartbeats 4000000 in
theorem vc_Re_readGraph_5_1 (tail_0o2 : Int → Int) (head_0o2 : Int → Int) (nodes_0o2 : Int) (edges_0o2 : Int) (f3 : GKE (nodes_0o2) (edges_0o2) (tail_0o2) (head_0o2)) (kz_2_0 : 0 ≤ nodes_0o2 ∧ nodes_0o2 ≤ 24) (kz_2_1 : 0 ≤ edges_0o2 ∧ edges_0o2 ≤ 48) : GKE (nodes_0o2) (edges_0o2) (tail_0o2) (head_0o2) := by
  first
    | assumption
  
def o_Re_readGraph_5 : or_T := (65, 11, [(2, (2, 0, 0, [164]))], [(20, [6], [60, 2, 3, 670, 0, 1, 14, 7, 8]), (20, [6], [60, 2, 2, 596, 0, 1, 7, 8]), (24, [2, 6], [])], [], [], [(20, [2], [60, 2, 3, 670, 0, 1, 14, 7, 8]), (20, [2], [60, 2, 2, 596, 0, 1, 7, 8])], [], [])
theorem oo_Re_readGraph_5 {kA : Nat → ClassId} : or_ok PRD kA GG o_Re_readGraph_5 := by
  refine or_mk fun A ta ws vs hD hth hl => ?_
  intro t2 r2 f2 f3 f4
  replace f2 := shm_811 f2
  replace f3 := shm_401 f3
  replace f4 := shm_5 f4
  have q6 : n_v vs 6 = n_v vs 2 := f4.symm
  simp only [q6] at f2 f3
  have kz_2_0 := fdq_77 hD hth r2
  have kz_2_1 := fdq_78 hD hth r2
  have nf0 : fc_1 PRD (20, [2], [60, 2, 3, 670, 0, 1, 14, 7, 8]) ws (vs) := ⟨nf_in hl rfl, sgq_811 (vc_Re_readGraph_5_0 (w_ei ws (w_ar ws (n_v vs 2) 14)) (w_ei ws (w_ar ws (n_v vs 2) 7)) (w_ei ws (w_ar ws (n_v vs 2) 8)) (w_fi ws (n_v vs 2) 0) (w_fi ws (n_v vs 2) 1) f2 kz_2_0 kz_2_1)⟩
  have nf1 : fc_1 PRD (20, [2], [60, 2, 2, 596, 0, 1, 7, 8]) ws (vs) := ⟨nf_in hl rfl, sgq_401 (vc_Re_readGraph_5_1 (w_ei ws (w_ar ws (n_v vs 2) 7)) (w_ei ws (w_ar ws (n_v vs 2) 8)) (w_fi ws (n_v vs 2) 0) (w_fi ws (n_v vs 2) 1) f3 kz_2_0 kz_2_1)⟩
  refine ⟨(fun _ h => (by cases h)), [], trivial, ?_, (fun _ h => (by cases h))⟩
  rw [List.append_nil]
  exact List.forall_mem_cons.mpr ⟨⟨show (20 : Nat) < 100 from by decide, nf0⟩, List.forall_mem_cons.mpr ⟨⟨show (20 : Nat) < 100 from by decide, nf1⟩, (fun _ h => (by cases h))⟩⟩
def n_Re_readGraph_an : List an_T := [(41, [(0, (2, 0, 0, [8])), (1, (0, 0, 2000, [])), (2, (0, 0, 2001, []))], [], (0, 0), [(0, 0, 99959), (1, 5, 2001), (0, 0, 100000)], [(1, 4, (Int.negSucc 999999999999), 0), (4, 1, (Int.negSucc 999999999999), 0), (5, 1, (Int.negSucc 999999999999), 1), (5, 4, (Int.negSucc 999999999999), 1)], [((0, 4), (2, 0, 0, [164]))], [(2, 0, 0, [8]), (0, 0, 2000, []), (2, 0, 0, [164])], 0, [], [(20, [6], [60, 2, 3, 670, 0, 1, 14, 7, 8]), (20, [6], [60, 2, 2, 596, 0, 1, 7, 8]), (24, [2, 6], []), (24, [0, 3], [])])]
def t_Re_readGraph_ct : ct_L := [(1, 57, e_Re_advance), (1, 60, e_Re_readItem), (16, 54, e_Gr_clear_at_Gq)]
set_option maxRecDepth 100000 in
theorem c_Re_readGraph {l : Launch} {D : va_G} {kA : Nat → ClassId} (h_Gr_clear_at_Gq : ct_ok PRD l D kA GG y_Gr_clear_at_Gq z_Gr_clear_at_Gq e_Gr_clear_at_Gq) (h_Re_advance : ct_ok PRD l D kA GG y_Re_advance z_Re_advance e_Re_advance) (h_Re_readItem : ct_ok PRD l D kA GG y_Re_readItem z_Re_readItem e_Re_readItem) : ct_ok PRD l D kA GG y_Re_readGraph z_Re_readGraph e_Re_readGraph := chk_all_ok (FT := [(28, 8, 4), (38, 8, 7), (47, 8, 10), (51, 8, 11)]) (PT := [(19, 8, 2, .int), (22, 8, 3, .int), (32, 8, 5, .int), (35, 8, 6, .int), (51, 8, 11, .int)]) (CT := t_Re_readGraph_ct) (KT := []) (NT := []) (AN := n_Re_readGraph_an) (OT := [o_Re_readGraph_0, o_Re_readGraph_1, o_Re_readGraph_2, o_Re_readGraph_3, o_Re_readGraph_4, o_Re_readGraph_5]) 3 264 (List.forall_mem_cons.mpr ⟨oo_Re_readGraph_0, List.forall_mem_cons.mpr ⟨oo_Re_readGraph_1, List.forall_mem_cons.mpr ⟨oo_Re_readGraph_2, List.forall_mem_cons.mpr ⟨oo_Re_readGraph_3, List.forall_mem_cons.mpr ⟨oo_Re_readGraph_4, List.forall_mem_cons.mpr ⟨oo_Re_readGraph_5, List.forall_mem_nil _⟩⟩⟩⟩⟩⟩) (by decide +kernel) ⟨List.forall_mem_cons.mpr ⟨gf_Re_28, List.forall_mem_cons.mpr ⟨gf_Re_38, List.forall_mem_cons.mpr ⟨gf_Re_47, List.forall_mem_cons.mpr ⟨gf_Re_51, List.forall_mem_nil _⟩⟩⟩⟩, List.forall_mem_cons.mpr ⟨pf_Re_19, List.forall_mem_cons.mpr ⟨pf_Re_22, List.forall_mem_cons.mpr ⟨pf_Re_32, List.forall_mem_cons.mpr ⟨pf_Re_35, List.forall_mem_cons.mpr ⟨pf_Re_51, List.forall_mem_nil _⟩⟩⟩⟩⟩, List.forall_mem_cons.mpr ⟨cl_virtual (y := y_Re_advance) (ci := 8) rfl rfl ⟨_, _, rfl⟩ (by decide +kernel) h_Re_advance wm_645 wm_2 wm_642 wm_644 wv_1_0 ⟨by decide, by decide, by decide +kernel⟩ (by decide), List.forall_mem_cons.mpr ⟨cl_virtual (y := y_Re_readItem) (ci := 8) rfl rfl ⟨_, _, rfl⟩ (by decide +kernel) h_Re_readItem wm_665 wm_2 wm_662 wm_664 wv_1_1 ⟨by decide, by decide, by decide +kernel⟩ (by decide), List.forall_mem_cons.mpr ⟨cl_virtual (y := y_Gr_clear_at_Gq) (ci := 3) rfl rfl ⟨_, _, rfl⟩ (by decide +kernel) h_Gr_clear_at_Gq wm_641 wm_3 wm_638 wm_639 wm_640 ⟨by decide, by decide, by decide +kernel⟩ (by decide), List.forall_mem_nil _⟩⟩⟩, List.forall_mem_nil _, List.forall_mem_nil _, GG_pl⟩ (by decide +kernel)
set_option maxHeartbeats 4000000 in
theorem vc_Mo_judge_0_0 (x4 : Int) (x6 : Int) (x8 : Int) (x9 : Int) (bendMany_0 : Int → Int) (g0_0 : Int) (k4 : 1 ≤ x4 ∧ x4 ≤ 47) (k6 : 0 ≤ x6 ∧ x6 ≤ 24) (k8 : 1 ≤ x8 ∧ x8 ≤ 25) (k9 : 2 ≤ x9 ∧ x9 ≤ 26) (d0 : x9 + (-4294967296) ≤ x8 ∧ x8 ≤ x9 + (-1)) (d1 : x6 + 1 ≤ x8 ∧ x8 ≤ x6 + 1) (f1 : x9 = (bendMany_0 (((48 * g0_0) + x4)) + 2)) (kz_0_139 : 0 ≤ g0_0 ∧ g0_0 ≤ 3) : x6 ≤ bendMany_0 (((48 * g0_0) + x4)) := by
  first | assumption | omega | grind
def o_Mo_judge_0 : or_T := (69, 11, [(0, (2, 0, 0, [165])), (4, (0, 1, 47, [])), (6, (0, 0, 24, [])), (8, (0, 1, 25, [])), (9, (0, 2, 26, []))], [(20, [9, 0, 4], [50, 1, 1, 1139, 1064, 1, 2, 1, 0, 4, 14, 3, 1, 64, 4, 7, 6, 2, 0, 48, 2, 1, 139, 1, 2, 0, 2])], [], [], [(20, [6, 0, 4], [50, 1, 1, 1139, 1064, 0, 2, 1, 0, 3, 1, 64, 4, 7, 6, 2, 0, 48, 2, 1, 139, 1, 2])], [], [(8, 9, -4294967296, -1), (8, 6, 1, 1)])
theorem oo_Mo_judge_0 {kA : Nat → ClassId} : or_ok PRD kA GG o_Mo_judge_0 := by
  refine or_mk fun A ta ws vs hD hth hl => ?_
  intro t0 r0 t4 k4 t6 k6 t8 k8 t9 k9 d0 d1 f1
  have kz_0_139 := fdq_171 hD hth r0
  have nf0 : fc_1 PRD (20, [6, 0, 4], [50, 1, 1, 1139, 1064, 0, 2, 1, 0, 3, 1, 64, 4, 7, 6, 2, 0, 48, 2, 1, 139, 1, 2]) ws (vs) := ⟨nf_in hl rfl, sgq_1882 (vc_Mo_judge_0_0 (v_iv (n_v vs 4)) (v_iv (n_v vs 6)) (v_iv (n_v vs 8)) (v_iv (n_v vs 9)) (w_ei ws (w_ar ws (n_v vs 0) 64)) (w_fi ws (n_v vs 0) 139) k4 k6 k8 k9 d0 d1 (shm_670 f1) kz_0_139)⟩
  refine ⟨(fun _ h => (by cases h)), [], trivial, ?_, (fun _ h => (by cases h))⟩
  rw [List.append_nil]
  exact List.forall_mem_cons.mpr ⟨⟨show (20 : Nat) < 100 from by decide, nf0⟩, (fun _ h => (by cases h))⟩
set_option maxHeartbeats 4000000 in
theorem vc_Mo_judge_1_0 (x5 : Int) (x7 : Int) (x9 : Int) (x10 : Int) (bendMany_0 : Int → Int) (g0_0 : Int) (k5 : 0 ≤ x5 ∧ x5 ≤ 46) (k7 : 0 ≤ x7 ∧ x7 ≤ 24) (k9 : 1 ≤ x9 ∧ x9 ≤ 25) (k10 : 2 ≤ x10 ∧ x10 ≤ 26) (d0 : x10 + (-4294967296) ≤ x9 ∧ x9 ≤ x10 + (-1)) (d1 : x7 + 1 ≤ x9 ∧ x9 ≤ x7 + 1) (f1 : x10 = (bendMany_0 (((48 * g0_0) + x5)) + 2)) (kz_0_139 : 0 ≤ g0_0 ∧ g0_0 ≤ 3) : x7 ≤ bendMany_0 (((48 * g0_0) + x5)) := by
  first | assumption | omega | grind
def o_Mo_judge_1 : or_T := (92, 11, [(0, (2, 0, 0, [165])), (5, (0, 0, 46, [])), (7, (0, 0, 24, [])), (9, (0, 1, 25, [])), (10, (0, 2, 26, []))], [(20, [10, 0, 5], [50, 1, 1, 1139, 1064, 1, 2, 1, 0, 4, 14, 3, 1, 64, 4, 7, 6, 2, 0, 48, 2, 1, 139, 1, 2, 0, 2])], [], [], [(20, [7, 0, 5], [50, 1, 1, 1139, 1064, 0, 2, 1, 0, 3, 1, 64, 4, 7, 6, 2, 0, 48, 2, 1, 139, 1, 2])], [], [(9, 10, -4294967296, -1), (9, 7, 1, 1)])
theorem oo_Mo_judge_1 {kA : Nat → ClassId} : or_ok PRD kA GG o_Mo_judge_1 := by
  refine or_mk fun A ta ws vs hD hth hl => ?_
  intro t0 r0 t5 k5 t7 k7 t9 k9 t10 k10 d0 d1 f1
  have kz_0_139 := fdq_171 hD hth r0
  have nf0 : fc_1 PRD (20, [7, 0, 5], [50, 1, 1, 1139, 1064, 0, 2, 1, 0, 3, 1, 64, 4, 7, 6, 2, 0, 48, 2, 1, 139, 1, 2]) ws (vs) := ⟨nf_in hl rfl, sgq_1882 (vc_Mo_judge_1_0 (v_iv (n_v vs 5)) (v_iv (n_v vs 7)) (v_iv (n_v vs 9)) (v_iv (n_v vs 10)) (w_ei ws (w_ar ws (n_v vs 0) 64)) (w_fi ws (n_v vs 0) 139) k5 k7 k9 k10 d0 d1 (shm_670 f1) kz_0_139)⟩
  refine ⟨(fun _ h => (by cases h)), [], trivial, ?_, (fun _ h => (by cases h))⟩
  rw [List.append_nil]
  exact List.forall_mem_cons.mpr ⟨⟨show (20 : Nat) < 100 from by decide, nf0⟩, (fun _ h => (by cases h))⟩
def n_Mo_judge_an : List an_T := [(31, [(0, (2, 0, 0, [165])), (1, (0, (Int.negSucc 2147483647), 2147483647, [])), (2, (0, 0, 0, [])), (3, (1, (Int.negSucc 9223372036854775807), 9223372036854775807, [])), (5, (0, 0, 48, []))], [], (0, 0), [(0, 0, 99969), (1, 4, 48), (0, 0, 100000), (0, 0, 0), (0, 0, 0), (0, 0, 0), (0, 0, 0), (0, 0, 0), (0, 0, 0)], [], [], [], 0, [], []), (43, [(0, (2, 0, 0, [165])), (1, (0, (Int.negSucc 2147483647), 2147483647, [])), (2, (0, 0, 0, [])), (3, (1, (Int.negSucc 9223372036854775807), 9223372036854775807, [])), (5, (0, 0, 47, [])), (6, (0, 0, 47, []))], [], (0, 0), [(0, 0, 99969), (1, 4, 48), (0, 0, 99957), (1, 5, 47), (0, 0, 100000), (0, 0, 0), (0, 0, 0), (0, 0, 0), (0, 0, 0)], [(5, 4, (Int.negSucc 999999999999), 0)], [], [], 0, [], []), (53, [(0, (2, 0, 0, [165])), (1, (0, (Int.negSucc 2147483647), 2147483647, [])), (2, (0, 0, 0, [])), (3, (1, (Int.negSucc 9223372036854775807), 9223372036854775807, [])), (5, (0, 1, 47, [])), (6, (0, 0, 46, [])), (7, (0, 0, 25, []))], [], (0, 0), [(0, 0, 99969), (1, 4, 48), (0, 0, 99957), (1, 5, 47), (0, 0, 99947), (1, 6, 25), (0, 0, 100000), (0, 0, 0), (0, 0, 0)], [(5, 4, (Int.negSucc 999999999999), (Int.negSucc 0))], [], [], 0, [], []), (69, [(0, (2, 0, 0, [165])), (1, (0, (Int.negSucc 2147483647), 2147483647, [])), (2, (0, 0, 0, [])), (3, (1, (Int.negSucc 9223372036854775807), 9223372036854775807, [])), (5, (0, 1, 47, [])), (6, (0, 0, 46, [])), (7, (0, 0, 24, [])), (8, (0, 0, 25, []))], [], (0, 0), [(0, 0, 99969), (1, 4, 48), (0, 0, 99957), (1, 5, 47), (0, 0, 99947), (1, 6, 25), (0, 0, 99931), (1, 7, 25), (0, 0, 100000)], [(5, 4, (Int.negSucc 999999999999), (Int.negSucc 0))], [], [], 0, [], [(20, [6, 0, 4], [50, 1, 1, 1139, 1064, 0, 2, 1, 0, 3, 1, 64, 4, 7, 6, 2, 0, 48, 2, 1, 139, 1, 2])]), (145, [(0, (2, 0, 0, [165])), (1, (0, (Int.negSucc 2147483647), 2147483647, [])), (2, (0, 1, 6, [])), (3, (1, (Int.negSucc 9223372036854775807), 9223372036854775807, [])), (5, (0, 0, 24, []))], [], (0, 0), [(0, 0, 99855), (1, 4, 24), (0, 0, 100000), (0, 0, 0), (0, 0, 0), (0, 0, 0), (0, 0, 0), (0, 0, 0), (0, 0, 0)], [], [], [], 0, [], []), (157, [(0, (2, 0, 0, [165])), (1, (0, (Int.negSucc 2147483647), 2147483647, [])), (2, (0, 1, 6, [])), (3, (1, (Int.negSucc 9223372036854775807), 9223372036854775807, [])), (5, (0, 0, 23, [])), (6, (0, 0, 23, []))], [], (0, 0), [(0, 0, 99855), (1, 4, 24), (0, 0, 99843), (1, 5, 23), (0, 0, 100000), (0, 0, 0), (0, 0, 0), (0, 0, 0), (0, 0, 0)], [(5, 4, (Int.negSucc 999999999999), 0)], [], [], 0, [], []), (267, [(0, (2, 0, 0, [165])), (1, (0, (Int.negSucc 2147483647), 2147483647, [])), (2, (0, 2, 8, [])), (3, (1, (Int.negSucc 9223372036854775807), 9223372036854775807, [])), (5, (0, 0, 48, []))], [], (0, 0), [(0, 0, 99733), (1, 4, 48), (0, 0, 100000), (0, 0, 0), (0, 0, 0), (0, 0, 0), (0, 0, 0), (0, 0, 0), (0, 0, 0)], [], [], [], 0, [], [])]
def t_Mo_judge_ct : ct_L := [(0, 387, e_Mo_in), (1, 401, e_Mo_edges), (1, 475, e_Mo_nodes), (1, 1023, e_Mo_px), (1, 1026, e_Mo_pointsOf), (1, 1029, e_Mo_py), (1, 1032, e_Mo_isDrawn), (1, 1119, e_Mo_meets), (1, 1123, e_Mo_touch), (1, 1126, e_Mo_areaOf), (1, 1130, e_Mo_leastTriangle), (1, 1133, e_Mo_ofEdge)]
set_option maxRecDepth 100000 in
theorem c_Mo_judge {l : Launch} {D : va_G} {kA : Nat → ClassId} (h_Mo_areaOf : ct_ok PRD l D kA GG y_Mo_areaOf z_Mo_areaOf e_Mo_areaOf) (h_Mo_edges : ct_ok PRD l D kA GG y_Mo_edges z_Mo_edges e_Mo_edges) (h_Mo_in : ct_ok PRD l D kA GG y_Mo_in z_Mo_in e_Mo_in) (h_Mo_isDrawn : ct_ok PRD l D kA GG y_Mo_isDrawn z_Mo_isDrawn e_Mo_isDrawn) (h_Mo_leastTriangle : ct_ok PRD l D kA GG y_Mo_leastTriangle z_Mo_leastTriangle e_Mo_leastTriangle) (h_Mo_meets : ct_ok PRD l D kA GG y_Mo_meets z_Mo_meets e_Mo_meets) (h_Mo_nodes : ct_ok PRD l D kA GG y_Mo_nodes z_Mo_nodes e_Mo_nodes) (h_Mo_ofEdge : ct_ok PRD l D kA GG y_Mo_ofEdge z_Mo_ofEdge e_Mo_ofEdge) (h_Mo_pointsOf : ct_ok PRD l D kA GG y_Mo_pointsOf z_Mo_pointsOf e_Mo_pointsOf) (h_Mo_px : ct_ok PRD l D kA GG y_Mo_px z_Mo_px e_Mo_px) (h_Mo_py : ct_ok PRD l D kA GG y_Mo_py z_Mo_py e_Mo_py) (h_Mo_touch : ct_ok PRD l D kA GG y_Mo_touch z_Mo_touch e_Mo_touch) : ct_ok PRD l D kA GG y_Mo_judge z_Mo_judge e_Mo_judge := chk_all_ok (FT := []) (PT := []) (CT := t_Mo_judge_ct) (KT := [(2, 1007, .long (-1), (1, -1, -1, []))]) (NT := []) (AN := n_Mo_judge_an) (OT := [o_Mo_judge_0, o_Mo_judge_1]) 9 740 (List.forall_mem_cons.mpr ⟨oo_Mo_judge_0, List.forall_mem_cons.mpr ⟨oo_Mo_judge_1, List.forall_mem_nil _⟩⟩) (by decide +kernel) ⟨List.forall_mem_nil _, List.forall_mem_nil _, List.forall_mem_cons.mpr ⟨cl_static (y := y_Mo_in) h_Mo_in wm_2971 wm_9 wm_2969 wm_2970 ⟨by decide, by decide, by decide +kernel⟩ (by decide), List.forall_mem_cons.mpr ⟨cl_virtual (y := y_Mo_edges) (ci := 13) rfl rfl ⟨_, _, rfl⟩ (by decide +kernel) h_Mo_edges wm_3037 wm_9 wm_3034 wm_3036 wv_13_6 ⟨by decide, by decide, by decide +kernel⟩ (by decide), List.forall_mem_cons.mpr ⟨cl_virtual (y := y_Mo_nodes) (ci := 13) rfl rfl ⟨_, _, rfl⟩ (by decide +kernel) h_Mo_nodes wm_3025 wm_9 wm_3022 wm_3024 wv_13_3 ⟨by decide, by decide, by decide +kernel⟩ (by decide), List.forall_mem_cons.mpr ⟨cl_virtual (y := y_Mo_px) (ci := 13) rfl rfl ⟨_, _, rfl⟩ (by decide +kernel) h_Mo_px wm_3675 wm_9 wm_3672 wm_3674 wv_21_14 ⟨by decide, by decide, by decide +kernel⟩ (by decide), List.forall_mem_cons.mpr ⟨cl_virtual (y := y_Mo_pointsOf) (ci := 13) rfl rfl ⟨_, _, rfl⟩ (by decide +kernel) h_Mo_pointsOf wm_3726 wm_9 wm_3723 wm_3725 wv_22_8 ⟨by decide, by decide, by decide +kernel⟩ (by decide), List.forall_mem_cons.mpr ⟨cl_virtual (y := y_Mo_py) (ci := 13) rfl rfl ⟨_, _, rfl⟩ (by decide +kernel) h_Mo_py wm_3679 wm_9 wm_3676 wm_3678 wv_21_15 ⟨by decide, by decide, by decide +kernel⟩ (by decide), List.forall_mem_cons.mpr ⟨cl_virtual (y := y_Mo_isDrawn) (ci := 13) rfl rfl ⟨_, _, rfl⟩ (by decide +kernel) h_Mo_isDrawn wm_3669 wm_9 wm_3666 wm_3668 wv_21_13 ⟨by decide, by decide, by decide +kernel⟩ (by decide), List.forall_mem_cons.mpr ⟨cl_virtual (y := y_Mo_meets) (ci := 13) rfl rfl ⟨_, _, rfl⟩ (by decide +kernel) h_Mo_meets wm_3742 wm_9 wm_3739 wm_3741 wv_22_11 ⟨by decide, by decide, by decide +kernel⟩ (by decide), List.forall_mem_cons.mpr ⟨cl_virtual (y := y_Mo_touch) (ci := 13) rfl rfl ⟨_, _, rfl⟩ (by decide +kernel) h_Mo_touch wm_3768 wm_9 wm_3765 wm_3767 wv_22_14 ⟨by decide, by decide, by decide +kernel⟩ (by decide), List.forall_mem_cons.mpr ⟨cl_virtual (y := y_Mo_areaOf) (ci := 13) rfl rfl ⟨_, _, rfl⟩ (by decide +kernel) h_Mo_areaOf wm_3774 wm_9 wm_3771 wm_3773 wv_22_15 ⟨by decide, by decide, by decide +kernel⟩ (by decide), List.forall_mem_cons.mpr ⟨cl_virtual (y := y_Mo_leastTriangle) (ci := 13) rfl rfl ⟨_, _, rfl⟩ (by decide +kernel) h_Mo_leastTriangle wm_3786 wm_9 wm_3783 wm_3785 wv_23_2 ⟨by decide, by decide, by decide +kernel⟩ (by decide), List.forall_mem_cons.mpr ⟨cl_virtual (y := y_Mo_ofEdge) (ci := 13) rfl rfl ⟨_, _, rfl⟩ (by decide +kernel) h_Mo_ofEdge wm_3790 wm_9 wm_3787 wm_3789 wv_23_3 ⟨by decide, by decide, by decide +kernel⟩ (by decide), List.forall_mem_nil _⟩⟩⟩⟩⟩⟩⟩⟩⟩⟩⟩⟩, List.forall_mem_cons.mpr ⟨⟨kt_mk2 wm_3625, fun _ => Or.inr (Or.inl ⟨rfl, _, rfl, by decide, by decide⟩)⟩, List.forall_mem_nil _⟩, List.forall_mem_nil _, GG_pl⟩ (by decide +kernel)

def o_Ho_embedded_0 : or_T := (66, 6, [(0, (2, 0, 0, [12])), (1, (0, 0, 3, [])), (2, (2, 0, 0, [133])), (3, (2, 0, 0, [5]))], [(14, [3, 2, 1], []), (9, [2, 0], [2]), (20, [0], [62, 0])], [], [], [(20, [0, 1, 3], [62, 199])], [], [])
theorem oo_Ho_embedded_0 {kA : Nat → ClassId} : or_ok PRD kA GG o_Ho_embedded_0 := by
  refine or_mk fun A ta ws vs hD hth hl => ?_
  intro t0 r0 t1 k1 t2 r2 t3 r3 f0 f1 f2
  replace f0 := shm_779 f0
  replace f1 := shm_129 f1
  replace f2 := shm_1145 f2
  have cr_0_2 := fdq_269 hD hth r0
  have ad_2 : v_ad (n_v vs 2) = w_ar ws (n_v vs 0) 2 := congrArg v_ad f1
  have nf0 : fc_1 PRD (20, [0, 1, 3], [62, 199]) ws (vs) := by
    refine ⟨nf_in hl rfl, sgq_2004 ?_⟩
    · show WQF 199 [n_v vs 0, n_v vs 1, n_v vs 3] ws
      have zw := f2
      exact wq_in (zw) (by omega) (by omega) ⟨rfl, rfl⟩ ⟨Or.inr (pO_of f1 f0), trivial⟩
  refine ⟨(fun _ h => (by cases h)), [], trivial, ?_, (fun _ h => (by cases h))⟩
  rw [List.append_nil]
  exact List.forall_mem_cons.mpr ⟨⟨show (20 : Nat) < 100 from by decide, nf0⟩, (fun _ h => (by cases h))⟩
set_option maxHeartbeats 4000000 in
theorem vc_Ho_embedded_1_0 (x4 : Int) (planar_0o3 : Int) (k4 : 0 ≤ x4 ∧ x4 ≤ 1) (g1 : x4 = planar_0o3) (kz_3_0 : (-1) ≤ planar_0o3 ∧ planar_0o3 ≤ 1) : 0 ≤ planar_0o3 := by
  first | omega
def o_Ho_embedded_1 : or_T := (67, 6, [(3, (2, 0, 0, [5])), (4, (0, 0, 1, []))], [(9, [4, 3], [0])], [], [], [(20, [3], [50, 1, 0, 0, 0, 2, 0, 0, 2, 0, 0])], [], [])
theorem oo_Ho_embedded_1 {kA : Nat → ClassId} : or_ok PRD kA GG o_Ho_embedded_1 := by
  refine or_mk fun A ta ws vs hD hth hl => ?_
  intro t3 r3 t4 k4 f1
  replace f1 := shm_175 f1
  have g1 : v_iv (n_v vs 4) = w_fi ws (n_v vs 3) 0 := congrArg v_iv f1
  have kz_3_0 := fdq_82 hD hth r3
  have nf0 : fc_1 PRD (20, [3], [50, 1, 0, 0, 0, 2, 0, 0, 2, 0, 0]) ws (vs) := ⟨nf_in hl rfl, sgq_1553 (vc_Ho_embedded_1_0 (v_iv (n_v vs 4)) (w_fi ws (n_v vs 3) 0) k4 g1 kz_3_0)⟩
  refine ⟨(fun _ h => (by cases h)), [], trivial, ?_, (fun _ h => (by cases h))⟩
  rw [List.append_nil]
  exact List.forall_mem_cons.mpr ⟨⟨show (20 : Nat) < 100 from by decide, nf0⟩, (fun _ h => (by cases h))⟩
set_option maxHeartbeats 4000000 in
theorem vc_Ho_embedded_2_1 (x1 : Int) (gy : Int) (k1 : 0 ≤ x1 ∧ x1 ≤ 3) (ey2 : gy = x1) : 1 * gy + ((-1) * x1 + 0) ≤ 0 := by
  first | omega
set_option maxHeartbeats 4000000 in
theorem vc_Ho_embedded_2_2 (x1 : Int) (gy : Int) (k1 : 0 ≤ x1 ∧ x1 ≤ 3) (ey2 : gy = x1) : (-1) * gy + (1 * x1 + 0) ≤ 0 := by
  first | omega
set_option maxHeartbeats 4000000 in
theorem vc_Ho_embedded_2_4 (x4 : Int) (planar_0o3 : Int) (k4 : (-1) ≤ x4 ∧ x4 ≤ (-1)) (g3 : x4 = planar_0o3) (kz_3_0 : (-1) ≤ planar_0o3 ∧ planar_0o3 ≤ 1) : planar_0o3 = (-1) := by
  first | omega
def o_Ho_embedded_2 : or_T := (22, 8, [(0, (2, 0, 0, [12])), (1, (0, 0, 3, [])), (2, (2, 0, 0, [133])), (3, (2, 0, 0, [5])), (4, (0, -1, -1, [])), (5, (0, -1, -1, [])), (6, (2, 0, 0, [131])), (7, (2, 0, 0, [3]))], [(14, [7, 6, 1], []), (9, [6, 0], [0]), (7, [4, 5], [0]), (9, [4, 3], [0]), (14, [3, 2, 1], []), (9, [2, 0], [2]), (20, [0], [62, 0])], [], [(2, 0, 0, [12]), (0, 0, 3, [])], [(24, [0, 8], []), (23, [9, 1], [0, 1, -1]), (23, [9, 1], [0, -1, 1]), (20, [8, 9, 3, 7], [62, 455]), (20, [3], [50, 1, 0, 0, 1, 3, 2, 0, 0, 0, -1])], [], [])
theorem oo_Ho_embedded_2 {kA : Nat → ClassId} : or_ok PRD kA GG o_Ho_embedded_2 := by
  refine or_mk fun A ta ws vs hD hth hl => ?_
  intro t0 r0 t1 k1 t2 r2 t3 r3 t4 k4 t5 k5 t6 r6 t7 r7 f0 f1 f2 f3 f4 f5 f6
  replace f0 := shm_779 f0
  replace f1 := shm_175 f1
  replace f2 := shm_37 f2
  replace f3 := shm_175 f3
  replace f4 := shm_779 f4
  replace f5 := shm_129 f5
  replace f6 := shm_1145 f6
  have cr_0_0 := fdq_303 hD hth r0
  have cr_0_2 := fdq_269 hD hth r0
  have ad_6 : v_ad (n_v vs 6) = w_ar ws (n_v vs 0) 0 := congrArg v_ad f1
  have ad_2 : v_ad (n_v vs 2) = w_ar ws (n_v vs 0) 2 := congrArg v_ad f5
  have g3 : v_iv (n_v vs 4) = w_fi ws (n_v vs 3) 0 := congrArg v_iv f3
  have kz_3_0 := fdq_82 hD hth r3
  obtain ⟨y, ey, hy⟩ := iv_ex (ta := ta) (lo := 0) (hi := 3) (z := v_iv (n_v vs 1)) (by omega) (by omega) (by omega) (by omega)
  have ey2 : v_iv (Value.int y) = v_iv (n_v vs 1) := ey
  have ey3 : 0 ≤ v_iv (Value.int y) ∧ v_iv (Value.int y) ≤ 3 := tv_rng hy
  have e_0 : n_v (vs ++ [n_v vs 0, Value.int y]) 0 = n_v vs 0 := n_v_old (by rw [hl]; decide)
  have e_1 : n_v (vs ++ [n_v vs 0, Value.int y]) 1 = n_v vs 1 := n_v_old (by rw [hl]; decide)
  have e_3 : n_v (vs ++ [n_v vs 0, Value.int y]) 3 = n_v vs 3 := n_v_old (by rw [hl]; decide)
  have e_7 : n_v (vs ++ [n_v vs 0, Value.int y]) 7 = n_v vs 7 := n_v_old (by rw [hl]; decide)
  have e_8 : n_v (vs ++ [n_v vs 0, Value.int y]) 8 = n_v vs 0 := n_v_new0 hl
  have e_9 : n_v (vs ++ [n_v vs 0, Value.int y]) 9 = Value.int y := n_v_new1 hl
  have nf0 : fc_1 PRD (24, [0, 8], []) ws (vs ++ [n_v vs 0, Value.int y]) := by
    refine ⟨nf_inA hl rfl, sgq_5 ?_⟩
    · show n_v (vs ++ [n_v vs 0, Value.int y]) 0 = n_v (vs ++ [n_v vs 0, Value.int y]) 8
      first | rfl | simp only [e_0, e_8]
  have nf1 : fc_1 PRD (23, [9, 1], [0, 1, -1]) ws (vs ++ [n_v vs 0, Value.int y]) := by
    refine ⟨nf_inA hl rfl, sgq_7 ?_⟩
    · show 1 * v_iv (n_v (vs ++ [n_v vs 0, Value.int y]) 9) + ((-1) * v_iv (n_v (vs ++ [n_v vs 0, Value.int y]) 1) + 0) ≤ 0
      simp only [e_1, e_9]
      exact vc_Ho_embedded_2_1 (v_iv (n_v vs 1)) (v_iv (Value.int y)) k1 ey2
  have nf2 : fc_1 PRD (23, [9, 1], [0, -1, 1]) ws (vs ++ [n_v vs 0, Value.int y]) := by
    refine ⟨nf_inA hl rfl, sgq_22 ?_⟩
    · show (-1) * v_iv (n_v (vs ++ [n_v vs 0, Value.int y]) 9) + (1 * v_iv (n_v (vs ++ [n_v vs 0, Value.int y]) 1) + 0) ≤ 0
      simp only [e_1, e_9]
      exact vc_Ho_embedded_2_2 (v_iv (n_v vs 1)) (v_iv (Value.int y)) k1 ey2
  have nf3 : fc_1 PRD (20, [8, 9, 3, 7], [62, 455]) ws (vs ++ [n_v vs 0, Value.int y]) := by
    refine ⟨nf_inA hl rfl, sgq_2005 ?_⟩
    · show WQF 455 [n_v (vs ++ [n_v vs 0, Value.int y]) 8, n_v (vs ++ [n_v vs 0, Value.int y]) 9, n_v (vs ++ [n_v vs 0, Value.int y]) 3, n_v (vs ++ [n_v vs 0, Value.int y]) 7] ws
      simp only [e_3, e_7, e_8, e_9]
      have zw := f6
      exact WQF_int (wq_in (zw) (by omega) (by omega) ⟨rfl, rfl⟩ ⟨Or.inr (pO_of f5 f4), Or.inr (pO_of f1 f0), trivial⟩) ey2
  have nf4 : fc_1 PRD (20, [3], [50, 1, 0, 0, 1, 3, 2, 0, 0, 0, -1]) ws (vs ++ [n_v vs 0, Value.int y]) := by
    refine ⟨nf_inA hl rfl, sgq_416 ?_⟩
    · show w_fi ws (n_v (vs ++ [n_v vs 0, Value.int y]) 3) 0 = (-1)
      rw [e_3]
      exact vc_Ho_embedded_2_4 (v_iv (n_v vs 4)) (w_fi ws (n_v vs 3) 0) k4 g3 kz_3_0
  exact ⟨(fun _ h => (by cases h)), [n_v vs 0, Value.int y], ag_two t0 hy, List.forall_mem_cons.mpr ⟨⟨show (24 : Nat) < 100 from by decide, nf0⟩, List.forall_mem_cons.mpr ⟨⟨show (23 : Nat) < 100 from by decide, nf1⟩, List.forall_mem_cons.mpr ⟨⟨show (23 : Nat) < 100 from by decide, nf2⟩, List.forall_mem_cons.mpr ⟨⟨show (20 : Nat) < 100 from by decide, nf3⟩, List.forall_mem_cons.mpr ⟨⟨show (20 : Nat) < 100 from by decide, nf4⟩, (fun _ h => (by cases h))⟩⟩⟩⟩⟩, (fun _ h => (by cases h))⟩
set_option maxHeartbeats 4000000 in
theorem vc_Ho_embedded_3_1 (x1 : Int) (x9 : Int) (gy : Int) (k1 : 0 ≤ x1 ∧ x1 ≤ 3) (k9 : 0 ≤ x9 ∧ x9 ≤ 3) (f2 : 1 * x9 + ((-1) * x1 + 0) ≤ 0) (f3 : (-1) * x9 + (1 * x1 + 0) ≤ 0) (ey2 : gy = x1) : 1 * gy + ((-1) * x1 + 0) ≤ 0 := by
  first | omega
set_option maxHeartbeats 4000000 in
theorem vc_Ho_embedded_3_2 (x1 : Int) (x9 : Int) (gy : Int) (k1 : 0 ≤ x1 ∧ x1 ≤ 3) (k9 : 0 ≤ x9 ∧ x9 ≤ 3) (f2 : 1 * x9 + ((-1) * x1 + 0) ≤ 0) (f3 : (-1) * x9 + (1 * x1 + 0) ≤ 0) (ey2 : gy = x1) : (-1) * gy + (1 * x1 + 0) ≤ 0 := by
  first | omega
set_option maxHeartbeats 4000000 in
theorem vc_Ho_embedded_3_4 (tail_0o3 : Int → Int) (head_0o3 : Int → Int) (near_0o3 : Int → Int) (nodes_0o3 : Int) (edges_0o3 : Int) (f6 : NOK (nodes_0o3) (edges_0o3) (tail_0o3) (head_0o3) (near_0o3)) (kz_3_5 : 0 ≤ nodes_0o3 ∧ nodes_0o3 ≤ 24) (kz_3_6 : 0 ≤ edges_0o3 ∧ edges_0o3 ≤ 72) : NOK (nodes_0o3) (edges_0o3) (tail_0o3) (head_0o3) (near_0o3) := by
  first | assumption
def o_Ho_embedded_3 : or_T := (31, 11, [(0, (2, 0, 0, [12])), (1, (0, 0, 3, [])), (3, (2, 0, 0, [5])), (4, (0, -1, -1, [])), (5, (0, -1, -1, [])), (8, (2, 0, 0, [12])), (9, (0, 0, 3, []))], [(9, [4, 3], [0]), (24, [0, 8], []), (23, [9, 1], [0, 1, -1]), (23, [9, 1], [0, -1, 1]), (20, [3], [50, 1, 0, 0, 1, 3, 2, 0, 0, 0, -1]), (20, [8, 9, 3], [62, 243]), (20, [3], [60, 2, 3, 595, 5, 6, 7, 8, 9]), (102, [9], [56819513521887571211190272, 5005, 5006, 5013]), (23, [9, 1], [0, 1, -1]), (23, [9, 1], [0, -1, 1]), (7, [4, 5], [0])], [], [(2, 0, 0, [12]), (0, 0, 3, [])], [(24, [0, 11], []), (23, [12, 1], [0, 1, -1]), (23, [12, 1], [0, -1, 1]), (20, [11, 12, 3], [62, 243]), (20, [3], [60, 2, 3, 595, 5, 6, 7, 8, 9])], [], [])
theorem oo_Ho_embedded_3 {kA : Nat → ClassId} : or_ok PRD kA GG o_Ho_embedded_3 := by
  refine or_mk fun A ta ws vs hD hth hl => ?_
  intro t0 r0 t1 k1 t3 r3 t4 k4 t5 k5 t8 r8 t9 k9 f0 f1 f2 f3 f4 f5 f6 ta1 w1 le1 s1 f8 f9 f10
  replace f0 := shm_175 f0
  replace f1 := shm_5 f1
  replace f2 := shm_7 f2
  replace f3 := shm_22 f3
  replace f4 := shm_416 f4
  replace f5 := shm_2006 f5
  replace f6 := shm_421 f6
  replace f8 := shm_7 f8
  replace f9 := shm_22 f9
  replace f10 := shm_37 f10
  have q8 : n_v vs 8 = n_v vs 0 := f1.symm
  simp only [q8] at f5
  have cr_3_7 := fdq_63 hD hth r3
  have cr_3_8 := fdq_64 hD hth r3
  have cr_3_9 := fdq_84 hD hth r3
  have g0 : v_iv (n_v vs 4) = w_fi ws (n_v vs 3) 0 := congrArg v_iv f0
  have hK_3_7 := elq_18 hD hth cr_3_7
  have hK_3_8 := elq_19 hD hth cr_3_8
  have hK_3_9 := elq_25 hD hth cr_3_9
  have kz_3_0 := fdq_82 hD hth r3
  have kz_3_5 := fdq_86 hD hth r3
  have kz_3_6 := fdq_65 hD hth r3
  obtain ⟨y, ey, hy⟩ := iv_ex (ta := ta) (lo := 0) (hi := 3) (z := v_iv (n_v vs 1)) (by omega) (by omega) (by omega) (by omega)
  have ey2 : v_iv (Value.int y) = v_iv (n_v vs 1) := ey
  have ey3 : 0 ≤ v_iv (Value.int y) ∧ v_iv (Value.int y) ≤ 3 := tv_rng hy
  have e_0 : n_v (vs ++ [n_v vs 0, Value.int y]) 0 = n_v vs 0 := n_v_old (by rw [hl]; decide)
  have e_1 : n_v (vs ++ [n_v vs 0, Value.int y]) 1 = n_v vs 1 := n_v_old (by rw [hl]; decide)
  have e_3 : n_v (vs ++ [n_v vs 0, Value.int y]) 3 = n_v vs 3 := n_v_old (by rw [hl]; decide)
  have e_11 : n_v (vs ++ [n_v vs 0, Value.int y]) 11 = n_v vs 0 := n_v_new0 hl
  have e_12 : n_v (vs ++ [n_v vs 0, Value.int y]) 12 = Value.int y := n_v_new1 hl
  have nf0 : fc_1 PRD (24, [0, 11], []) ws (vs ++ [n_v vs 0, Value.int y]) := by
    refine ⟨nf_inA hl rfl, sgq_5 ?_⟩
    · show n_v (vs ++ [n_v vs 0, Value.int y]) 0 = n_v (vs ++ [n_v vs 0, Value.int y]) 11
      first | rfl | simp only [e_0, e_11, q8]
  have nf1 : fc_1 PRD (23, [12, 1], [0, 1, -1]) ws (vs ++ [n_v vs 0, Value.int y]) := by
    refine ⟨nf_inA hl rfl, sgq_7 ?_⟩
    · show 1 * v_iv (n_v (vs ++ [n_v vs 0, Value.int y]) 12) + ((-1) * v_iv (n_v (vs ++ [n_v vs 0, Value.int y]) 1) + 0) ≤ 0
      simp only [e_1, e_12]
      exact vc_Ho_embedded_3_1 (v_iv (n_v vs 1)) (v_iv (n_v vs 9)) (v_iv (Value.int y)) k1 k9 f2 f3 ey2
  have nf2 : fc_1 PRD (23, [12, 1], [0, -1, 1]) ws (vs ++ [n_v vs 0, Value.int y]) := by
    refine ⟨nf_inA hl rfl, sgq_22 ?_⟩
    · show (-1) * v_iv (n_v (vs ++ [n_v vs 0, Value.int y]) 12) + (1 * v_iv (n_v (vs ++ [n_v vs 0, Value.int y]) 1) + 0) ≤ 0
      simp only [e_1, e_12]
      exact vc_Ho_embedded_3_2 (v_iv (n_v vs 1)) (v_iv (n_v vs 9)) (v_iv (Value.int y)) k1 k9 f2 f3 ey2
  have nf3 : fc_1 PRD (20, [11, 12, 3], [62, 243]) ws (vs ++ [n_v vs 0, Value.int y]) := by
    refine ⟨nf_inA hl rfl, sgq_2006 ?_⟩
    · show WQF 243 [n_v (vs ++ [n_v vs 0, Value.int y]) 11, n_v (vs ++ [n_v vs 0, Value.int y]) 12, n_v (vs ++ [n_v vs 0, Value.int y]) 3] ws
      simp only [e_3, e_11, e_12]
      have zw := f5
      first | rw [show n_v vs 8 = n_v vs 0 from (by first | exact f1 | exact f1.symm)] at zw | skip
      exact WQF_int (WQF_int zw (show v_iv (n_v vs 1) = v_iv (n_v vs 9) by omega)) ey2
  have nf4 : fc_1 PRD (20, [3], [60, 2, 3, 595, 5, 6, 7, 8, 9]) ws (vs ++ [n_v vs 0, Value.int y]) := by
    refine ⟨nf_inA hl rfl, sgq_421 ?_⟩
    · show NOK (w_fi ws (n_v (vs ++ [n_v vs 0, Value.int y]) 3) 5) (w_fi ws (n_v (vs ++ [n_v vs 0, Value.int y]) 3) 6) (w_ei ws (w_ar ws (n_v (vs ++ [n_v vs 0, Value.int y]) 3) 7)) (w_ei ws (w_ar ws (n_v (vs ++ [n_v vs 0, Value.int y]) 3) 8)) (w_ei ws (w_ar ws (n_v (vs ++ [n_v vs 0, Value.int y]) 3) 9))
      rw [e_3]
      exact vc_Ho_embedded_3_4 (w_ei ws (w_ar ws (n_v vs 3) 7)) (w_ei ws (w_ar ws (n_v vs 3) 8)) (w_ei ws (w_ar ws (n_v vs 3) 9)) (w_fi ws (n_v vs 3) 5) (w_fi ws (n_v vs 3) 6) f6 kz_3_5 kz_3_6
  exact ⟨(fun _ h => (by cases h)), [n_v vs 0, Value.int y], ag_two t0 hy, List.forall_mem_cons.mpr ⟨⟨show (24 : Nat) < 100 from by decide, nf0⟩, List.forall_mem_cons.mpr ⟨⟨show (23 : Nat) < 100 from by decide, nf1⟩, List.forall_mem_cons.mpr ⟨⟨show (23 : Nat) < 100 from by decide, nf2⟩, List.forall_mem_cons.mpr ⟨⟨show (20 : Nat) < 100 from by decide, nf3⟩, List.forall_mem_cons.mpr ⟨⟨show (20 : Nat) < 100 from by decide, nf4⟩, (fun _ h => (by cases h))⟩⟩⟩⟩⟩, (fun _ h => (by cases h))⟩
def o_Ho_embedded_4 : or_T := (34, 14, [(0, (2, 0, 0, [12])), (1, (0, 0, 3, [])), (3, (2, 0, 0, [5])), (4, (0, -1, -1, [])), (5, (0, -1, -1, [])), (8, (2, 0, 0, [12])), (9, (0, 0, 3, [])), (11, (2, 0, 0, [12])), (12, (0, 0, 3, [])), (13, (0, 0, 1, []))], [(9, [4, 3], [0]), (24, [0, 11], []), (23, [12, 1], [0, 1, -1]), (23, [12, 1], [0, -1, 1]), (20, [3], [60, 2, 3, 595, 5, 6, 7, 8, 9]), (24, [0, 8], []), (23, [9, 1], [0, 1, -1]), (23, [9, 1], [0, -1, 1]), (20, [3], [50, 1, 0, 0, 1, 3, 2, 0, 0, 0, -1]), (20, [3], [60, 2, 3, 595, 5, 6, 7, 8, 9]), (20, [11, 12, 3], [62, 243]), (20, [3, 13], [60, 2, 3, 632, 5, 6, 9, 12, 16]), (102, [12], [599627206528856207757672448, 1000, 1005, 1006, 1007, 1015, 1016, 1017, 1018, 5013]), (23, [12, 1], [0, 1, -1]), (23, [12, 1], [0, -1, 1]), (23, [9, 1], [0, 1, -1]), (23, [9, 1], [0, -1, 1]), (102, [9], [56819513521887571211190272, 5005, 5006, 5013]), (23, [9, 1], [0, 1, -1]), (23, [9, 1], [0, -1, 1]), (7, [4, 5], [0])], [], [], [(20, [0, 1, 3], [62, 243])], [], [])
theorem oo_Ho_embedded_4 {kA : Nat → ClassId} : or_ok PRD kA GG o_Ho_embedded_4 := by
  refine or_mk fun A ta ws vs hD hth hl => ?_
  intro t0 r0 t1 k1 t3 r3 t4 k4 t5 k5 t8 r8 t9 k9 t11 r11 t12 k12 t13 k13 f0 f1 f2 f3 f4 f5 f6 f7 f8 f9 f10 f11 ta1 w1 le1 s1 f13 f14 f15 f16 ta2 w2 le2 s2 f18 f19 f20
  replace f0 := shm_175 f0
  replace f1 := shm_5 f1
  replace f2 := shm_7 f2
  replace f3 := shm_22 f3
  replace f4 := shm_421 f4
  replace f5 := shm_5 f5
  replace f6 := shm_7 f6
  replace f7 := shm_22 f7
  replace f8 := shm_416 f8
  replace f9 := shm_421 f9
  replace f10 := shm_2006 f10
  replace f11 := shm_1991 f11
  replace f13 := shm_7 f13
  replace f14 := shm_22 f14
  replace f15 := shm_7 f15
  replace f16 := shm_22 f16
  replace f18 := shm_7 f18
  replace f19 := shm_22 f19
  replace f20 := shm_37 f20
  have q11 : n_v vs 11 = n_v vs 0 := f1.symm
  have q8 : n_v vs 8 = n_v vs 0 := f5.symm
  simp only [q11] at f10
  have cr_3_7 := fdq_63 hD hth r3
  have cr_3_8 := fdq_64 hD hth r3
  have cr_3_9 := fdq_84 hD hth r3
  have cr_3_12 := fdq_235 hD hth r3
  have cr_3_16 := fdq_95 hD hth r3
  have g0 : v_iv (n_v vs 4) = w_fi ws (n_v vs 3) 0 := congrArg v_iv f0
  have hK_3_7 := elq_18 hD hth cr_3_7
  have hK_3_8 := elq_19 hD hth cr_3_8
  have hK_3_9 := elq_25 hD hth cr_3_9
  have hK_3_12 := elq_148 hD hth cr_3_12
  have hK_3_16 := elq_44 hD hth cr_3_16
  have kz_3_0 := fdq_82 hD hth r3
  have kz_3_5 := fdq_86 hD hth r3
  have kz_3_6 := fdq_65 hD hth r3
  have nf0 : fc_1 PRD (20, [0, 1, 3], [62, 243]) ws (vs) := by
    refine ⟨nf_in hl rfl, sgq_2006 ?_⟩
    · show WQF 243 [n_v vs 0, n_v vs 1, n_v vs 3] ws
      have zw := f10
      first | rw [show n_v vs 11 = n_v vs 0 from (by first | exact f1 | exact f1.symm)] at zw | skip
      exact WQF_int zw (show v_iv (n_v vs 1) = v_iv (n_v vs 12) by omega)
  refine ⟨(fun _ h => (by cases h)), [], trivial, ?_, (fun _ h => (by cases h))⟩
  rw [List.append_nil]
  exact List.forall_mem_cons.mpr ⟨⟨show (20 : Nat) < 100 from by decide, nf0⟩, (fun _ h => (by cases h))⟩
def o_Ho_embedded_5 : or_T := (45, 15, [(0, (2, 0, 0, [12])), (1, (0, 0, 3, [])), (3, (2, 0, 0, [5])), (13, (0, 0, 0, [])), (14, (0, 0, 0, []))], [(101, [3, 14], [0]), (20, [0, 1, 3], [62, 243]), (20, [3, 13], [60, 2, 3, 632, 5, 6, 9, 12, 16])], [], [], [(20, [0, 1, 3], [62, 247])], [], [])
theorem oo_Ho_embedded_5 {kA : Nat → ClassId} : or_ok PRD kA GG o_Ho_embedded_5 := by
  refine or_mk fun A ta ws vs hD hth hl => ?_
  intro t0 r0 t1 k1 t3 r3 t13 k13 t14 k14 ta1 w1 le1 s1 f1 f2
  have s1 : (∀ b j, w_el ws b j = w_el w1 b j) ∧ ∀ b j, w_fd ws b j = if b = v_ad (n_v vs 3) ∧ j = 0 then n_v vs 14 else w_fd w1 b j := s1.2
  replace f1 := shm_2006 f1
  replace f2 := shm_1991 f2
  have nf0 : fc_1 PRD (20, [0, 1, 3], [62, 247]) ws (vs) := by
    refine ⟨nf_in hl rfl, sgq_2007 ?_⟩
    · show WQF 247 [n_v vs 0, n_v vs 1, n_v vs 3] ws
      obtain ⟨d9, c9⟩ := fd_some hD hth r3 (show GG[5]? = some GG_5 from rfl) (by decide) (k := 9) rfl rfl
      obtain ⟨d12, c12⟩ := fd_some hD hth r3 (show GG[5]? = some GG_5 from rfl) (by decide) (k := 12) rfl rfl
      obtain ⟨d16, c16⟩ := fd_some hD hth r3 (show GG[5]? = some GG_5 from rfl) (by decide) (k := 16) rfl rfl
      exact wq_planar hD hth (by decide +kernel) r0 r3 f1 c9 c12 c16 (Or.inl (show v_iv (n_v vs 14) = 0 by omega)) s1
  refine ⟨(fun _ h => (by cases h)), [], trivial, ?_, (fun _ h => (by cases h))⟩
  rw [List.append_nil]
  exact List.forall_mem_cons.mpr ⟨⟨show (20 : Nat) < 100 from by decide, nf0⟩, (fun _ h => (by cases h))⟩
set_option maxHeartbeats 4000000 in
theorem vc_Ho_embedded_6_1 (x1 : Int) (x12 : Int) (tail_0o3 : Int → Int) (head_0o3 : Int → Int) (near_0o3 : Int → Int) (nodes_0o3 : Int) (edges_0o3 : Int) (first_0o3 : Int → Int) (faceOf_0o3 : Int → Int) (tail_1o3 : Int → Int) (head_1o3 : Int → Int) (near_1o3 : Int → Int) (nodes_1o3 : Int) (edges_1o3 : Int) (first_1o3 : Int → Int) (faceOf_1o3 : Int → Int) (graphs_0 : Int → Int) (graphs_1 : Int → Int) (gy : Int) (k1 : 0 ≤ x1 ∧ x1 ≤ 3) (k12 : 0 ≤ x12 ∧ x12 ≤ 3) (f6 : 1 * x12 + ((-1) * x1 + 0) ≤ 0) (f7 : (-1) * x12 + (1 * x1 + 0) ≤ 0) (fe_3_5_1 : nodes_0o3 = nodes_1o3) (fe_3_6_1 : edges_0o3 = edges_1o3) (hE_0_0_1 : ∀ j : Int, graphs_0 j = graphs_1 j) (hE_3_7_1 : ∀ j : Int, tail_0o3 j = tail_1o3 j) (hE_3_8_1 : ∀ j : Int, head_0o3 j = head_1o3 j) (hE_3_9_1 : ∀ j : Int, near_0o3 j = near_1o3 j) (hE_3_12_1 : ∀ j : Int, first_0o3 j = first_1o3 j) (hE_3_16_1 : ∀ j : Int, faceOf_0o3 j = faceOf_1o3 j) (kz_3_5 : 0 ≤ nodes_0o3 ∧ nodes_0o3 ≤ 24) (kz_3_6 : 0 ≤ edges_0o3 ∧ edges_0o3 ≤ 72) (ey2 : gy = x1) : 1 * gy + ((-1) * x1 + 0) ≤ 0 := by
  subst fe_3_5_1
  subst fe_3_6_1
  have e_hE_0_0_1 := funext hE_0_0_1; subst e_hE_0_0_1
  have e_hE_3_7_1 := funext hE_3_7_1; subst e_hE_3_7_1
  have e_hE_3_8_1 := funext hE_3_8_1; subst e_hE_3_8_1
  have e_hE_3_9_1 := funext hE_3_9_1; subst e_hE_3_9_1
  have e_hE_3_12_1 := funext hE_3_12_1; subst e_hE_3_12_1
  have e_hE_3_16_1 := funext hE_3_16_1; subst e_hE_3_16_1
  first | omega
set_option maxHeartbeats 4000000 in
theorem vc_Ho_embedded_6_2 (x1 : Int) (x12 : Int) (tail_0o3 : Int → Int) (head_0o3 : Int → Int) (near_0o3 : Int → Int) (nodes_0o3 : Int) (edges_0o3 : Int) (first_0o3 : Int → Int) (faceOf_0o3 : Int → Int) (tail_1o3 : Int → Int) (head_1o3 : Int → Int) (near_1o3 : Int → Int) (nodes_1o3 : Int) (edges_1o3 : Int) (first_1o3 : Int → Int) (faceOf_1o3 : Int → Int) (graphs_0 : Int → Int) (graphs_1 : Int → Int) (gy : Int) (k1 : 0 ≤ x1 ∧ x1 ≤ 3) (k12 : 0 ≤ x12 ∧ x12 ≤ 3) (f6 : 1 * x12 + ((-1) * x1 + 0) ≤ 0) (f7 : (-1) * x12 + (1 * x1 + 0) ≤ 0) (fe_3_5_1 : nodes_0o3 = nodes_1o3) (fe_3_6_1 : edges_0o3 = edges_1o3) (hE_0_0_1 : ∀ j : Int, graphs_0 j = graphs_1 j) (hE_3_7_1 : ∀ j : Int, tail_0o3 j = tail_1o3 j) (hE_3_8_1 : ∀ j : Int, head_0o3 j = head_1o3 j) (hE_3_9_1 : ∀ j : Int, near_0o3 j = near_1o3 j) (hE_3_12_1 : ∀ j : Int, first_0o3 j = first_1o3 j) (hE_3_16_1 : ∀ j : Int, faceOf_0o3 j = faceOf_1o3 j) (kz_3_5 : 0 ≤ nodes_0o3 ∧ nodes_0o3 ≤ 24) (kz_3_6 : 0 ≤ edges_0o3 ∧ edges_0o3 ≤ 72) (ey2 : gy = x1) : (-1) * gy + (1 * x1 + 0) ≤ 0 := by
  subst fe_3_5_1
  subst fe_3_6_1
  have e_hE_0_0_1 := funext hE_0_0_1; subst e_hE_0_0_1
  have e_hE_3_7_1 := funext hE_3_7_1; subst e_hE_3_7_1
  have e_hE_3_8_1 := funext hE_3_8_1; subst e_hE_3_8_1
  have e_hE_3_9_1 := funext hE_3_9_1; subst e_hE_3_9_1
  have e_hE_3_12_1 := funext hE_3_12_1; subst e_hE_3_12_1
  have e_hE_3_16_1 := funext hE_3_16_1; subst e_hE_3_16_1
  first | omega
set_option maxHeartbeats 4000000 in
theorem vc_Ho_embedded_6_4 (x14 : Int) (planar_0o3 : Int) (tail_0o3 : Int → Int) (head_0o3 : Int → Int) (near_0o3 : Int → Int) (nodes_0o3 : Int) (edges_0o3 : Int) (first_0o3 : Int → Int) (faceOf_0o3 : Int → Int) (tail_1o3 : Int → Int) (head_1o3 : Int → Int) (near_1o3 : Int → Int) (nodes_1o3 : Int) (edges_1o3 : Int) (first_1o3 : Int → Int) (faceOf_1o3 : Int → Int) (graphs_0 : Int → Int) (graphs_1 : Int → Int) (k14 : 0 ≤ x14 ∧ x14 ≤ 0) (g3 : x14 = planar_0o3) (fe_3_5_1 : nodes_0o3 = nodes_1o3) (fe_3_6_1 : edges_0o3 = edges_1o3) (hE_0_0_1 : ∀ j : Int, graphs_0 j = graphs_1 j) (hE_3_7_1 : ∀ j : Int, tail_0o3 j = tail_1o3 j) (hE_3_8_1 : ∀ j : Int, head_0o3 j = head_1o3 j) (hE_3_9_1 : ∀ j : Int, near_0o3 j = near_1o3 j) (hE_3_12_1 : ∀ j : Int, first_0o3 j = first_1o3 j) (hE_3_16_1 : ∀ j : Int, faceOf_0o3 j = faceOf_1o3 j) (kz_3_0 : (-1) ≤ planar_0o3 ∧ planar_0o3 ≤ 1) (kz_3_5 : 0 ≤ nodes_0o3 ∧ nodes_0o3 ≤ 24) (kz_3_6 : 0 ≤ edges_0o3 ∧ edges_0o3 ≤ 72) : planar_0o3 = 0 := by
  subst fe_3_5_1
  subst fe_3_6_1
  have e_hE_0_0_1 := funext hE_0_0_1; subst e_hE_0_0_1
  have e_hE_3_7_1 := funext hE_3_7_1; subst e_hE_3_7_1
  have e_hE_3_8_1 := funext hE_3_8_1; subst e_hE_3_8_1
  have e_hE_3_9_1 := funext hE_3_9_1; subst e_hE_3_9_1
  have e_hE_3_12_1 := funext hE_3_12_1; subst e_hE_3_12_1
  have e_hE_3_16_1 := funext hE_3_16_1; subst e_hE_3_16_1
  first | omega
def o_Ho_embedded_6 : or_T := (63, 17, [(0, (2, 0, 0, [12])), (1, (0, 0, 3, [])), (3, (2, 0, 0, [5])), (12, (0, 0, 3, [])), (14, (0, 0, 0, []))], [(14, [16, 15, 1], []), (9, [15, 0], [0]), (9, [14, 3], [0]), (20, [0, 1, 3], [62, 247]), (24, [0, 11], []), (23, [12, 1], [0, 1, -1]), (23, [12, 1], [0, -1, 1]), (24, [0, 8], []), (101, [3, 14], [0])], [], [(2, 0, 0, [12]), (0, 0, 3, [])], [(24, [0, 17], []), (23, [18, 1], [0, 1, -1]), (23, [18, 1], [0, -1, 1]), (20, [17, 18, 16, 3], [62, 887]), (20, [3], [50, 1, 0, 0, 1, 3, 2, 0, 0, 0, 0])], [], [])
theorem oo_Ho_embedded_6 {kA : Nat → ClassId} : or_ok PRD kA GG o_Ho_embedded_6 := by
  refine or_mk fun A ta ws vs hD hth hl => ?_
  intro t0 r0 t1 k1 t3 r3 t12 k12 t14 k14 f0 f1 f3 f4 f5 f6 f7 f9 ta1 w1 le1 s1
  replace f0 := shm_779 f0
  replace f1 := shm_175 f1
  replace f3 := shm_175 f3
  replace f4 := shm_2007 f4
  replace f5 := shm_5 f5
  replace f6 := shm_7 f6
  replace f7 := shm_22 f7
  replace f9 := shm_5 f9
  have s1 : (∀ b j, w_el ws b j = w_el w1 b j) ∧ ∀ b j, w_fd ws b j = if b = v_ad (n_v vs 3) ∧ j = 0 then n_v vs 14 else w_fd w1 b j := s1.2
  have q11 : n_v vs 11 = n_v vs 0 := f5.symm
  have q8 : n_v vs 8 = n_v vs 0 := f9.symm
  have g3 : v_iv (n_v vs 14) = w_fi ws (n_v vs 3) 0 := congrArg v_iv f3
  have fe_3_5_1 : w_fi ws (n_v vs 3) 5 = w_fi w1 (n_v vs 3) 5 := by show v_iv (w_fd _ _ _) = v_iv (w_fd _ _ _); rw [s1.2, if_neg (fun e => absurd e.2 (by decide))]
  have fe_3_6_1 : w_fi ws (n_v vs 3) 6 = w_fi w1 (n_v vs 3) 6 := by show v_iv (w_fd _ _ _) = v_iv (w_fd _ _ _); rw [s1.2, if_neg (fun e => absurd e.2 (by decide))]
  have hE_0_0_1 : ∀ j : Int, w_ei ws (w_ar ws (n_v vs 0) 0) j = w_ei w1 (w_ar ws (n_v vs 0) 0) j := fun j => s1.1 _ _
  have hE_3_7_1 : ∀ j : Int, w_ei ws (w_ar ws (n_v vs 3) 7) j = w_ei w1 (w_ar ws (n_v vs 3) 7) j := fun j => s1.1 _ _
  have hE_3_8_1 : ∀ j : Int, w_ei ws (w_ar ws (n_v vs 3) 8) j = w_ei w1 (w_ar ws (n_v vs 3) 8) j := fun j => s1.1 _ _
  have hE_3_9_1 : ∀ j : Int, w_ei ws (w_ar ws (n_v vs 3) 9) j = w_ei w1 (w_ar ws (n_v vs 3) 9) j := fun j => s1.1 _ _
  have hE_3_12_1 : ∀ j : Int, w_ei ws (w_ar ws (n_v vs 3) 12) j = w_ei w1 (w_ar ws (n_v vs 3) 12) j := fun j => s1.1 _ _
  have hE_3_16_1 : ∀ j : Int, w_ei ws (w_ar ws (n_v vs 3) 16) j = w_ei w1 (w_ar ws (n_v vs 3) 16) j := fun j => s1.1 _ _
  have kz_3_0 := fdq_82 hD hth r3
  have kz_3_5 := fdq_86 hD hth r3
  have kz_3_6 := fdq_65 hD hth r3
  obtain ⟨y, ey, hy⟩ := iv_ex (ta := ta) (lo := 0) (hi := 3) (z := v_iv (n_v vs 1)) (by omega) (by omega) (by omega) (by omega)
  have ey2 : v_iv (Value.int y) = v_iv (n_v vs 1) := ey
  have ey3 : 0 ≤ v_iv (Value.int y) ∧ v_iv (Value.int y) ≤ 3 := tv_rng hy
  have e_0 : n_v (vs ++ [n_v vs 0, Value.int y]) 0 = n_v vs 0 := n_v_old (by rw [hl]; decide)
  have e_1 : n_v (vs ++ [n_v vs 0, Value.int y]) 1 = n_v vs 1 := n_v_old (by rw [hl]; decide)
  have e_3 : n_v (vs ++ [n_v vs 0, Value.int y]) 3 = n_v vs 3 := n_v_old (by rw [hl]; decide)
  have e_16 : n_v (vs ++ [n_v vs 0, Value.int y]) 16 = n_v vs 16 := n_v_old (by rw [hl]; decide)
  have e_17 : n_v (vs ++ [n_v vs 0, Value.int y]) 17 = n_v vs 0 := n_v_new0 hl
  have e_18 : n_v (vs ++ [n_v vs 0, Value.int y]) 18 = Value.int y := n_v_new1 hl
  have nf0 : fc_1 PRD (24, [0, 17], []) ws (vs ++ [n_v vs 0, Value.int y]) := by
    refine ⟨nf_inA hl rfl, sgq_5 ?_⟩
    · show n_v (vs ++ [n_v vs 0, Value.int y]) 0 = n_v (vs ++ [n_v vs 0, Value.int y]) 17
      first | rfl | simp only [e_0, e_17, q11, q8]
  have nf1 : fc_1 PRD (23, [18, 1], [0, 1, -1]) ws (vs ++ [n_v vs 0, Value.int y]) := by
    refine ⟨nf_inA hl rfl, sgq_7 ?_⟩
    · show 1 * v_iv (n_v (vs ++ [n_v vs 0, Value.int y]) 18) + ((-1) * v_iv (n_v (vs ++ [n_v vs 0, Value.int y]) 1) + 0) ≤ 0
      simp only [e_1, e_18]
      exact vc_Ho_embedded_6_1 (v_iv (n_v vs 1)) (v_iv (n_v vs 12)) (w_ei ws (w_ar ws (n_v vs 3) 7)) (w_ei ws (w_ar ws (n_v vs 3) 8)) (w_ei ws (w_ar ws (n_v vs 3) 9)) (w_fi ws (n_v vs 3) 5) (w_fi ws (n_v vs 3) 6) (w_ei ws (w_ar ws (n_v vs 3) 12)) (w_ei ws (w_ar ws (n_v vs 3) 16)) (w_ei w1 (w_ar ws (n_v vs 3) 7)) (w_ei w1 (w_ar ws (n_v vs 3) 8)) (w_ei w1 (w_ar ws (n_v vs 3) 9)) (w_fi w1 (n_v vs 3) 5) (w_fi w1 (n_v vs 3) 6) (w_ei w1 (w_ar ws (n_v vs 3) 12)) (w_ei w1 (w_ar ws (n_v vs 3) 16)) (w_ei ws (w_ar ws (n_v vs 0) 0)) (w_ei w1 (w_ar ws (n_v vs 0) 0)) (v_iv (Value.int y)) k1 k12 f6 f7 fe_3_5_1 fe_3_6_1 hE_0_0_1 hE_3_7_1 hE_3_8_1 hE_3_9_1 hE_3_12_1 hE_3_16_1 kz_3_5 kz_3_6 ey2
  have nf2 : fc_1 PRD (23, [18, 1], [0, -1, 1]) ws (vs ++ [n_v vs 0, Value.int y]) := by
    refine ⟨nf_inA hl rfl, sgq_22 ?_⟩
    · show (-1) * v_iv (n_v (vs ++ [n_v vs 0, Value.int y]) 18) + (1 * v_iv (n_v (vs ++ [n_v vs 0, Value.int y]) 1) + 0) ≤ 0
      simp only [e_1, e_18]
      exact vc_Ho_embedded_6_2 (v_iv (n_v vs 1)) (v_iv (n_v vs 12)) (w_ei ws (w_ar ws (n_v vs 3) 7)) (w_ei ws (w_ar ws (n_v vs 3) 8)) (w_ei ws (w_ar ws (n_v vs 3) 9)) (w_fi ws (n_v vs 3) 5) (w_fi ws (n_v vs 3) 6) (w_ei ws (w_ar ws (n_v vs 3) 12)) (w_ei ws (w_ar ws (n_v vs 3) 16)) (w_ei w1 (w_ar ws (n_v vs 3) 7)) (w_ei w1 (w_ar ws (n_v vs 3) 8)) (w_ei w1 (w_ar ws (n_v vs 3) 9)) (w_fi w1 (n_v vs 3) 5) (w_fi w1 (n_v vs 3) 6) (w_ei w1 (w_ar ws (n_v vs 3) 12)) (w_ei w1 (w_ar ws (n_v vs 3) 16)) (w_ei ws (w_ar ws (n_v vs 0) 0)) (w_ei w1 (w_ar ws (n_v vs 0) 0)) (v_iv (Value.int y)) k1 k12 f6 f7 fe_3_5_1 fe_3_6_1 hE_0_0_1 hE_3_7_1 hE_3_8_1 hE_3_9_1 hE_3_12_1 hE_3_16_1 kz_3_5 kz_3_6 ey2
  have nf3 : fc_1 PRD (20, [17, 18, 16, 3], [62, 887]) ws (vs ++ [n_v vs 0, Value.int y]) := by
    refine ⟨nf_inA hl rfl, sgq_2008 ?_⟩
    · show WQF 887 [n_v (vs ++ [n_v vs 0, Value.int y]) 17, n_v (vs ++ [n_v vs 0, Value.int y]) 18, n_v (vs ++ [n_v vs 0, Value.int y]) 16, n_v (vs ++ [n_v vs 0, Value.int y]) 3] ws
      simp only [e_3, e_16, e_17, e_18]
      have zq := f4
      have zl1 := f4
      exact WQF_int (wq_re zq (by decide) ⟨Or.inr (pO_of f1 f0), Or.inr (wl_0 (wq_wl (k := 247) zl1) (by decide)), trivial⟩) ey2
  have nf4 : fc_1 PRD (20, [3], [50, 1, 0, 0, 1, 3, 2, 0, 0, 0, 0]) ws (vs ++ [n_v vs 0, Value.int y]) := by
    refine ⟨nf_inA hl rfl, sgq_2009 ?_⟩
    · show w_fi ws (n_v (vs ++ [n_v vs 0, Value.int y]) 3) 0 = 0
      rw [e_3]
      exact vc_Ho_embedded_6_4 (v_iv (n_v vs 14)) (w_fi ws (n_v vs 3) 0) (w_ei ws (w_ar ws (n_v vs 3) 7)) (w_ei ws (w_ar ws (n_v vs 3) 8)) (w_ei ws (w_ar ws (n_v vs 3) 9)) (w_fi ws (n_v vs 3) 5) (w_fi ws (n_v vs 3) 6) (w_ei ws (w_ar ws (n_v vs 3) 12)) (w_ei ws (w_ar ws (n_v vs 3) 16)) (w_ei w1 (w_ar ws (n_v vs 3) 7)) (w_ei w1 (w_ar ws (n_v vs 3) 8)) (w_ei w1 (w_ar ws (n_v vs 3) 9)) (w_fi w1 (n_v vs 3) 5) (w_fi w1 (n_v vs 3) 6) (w_ei w1 (w_ar ws (n_v vs 3) 12)) (w_ei w1 (w_ar ws (n_v vs 3) 16)) (w_ei ws (w_ar ws (n_v vs 0) 0)) (w_ei w1 (w_ar ws (n_v vs 0) 0)) k14 g3 fe_3_5_1 fe_3_6_1 hE_0_0_1 hE_3_7_1 hE_3_8_1 hE_3_9_1 hE_3_12_1 hE_3_16_1 kz_3_0 kz_3_5 kz_3_6
  exact ⟨(fun _ h => (by cases h)), [n_v vs 0, Value.int y], ag_two t0 hy, List.forall_mem_cons.mpr ⟨⟨show (24 : Nat) < 100 from by decide, nf0⟩, List.forall_mem_cons.mpr ⟨⟨show (23 : Nat) < 100 from by decide, nf1⟩, List.forall_mem_cons.mpr ⟨⟨show (23 : Nat) < 100 from by decide, nf2⟩, List.forall_mem_cons.mpr ⟨⟨show (20 : Nat) < 100 from by decide, nf3⟩, List.forall_mem_cons.mpr ⟨⟨show (20 : Nat) < 100 from by decide, nf4⟩, (fun _ h => (by cases h))⟩⟩⟩⟩⟩, (fun _ h => (by cases h))⟩
def o_Ho_embedded_7 : or_T := (66, 19, [(0, (2, 0, 0, [12])), (1, (0, 0, 3, [])), (3, (2, 0, 0, [5])), (8, (2, 0, 0, [12])), (9, (0, 0, 3, [])), (11, (2, 0, 0, [12])), (12, (0, 0, 3, [])), (13, (0, 0, 0, [])), (14, (0, 0, 0, [])), (17, (2, 0, 0, [12])), (18, (0, 0, 3, []))], [(9, [14, 3], [0]), (24, [0, 17], []), (23, [18, 1], [0, 1, -1]), (23, [18, 1], [0, -1, 1]), (24, [0, 11], []), (23, [12, 1], [0, 1, -1]), (23, [12, 1], [0, -1, 1]), (20, [3], [60, 2, 3, 595, 5, 6, 7, 8, 9]), (24, [0, 8], []), (23, [9, 1], [0, 1, -1]), (23, [9, 1], [0, -1, 1]), (20, [3], [60, 2, 3, 595, 5, 6, 7, 8, 9]), (20, [3, 13], [60, 2, 3, 632, 5, 6, 9, 12, 16]), (20, [17, 18, 3], [62, 199]), (20, [3], [50, 1, 0, 0, 1, 3, 2, 0, 0, 0, 0]), (102, [18], [712230049778071776583401465242514497556447232, 1000, 1005, 1006, 1007, 1015, 1016, 1017, 1018, 5002, 5003, 149005, 149006, 149013]), (23, [18, 1], [0, 1, -1]), (23, [18, 1], [0, -1, 1]), (8, [14], [0]), (23, [12, 1], [0, 1, -1]), (23, [12, 1], [0, -1, 1]), (23, [9, 1], [0, 1, -1]), (23, [9, 1], [0, -1, 1]), (101, [3, 14], [0]), (8, [13], [0]), (23, [12, 1], [0, 1, -1]), (23, [12, 1], [0, -1, 1]), (23, [9, 1], [0, 1, -1]), (23, [9, 1], [0, -1, 1]), (102, [12], [599627206528856207757672448, 1000, 1005, 1006, 1007, 1015, 1016, 1017, 1018, 5013]), (23, [12, 1], [0, 1, -1]), (23, [12, 1], [0, -1, 1]), (23, [9, 1], [0, 1, -1]), (23, [9, 1], [0, -1, 1]), (102, [9], [56819513521887571211190272, 5005, 5006, 5013]), (23, [9, 1], [0, 1, -1]), (23, [9, 1], [0, -1, 1])], [], [], [(20, [0, 1, 3], [62, 199])], [], [])
theorem oo_Ho_embedded_7 {kA : Nat → ClassId} : or_ok PRD kA GG o_Ho_embedded_7 := by
  refine or_mk fun A ta ws vs hD hth hl => ?_
  intro t0 r0 t1 k1 t3 r3 t8 r8 t9 k9 t11 r11 t12 k12 t13 k13 t14 k14 t17 r17 t18 k18 f0 f1 f2 f3 f4 f5 f6 f7 f8 f9 f10 f11 f12 f13 f14 ta1 w1 le1 s1 f16 f17 f18 f19 f20 f21 f22 ta2 w2 le2 s2 f24 f25 f26 f27 f28 ta3 w3 le3 s3 f30 f31 f32 f33 ta4 w4 le4 s4 f35 f36
  replace f0 := shm_175 f0
  replace f1 := shm_5 f1
  replace f2 := shm_7 f2
  replace f3 := shm_22 f3
  replace f4 := shm_5 f4
  replace f5 := shm_7 f5
  replace f6 := shm_22 f6
  replace f7 := shm_421 f7
  replace f8 := shm_5 f8
  replace f9 := shm_7 f9
  replace f10 := shm_22 f10
  replace f11 := shm_421 f11
  replace f12 := shm_1991 f12
  replace f13 := shm_2004 f13
  replace f14 := shm_2009 f14
  replace f16 := shm_7 f16
  replace f17 := shm_22 f17
  replace f18 := shm_210 f18
  replace f19 := shm_7 f19
  replace f20 := shm_22 f20
  replace f21 := shm_7 f21
  replace f22 := shm_22 f22
  have s2 : (∀ b j, w_el w1 b j = w_el w2 b j) ∧ ∀ b j, w_fd w1 b j = if b = v_ad (n_v vs 3) ∧ j = 0 then n_v vs 14 else w_fd w2 b j := s2.2
  replace f24 := shm_210 f24
  replace f25 := shm_7 f25
  replace f26 := shm_22 f26
  replace f27 := shm_7 f27
  replace f28 := shm_22 f28
  replace f30 := shm_7 f30
  replace f31 := shm_22 f31
  replace f32 := shm_7 f32
  replace f33 := shm_22 f33
  replace f35 := shm_7 f35
  replace f36 := shm_22 f36
  have q17 : n_v vs 17 = n_v vs 0 := f1.symm
  have q11 : n_v vs 11 = n_v vs 0 := f4.symm
  have q8 : n_v vs 8 = n_v vs 0 := f8.symm
  simp only [q17] at f13
  have cr_3_7 := fdq_63 hD hth r3
  have cr_3_8 := fdq_64 hD hth r3
  have cr_3_9 := fdq_84 hD hth r3
  have cr_3_12 := fdq_235 hD hth r3
  have cr_3_16 := fdq_95 hD hth r3
  have g0 : v_iv (n_v vs 14) = w_fi ws (n_v vs 3) 0 := congrArg v_iv f0
  have hK_3_7 := elq_18 hD hth cr_3_7
  have hK_3_8 := elq_19 hD hth cr_3_8
  have hK_3_9 := elq_25 hD hth cr_3_9
  have hK_3_12 := elq_148 hD hth cr_3_12
  have hK_3_16 := elq_44 hD hth cr_3_16
  have kz_3_0 := fdq_82 hD hth r3
  have kz_3_5 := fdq_86 hD hth r3
  have kz_3_6 := fdq_65 hD hth r3
  have nf0 : fc_1 PRD (20, [0, 1, 3], [62, 199]) ws (vs) := by
    refine ⟨nf_in hl rfl, sgq_2004 ?_⟩
    · show WQF 199 [n_v vs 0, n_v vs 1, n_v vs 3] ws
      have zw := f13
      first | rw [show n_v vs 17 = n_v vs 0 from (by first | exact f1 | exact f1.symm)] at zw | skip
      exact WQF_int zw (show v_iv (n_v vs 1) = v_iv (n_v vs 18) by omega)
  refine ⟨(fun _ h => (by cases h)), [], trivial, ?_, (fun _ h => (by cases h))⟩
  rw [List.append_nil]
  exact List.forall_mem_cons.mpr ⟨⟨show (20 : Nat) < 100 from by decide, nf0⟩, (fun _ h => (by cases h))⟩
set_option maxHeartbeats 4000000 in
theorem vc_Ho_embedded_8_1 (x14 : Int) (planar_0o3 : Int) (k14 : 0 ≤ x14 ∧ x14 ≤ 0) (g0 : x14 = planar_0o3) (kz_3_0 : (-1) ≤ planar_0o3 ∧ planar_0o3 ≤ 1) : 0 ≤ planar_0o3 := by
  first | omega
def o_Ho_embedded_8 : or_T := (67, 19, [(3, (2, 0, 0, [5])), (14, (0, 0, 0, []))], [(9, [14, 3], [0]), (20, [0, 1, 3], [62, 199])], [], [], [(20, [0], [62, 0]), (20, [3], [50, 1, 0, 0, 0, 2, 0, 0, 2, 0, 0])], [], [])
theorem oo_Ho_embedded_8 {kA : Nat → ClassId} : or_ok PRD kA GG o_Ho_embedded_8 := by
  refine or_mk fun A ta ws vs hD hth hl => ?_
  intro t3 r3 t14 k14 f0 f1
  replace f0 := shm_175 f0
  replace f1 := shm_2004 f1
  have g0 : v_iv (n_v vs 14) = w_fi ws (n_v vs 3) 0 := congrArg v_iv f0
  have kz_3_0 := fdq_82 hD hth r3
  have nf0 : fc_1 PRD (20, [0], [62, 0]) ws (vs) := by
    refine ⟨nf_in hl rfl, sgq_1145 ?_⟩
    · show WQF 0 [n_v vs 0] ws
      have zq := f1
      exact wq_hi zq (by decide)
  have nf1 : fc_1 PRD (20, [3], [50, 1, 0, 0, 0, 2, 0, 0, 2, 0, 0]) ws (vs) := ⟨nf_in hl rfl, sgq_1553 (vc_Ho_embedded_8_1 (v_iv (n_v vs 14)) (w_fi ws (n_v vs 3) 0) k14 g0 kz_3_0)⟩
  refine ⟨(fun _ h => (by cases h)), [], trivial, ?_, (fun _ h => (by cases h))⟩
  rw [List.append_nil]
  exact List.forall_mem_cons.mpr ⟨⟨show (20 : Nat) < 100 from by decide, nf0⟩, List.forall_mem_cons.mpr ⟨⟨show (20 : Nat) < 100 from by decide, nf1⟩, (fun _ h => (by cases h))⟩⟩
def o_Ho_embedded_9 : or_T := (45, 15, [(0, (2, 0, 0, [12])), (1, (0, 0, 3, [])), (3, (2, 0, 0, [5])), (13, (0, 1, 1, [])), (14, (0, 1, 1, []))], [(101, [3, 14], [0]), (20, [0, 1, 3], [62, 243]), (20, [3, 13], [60, 2, 3, 632, 5, 6, 9, 12, 16])], [], [], [(20, [0, 1, 3], [62, 247])], [], [])
theorem oo_Ho_embedded_9 {kA : Nat → ClassId} : or_ok PRD kA GG o_Ho_embedded_9 := by
  refine or_mk fun A ta ws vs hD hth hl => ?_
  intro t0 r0 t1 k1 t3 r3 t13 k13 t14 k14 ta1 w1 le1 s1 f1 f2
  have s1 : (∀ b j, w_el ws b j = w_el w1 b j) ∧ ∀ b j, w_fd ws b j = if b = v_ad (n_v vs 3) ∧ j = 0 then n_v vs 14 else w_fd w1 b j := s1.2
  replace f1 := shm_2006 f1
  replace f2 := shm_1991 f2
  have nf0 : fc_1 PRD (20, [0, 1, 3], [62, 247]) ws (vs) := by
    refine ⟨nf_in hl rfl, sgq_2007 ?_⟩
    · show WQF 247 [n_v vs 0, n_v vs 1, n_v vs 3] ws
      obtain ⟨d9, c9⟩ := fd_some hD hth r3 (show GG[5]? = some GG_5 from rfl) (by decide) (k := 9) rfl rfl
      obtain ⟨d12, c12⟩ := fd_some hD hth r3 (show GG[5]? = some GG_5 from rfl) (by decide) (k := 12) rfl rfl
      obtain ⟨d16, c16⟩ := fd_some hD hth r3 (show GG[5]? = some GG_5 from rfl) (by decide) (k := 16) rfl rfl
      exact wq_planar hD hth (by decide +kernel) r0 r3 f1 c9 c12 c16 (Or.inr ⟨show v_iv (n_v vs 14) = 1 by omega, (show EFA (w_fi w1 (n_v vs 3) 5) (w_fi w1 (n_v vs 3) 6) (w_ei w1 (w_ar w1 (n_v vs 3) 9)) (w_ei w1 (w_ar w1 (n_v vs 3) 12)) (w_ei w1 (w_ar w1 (n_v vs 3) 16)) (v_iv (n_v vs 13)) from f2) (show v_iv (n_v vs 13) ≠ 0 by omega)⟩) s1
  refine ⟨(fun _ h => (by cases h)), [], trivial, ?_, (fun _ h => (by cases h))⟩
  rw [List.append_nil]
  exact List.forall_mem_cons.mpr ⟨⟨show (20 : Nat) < 100 from by decide, nf0⟩, (fun _ h => (by cases h))⟩
def o_Ho_embedded_10 : or_T := (66, 15, [], [(20, [0, 1, 3], [62, 247])], [], [], [(20, [0, 1, 3], [62, 199])], [], [])
theorem oo_Ho_embedded_10 {kA : Nat → ClassId} : or_ok PRD kA GG o_Ho_embedded_10 := by
  refine or_mk fun A ta ws vs hD hth hl => ?_
  intro f2
  replace f2 := shm_2007 f2
  have nf0 : fc_1 PRD (20, [0, 1, 3], [62, 199]) ws (vs) := by
    refine ⟨nf_in hl rfl, sgq_2004 ?_⟩
    · show WQF 199 [n_v vs 0, n_v vs 1, n_v vs 3] ws
      have zq := f2
      have zl0 := f2
      exact wq_re zq (by decide) ⟨Or.inr (wl_0 (wq_wl (k := 247) zl0) (by decide)), trivial⟩
  refine ⟨(fun _ h => (by cases h)), [], trivial, ?_, (fun _ h => (by cases h))⟩
  rw [List.append_nil]
  exact List.forall_mem_cons.mpr ⟨⟨show (20 : Nat) < 100 from by decide, nf0⟩, (fun _ h => (by cases h))⟩
set_option maxHeartbeats 4000000 in
theorem vc_Ho_embedded_11_1 (x14 : Int) (planar_0o3 : Int) (tail_0o3 : Int → Int) (head_0o3 : Int → Int) (near_0o3 : Int → Int) (nodes_0o3 : Int) (edges_0o3 : Int) (first_0o3 : Int → Int) (faceOf_0o3 : Int → Int) (tail_1o3 : Int → Int) (head_1o3 : Int → Int) (near_1o3 : Int → Int) (nodes_1o3 : Int) (edges_1o3 : Int) (first_1o3 : Int → Int) (faceOf_1o3 : Int → Int) (k14 : 1 ≤ x14 ∧ x14 ≤ 1) (g2 : x14 = planar_0o3) (fe_3_5_1 : nodes_0o3 = nodes_1o3) (fe_3_6_1 : edges_0o3 = edges_1o3) (hE_3_7_1 : ∀ j : Int, tail_0o3 j = tail_1o3 j) (hE_3_8_1 : ∀ j : Int, head_0o3 j = head_1o3 j) (hE_3_9_1 : ∀ j : Int, near_0o3 j = near_1o3 j) (hE_3_12_1 : ∀ j : Int, first_0o3 j = first_1o3 j) (hE_3_16_1 : ∀ j : Int, faceOf_0o3 j = faceOf_1o3 j) (kz_3_0 : (-1) ≤ planar_0o3 ∧ planar_0o3 ≤ 1) (kz_3_5 : 0 ≤ nodes_0o3 ∧ nodes_0o3 ≤ 24) (kz_3_6 : 0 ≤ edges_0o3 ∧ edges_0o3 ≤ 72) : 0 ≤ planar_0o3 := by
  subst fe_3_5_1
  subst fe_3_6_1
  have e_hE_3_7_1 := funext hE_3_7_1; subst e_hE_3_7_1
  have e_hE_3_8_1 := funext hE_3_8_1; subst e_hE_3_8_1
  have e_hE_3_9_1 := funext hE_3_9_1; subst e_hE_3_9_1
  have e_hE_3_12_1 := funext hE_3_12_1; subst e_hE_3_12_1
  have e_hE_3_16_1 := funext hE_3_16_1; subst e_hE_3_16_1
  first | omega
def o_Ho_embedded_11 : or_T := (67, 15, [(3, (2, 0, 0, [5])), (14, (0, 1, 1, []))], [(20, [0, 1, 3], [62, 199]), (9, [14, 3], [0]), (101, [3, 14], [0])], [], [], [(20, [0], [62, 0]), (20, [3], [50, 1, 0, 0, 0, 2, 0, 0, 2, 0, 0])], [], [])
theorem oo_Ho_embedded_11 {kA : Nat → ClassId} : or_ok PRD kA GG o_Ho_embedded_11 := by
  refine or_mk fun A ta ws vs hD hth hl => ?_
  intro t3 r3 t14 k14 f0 f2 ta1 w1 le1 s1
  replace f0 := shm_2004 f0
  replace f2 := shm_175 f2
  have s1 : (∀ b j, w_el ws b j = w_el w1 b j) ∧ ∀ b j, w_fd ws b j = if b = v_ad (n_v vs 3) ∧ j = 0 then n_v vs 14 else w_fd w1 b j := s1.2
  have g2 : v_iv (n_v vs 14) = w_fi ws (n_v vs 3) 0 := congrArg v_iv f2
  have fe_3_5_1 : w_fi ws (n_v vs 3) 5 = w_fi w1 (n_v vs 3) 5 := by show v_iv (w_fd _ _ _) = v_iv (w_fd _ _ _); rw [s1.2, if_neg (fun e => absurd e.2 (by decide))]
  have fe_3_6_1 : w_fi ws (n_v vs 3) 6 = w_fi w1 (n_v vs 3) 6 := by show v_iv (w_fd _ _ _) = v_iv (w_fd _ _ _); rw [s1.2, if_neg (fun e => absurd e.2 (by decide))]
  have hE_3_7_1 : ∀ j : Int, w_ei ws (w_ar ws (n_v vs 3) 7) j = w_ei w1 (w_ar ws (n_v vs 3) 7) j := fun j => s1.1 _ _
  have hE_3_8_1 : ∀ j : Int, w_ei ws (w_ar ws (n_v vs 3) 8) j = w_ei w1 (w_ar ws (n_v vs 3) 8) j := fun j => s1.1 _ _
  have hE_3_9_1 : ∀ j : Int, w_ei ws (w_ar ws (n_v vs 3) 9) j = w_ei w1 (w_ar ws (n_v vs 3) 9) j := fun j => s1.1 _ _
  have hE_3_12_1 : ∀ j : Int, w_ei ws (w_ar ws (n_v vs 3) 12) j = w_ei w1 (w_ar ws (n_v vs 3) 12) j := fun j => s1.1 _ _
  have hE_3_16_1 : ∀ j : Int, w_ei ws (w_ar ws (n_v vs 3) 16) j = w_ei w1 (w_ar ws (n_v vs 3) 16) j := fun j => s1.1 _ _
  have kz_3_0 := fdq_82 hD hth r3
  have kz_3_5 := fdq_86 hD hth r3
  have kz_3_6 := fdq_65 hD hth r3
  have nf0 : fc_1 PRD (20, [0], [62, 0]) ws (vs) := by
    refine ⟨nf_in hl rfl, sgq_1145 ?_⟩
    · show WQF 0 [n_v vs 0] ws
      have zq := f0
      exact wq_hi zq (by decide)
  have nf1 : fc_1 PRD (20, [3], [50, 1, 0, 0, 0, 2, 0, 0, 2, 0, 0]) ws (vs) := ⟨nf_in hl rfl, sgq_1553 (vc_Ho_embedded_11_1 (v_iv (n_v vs 14)) (w_fi ws (n_v vs 3) 0) (w_ei ws (w_ar ws (n_v vs 3) 7)) (w_ei ws (w_ar ws (n_v vs 3) 8)) (w_ei ws (w_ar ws (n_v vs 3) 9)) (w_fi ws (n_v vs 3) 5) (w_fi ws (n_v vs 3) 6) (w_ei ws (w_ar ws (n_v vs 3) 12)) (w_ei ws (w_ar ws (n_v vs 3) 16)) (w_ei w1 (w_ar ws (n_v vs 3) 7)) (w_ei w1 (w_ar ws (n_v vs 3) 8)) (w_ei w1 (w_ar ws (n_v vs 3) 9)) (w_fi w1 (n_v vs 3) 5) (w_fi w1 (n_v vs 3) 6) (w_ei w1 (w_ar ws (n_v vs 3) 12)) (w_ei w1 (w_ar ws (n_v vs 3) 16)) k14 g2 fe_3_5_1 fe_3_6_1 hE_3_7_1 hE_3_8_1 hE_3_9_1 hE_3_12_1 hE_3_16_1 kz_3_0 kz_3_5 kz_3_6)⟩
  refine ⟨(fun _ h => (by cases h)), [], trivial, ?_, (fun _ h => (by cases h))⟩
  rw [List.append_nil]
  exact List.forall_mem_cons.mpr ⟨⟨show (20 : Nat) < 100 from by decide, nf0⟩, List.forall_mem_cons.mpr ⟨⟨show (20 : Nat) < 100 from by decide, nf1⟩, (fun _ h => (by cases h))⟩⟩
def n_Ho_embedded_an : List an_T := []
def t_Ho_embedded_ct : ct_L := [(70, 419, e_Ne_load_at_Ne_f), (97, 422, e_Em_embed_at_gn_f), (193, 426, e_Em_bar_f)]
set_option maxRecDepth 100000 in
theorem c_Ho_embedded {l : Launch} {D : va_G} {kA : Nat → ClassId} (h_Em_bar : ∀ kB, ct_ok PRD l D kB GG y_Em_bar z_Em_bar e_Em_bar) (h_Em_embed_at_gn : ∀ kB, ct_ok PRD l D kB GG y_Em_embed_at_gn z_Em_embed_at_gn e_Em_embed_at_gn) (h_Ne_load_at_Ne : ct_ok PRD l D kA GG y_Ne_load_at_Ne z_Ne_load_at_Ne e_Ne_load_at_Ne) : ct_ok PRD l D kA GG y_Ho_embedded z_Ho_embedded e_Ho_embedded := chk_all_ok (FT := [(13, 12, 0), (25, 12, 2), (45, 12, 5), (265, 5, 0)]) (PT := [(265, 5, 0, .int)]) (CT := t_Ho_embedded_ct) (KT := []) (NT := []) (AN := n_Ho_embedded_an) (OT := [o_Ho_embedded_0, o_Ho_embedded_1, o_Ho_embedded_2, o_Ho_embedded_3, o_Ho_embedded_4, o_Ho_embedded_5, o_Ho_embedded_6, o_Ho_embedded_7, o_Ho_embedded_8, o_Ho_embedded_9, o_Ho_embedded_10, o_Ho_embedded_11]) 0 200 (List.forall_mem_cons.mpr ⟨oo_Ho_embedded_0, List.forall_mem_cons.mpr ⟨oo_Ho_embedded_1, List.forall_mem_cons.mpr ⟨oo_Ho_embedded_2, List.forall_mem_cons.mpr ⟨oo_Ho_embedded_3, List.forall_mem_cons.mpr ⟨oo_Ho_embedded_4, List.forall_mem_cons.mpr ⟨oo_Ho_embedded_5, List.forall_mem_cons.mpr ⟨oo_Ho_embedded_6, List.forall_mem_cons.mpr ⟨oo_Ho_embedded_7, List.forall_mem_cons.mpr ⟨oo_Ho_embedded_8, List.forall_mem_cons.mpr ⟨oo_Ho_embedded_9, List.forall_mem_cons.mpr ⟨oo_Ho_embedded_10, List.forall_mem_cons.mpr ⟨oo_Ho_embedded_11, List.forall_mem_nil _⟩⟩⟩⟩⟩⟩⟩⟩⟩⟩⟩⟩) (by decide +kernel) ⟨List.forall_mem_cons.mpr ⟨gf_Ho_13, List.forall_mem_cons.mpr ⟨gf_Ho_25, List.forall_mem_cons.mpr ⟨gf_Ho_45, List.forall_mem_cons.mpr ⟨gf_Ho_265, List.forall_mem_nil _⟩⟩⟩⟩, List.forall_mem_cons.mpr ⟨pf_Ho_265, List.forall_mem_nil _⟩, List.forall_mem_cons.mpr ⟨cl_virtual (y := y_Ne_load_at_Ne) (ci := 5) rfl rfl ⟨_, _, rfl⟩ (by decide +kernel) (cf_Ne_load_at_Ne h_Ne_load_at_Ne) wm_1056 wm_6 wm_1053 wm_1054 wm_1055 ⟨by decide, by decide, by decide +kernel⟩ (by decide), List.forall_mem_cons.mpr ⟨cl_virtual (y := y_Em_embed_at_gn) (ci := 1) rfl rfl ⟨_, _, rfl⟩ (by decide +kernel) (cf_Em_embed_at_gn h_Em_embed_at_gn) wm_1069 wm_5 wm_1066 wm_1067 wm_1068 ⟨by decide, by decide, by decide +kernel⟩ (by decide), List.forall_mem_cons.mpr ⟨cl_virtual (y := y_Em_bar) (ci := 1) rfl rfl ⟨_, _, rfl⟩ (by decide +kernel) (cf_Em_bar h_Em_bar) wm_1155 wm_5 wm_1152 wm_1153 wm_1154 ⟨by decide, by decide, by decide +kernel⟩ (by decide), List.forall_mem_nil _⟩⟩⟩, List.forall_mem_nil _, List.forall_mem_nil _, GG_pl⟩ (by decide +kernel)

set_option maxHeartbeats 4000000 in
theorem vc_Mo_groupItem_at_k0_0_0 (x3 : Int) (r_0 : Int) (pos_0 : Int) (fault_0 : Int) (k3 : 0 ≤ x3 ∧ x3 ≤ 2000) (f7 : (-1) * fault_0 + 0 ≤ (-1)) (kz_0_8 : 0 ≤ fault_0 ∧ fault_0 ≤ 5) (kz_0_11 : 0 ≤ pos_0 ∧ pos_0 ≤ 2000) : (1 ≤ fault_0) ∨ ((x3 + 1) ≤ pos_0) := by
  first
    | omega
    | (have q1 := (hE_0_2_1 (r_0 + 2) (by omega)).2 (by omega)
       have q2 := (hE_0_2_2 (r_0 + 2) (by omega)).2 (by omega)
       omega)
    | (have q1 := (hE_0_2_1 (r_0 + 1) (by omega)).2 (by omega)
       have q2 := (hE_0_2_2 (r_0 + 1) (by omega)).2 (by omega)
       omega)
    | (have q1 := (hE_0_2_1 (r_0 + 2) (by omega)).2 (by omega)
       omega)
    | (have q1 := (hE_0_2_1 (r_0 + 1) (by omega)).2 (by omega)
       omega)
    | (have q1 := (hE_0_2_1 (r_0 + 2) (by omega)).2 (by omega)
       have q2 := (hE_0_2_2 (r_0 + 2) (by omega)).2 (by omega)
       have q3 := (hE_0_2_3 (r_0 + 2) (by omega)).1 (by omega)
       omega)
    | (have q1 := (hE_0_2_1 (r_0 + 2) (by omega)).2 (by omega)
       have q2 := (hE_0_2_2 (r_0 + 2) (by omega)).2 (by omega)
       have q3 := (hE_0_2_3 (r_0 + 2) (by omega)).2 (by omega)
       omega)
    | (have q1 := (hE_0_2_1 (r_0 + 2) (by omega)).2 (by omega)
       have q2 := (hE_0_2_2 (r_0 + 2) (by omega)).2 (by omega)
       have q3 := (hE_0_2_3 (r_0 + 2) (by omega)).1 (by omega)
       have q4 : x13 = r_0 + 2 := by omega
       rw [q4] at h34
       omega)
def o_Mo_groupItem_at_k0_0 : or_T := (23, 8, [(0, (2, 0, 0, [165])), (3, (0, 0, 2000, []))], [(20, [0], [30, -1, -1, 1, 8])], [], [], [(20, [0, 3], [50, 2, 0, 8, 11, 3, 7, 0, 2, 0, 1, 2, 0, 8, 0, 6, 4, 2, 1, 1, 0, 1, 2, 0, 11])], [], [])
theorem oo_Mo_groupItem_at_k0_0 {kA : Nat → ClassId} : or_ok PRD kA GG o_Mo_groupItem_at_k0_0 := by
  refine or_mk fun A ta ws vs hD hth hl => ?_
  intro t0 r0 t3 k3 f7
  have kz_0_8 := fdq_14 hD hth r0
  have kz_0_11 := fdq_273 hD hth r0
  have nf0 : fc_1 PRD (20, [0, 3], [50, 2, 0, 8, 11, 3, 7, 0, 2, 0, 1, 2, 0, 8, 0, 6, 4, 2, 1, 1, 0, 1, 2, 0, 11]) ws (vs) := ⟨nf_in hl rfl, sgq_1659 (vc_Mo_groupItem_at_k0_0_0 (v_iv (n_v vs 3)) (w_fi ws (n_v vs 0) 5) (w_fi ws (n_v vs 0) 11) (w_fi ws (n_v vs 0) 8) k3 (shm_144 f7) kz_0_8 kz_0_11)⟩
  refine ⟨(fun _ h => (by cases h)), [], trivial, ?_, (fun _ h => (by cases h))⟩
  rw [List.append_nil]
  exact List.forall_mem_cons.mpr ⟨⟨show (20 : Nat) < 100 from by decide, nf0⟩, (fun _ h => (by cases h))⟩
set_option maxHeartbeats 4000000 in
theorem vc_Mo_groupItem_at_k0_1_0 (x3 : Int) (r_0 : Int) (gx : Int) (k3 : 0 ≤ x3 ∧ x3 ≤ 2000) (ex2 : gx = x3) : 1 * gx + ((-1) * x3 + 0) ≤ 0 := by
  first
    | omega
    | (have q1 := (hE_0_2_1 (r_0 + 2) (by omega)).2 (by omega)
       have q2 := (hE_0_2_2 (r_0 + 2) (by omega)).2 (by omega)
       omega)
    | (have q1 := (hE_0_2_1 (r_0 + 1) (by omega)).2 (by omega)
       have q2 := (hE_0_2_2 (r_0 + 1) (by omega)).2 (by omega)
       omega)
    | (have q1 := (hE_0_2_1 (r_0 + 2) (by omega)).2 (by omega)
       omega)
    | (have q1 := (hE_0_2_1 (r_0 + 1) (by omega)).2 (by omega)
       omega)
    | (have q1 := (hE_0_2_1 (r_0 + 2) (by omega)).2 (by omega)
       have q2 := (hE_0_2_2 (r_0 + 2) (by omega)).2 (by omega)
       have q3 := (hE_0_2_3 (r_0 + 2) (by omega)).1 (by omega)
       omega)
    | (have q1 := (hE_0_2_1 (r_0 + 2) (by omega)).2 (by omega)
       have q2 := (hE_0_2_2 (r_0 + 2) (by omega)).2 (by omega)
       have q3 := (hE_0_2_3 (r_0 + 2) (by omega)).2 (by omega)
       omega)
    | (have q1 := (hE_0_2_1 (r_0 + 2) (by omega)).2 (by omega)
       have q2 := (hE_0_2_2 (r_0 + 2) (by omega)).2 (by omega)
       have q3 := (hE_0_2_3 (r_0 + 2) (by omega)).1 (by omega)
       have q4 : x13 = r_0 + 2 := by omega
       rw [q4] at h34
       omega)
set_option maxHeartbeats 4000000 in
theorem vc_Mo_groupItem_at_k0_1_1 (x3 : Int) (r_0 : Int) (gx : Int) (k3 : 0 ≤ x3 ∧ x3 ≤ 2000) (ex2 : gx = x3) : (-1) * gx + (1 * x3 + 0) ≤ 0 := by
  first
    | omega
    | (have q1 := (hE_0_2_1 (r_0 + 2) (by omega)).2 (by omega)
       have q2 := (hE_0_2_2 (r_0 + 2) (by omega)).2 (by omega)
       omega)
    | (have q1 := (hE_0_2_1 (r_0 + 1) (by omega)).2 (by omega)
       have q2 := (hE_0_2_2 (r_0 + 1) (by omega)).2 (by omega)
       omega)
    | (have q1 := (hE_0_2_1 (r_0 + 2) (by omega)).2 (by omega)
       omega)
    | (have q1 := (hE_0_2_1 (r_0 + 1) (by omega)).2 (by omega)
       omega)
    | (have q1 := (hE_0_2_1 (r_0 + 2) (by omega)).2 (by omega)
       have q2 := (hE_0_2_2 (r_0 + 2) (by omega)).2 (by omega)
       have q3 := (hE_0_2_3 (r_0 + 2) (by omega)).1 (by omega)
       omega)
    | (have q1 := (hE_0_2_1 (r_0 + 2) (by omega)).2 (by omega)
       have q2 := (hE_0_2_2 (r_0 + 2) (by omega)).2 (by omega)
       have q3 := (hE_0_2_3 (r_0 + 2) (by omega)).2 (by omega)
       omega)
    | (have q1 := (hE_0_2_1 (r_0 + 2) (by omega)).2 (by omega)
       have q2 := (hE_0_2_2 (r_0 + 2) (by omega)).2 (by omega)
       have q3 := (hE_0_2_3 (r_0 + 2) (by omega)).1 (by omega)
       have q4 : x13 = r_0 + 2 := by omega
       rw [q4] at h34
       omega)
set_option maxHeartbeats 4000000 in
theorem vc_Mo_groupItem_at_k0_1_2 (x3 : Int) (r_0 : Int) (pos_0 : Int) (gx : Int) (k3 : 0 ≤ x3 ∧ x3 ≤ 2000) (f5 : 1 * x3 + ((-1) * pos_0 + 0) ≤ 0) (kz_0_11 : 0 ≤ pos_0 ∧ pos_0 ≤ 2000) (ex2 : gx = x3) : 1 * gx + ((-1) * pos_0 + 0) ≤ 0 := by
  first
    | omega
    | (have q1 := (hE_0_2_1 (r_0 + 2) (by omega)).2 (by omega)
       have q2 := (hE_0_2_2 (r_0 + 2) (by omega)).2 (by omega)
       omega)
    | (have q1 := (hE_0_2_1 (r_0 + 1) (by omega)).2 (by omega)
       have q2 := (hE_0_2_2 (r_0 + 1) (by omega)).2 (by omega)
       omega)
    | (have q1 := (hE_0_2_1 (r_0 + 2) (by omega)).2 (by omega)
       omega)
    | (have q1 := (hE_0_2_1 (r_0 + 1) (by omega)).2 (by omega)
       omega)
    | (have q1 := (hE_0_2_1 (r_0 + 2) (by omega)).2 (by omega)
       have q2 := (hE_0_2_2 (r_0 + 2) (by omega)).2 (by omega)
       have q3 := (hE_0_2_3 (r_0 + 2) (by omega)).1 (by omega)
       omega)
    | (have q1 := (hE_0_2_1 (r_0 + 2) (by omega)).2 (by omega)
       have q2 := (hE_0_2_2 (r_0 + 2) (by omega)).2 (by omega)
       have q3 := (hE_0_2_3 (r_0 + 2) (by omega)).2 (by omega)
       omega)
    | (have q1 := (hE_0_2_1 (r_0 + 2) (by omega)).2 (by omega)
       have q2 := (hE_0_2_2 (r_0 + 2) (by omega)).2 (by omega)
       have q3 := (hE_0_2_3 (r_0 + 2) (by omega)).1 (by omega)
       have q4 : x13 = r_0 + 2 := by omega
       rw [q4] at h34
       omega)
def o_Mo_groupItem_at_k0_1 : or_T := (25, 7, [(0, (2, 0, 0, [165])), (3, (0, 0, 2000, []))], [(20, [3, 0], [30, 0, 1, 0, 0, -1, 1, 11])], [], [(0, 0, 2000, [])], [(23, [7, 3], [0, 1, -1]), (23, [7, 3], [0, -1, 1]), (20, [7, 0], [30, 0, 1, 0, 0, -1, 1, 11])], [], [])
theorem oo_Mo_groupItem_at_k0_1 {kA : Nat → ClassId} : or_ok PRD kA GG o_Mo_groupItem_at_k0_1 := by
  refine or_mk fun A ta ws vs hD hth hl => ?_
  intro t0 r0 t3 k3 f5
  replace f5 := shm_1395 f5
  have kz_0_11 := fdq_273 hD hth r0
  obtain ⟨x, ex, hx⟩ := iv_ex (ta := ta) (lo := 0) (hi := 2000) (z := v_iv (n_v vs 3)) (by omega) (by omega) (by omega) (by omega)
  have ex2 : v_iv (Value.int x) = v_iv (n_v vs 3) := ex
  have ex3 : 0 ≤ v_iv (Value.int x) ∧ v_iv (Value.int x) ≤ 2000 := tv_rng hx
  have e_0 : n_v (vs ++ [Value.int x]) 0 = n_v vs 0 := n_v_old (by rw [hl]; decide)
  have e_3 : n_v (vs ++ [Value.int x]) 3 = n_v vs 3 := n_v_old (by rw [hl]; decide)
  have e_7 : n_v (vs ++ [Value.int x]) 7 = Value.int x := n_v_new hl
  have nf0 : fc_1 PRD (23, [7, 3], [0, 1, -1]) ws (vs ++ [Value.int x]) := by
    refine ⟨nf_inA hl rfl, sgq_7 ?_⟩
    · show 1 * v_iv (n_v (vs ++ [Value.int x]) 7) + ((-1) * v_iv (n_v (vs ++ [Value.int x]) 3) + 0) ≤ 0
      simp only [e_3, e_7]
      exact vc_Mo_groupItem_at_k0_1_0 (v_iv (n_v vs 3)) (w_fi ws (n_v vs 0) 5) (v_iv (Value.int x)) k3 ex2
  have nf1 : fc_1 PRD (23, [7, 3], [0, -1, 1]) ws (vs ++ [Value.int x]) := by
    refine ⟨nf_inA hl rfl, sgq_22 ?_⟩
    · show (-1) * v_iv (n_v (vs ++ [Value.int x]) 7) + (1 * v_iv (n_v (vs ++ [Value.int x]) 3) + 0) ≤ 0
      simp only [e_3, e_7]
      exact vc_Mo_groupItem_at_k0_1_1 (v_iv (n_v vs 3)) (w_fi ws (n_v vs 0) 5) (v_iv (Value.int x)) k3 ex2
  have nf2 : fc_1 PRD (20, [7, 0], [30, 0, 1, 0, 0, -1, 1, 11]) ws (vs ++ [Value.int x]) := by
    refine ⟨nf_inA hl rfl, sgq_1395 ?_⟩
    · show 1 * v_iv (n_v (vs ++ [Value.int x]) 7) + ((-1) * w_fi ws (n_v (vs ++ [Value.int x]) 0) 11 + 0) ≤ 0
      simp only [e_0, e_7]
      exact vc_Mo_groupItem_at_k0_1_2 (v_iv (n_v vs 3)) (w_fi ws (n_v vs 0) 5) (w_fi ws (n_v vs 0) 11) (v_iv (Value.int x)) k3 f5 kz_0_11 ex2
  exact ⟨(fun _ h => (by cases h)), [Value.int x], ag_one hx, List.forall_mem_cons.mpr ⟨⟨show (23 : Nat) < 100 from by decide, nf0⟩, List.forall_mem_cons.mpr ⟨⟨show (23 : Nat) < 100 from by decide, nf1⟩, List.forall_mem_cons.mpr ⟨⟨show (20 : Nat) < 100 from by decide, nf2⟩, (fun _ h => (by cases h))⟩⟩⟩, (fun _ h => (by cases h))⟩
set_option maxHeartbeats 4000000 in
theorem vc_Mo_groupItem_at_k0_2_r0 (x1 : Int) (x4 : Int) (x9 : Int) (all_0 : Int → Int) (r_0 : Int) (k1 : 0 ≤ x1 ∧ x1 ≤ 0) (k4 : 0 ≤ x4 ∧ x4 ≤ 7) (k9 : 0 ≤ x9 ∧ x9 ≤ 8) (f0 : 1 * x9 + ((-1) * all_0 (r_0 + 2) + 0) ≤ 0) (f1 : (-1) * x9 + (1 * all_0 (r_0 + 2) + 0) ≤ 0) (f5 : 1 * x4 + ((-1) * all_0 (r_0 + 2) + 0) ≤ 0) (f6 : (-1) * x4 + (1 * all_0 (r_0 + 2) + 0) ≤ 0) (f7 : (x1 + 1) ≤ all_0 ((r_0 + 2))) : 0 ≤ x9 ∧ x9 ≤ 7 := by
  first
    | omega
    | (have q1 := (hE_0_2_1 (r_0 + 2) (by omega)).2 (by omega)
       have q2 := (hE_0_2_2 (r_0 + 2) (by omega)).2 (by omega)
       omega)
    | (have q1 := (hE_0_2_1 (r_0 + 1) (by omega)).2 (by omega)
       have q2 := (hE_0_2_2 (r_0 + 1) (by omega)).2 (by omega)
       omega)
    | (have q1 := (hE_0_2_1 (r_0 + 2) (by omega)).2 (by omega)
       omega)
    | (have q1 := (hE_0_2_1 (r_0 + 1) (by omega)).2 (by omega)
       omega)
    | (have q1 := (hE_0_2_1 (r_0 + 2) (by omega)).2 (by omega)
       have q2 := (hE_0_2_2 (r_0 + 2) (by omega)).2 (by omega)
       have q3 := (hE_0_2_3 (r_0 + 2) (by omega)).1 (by omega)
       omega)
    | (have q1 := (hE_0_2_1 (r_0 + 2) (by omega)).2 (by omega)
       have q2 := (hE_0_2_2 (r_0 + 2) (by omega)).2 (by omega)
       have q3 := (hE_0_2_3 (r_0 + 2) (by omega)).2 (by omega)
       omega)
    | (have q1 := (hE_0_2_1 (r_0 + 2) (by omega)).2 (by omega)
       have q2 := (hE_0_2_2 (r_0 + 2) (by omega)).2 (by omega)
       have q3 := (hE_0_2_3 (r_0 + 2) (by omega)).1 (by omega)
       have q4 : x13 = r_0 + 2 := by omega
       rw [q4] at h34
       omega)
def o_Mo_groupItem_at_k0_2 : or_T := (49, 10, [(0, (2, 0, 0, [165])), (1, (0, 0, 0, [])), (3, (0, 0, 2000, [])), (4, (0, 0, 7, [])), (5, (0, 8, 8, [])), (7, (0, 0, 2000, [])), (8, (0, 1, 1, [])), (9, (0, 0, 8, []))], [(20, [9, 0], [30, 0, 1, 0, 0, -1, 3, 2005002]), (20, [9, 0], [30, 0, -1, 0, 0, 1, 3, 2005002]), (8, [8], [1]), (23, [7, 3], [0, 1, -1]), (23, [7, 3], [0, -1, 1]), (20, [4, 0], [30, 0, 1, 0, 0, -1, 3, 2005002]), (20, [4, 0], [30, 0, -1, 0, 0, 1, 3, 2005002]), (20, [1, 0], [50, 1, 1, 1005, 1002, 0, 6, 4, 2, 1, 0, 0, 1, 3, 1, 2, 4, 3, 2, 1, 5, 0, 2]), (20, [0], [60, 1, 3, 199, 5, 2, 3, 4]), (20, [0, 0], [30, 0, 1, 1, 15, -1, 1, 11]), (20, [0], [50, 3, 0, 12, 11, 15, 2, 21, 4, 7, 1, 3, 2, 0, 12, 0, 1, 0, 3, 2, 0, 11, 4, 3, 2, 0, 15, 0, 8, 3, 7, 1, 3, 2, 0, 12, 0, 0, 0, 7, 4, 3, 2, 0, 15, 0, 1, 2, 0, 11]), (20, [7, 0], [30, 0, 1, 0, 0, -1, 1, 15]), (20, [8, 0], [50, 1, 0, 1012, 4, 6, 1, 2, 1, 0, 0, 1, 1, 3, 2, 1, 12, 0, 1]), (102, [7], [0]), (23, [7, 3], [0, 1, -1]), (23, [7, 3], [0, -1, 1]), (102, [7], [0, 165011, 165012, 165013, 165014, 165015]), (23, [7, 3], [0, 1, -1]), (23, [7, 3], [0, -1, 1]), (7, [4, 5], [1])], [(9, (0, 0, 7, []))], [], [], [], [])
theorem oo_Mo_groupItem_at_k0_2 {kA : Nat → ClassId} : or_ok PRD kA GG o_Mo_groupItem_at_k0_2 := by
  refine or_mk fun A ta ws vs hD hth hl => ?_
  intro t0 r0 t1 k1 t3 k3 t4 k4 t5 k5 t7 k7 t8 k8 t9 k9 f0 f1 f2 f3 f4 f5 f6 f7 f8 f9 f10 f11 f12 ta1 w1 le1 s1 f14 f15 ta2 w2 le2 s2 f17 f18 f19
  have hrf0 : 0 ≤ v_iv (n_v vs 9) ∧ v_iv (n_v vs 9) ≤ 7 := vc_Mo_groupItem_at_k0_2_r0 (v_iv (n_v vs 1)) (v_iv (n_v vs 4)) (v_iv (n_v vs 9)) (w_ei ws (w_ar ws (n_v vs 0) 2)) (w_fi ws (n_v vs 0) 5) k1 k4 k9 (shm_132 f0) (shm_133 f1) (shm_132 f5) (shm_133 f6) (shm_981 f7)
  have rf9 : tv_ok ta (0, 0, 7, []) (n_v vs 9) := tv_in t9 (by first | omega | grind) (by first | omega | grind)
  refine ⟨List.forall_mem_cons.mpr ⟨rf9, (fun _ h => (by cases h))⟩, [], trivial, ?_, (fun _ h => (by cases h))⟩
  rw [List.append_nil]
  exact (fun _ h => (by cases h))
set_option maxHeartbeats 4000000 in
theorem vc_Mo_groupItem_at_k0_3_r0 (x1 : Int) (x9 : Int) (x11 : Int) (x13 : Int) (x14 : Int) (x16 : Int) (all_0 : Int → Int) (r_0 : Int) (k1 : 0 ≤ x1 ∧ x1 ≤ 0) (k9 : 0 ≤ x9 ∧ x9 ≤ 7) (k11 : 0 ≤ x11 ∧ x11 ≤ 66297) (k13 : 2 ≤ x13 ∧ x13 ≤ 66299) (k14 : 0 ≤ x14 ∧ x14 ≤ 8) (k16 : 1 ≤ x16 ∧ x16 ≤ 9) (d0 : x14 + 1 ≤ x16 ∧ x16 ≤ x14 + 1) (d1 : x11 + 2 ≤ x13 ∧ x13 ≤ x11 + 2) (h1 : x14 = all_0 (x13)) (g3 : x11 = r_0) (f5 : 1 * x9 + ((-1) * all_0 (r_0 + 2) + 0) ≤ 0) (f6 : (-1) * x9 + (1 * all_0 (r_0 + 2) + 0) ≤ 0) (f12 : (x1 + 1) ≤ all_0 ((r_0 + 2))) : 1 ≤ x16 ∧ x16 ≤ 8 := by
  first
    | omega
    | (have e : x13 = r_0 + 2 := by omega
       rw [e] at h1
       omega)
def o_Mo_groupItem_at_k0_3 : or_T := (64, 17, [(0, (2, 0, 0, [165])), (1, (0, 0, 0, [])), (3, (0, 0, 2000, [])), (4, (0, 0, 7, [])), (5, (0, 8, 8, [])), (7, (0, 0, 2000, [])), (8, (0, 1, 1, [])), (9, (0, 0, 7, [])), (10, (2, 0, 0, [167])), (11, (0, 0, 66297, [])), (12, (0, 2, 2, [])), (13, (0, 2, 66299, [])), (14, (0, 0, 8, [])), (15, (0, 1, 1, [])), (16, (0, 1, 9, []))], [(1, [16, 14, 15], []), (10, [14, 10, 13], []), (1, [13, 11, 12], []), (9, [11, 0], [5]), (9, [10, 0], [2]), (20, [9, 0], [30, 0, 1, 0, 0, -1, 3, 2005002]), (20, [9, 0], [30, 0, -1, 0, 0, 1, 3, 2005002]), (8, [8], [1]), (23, [7, 3], [0, 1, -1]), (23, [7, 3], [0, -1, 1]), (20, [4, 0], [30, 0, 1, 0, 0, -1, 3, 2005002]), (20, [4, 0], [30, 0, -1, 0, 0, 1, 3, 2005002]), (20, [1, 0], [50, 1, 1, 1005, 1002, 0, 6, 4, 2, 1, 0, 0, 1, 3, 1, 2, 4, 3, 2, 1, 5, 0, 2]), (20, [0], [60, 1, 3, 199, 5, 2, 3, 4]), (20, [0, 0], [30, 0, 1, 1, 15, -1, 1, 11]), (20, [0], [50, 3, 0, 12, 11, 15, 2, 21, 4, 7, 1, 3, 2, 0, 12, 0, 1, 0, 3, 2, 0, 11, 4, 3, 2, 0, 15, 0, 8, 3, 7, 1, 3, 2, 0, 12, 0, 0, 0, 7, 4, 3, 2, 0, 15, 0, 1, 2, 0, 11]), (20, [7, 0], [30, 0, 1, 0, 0, -1, 1, 15]), (20, [8, 0], [50, 1, 0, 1012, 4, 6, 1, 2, 1, 0, 0, 1, 1, 3, 2, 1, 12, 0, 1]), (102, [7], [0]), (23, [7, 3], [0, 1, -1]), (23, [7, 3], [0, -1, 1]), (102, [7], [0, 165011, 165012, 165013, 165014, 165015]), (23, [7, 3], [0, 1, -1]), (23, [7, 3], [0, -1, 1]), (7, [4, 5], [1])], [(16, (0, 1, 8, []))], [], [], [], [(16, 14, 1, 1), (13, 11, 2, 2)])
theorem oo_Mo_groupItem_at_k0_3 {kA : Nat → ClassId} : or_ok PRD kA GG o_Mo_groupItem_at_k0_3 := by
  refine or_mk fun A ta ws vs hD hth hl => ?_
  intro t0 r0 t1 k1 t3 k3 t4 k4 t5 k5 t7 k7 t8 k8 t9 k9 t10 r10 t11 k11 t12 k12 t13 k13 t14 k14 t15 k15 t16 k16 d0 d1 f0 f1 f2 f3 f4 f5 f6 f7 f8 f9 f10 f11 f12 f13 f14 f15 f16 f17 ta1 w1 le1 s1 f19 f20 ta2 w2 le2 s2 f22 f23 f24
  replace f1 := shm_106 f1
  replace f3 := shm_109 f3
  replace f4 := shm_129 f4
  have ad_10 : v_ad (n_v vs 10) = w_ar ws (n_v vs 0) 2 := congrArg v_ad f4
  simp only [ad_10] at f1
  have h1 : v_iv (n_v vs 14) = w_ei ws (w_ar ws (n_v vs 0) 2) (v_iv (n_v vs 13)) := f1
  have g3 : v_iv (n_v vs 11) = w_fi ws (n_v vs 0) 5 := congrArg v_iv f3
  have hrf0 : 1 ≤ v_iv (n_v vs 16) ∧ v_iv (n_v vs 16) ≤ 8 := vc_Mo_groupItem_at_k0_3_r0 (v_iv (n_v vs 1)) (v_iv (n_v vs 9)) (v_iv (n_v vs 11)) (v_iv (n_v vs 13)) (v_iv (n_v vs 14)) (v_iv (n_v vs 16)) (w_ei ws (w_ar ws (n_v vs 0) 2)) (w_fi ws (n_v vs 0) 5) k1 k9 k11 k13 k14 k16 d0 d1 h1 g3 (shm_132 f5) (shm_133 f6) (shm_981 f12)
  have rf16 : tv_ok ta (0, 1, 8, []) (n_v vs 16) := tv_in t16 (by first | omega | grind) (by first | omega | grind)
  refine ⟨List.forall_mem_cons.mpr ⟨rf16, (fun _ h => (by cases h))⟩, [], trivial, ?_, (fun _ h => (by cases h))⟩
  rw [List.append_nil]
  exact (fun _ h => (by cases h))
set_option maxHeartbeats 4000000 in
theorem vc_Mo_groupItem_at_k0_4_0 (x1 : Int) (x9 : Int) (x13 : Int) (x16 : Int) (from_0 : Int) (pos_0 : Int) (kind_0 : Int) (all_1 : Int → Int) (r_1 : Int) (r_0 : Int) (now_1 : Int → Int) (latest_1 : Int → Int) (from_1 : Int) (pos_1 : Int) (kind_1 : Int) (all_0 : Int → Int) (now_0 : Int → Int) (latest_0 : Int → Int) (k1 : 0 ≤ x1 ∧ x1 ≤ 0) (k9 : 0 ≤ x9 ∧ x9 ≤ 7) (k13 : 2 ≤ x13 ∧ x13 ≤ 66299) (k16 : 1 ≤ x16 ∧ x16 ≤ 8) (f12 : 1 * x9 + ((-1) * all_1 (r_0 + 2) + 0) ≤ 0) (f13 : (-1) * x9 + (1 * all_1 (r_0 + 2) + 0) ≤ 0) (f19 : (x1 + 1) ≤ all_1 ((r_1 + 2))) (fe_0_5_1 : r_0 = r_1) (fe_0_11_1 : pos_0 = pos_1) (fe_0_12_1 : kind_0 = kind_1) (fe_0_15_1 : from_0 = from_1) (hE_0_2_1 : ∀ j : Int, 0 ≤ j → (j = x13 → all_0 j = x16) ∧ (j ≠ x13 → all_0 j = all_1 j)) (hE_0_3_1 : ∀ j : Int, now_0 j = now_1 j) (hE_0_4_1 : ∀ j : Int, latest_0 j = latest_1 j) (kz_0_11 : 0 ≤ pos_0 ∧ pos_0 ≤ 2000) (kz_0_12 : 0 ≤ kind_0 ∧ kind_0 ≤ 4) (kz_0_15 : 0 ≤ from_0 ∧ from_0 ≤ 2000) : 1 * x1 + ((-1) * x9 + 0) ≤ (-1) := by
  subst fe_0_5_1
  subst fe_0_11_1
  subst fe_0_12_1
  subst fe_0_15_1
  have e_hE_0_3_1 := funext hE_0_3_1; subst e_hE_0_3_1
  have e_hE_0_4_1 := funext hE_0_4_1; subst e_hE_0_4_1
  first
    | omega
    | (have q1 := (hE_0_2_1 (r_0 + 2) (by omega)).2 (by omega)
       have q2 := (hE_0_2_2 (r_0 + 2) (by omega)).2 (by omega)
       omega)
    | (have q1 := (hE_0_2_1 (r_0 + 1) (by omega)).2 (by omega)
       have q2 := (hE_0_2_2 (r_0 + 1) (by omega)).2 (by omega)
       omega)
    | (have q1 := (hE_0_2_1 (r_0 + 2) (by omega)).2 (by omega)
       omega)
    | (have q1 := (hE_0_2_1 (r_0 + 1) (by omega)).2 (by omega)
       omega)
    | (have q1 := (hE_0_2_1 (r_0 + 2) (by omega)).2 (by omega)
       have q2 := (hE_0_2_2 (r_0 + 2) (by omega)).2 (by omega)
       have q3 := (hE_0_2_3 (r_0 + 2) (by omega)).1 (by omega)
       omega)
    | (have q1 := (hE_0_2_1 (r_0 + 2) (by omega)).2 (by omega)
       have q2 := (hE_0_2_2 (r_0 + 2) (by omega)).2 (by omega)
       have q3 := (hE_0_2_3 (r_0 + 2) (by omega)).2 (by omega)
       omega)
    | (have q1 := (hE_0_2_1 (r_0 + 2) (by omega)).2 (by omega)
       have q2 := (hE_0_2_2 (r_0 + 2) (by omega)).2 (by omega)
       have q3 := (hE_0_2_3 (r_0 + 2) (by omega)).1 (by omega)
       have q4 : x13 = r_0 + 2 := by omega
       rw [q4] at h34
       omega)
def o_Mo_groupItem_at_k0_4 : or_T := (65, 17, [(0, (2, 0, 0, [165])), (1, (0, 0, 0, [])), (3, (0, 0, 2000, [])), (4, (0, 0, 7, [])), (5, (0, 8, 8, [])), (7, (0, 0, 2000, [])), (8, (0, 1, 1, [])), (9, (0, 0, 7, [])), (10, (2, 0, 0, [167])), (11, (0, 0, 66297, [])), (12, (0, 2, 2, [])), (13, (0, 2, 66299, [])), (14, (0, 0, 8, [])), (15, (0, 1, 1, [])), (16, (0, 1, 8, []))], [(23, [7, 3], [0, 1, -1]), (23, [7, 3], [0, -1, 1]), (20, [0, 0], [30, 0, 1, 1, 15, -1, 1, 11]), (20, [0], [50, 3, 0, 12, 11, 15, 2, 21, 4, 7, 1, 3, 2, 0, 12, 0, 1, 0, 3, 2, 0, 11, 4, 3, 2, 0, 15, 0, 8, 3, 7, 1, 3, 2, 0, 12, 0, 0, 0, 7, 4, 3, 2, 0, 15, 0, 1, 2, 0, 11]), (20, [7, 0], [30, 0, 1, 0, 0, -1, 1, 15]), (20, [8, 0], [50, 1, 0, 1012, 4, 6, 1, 2, 1, 0, 0, 1, 1, 3, 2, 1, 12, 0, 1]), (100, [10, 13, 16], []), (1, [16, 14, 15], []), (10, [14, 10, 13], []), (1, [13, 11, 12], []), (9, [11, 0], [5]), (9, [10, 0], [2]), (20, [9, 0], [30, 0, 1, 0, 0, -1, 3, 2005002]), (20, [9, 0], [30, 0, -1, 0, 0, 1, 3, 2005002]), (8, [8], [1]), (23, [7, 3], [0, 1, -1]), (23, [7, 3], [0, -1, 1]), (20, [4, 0], [30, 0, 1, 0, 0, -1, 3, 2005002]), (20, [4, 0], [30, 0, -1, 0, 0, 1, 3, 2005002]), (20, [1, 0], [50, 1, 1, 1005, 1002, 0, 6, 4, 2, 1, 0, 0, 1, 3, 1, 2, 4, 3, 2, 1, 5, 0, 2]), (20, [0], [60, 1, 3, 199, 5, 2, 3, 4]), (20, [0, 0], [30, 0, 1, 1, 15, -1, 1, 11]), (20, [0], [50, 3, 0, 12, 11, 15, 2, 21, 4, 7, 1, 3, 2, 0, 12, 0, 1, 0, 3, 2, 0, 11, 4, 3, 2, 0, 15, 0, 8, 3, 7, 1, 3, 2, 0, 12, 0, 0, 0, 7, 4, 3, 2, 0, 15, 0, 1, 2, 0, 11]), (20, [7, 0], [30, 0, 1, 0, 0, -1, 1, 15]), (20, [8, 0], [50, 1, 0, 1012, 4, 6, 1, 2, 1, 0, 0, 1, 1, 3, 2, 1, 12, 0, 1]), (102, [7], [0]), (23, [7, 3], [0, 1, -1]), (23, [7, 3], [0, -1, 1]), (102, [7], [0, 165011, 165012, 165013, 165014, 165015]), (23, [7, 3], [0, 1, -1]), (23, [7, 3], [0, -1, 1]), (7, [4, 5], [1])], [], [], [(23, [1, 9], [-1, 1, -1])], [], [(16, 14, 1, 1), (13, 11, 2, 2)])
theorem oo_Mo_groupItem_at_k0_4 {kA : Nat → ClassId} : or_ok PRD kA GG o_Mo_groupItem_at_k0_4 := by
  refine or_mk fun A ta ws vs hD hth hl => ?_
  intro t0 r0 t1 k1 t3 k3 t4 k4 t5 k5 t7 k7 t8 k8 t9 k9 t10 r10 t11 k11 t12 k12 t13 k13 t14 k14 t15 k15 t16 k16 d0 d1 f0 f1 f2 f3 f4 f5 ta1 w1 le1 s1 f7 f8 f9 f10 f11 f12 f13 f14 f15 f16 f17 f18 f19 f20 f21 f22 f23 f24 ta2 w2 le2 s2 f26 f27 ta3 w3 le3 s3 f29 f30 f31
  replace f0 := shm_7 f0
  replace f1 := shm_22 f1
  replace f2 := shm_1397 f2
  replace f3 := shm_1398 f3
  replace f4 := shm_1396 f4
  replace f5 := shm_1762 f5
  have s1 : (∀ b j, w_el ws b j = if b = v_ad (n_v vs 10) ∧ j = (v_iv (n_v vs 13)).toNat then v_iv (n_v vs 16) else w_el w1 b j) ∧ ∀ b k, w_fd ws b k = w_fd w1 b k := s1.2
  replace f7 := shm_12 f7
  replace f8 := shm_106 f8
  replace f9 := shm_12 f9
  replace f10 := shm_109 f10
  replace f11 := shm_129 f11
  replace f12 := shm_132 f12
  replace f13 := shm_133 f13
  replace f14 := shm_154 f14
  replace f15 := shm_7 f15
  replace f16 := shm_22 f16
  replace f17 := shm_132 f17
  replace f18 := shm_133 f18
  replace f19 := shm_981 f19
  replace f20 := shm_952 f20
  replace f21 := shm_1397 f21
  replace f22 := shm_1398 f22
  replace f23 := shm_1396 f23
  replace f24 := shm_1762 f24
  replace f26 := shm_7 f26
  replace f27 := shm_22 f27
  replace f29 := shm_7 f29
  replace f30 := shm_22 f30
  replace f31 := shm_40 f31
  have ar_0_2_1 : w_ar w1 (n_v vs 0) 2 = w_ar ws (n_v vs 0) 2 := congrArg v_ad (s1.2 _ _).symm
  have cr_0_2 := fdq_12 hD hth r0
  have ar_0_3_1 : w_ar w1 (n_v vs 0) 3 = w_ar ws (n_v vs 0) 3 := congrArg v_ad (s1.2 _ _).symm
  have cr_0_3 := fdq_141 hD hth r0
  have ar_0_4_1 : w_ar w1 (n_v vs 0) 4 = w_ar ws (n_v vs 0) 4 := congrArg v_ad (s1.2 _ _).symm
  have cr_0_4 := fdq_142 hD hth r0
  have fi_0_5_1 : w_fi w1 (n_v vs 0) 5 = w_fi ws (n_v vs 0) 5 := by show v_iv (w_fd w1 _ _) = v_iv (w_fd ws _ _); rw [s1.2]
  have ad_10 : v_ad (n_v vs 10) = w_ar ws (n_v vs 0) 2 := (congrArg v_ad f11).trans ar_0_2_1
  simp only [ad_10] at f8
  have h8 : v_iv (n_v vs 14) = w_ei w1 (w_ar ws (n_v vs 0) 2) (v_iv (n_v vs 13)) := f8
  have g10 : v_iv (n_v vs 11) = w_fi w1 (n_v vs 0) 5 := congrArg v_iv f10
  simp only [ar_0_2_1, ar_0_3_1, ar_0_4_1] at f12 f13 f17 f18 f19 f20
  simp only [fi_0_5_1] at f12 f13 f17 f18
  have fe_0_5_1 : w_fi ws (n_v vs 0) 5 = w_fi w1 (n_v vs 0) 5 := congrArg v_iv (s1.2 _ _)
  have fe_0_11_1 : w_fi ws (n_v vs 0) 11 = w_fi w1 (n_v vs 0) 11 := congrArg v_iv (s1.2 _ _)
  have fe_0_12_1 : w_fi ws (n_v vs 0) 12 = w_fi w1 (n_v vs 0) 12 := congrArg v_iv (s1.2 _ _)
  have fe_0_15_1 : w_fi ws (n_v vs 0) 15 = w_fi w1 (n_v vs 0) 15 := congrArg v_iv (s1.2 _ _)
  have hE_0_2_1 : ∀ j : Int, 0 ≤ j → (j = v_iv (n_v vs 13) → w_ei ws (w_ar ws (n_v vs 0) 2) j = v_iv (n_v vs 16)) ∧ (j ≠ v_iv (n_v vs 13) → w_ei ws (w_ar ws (n_v vs 0) 2) j = w_ei w1 (w_ar ws (n_v vs 0) 2) j) := fun j hj => ⟨fun h => by unfold w_ei; rw [s1.1, if_pos ⟨ad_10.symm, by rw [h]⟩], fun h => by unfold w_ei; rw [s1.1, if_neg (fun e => h (by have := e.2; omega))]⟩
  have hE_0_3_1 : ∀ j : Int, w_ei ws (w_ar ws (n_v vs 0) 3) j = w_ei w1 (w_ar ws (n_v vs 0) 3) j := el_kp s1.1 r10 cr_0_3 (by decide)
  have hK_0_3 := elq_77 hD hth cr_0_3
  have hE_0_4_1 : ∀ j : Int, w_ei ws (w_ar ws (n_v vs 0) 4) j = w_ei w1 (w_ar ws (n_v vs 0) 4) j := el_kp s1.1 r10 cr_0_4 (by decide)
  have hK_0_4 := elq_78 hD hth cr_0_4
  have kz_0_11 := fdq_273 hD hth r0
  have kz_0_12 := fdq_186 hD hth r0
  have kz_0_15 := fdq_274 hD hth r0
  first | have hJ0 : w_ei w1 (w_ar ws (n_v vs 0) 2) ((w_fi w1 (n_v vs 0) 5 + 2)) = w_ei w1 (w_ar ws (n_v vs 0) 2) ((w_fi ws (n_v vs 0) 5 + 2)) := congrArg _ (show ((w_fi w1 (n_v vs 0) 5 + 2) : Int) = (w_fi ws (n_v vs 0) 5 + 2) from by omega) | skip
  first | have hI1 := (hE_0_2_1 ((w_fi ws (n_v vs 0) 5 + 2)) (by omega)).2 (by omega) | have hI1 := (hE_0_2_1 ((w_fi ws (n_v vs 0) 5 + 2)) (by omega)).1 (by omega) | skip
  have nf0 : fc_1 PRD (23, [1, 9], [-1, 1, -1]) ws (vs) := ⟨nf_in hl rfl, sgq_211 (vc_Mo_groupItem_at_k0_4_0 (v_iv (n_v vs 1)) (v_iv (n_v vs 9)) (v_iv (n_v vs 13)) (v_iv (n_v vs 16)) (w_fi ws (n_v vs 0) 15) (w_fi ws (n_v vs 0) 11) (w_fi ws (n_v vs 0) 12) (w_ei w1 (w_ar ws (n_v vs 0) 2)) (w_fi w1 (n_v vs 0) 5) (w_fi ws (n_v vs 0) 5) (w_ei w1 (w_ar ws (n_v vs 0) 3)) (w_ei w1 (w_ar ws (n_v vs 0) 4)) (w_fi w1 (n_v vs 0) 15) (w_fi w1 (n_v vs 0) 11) (w_fi w1 (n_v vs 0) 12) (w_ei ws (w_ar ws (n_v vs 0) 2)) (w_ei ws (w_ar ws (n_v vs 0) 3)) (w_ei ws (w_ar ws (n_v vs 0) 4)) k1 k9 k13 k16 f12 f13 f19 fe_0_5_1 fe_0_11_1 fe_0_12_1 fe_0_15_1 hE_0_2_1 hE_0_3_1 hE_0_4_1 kz_0_11 kz_0_12 kz_0_15)⟩
  refine ⟨(fun _ h => (by cases h)), [], trivial, ?_, (fun _ h => (by cases h))⟩
  rw [List.append_nil]
  exact List.forall_mem_cons.mpr ⟨⟨show (23 : Nat) < 100 from by decide, nf0⟩, (fun _ h => (by cases h))⟩
def o_Mo_groupItem_at_k0_5 : or_T := (80, 20, [(1, (0, 0, 0, [])), (9, (0, 0, 7, [])), (11, (5, 0, 66297, [539])), (17, (0, 531, 531, [])), (18, (0, 531, 66828, [])), (19, (0, 531, 66835, []))], [(1, [19, 18, 9], []), (1, [18, 11, 17], []), (23, [1, 9], [-1, 1, -1])], [], [], [(18, [19, 1], [1])], [], [(19, 9, 531, 66828), (19, 18, 0, 7), (19, 11, 531, 538), (18, 11, 531, 531)])
theorem oo_Mo_groupItem_at_k0_5 {kA : Nat → ClassId} : or_ok PRD kA GG o_Mo_groupItem_at_k0_5 := by
  refine or_mk fun A ta ws vs hD hth hl => ?_
  intro t1 k1 t9 k9 t11 t17 k17 t18 k18 t19 k19 d0 d1 d2 d3 f0 f1 f2
  obtain ⟨k11, q11_⟩ : (0 ≤ v_iv (n_v vs 11) ∧ v_iv (n_v vs 11) ≤ 66297) ∧ ∃ q : Int, v_iv (n_v vs 11) = 539 * q := tv_dvk t11
  obtain ⟨q11, hq11⟩ := q11_
  replace f0 := shm_12 f0
  replace f1 := shm_12 f1
  replace f2 := shm_211 f2
  have nf0 : fc_1 PRD (18, [19, 1], [1]) ws (vs) := by
    refine ⟨nf_in hl rfl, sgq_1268 ?_⟩
    · show pl_ok 1 (v_iv (n_v vs 19)).toNat (v_iv (n_v vs 1))
      exact pl_ginS (k := v_iv (n_v vs 9)) (by omega) (by omega) (by omega) (by omega) (by omega)
  refine ⟨(fun _ h => (by cases h)), [], trivial, ?_, (fun _ h => (by cases h))⟩
  rw [List.append_nil]
  exact List.forall_mem_cons.mpr ⟨⟨show (18 : Nat) < 100 from by decide, nf0⟩, (fun _ h => (by cases h))⟩
set_option maxHeartbeats 4000000 in
theorem vc_Mo_groupItem_at_k0_6_r0 (x1 : Int) (x8 : Int) (x13 : Int) (x16 : Int) (x19 : Int) (x23 : Int) (x24 : Int) (x25 : Int) (from_0 : Int) (pos_0 : Int) (r_0 : Int) (kind_0 : Int) (from_1 : Int) (pos_1 : Int) (kind_1 : Int) (all_2 : Int → Int) (r_2 : Int) (now_2 : Int → Int) (latest_2 : Int → Int) (from_2 : Int) (pos_2 : Int) (kind_2 : Int) (r_1 : Int) (all_0 : Int → Int) (all_1 : Int → Int) (now_0 : Int → Int) (now_1 : Int → Int) (latest_0 : Int → Int) (latest_1 : Int → Int) (k1 : 0 ≤ x1 ∧ x1 ≤ 0) (k8 : 1 ≤ x8 ∧ x8 ≤ 1) (k13 : 2 ≤ x13 ∧ x13 ≤ 66299) (k16 : 1 ≤ x16 ∧ x16 ≤ 8) (k19 : 531 ≤ x19 ∧ x19 ≤ 66835) (k23 : 0 ≤ x23 ∧ x23 ≤ 2000) (k24 : 0 ≤ x24 ∧ x24 ≤ 2000) (k25 : (-2000) ≤ x25 ∧ x25 ≤ 2000) (f0 : x25 = x23 - x24) (g1 : x24 = from_0) (g2 : x23 = pos_0) (f10 : 1 * from_0 + ((-1) * pos_0 + 0) ≤ 0) (f38 : ((kind_2 = 1) → (pos_2 ≤ (from_2 + 8))) ∧ ((kind_2 = 0) ∨ ((from_2 + 1) ≤ pos_2))) (f40 : (x8 = 1) → (kind_2 = 1)) (fe_0_5_1 : r_0 = r_1) (fe_0_11_1 : pos_0 = pos_1) (fe_0_12_1 : kind_0 = kind_1) (fe_0_15_1 : from_0 = from_1) (fe_0_5_2 : r_1 = r_2) (fe_0_11_2 : pos_1 = pos_2) (fe_0_12_2 : kind_1 = kind_2) (fe_0_15_2 : from_1 = from_2) (hE_0_2_1 : ∀ j : Int, 0 ≤ j → (j = x19 → all_0 j = x1) ∧ (j ≠ x19 → all_0 j = all_1 j)) (hE_0_2_2 : ∀ j : Int, 0 ≤ j → (j = x13 → all_1 j = x16) ∧ (j ≠ x13 → all_1 j = all_2 j)) (hE_0_3_1 : ∀ j : Int, now_0 j = now_1 j) (hE_0_3_2 : ∀ j : Int, now_1 j = now_2 j) (hE_0_4_1 : ∀ j : Int, latest_0 j = latest_1 j) (hE_0_4_2 : ∀ j : Int, latest_1 j = latest_2 j) (kz_0_11 : 0 ≤ pos_0 ∧ pos_0 ≤ 2000) (kz_0_12 : 0 ≤ kind_0 ∧ kind_0 ≤ 4) (kz_0_15 : 0 ≤ from_0 ∧ from_0 ≤ 2000) : 0 ≤ x25 ∧ x25 ≤ 8 := by
  subst fe_0_5_1
  subst fe_0_11_1
  subst fe_0_12_1
  subst fe_0_15_1
  subst fe_0_5_2
  subst fe_0_11_2
  subst fe_0_12_2
  subst fe_0_15_2
  have e_hE_0_3_1 := funext hE_0_3_1; subst e_hE_0_3_1
  have e_hE_0_3_2 := funext hE_0_3_2; subst e_hE_0_3_2
  have e_hE_0_4_1 := funext hE_0_4_1; subst e_hE_0_4_1
  have e_hE_0_4_2 := funext hE_0_4_2; subst e_hE_0_4_2
  first
    | omega
    | (have q1 := (hE_0_2_1 (r_0 + 2) (by omega)).2 (by omega)
       have q2 := (hE_0_2_2 (r_0 + 2) (by omega)).2 (by omega)
       omega)
    | (have q1 := (hE_0_2_1 (r_0 + 1) (by omega)).2 (by omega)
       have q2 := (hE_0_2_2 (r_0 + 1) (by omega)).2 (by omega)
       omega)
    | (have q1 := (hE_0_2_1 (r_0 + 2) (by omega)).2 (by omega)
       omega)
    | (have q1 := (hE_0_2_1 (r_0 + 1) (by omega)).2 (by omega)
       omega)
    | (have q1 := (hE_0_2_1 (r_0 + 2) (by omega)).2 (by omega)
       have q2 := (hE_0_2_2 (r_0 + 2) (by omega)).2 (by omega)
       have q3 := (hE_0_2_3 (r_0 + 2) (by omega)).1 (by omega)
       omega)
    | (have q1 := (hE_0_2_1 (r_0 + 2) (by omega)).2 (by omega)
       have q2 := (hE_0_2_2 (r_0 + 2) (by omega)).2 (by omega)
       have q3 := (hE_0_2_3 (r_0 + 2) (by omega)).2 (by omega)
       omega)
    | (have q1 := (hE_0_2_1 (r_0 + 2) (by omega)).2 (by omega)
       have q2 := (hE_0_2_2 (r_0 + 2) (by omega)).2 (by omega)
       have q3 := (hE_0_2_3 (r_0 + 2) (by omega)).1 (by omega)
       have q4 : x13 = r_0 + 2 := by omega
       rw [q4] at h34
       omega)
def o_Mo_groupItem_at_k0_6 : or_T := (104, 26, [(0, (2, 0, 0, [165])), (1, (0, 0, 0, [])), (3, (0, 0, 2000, [])), (4, (0, 0, 7, [])), (5, (0, 8, 8, [])), (7, (0, 0, 2000, [])), (8, (0, 1, 1, [])), (9, (0, 0, 7, [])), (10, (2, 0, 0, [167])), (11, (0, 0, 66297, [])), (12, (0, 2, 2, [])), (13, (0, 2, 66299, [])), (14, (0, 0, 8, [])), (15, (0, 1, 1, [])), (16, (0, 1, 8, [])), (17, (0, 531, 531, [])), (18, (0, 531, 66828, [])), (19, (0, 531, 66835, [])), (20, (0, 523, 523, [])), (21, (0, 523, 66820, [])), (22, (0, 523, 66827, [])), (23, (0, 0, 2000, [])), (24, (0, 0, 2000, [])), (25, (0, -2000, 2000, []))], [(2, [25, 23, 24], []), (9, [24, 0], [15]), (9, [23, 0], [11]), (1, [22, 21, 9], []), (1, [21, 11, 20], []), (9, [11, 0], [5]), (9, [10, 0], [2]), (23, [1, 9], [-1, 1, -1]), (23, [7, 3], [0, 1, -1]), (23, [7, 3], [0, -1, 1]), (20, [0, 0], [30, 0, 1, 1, 15, -1, 1, 11]), (20, [0], [50, 3, 0, 12, 11, 15, 2, 21, 4, 7, 1, 3, 2, 0, 12, 0, 1, 0, 3, 2, 0, 11, 4, 3, 2, 0, 15, 0, 8, 3, 7, 1, 3, 2, 0, 12, 0, 0, 0, 7, 4, 3, 2, 0, 15, 0, 1, 2, 0, 11]), (20, [7, 0], [30, 0, 1, 0, 0, -1, 1, 15]), (20, [8, 0], [50, 1, 0, 1012, 4, 6, 1, 2, 1, 0, 0, 1, 1, 3, 2, 1, 12, 0, 1]), (100, [10, 19, 1], []), (1, [19, 18, 9], []), (1, [18, 11, 17], []), (23, [1, 9], [-1, 1, -1]), (23, [7, 3], [0, 1, -1]), (23, [7, 3], [0, -1, 1]), (20, [0, 0], [30, 0, 1, 1, 15, -1, 1, 11]), (20, [0], [50, 3, 0, 12, 11, 15, 2, 21, 4, 7, 1, 3, 2, 0, 12, 0, 1, 0, 3, 2, 0, 11, 4, 3, 2, 0, 15, 0, 8, 3, 7, 1, 3, 2, 0, 12, 0, 0, 0, 7, 4, 3, 2, 0, 15, 0, 1, 2, 0, 11]), (20, [7, 0], [30, 0, 1, 0, 0, -1, 1, 15]), (20, [8, 0], [50, 1, 0, 1012, 4, 6, 1, 2, 1, 0, 0, 1, 1, 3, 2, 1, 12, 0, 1]), (100, [10, 13, 16], []), (1, [16, 14, 15], []), (10, [14, 10, 13], []), (1, [13, 11, 12], []), (20, [9, 0], [30, 0, 1, 0, 0, -1, 3, 2005002]), (20, [9, 0], [30, 0, -1, 0, 0, 1, 3, 2005002]), (8, [8], [1]), (23, [7, 3], [0, 1, -1]), (23, [7, 3], [0, -1, 1]), (20, [4, 0], [30, 0, 1, 0, 0, -1, 3, 2005002]), (20, [4, 0], [30, 0, -1, 0, 0, 1, 3, 2005002]), (20, [1, 0], [50, 1, 1, 1005, 1002, 0, 6, 4, 2, 1, 0, 0, 1, 3, 1, 2, 4, 3, 2, 1, 5, 0, 2]), (20, [0], [60, 1, 3, 199, 5, 2, 3, 4]), (20, [0, 0], [30, 0, 1, 1, 15, -1, 1, 11]), (20, [0], [50, 3, 0, 12, 11, 15, 2, 21, 4, 7, 1, 3, 2, 0, 12, 0, 1, 0, 3, 2, 0, 11, 4, 3, 2, 0, 15, 0, 8, 3, 7, 1, 3, 2, 0, 12, 0, 0, 0, 7, 4, 3, 2, 0, 15, 0, 1, 2, 0, 11]), (20, [7, 0], [30, 0, 1, 0, 0, -1, 1, 15]), (20, [8, 0], [50, 1, 0, 1012, 4, 6, 1, 2, 1, 0, 0, 1, 1, 3, 2, 1, 12, 0, 1]), (102, [7], [0]), (23, [7, 3], [0, 1, -1]), (23, [7, 3], [0, -1, 1]), (102, [7], [0, 165011, 165012, 165013, 165014, 165015]), (23, [7, 3], [0, 1, -1]), (23, [7, 3], [0, -1, 1]), (7, [4, 5], [1])], [(25, (0, 0, 8, []))], [], [], [], [(25, 23, -2000, 0), (22, 9, 523, 66820), (22, 21, 0, 7), (22, 11, 523, 530), (21, 11, 523, 523), (19, 9, 531, 66828), (19, 18, 0, 7), (19, 11, 531, 538), (18, 11, 531, 531), (16, 14, 1, 1), (13, 11, 2, 2)])
theorem oo_Mo_groupItem_at_k0_6 {kA : Nat → ClassId} : or_ok PRD kA GG o_Mo_groupItem_at_k0_6 := by
  refine or_mk fun A ta ws vs hD hth hl => ?_
  intro t0 r0 t1 k1 t3 k3 t4 k4 t5 k5 t7 k7 t8 k8 t9 k9 t10 r10 t11 k11 t12 k12 t13 k13 t14 k14 t15 k15 t16 k16 t17 k17 t18 k18 t19 k19 t20 k20 t21 k21 t22 k22 t23 k23 t24 k24 t25 k25 d0 d1 d2 d3 d4 d5 d6 d7 d8 d9 d10 f0 f1 f2 f3 f4 f5 f6 f7 f8 f9 f10 f11 f12 f13 ta1 w1 le1 s1 f15 f16 f17 f18 f19 f20 f21 f22 f23 ta2 w2 le2 s2 f25 f26 f27 f28 f29 f30 f31 f32 f33 f34 f35 f36 f37 f38 f39 f40 ta3 w3 le3 s3 f42 f43 ta4 w4 le4 s4 f45 f46 f47
  replace f0 := shm_14 f0
  replace f1 := shm_189 f1
  replace f2 := shm_117 f2
  replace f3 := shm_12 f3
  replace f4 := shm_12 f4
  replace f5 := shm_109 f5
  replace f6 := shm_129 f6
  replace f7 := shm_211 f7
  replace f8 := shm_7 f8
  replace f9 := shm_22 f9
  replace f10 := shm_1397 f10
  replace f11 := shm_1398 f11
  replace f12 := shm_1396 f12
  replace f13 := shm_1762 f13
  have s1 : (∀ b j, w_el ws b j = if b = v_ad (n_v vs 10) ∧ j = (v_iv (n_v vs 19)).toNat then v_iv (n_v vs 1) else w_el w1 b j) ∧ ∀ b k, w_fd ws b k = w_fd w1 b k := s1.2
  replace f15 := shm_12 f15
  replace f16 := shm_12 f16
  replace f17 := shm_211 f17
  replace f18 := shm_7 f18
  replace f19 := shm_22 f19
  replace f20 := shm_1397 f20
  replace f21 := shm_1398 f21
  replace f22 := shm_1396 f22
  replace f23 := shm_1762 f23
  have s2 : (∀ b j, w_el w1 b j = if b = v_ad (n_v vs 10) ∧ j = (v_iv (n_v vs 13)).toNat then v_iv (n_v vs 16) else w_el w2 b j) ∧ ∀ b k, w_fd w1 b k = w_fd w2 b k := s2.2
  replace f25 := shm_12 f25
  replace f26 := shm_106 f26
  replace f27 := shm_12 f27
  replace f28 := shm_132 f28
  replace f29 := shm_133 f29
  replace f30 := shm_154 f30
  replace f31 := shm_7 f31
  replace f32 := shm_22 f32
  replace f33 := shm_132 f33
  replace f34 := shm_133 f34
  replace f35 := shm_981 f35
  replace f36 := shm_952 f36
  replace f37 := shm_1397 f37
  replace f38 := shm_1398 f38
  replace f39 := shm_1396 f39
  replace f40 := shm_1762 f40
  replace f42 := shm_7 f42
  replace f43 := shm_22 f43
  replace f45 := shm_7 f45
  replace f46 := shm_22 f46
  replace f47 := shm_40 f47
  have ar_0_2_1 : w_ar w1 (n_v vs 0) 2 = w_ar ws (n_v vs 0) 2 := congrArg v_ad (s1.2 _ _).symm
  have ar_0_2_2 : w_ar w2 (n_v vs 0) 2 = w_ar ws (n_v vs 0) 2 := by rw [← ar_0_2_1]; show v_ad (w_fd w2 _ _) = v_ad (w_fd w1 _ _); rw [s2.2]
  have cr_0_2 := fdq_12 hD hth r0
  have ar_0_3_1 : w_ar w1 (n_v vs 0) 3 = w_ar ws (n_v vs 0) 3 := congrArg v_ad (s1.2 _ _).symm
  have ar_0_3_2 : w_ar w2 (n_v vs 0) 3 = w_ar ws (n_v vs 0) 3 := by rw [← ar_0_3_1]; show v_ad (w_fd w2 _ _) = v_ad (w_fd w1 _ _); rw [s2.2]
  have cr_0_3 := fdq_141 hD hth r0
  have ar_0_4_1 : w_ar w1 (n_v vs 0) 4 = w_ar ws (n_v vs 0) 4 := congrArg v_ad (s1.2 _ _).symm
  have ar_0_4_2 : w_ar w2 (n_v vs 0) 4 = w_ar ws (n_v vs 0) 4 := by rw [← ar_0_4_1]; show v_ad (w_fd w2 _ _) = v_ad (w_fd w1 _ _); rw [s2.2]
  have cr_0_4 := fdq_142 hD hth r0
  have fi_0_5_1 : w_fi w1 (n_v vs 0) 5 = w_fi ws (n_v vs 0) 5 := by show v_iv (w_fd w1 _ _) = v_iv (w_fd ws _ _); rw [s1.2]
  have fi_0_5_2 : w_fi w2 (n_v vs 0) 5 = w_fi ws (n_v vs 0) 5 := by rw [← fi_0_5_1]; show v_iv (w_fd w2 _ _) = v_iv (w_fd w1 _ _); rw [s2.2]
  have ad_10 : v_ad (n_v vs 10) = w_ar ws (n_v vs 0) 2 := congrArg v_ad f6
  have g1 : v_iv (n_v vs 24) = w_fi ws (n_v vs 0) 15 := congrArg v_iv f1
  have g2 : v_iv (n_v vs 23) = w_fi ws (n_v vs 0) 11 := congrArg v_iv f2
  have g5 : v_iv (n_v vs 11) = w_fi ws (n_v vs 0) 5 := congrArg v_iv f5
  simp only [ad_10] at f26
  have h26 : v_iv (n_v vs 14) = w_ei w2 (w_ar ws (n_v vs 0) 2) (v_iv (n_v vs 13)) := f26
  simp only [ar_0_2_2, ar_0_3_2, ar_0_4_2] at f28 f29 f33 f34 f35 f36
  simp only [fi_0_5_2] at f28 f29 f33 f34
  have fe_0_5_1 : w_fi ws (n_v vs 0) 5 = w_fi w1 (n_v vs 0) 5 := congrArg v_iv (s1.2 _ _)
  have fe_0_11_1 : w_fi ws (n_v vs 0) 11 = w_fi w1 (n_v vs 0) 11 := congrArg v_iv (s1.2 _ _)
  have fe_0_12_1 : w_fi ws (n_v vs 0) 12 = w_fi w1 (n_v vs 0) 12 := congrArg v_iv (s1.2 _ _)
  have fe_0_15_1 : w_fi ws (n_v vs 0) 15 = w_fi w1 (n_v vs 0) 15 := congrArg v_iv (s1.2 _ _)
  have fe_0_5_2 : w_fi w1 (n_v vs 0) 5 = w_fi w2 (n_v vs 0) 5 := congrArg v_iv (s2.2 _ _)
  have fe_0_11_2 : w_fi w1 (n_v vs 0) 11 = w_fi w2 (n_v vs 0) 11 := congrArg v_iv (s2.2 _ _)
  have fe_0_12_2 : w_fi w1 (n_v vs 0) 12 = w_fi w2 (n_v vs 0) 12 := congrArg v_iv (s2.2 _ _)
  have fe_0_15_2 : w_fi w1 (n_v vs 0) 15 = w_fi w2 (n_v vs 0) 15 := congrArg v_iv (s2.2 _ _)
  have hE_0_2_1 : ∀ j : Int, 0 ≤ j → (j = v_iv (n_v vs 19) → w_ei ws (w_ar ws (n_v vs 0) 2) j = v_iv (n_v vs 1)) ∧ (j ≠ v_iv (n_v vs 19) → w_ei ws (w_ar ws (n_v vs 0) 2) j = w_ei w1 (w_ar ws (n_v vs 0) 2) j) := fun j hj => ⟨fun h => by unfold w_ei; rw [s1.1, if_pos ⟨ad_10.symm, by rw [h]⟩], fun h => by unfold w_ei; rw [s1.1, if_neg (fun e => h (by have := e.2; omega))]⟩
  have hE_0_2_2 : ∀ j : Int, 0 ≤ j → (j = v_iv (n_v vs 13) → w_ei w1 (w_ar ws (n_v vs 0) 2) j = v_iv (n_v vs 16)) ∧ (j ≠ v_iv (n_v vs 13) → w_ei w1 (w_ar ws (n_v vs 0) 2) j = w_ei w2 (w_ar ws (n_v vs 0) 2) j) := fun j hj => ⟨fun h => by unfold w_ei; rw [s2.1, if_pos ⟨ad_10.symm, by rw [h]⟩], fun h => by unfold w_ei; rw [s2.1, if_neg (fun e => h (by have := e.2; omega))]⟩
  have hE_0_3_1 : ∀ j : Int, w_ei ws (w_ar ws (n_v vs 0) 3) j = w_ei w1 (w_ar ws (n_v vs 0) 3) j := el_kp s1.1 r10 cr_0_3 (by decide)
  have hE_0_3_2 : ∀ j : Int, w_ei w1 (w_ar ws (n_v vs 0) 3) j = w_ei w2 (w_ar ws (n_v vs 0) 3) j := el_kp s2.1 r10 cr_0_3 (by decide)
  have hK_0_3 := elq_77 hD hth cr_0_3
  have hE_0_4_1 : ∀ j : Int, w_ei ws (w_ar ws (n_v vs 0) 4) j = w_ei w1 (w_ar ws (n_v vs 0) 4) j := el_kp s1.1 r10 cr_0_4 (by decide)
  have hE_0_4_2 : ∀ j : Int, w_ei w1 (w_ar ws (n_v vs 0) 4) j = w_ei w2 (w_ar ws (n_v vs 0) 4) j := el_kp s2.1 r10 cr_0_4 (by decide)
  have hK_0_4 := elq_78 hD hth cr_0_4
  have kz_0_11 := fdq_273 hD hth r0
  have kz_0_12 := fdq_186 hD hth r0
  have kz_0_15 := fdq_274 hD hth r0
  first | have hJ0 : w_ei w2 (w_ar ws (n_v vs 0) 2) ((w_fi w2 (n_v vs 0) 5 + 2)) = w_ei w2 (w_ar ws (n_v vs 0) 2) ((w_fi ws (n_v vs 0) 5 + 2)) := congrArg _ (show ((w_fi w2 (n_v vs 0) 5 + 2) : Int) = (w_fi ws (n_v vs 0) 5 + 2) from by omega) | skip
  first | have hI1 := (hE_0_2_1 ((w_fi ws (n_v vs 0) 5 + 2)) (by omega)).2 (by omega) | have hI1 := (hE_0_2_1 ((w_fi ws (n_v vs 0) 5 + 2)) (by omega)).1 (by omega) | skip
  first | have hI2 := (hE_0_2_2 ((w_fi ws (n_v vs 0) 5 + 2)) (by omega)).2 (by omega) | have hI2 := (hE_0_2_2 ((w_fi ws (n_v vs 0) 5 + 2)) (by omega)).1 (by omega) | skip
  have hrf0 : 0 ≤ v_iv (n_v vs 25) ∧ v_iv (n_v vs 25) ≤ 8 := vc_Mo_groupItem_at_k0_6_r0 (v_iv (n_v vs 1)) (v_iv (n_v vs 8)) (v_iv (n_v vs 13)) (v_iv (n_v vs 16)) (v_iv (n_v vs 19)) (v_iv (n_v vs 23)) (v_iv (n_v vs 24)) (v_iv (n_v vs 25)) (w_fi ws (n_v vs 0) 15) (w_fi ws (n_v vs 0) 11) (w_fi ws (n_v vs 0) 5) (w_fi ws (n_v vs 0) 12) (w_fi w1 (n_v vs 0) 15) (w_fi w1 (n_v vs 0) 11) (w_fi w1 (n_v vs 0) 12) (w_ei w2 (w_ar ws (n_v vs 0) 2)) (w_fi w2 (n_v vs 0) 5) (w_ei w2 (w_ar ws (n_v vs 0) 3)) (w_ei w2 (w_ar ws (n_v vs 0) 4)) (w_fi w2 (n_v vs 0) 15) (w_fi w2 (n_v vs 0) 11) (w_fi w2 (n_v vs 0) 12) (w_fi w1 (n_v vs 0) 5) (w_ei ws (w_ar ws (n_v vs 0) 2)) (w_ei w1 (w_ar ws (n_v vs 0) 2)) (w_ei ws (w_ar ws (n_v vs 0) 3)) (w_ei w1 (w_ar ws (n_v vs 0) 3)) (w_ei ws (w_ar ws (n_v vs 0) 4)) (w_ei w1 (w_ar ws (n_v vs 0) 4)) k1 k8 k13 k16 k19 k23 k24 k25 f0 g1 g2 f10 f38 f40 fe_0_5_1 fe_0_11_1 fe_0_12_1 fe_0_15_1 fe_0_5_2 fe_0_11_2 fe_0_12_2 fe_0_15_2 hE_0_2_1 hE_0_2_2 hE_0_3_1 hE_0_3_2 hE_0_4_1 hE_0_4_2 kz_0_11 kz_0_12 kz_0_15
  have rf25 : tv_ok ta (0, 0, 8, []) (n_v vs 25) := tv_in t25 (by first | omega | grind) (by first | omega | grind)
  refine ⟨List.forall_mem_cons.mpr ⟨rf25, (fun _ h => (by cases h))⟩, [], trivial, ?_, (fun _ h => (by cases h))⟩
  rw [List.append_nil]
  exact (fun _ h => (by cases h))
set_option maxHeartbeats 4000000 in
theorem vc_Mo_groupItem_at_k0_7_0 (x1 : Int) (x3 : Int) (x7 : Int) (x8 : Int) (x13 : Int) (x14 : Int) (x16 : Int) (x19 : Int) (x22 : Int) (x23 : Int) (x24 : Int) (x25 : Int) (from_0 : Int) (pos_0 : Int) (kind_0 : Int) (from_1 : Int) (pos_1 : Int) (r_1 : Int) (kind_1 : Int) (from_2 : Int) (pos_2 : Int) (kind_2 : Int) (all_3 : Int → Int) (r_0 : Int) (r_3 : Int) (now_3 : Int → Int) (latest_3 : Int → Int) (from_3 : Int) (pos_3 : Int) (kind_3 : Int) (r_2 : Int) (all_0 : Int → Int) (all_1 : Int → Int) (all_2 : Int → Int) (now_0 : Int → Int) (now_1 : Int → Int) (now_2 : Int → Int) (latest_0 : Int → Int) (latest_1 : Int → Int) (latest_2 : Int → Int) (k1 : 0 ≤ x1 ∧ x1 ≤ 0) (k3 : 0 ≤ x3 ∧ x3 ≤ 2000) (k7 : 0 ≤ x7 ∧ x7 ≤ 2000) (k8 : 1 ≤ x8 ∧ x8 ≤ 1) (k13 : 2 ≤ x13 ∧ x13 ≤ 66299) (k14 : 0 ≤ x14 ∧ x14 ≤ 8) (k16 : 1 ≤ x16 ∧ x16 ≤ 8) (k19 : 531 ≤ x19 ∧ x19 ≤ 66835) (k22 : 523 ≤ x22 ∧ x22 ≤ 66827) (k23 : 0 ≤ x23 ∧ x23 ≤ 2000) (k24 : 0 ≤ x24 ∧ x24 ≤ 2000) (k25 : 0 ≤ x25 ∧ x25 ≤ 8) (f1 : 1 * x7 + ((-1) * x3 + 0) ≤ 0) (f2 : (-1) * x7 + (1 * x3 + 0) ≤ 0) (f5 : 1 * x7 + ((-1) * from_0 + 0) ≤ 0) (f8 : x25 = x23 - x24) (g9 : x24 = from_1) (g10 : x23 = pos_1) (h34 : x14 = all_3 (x13)) (f46 : ((kind_3 = 1) → (pos_3 ≤ (from_3 + 8))) ∧ ((kind_3 = 0) ∨ ((from_3 + 1) ≤ pos_3))) (f48 : (x8 = 1) → (kind_3 = 1)) (fe_0_5_1 : r_0 = r_1) (fe_0_11_1 : pos_0 = pos_1) (fe_0_12_1 : kind_0 = kind_1) (fe_0_15_1 : from_0 = from_1) (fe_0_5_2 : r_1 = r_2) (fe_0_11_2 : pos_1 = pos_2) (fe_0_12_2 : kind_1 = kind_2) (fe_0_15_2 : from_1 = from_2) (fe_0_5_3 : r_2 = r_3) (fe_0_11_3 : pos_2 = pos_3) (fe_0_12_3 : kind_2 = kind_3) (fe_0_15_3 : from_2 = from_3) (hE_0_2_1 : ∀ j : Int, 0 ≤ j → (j = x22 → all_0 j = x25) ∧ (j ≠ x22 → all_0 j = all_1 j)) (hE_0_2_2 : ∀ j : Int, 0 ≤ j → (j = x19 → all_1 j = x1) ∧ (j ≠ x19 → all_1 j = all_2 j)) (hE_0_2_3 : ∀ j : Int, 0 ≤ j → (j = x13 → all_2 j = x16) ∧ (j ≠ x13 → all_2 j = all_3 j)) (hE_0_3_1 : ∀ j : Int, now_0 j = now_1 j) (hE_0_3_2 : ∀ j : Int, now_1 j = now_2 j) (hE_0_3_3 : ∀ j : Int, now_2 j = now_3 j) (hE_0_4_1 : ∀ j : Int, latest_0 j = latest_1 j) (hE_0_4_2 : ∀ j : Int, latest_1 j = latest_2 j) (hE_0_4_3 : ∀ j : Int, latest_2 j = latest_3 j) (kz_0_11 : 0 ≤ pos_0 ∧ pos_0 ≤ 2000) (kz_0_12 : 0 ≤ kind_0 ∧ kind_0 ≤ 4) (kz_0_15 : 0 ≤ from_0 ∧ from_0 ≤ 2000) : 1 * x3 + ((-1) * pos_0 + 0) ≤ (-1) := by
  subst fe_0_5_1
  subst fe_0_11_1
  subst fe_0_12_1
  subst fe_0_15_1
  subst fe_0_5_2
  subst fe_0_11_2
  subst fe_0_12_2
  subst fe_0_15_2
  subst fe_0_5_3
  subst fe_0_11_3
  subst fe_0_12_3
  subst fe_0_15_3
  have e_hE_0_3_1 := funext hE_0_3_1; subst e_hE_0_3_1
  have e_hE_0_3_2 := funext hE_0_3_2; subst e_hE_0_3_2
  have e_hE_0_3_3 := funext hE_0_3_3; subst e_hE_0_3_3
  have e_hE_0_4_1 := funext hE_0_4_1; subst e_hE_0_4_1
  have e_hE_0_4_2 := funext hE_0_4_2; subst e_hE_0_4_2
  have e_hE_0_4_3 := funext hE_0_4_3; subst e_hE_0_4_3
  first
    | omega
    | (have q1 := (hE_0_2_1 (r_0 + 2) (by omega)).2 (by omega)
       have q2 := (hE_0_2_2 (r_0 + 2) (by omega)).2 (by omega)
       omega)
    | (have q1 := (hE_0_2_1 (r_0 + 1) (by omega)).2 (by omega)
       have q2 := (hE_0_2_2 (r_0 + 1) (by omega)).2 (by omega)
       omega)
    | (have q1 := (hE_0_2_1 (r_0 + 2) (by omega)).2 (by omega)
       omega)
    | (have q1 := (hE_0_2_1 (r_0 + 1) (by omega)).2 (by omega)
       omega)
    | (have q1 := (hE_0_2_1 (r_0 + 2) (by omega)).2 (by omega)
       have q2 := (hE_0_2_2 (r_0 + 2) (by omega)).2 (by omega)
       have q3 := (hE_0_2_3 (r_0 + 2) (by omega)).1 (by omega)
       omega)
    | (have q1 := (hE_0_2_1 (r_0 + 2) (by omega)).2 (by omega)
       have q2 := (hE_0_2_2 (r_0 + 2) (by omega)).2 (by omega)
       have q3 := (hE_0_2_3 (r_0 + 2) (by omega)).2 (by omega)
       omega)
    | (have q1 := (hE_0_2_1 (r_0 + 2) (by omega)).2 (by omega)
       have q2 := (hE_0_2_2 (r_0 + 2) (by omega)).2 (by omega)
       have q3 := (hE_0_2_3 (r_0 + 2) (by omega)).1 (by omega)
       have q4 : x13 = r_0 + 2 := by omega
       rw [q4] at h34
       omega)
set_option maxHeartbeats 4000000 in
theorem vc_Mo_groupItem_at_k0_7_1 (x1 : Int) (x8 : Int) (x13 : Int) (x14 : Int) (x16 : Int) (x19 : Int) (x22 : Int) (x25 : Int) (from_0 : Int) (pos_0 : Int) (kind_0 : Int) (from_1 : Int) (pos_1 : Int) (r_1 : Int) (kind_1 : Int) (from_2 : Int) (pos_2 : Int) (kind_2 : Int) (all_3 : Int → Int) (r_0 : Int) (r_3 : Int) (now_3 : Int → Int) (latest_3 : Int → Int) (from_3 : Int) (pos_3 : Int) (kind_3 : Int) (r_2 : Int) (all_0 : Int → Int) (all_1 : Int → Int) (all_2 : Int → Int) (now_0 : Int → Int) (now_1 : Int → Int) (now_2 : Int → Int) (latest_0 : Int → Int) (latest_1 : Int → Int) (latest_2 : Int → Int) (k1 : 0 ≤ x1 ∧ x1 ≤ 0) (k8 : 1 ≤ x8 ∧ x8 ≤ 1) (k13 : 2 ≤ x13 ∧ x13 ≤ 66299) (k14 : 0 ≤ x14 ∧ x14 ≤ 8) (k16 : 1 ≤ x16 ∧ x16 ≤ 8) (k19 : 531 ≤ x19 ∧ x19 ≤ 66835) (k22 : 523 ≤ x22 ∧ x22 ≤ 66827) (k25 : 0 ≤ x25 ∧ x25 ≤ 8) (h34 : x14 = all_3 (x13)) (f46 : ((kind_3 = 1) → (pos_3 ≤ (from_3 + 8))) ∧ ((kind_3 = 0) ∨ ((from_3 + 1) ≤ pos_3))) (f48 : (x8 = 1) → (kind_3 = 1)) (fe_0_5_1 : r_0 = r_1) (fe_0_11_1 : pos_0 = pos_1) (fe_0_12_1 : kind_0 = kind_1) (fe_0_15_1 : from_0 = from_1) (fe_0_5_2 : r_1 = r_2) (fe_0_11_2 : pos_1 = pos_2) (fe_0_12_2 : kind_1 = kind_2) (fe_0_15_2 : from_1 = from_2) (fe_0_5_3 : r_2 = r_3) (fe_0_11_3 : pos_2 = pos_3) (fe_0_12_3 : kind_2 = kind_3) (fe_0_15_3 : from_2 = from_3) (hE_0_2_1 : ∀ j : Int, 0 ≤ j → (j = x22 → all_0 j = x25) ∧ (j ≠ x22 → all_0 j = all_1 j)) (hE_0_2_2 : ∀ j : Int, 0 ≤ j → (j = x19 → all_1 j = x1) ∧ (j ≠ x19 → all_1 j = all_2 j)) (hE_0_2_3 : ∀ j : Int, 0 ≤ j → (j = x13 → all_2 j = x16) ∧ (j ≠ x13 → all_2 j = all_3 j)) (hE_0_3_1 : ∀ j : Int, now_0 j = now_1 j) (hE_0_3_2 : ∀ j : Int, now_1 j = now_2 j) (hE_0_3_3 : ∀ j : Int, now_2 j = now_3 j) (hE_0_4_1 : ∀ j : Int, latest_0 j = latest_1 j) (hE_0_4_2 : ∀ j : Int, latest_1 j = latest_2 j) (hE_0_4_3 : ∀ j : Int, latest_2 j = latest_3 j) (kz_0_11 : 0 ≤ pos_0 ∧ pos_0 ≤ 2000) (kz_0_12 : 0 ≤ kind_0 ∧ kind_0 ≤ 4) (kz_0_15 : 0 ≤ from_0 ∧ from_0 ≤ 2000) : kind_0 = 1 := by
  subst fe_0_5_1
  subst fe_0_11_1
  subst fe_0_12_1
  subst fe_0_15_1
  subst fe_0_5_2
  subst fe_0_11_2
  subst fe_0_12_2
  subst fe_0_15_2
  subst fe_0_5_3
  subst fe_0_11_3
  subst fe_0_12_3
  subst fe_0_15_3
  have e_hE_0_3_1 := funext hE_0_3_1; subst e_hE_0_3_1
  have e_hE_0_3_2 := funext hE_0_3_2; subst e_hE_0_3_2
  have e_hE_0_3_3 := funext hE_0_3_3; subst e_hE_0_3_3
  have e_hE_0_4_1 := funext hE_0_4_1; subst e_hE_0_4_1
  have e_hE_0_4_2 := funext hE_0_4_2; subst e_hE_0_4_2
  have e_hE_0_4_3 := funext hE_0_4_3; subst e_hE_0_4_3
  first
    | omega
    | (have q1 := (hE_0_2_1 (r_0 + 2) (by omega)).2 (by omega)
       have q2 := (hE_0_2_2 (r_0 + 2) (by omega)).2 (by omega)
       omega)
    | (have q1 := (hE_0_2_1 (r_0 + 1) (by omega)).2 (by omega)
       have q2 := (hE_0_2_2 (r_0 + 1) (by omega)).2 (by omega)
       omega)
    | (have q1 := (hE_0_2_1 (r_0 + 2) (by omega)).2 (by omega)
       omega)
    | (have q1 := (hE_0_2_1 (r_0 + 1) (by omega)).2 (by omega)
       omega)
    | (have q1 := (hE_0_2_1 (r_0 + 2) (by omega)).2 (by omega)
       have q2 := (hE_0_2_2 (r_0 + 2) (by omega)).2 (by omega)
       have q3 := (hE_0_2_3 (r_0 + 2) (by omega)).1 (by omega)
       omega)
    | (have q1 := (hE_0_2_1 (r_0 + 2) (by omega)).2 (by omega)
       have q2 := (hE_0_2_2 (r_0 + 2) (by omega)).2 (by omega)
       have q3 := (hE_0_2_3 (r_0 + 2) (by omega)).2 (by omega)
       omega)
    | (have q1 := (hE_0_2_1 (r_0 + 2) (by omega)).2 (by omega)
       have q2 := (hE_0_2_2 (r_0 + 2) (by omega)).2 (by omega)
       have q3 := (hE_0_2_3 (r_0 + 2) (by omega)).1 (by omega)
       have q4 : x13 = r_0 + 2 := by omega
       rw [q4] at h34
       omega)
set_option maxHeartbeats 4000000 in
theorem vc_Mo_groupItem_at_k0_7_2 (x1 : Int) (x9 : Int) (x11 : Int) (x13 : Int) (x14 : Int) (x16 : Int) (x18 : Int) (x19 : Int) (x21 : Int) (x22 : Int) (x25 : Int) (from_0 : Int) (pos_0 : Int) (kind_0 : Int) (from_1 : Int) (pos_1 : Int) (r_1 : Int) (kind_1 : Int) (from_2 : Int) (pos_2 : Int) (kind_2 : Int) (all_3 : Int → Int) (r_0 : Int) (r_3 : Int) (now_3 : Int → Int) (latest_3 : Int → Int) (from_3 : Int) (pos_3 : Int) (kind_3 : Int) (r_2 : Int) (all_0 : Int → Int) (all_1 : Int → Int) (all_2 : Int → Int) (now_0 : Int → Int) (now_1 : Int → Int) (now_2 : Int → Int) (latest_0 : Int → Int) (latest_1 : Int → Int) (latest_2 : Int → Int) (k1 : 0 ≤ x1 ∧ x1 ≤ 0) (k9 : 0 ≤ x9 ∧ x9 ≤ 7) (k11 : 0 ≤ x11 ∧ x11 ≤ 66297) (k13 : 2 ≤ x13 ∧ x13 ≤ 66299) (k14 : 0 ≤ x14 ∧ x14 ≤ 8) (k16 : 1 ≤ x16 ∧ x16 ≤ 8) (k18 : 531 ≤ x18 ∧ x18 ≤ 66828) (k19 : 531 ≤ x19 ∧ x19 ≤ 66835) (k21 : 523 ≤ x21 ∧ x21 ≤ 66820) (k22 : 523 ≤ x22 ∧ x22 ≤ 66827) (k25 : 0 ≤ x25 ∧ x25 ≤ 8) (d4 : x11 + 523 ≤ x21 ∧ x21 ≤ x11 + 523) (d8 : x11 + 531 ≤ x18 ∧ x18 ≤ x11 + 531) (d9 : x14 + 1 ≤ x16 ∧ x16 ≤ x14 + 1) (d10 : x11 + 2 ≤ x13 ∧ x13 ≤ x11 + 2) (f0 : 1 * x1 + ((-1) * x9 + 0) ≤ (-1)) (f11 : x22 = x21 + x9) (g13 : x11 = r_1) (f23 : x19 = x18 + x9) (h34 : x14 = all_3 (x13)) (f36 : 1 * x9 + ((-1) * all_3 (r_0 + 2) + 0) ≤ 0) (f37 : (-1) * x9 + (1 * all_3 (r_0 + 2) + 0) ≤ 0) (fe_0_5_1 : r_0 = r_1) (fe_0_11_1 : pos_0 = pos_1) (fe_0_12_1 : kind_0 = kind_1) (fe_0_15_1 : from_0 = from_1) (fe_0_5_2 : r_1 = r_2) (fe_0_11_2 : pos_1 = pos_2) (fe_0_12_2 : kind_1 = kind_2) (fe_0_15_2 : from_1 = from_2) (fe_0_5_3 : r_2 = r_3) (fe_0_11_3 : pos_2 = pos_3) (fe_0_12_3 : kind_2 = kind_3) (fe_0_15_3 : from_2 = from_3) (hE_0_2_1 : ∀ j : Int, 0 ≤ j → (j = x22 → all_0 j = x25) ∧ (j ≠ x22 → all_0 j = all_1 j)) (hE_0_2_2 : ∀ j : Int, 0 ≤ j → (j = x19 → all_1 j = x1) ∧ (j ≠ x19 → all_1 j = all_2 j)) (hE_0_2_3 : ∀ j : Int, 0 ≤ j → (j = x13 → all_2 j = x16) ∧ (j ≠ x13 → all_2 j = all_3 j)) (hE_0_3_1 : ∀ j : Int, now_0 j = now_1 j) (hE_0_3_2 : ∀ j : Int, now_1 j = now_2 j) (hE_0_3_3 : ∀ j : Int, now_2 j = now_3 j) (hE_0_4_1 : ∀ j : Int, latest_0 j = latest_1 j) (hE_0_4_2 : ∀ j : Int, latest_1 j = latest_2 j) (hE_0_4_3 : ∀ j : Int, latest_2 j = latest_3 j) (kz_0_11 : 0 ≤ pos_0 ∧ pos_0 ≤ 2000) (kz_0_12 : 0 ≤ kind_0 ∧ kind_0 ≤ 4) (kz_0_15 : 0 ≤ from_0 ∧ from_0 ≤ 2000) : (x9 + 1) ≤ all_0 ((r_0 + 2)) := by
  subst fe_0_5_1
  subst fe_0_11_1
  subst fe_0_12_1
  subst fe_0_15_1
  subst fe_0_5_2
  subst fe_0_11_2
  subst fe_0_12_2
  subst fe_0_15_2
  subst fe_0_5_3
  subst fe_0_11_3
  subst fe_0_12_3
  subst fe_0_15_3
  have e_hE_0_3_1 := funext hE_0_3_1; subst e_hE_0_3_1
  have e_hE_0_3_2 := funext hE_0_3_2; subst e_hE_0_3_2
  have e_hE_0_3_3 := funext hE_0_3_3; subst e_hE_0_3_3
  have e_hE_0_4_1 := funext hE_0_4_1; subst e_hE_0_4_1
  have e_hE_0_4_2 := funext hE_0_4_2; subst e_hE_0_4_2
  have e_hE_0_4_3 := funext hE_0_4_3; subst e_hE_0_4_3
  first
    | omega
    | (have q1 := (hE_0_2_1 (r_0 + 2) (by omega)).2 (by omega)
       have q2 := (hE_0_2_2 (r_0 + 2) (by omega)).2 (by omega)
       omega)
    | (have q1 := (hE_0_2_1 (r_0 + 1) (by omega)).2 (by omega)
       have q2 := (hE_0_2_2 (r_0 + 1) (by omega)).2 (by omega)
       omega)
    | (have q1 := (hE_0_2_1 (r_0 + 2) (by omega)).2 (by omega)
       omega)
    | (have q1 := (hE_0_2_1 (r_0 + 1) (by omega)).2 (by omega)
       omega)
    | (have q1 := (hE_0_2_1 (r_0 + 2) (by omega)).2 (by omega)
       have q2 := (hE_0_2_2 (r_0 + 2) (by omega)).2 (by omega)
       have q3 := (hE_0_2_3 (r_0 + 2) (by omega)).1 (by omega)
       omega)
    | (have q1 := (hE_0_2_1 (r_0 + 2) (by omega)).2 (by omega)
       have q2 := (hE_0_2_2 (r_0 + 2) (by omega)).2 (by omega)
       have q3 := (hE_0_2_3 (r_0 + 2) (by omega)).2 (by omega)
       omega)
    | (have q1 := (hE_0_2_1 (r_0 + 2) (by omega)).2 (by omega)
       have q2 := (hE_0_2_2 (r_0 + 2) (by omega)).2 (by omega)
       have q3 := (hE_0_2_3 (r_0 + 2) (by omega)).1 (by omega)
       have q4 : x13 = r_0 + 2 := by omega
       rw [q4] at h34
       omega)
set_option maxHeartbeats 4000000 in
theorem vc_Mo_groupItem_at_k0_7_3 (x1 : Int) (x9 : Int) (x11 : Int) (x13 : Int) (x16 : Int) (x18 : Int) (x19 : Int) (x21 : Int) (x22 : Int) (x25 : Int) (from_0 : Int) (pos_0 : Int) (kind_0 : Int) (from_1 : Int) (pos_1 : Int) (r_1 : Int) (kind_1 : Int) (from_2 : Int) (pos_2 : Int) (kind_2 : Int) (all_3 : Int → Int) (r_0 : Int) (r_3 : Int) (now_3 : Int → Int) (latest_3 : Int → Int) (from_3 : Int) (pos_3 : Int) (kind_3 : Int) (r_2 : Int) (all_0 : Int → Int) (all_1 : Int → Int) (all_2 : Int → Int) (now_0 : Int → Int) (now_1 : Int → Int) (now_2 : Int → Int) (latest_0 : Int → Int) (latest_1 : Int → Int) (latest_2 : Int → Int) (k1 : 0 ≤ x1 ∧ x1 ≤ 0) (k9 : 0 ≤ x9 ∧ x9 ≤ 7) (k11 : 0 ≤ x11 ∧ x11 ≤ 66297) (k13 : 2 ≤ x13 ∧ x13 ≤ 66299) (k16 : 1 ≤ x16 ∧ x16 ≤ 8) (k18 : 531 ≤ x18 ∧ x18 ≤ 66828) (k19 : 531 ≤ x19 ∧ x19 ≤ 66835) (k21 : 523 ≤ x21 ∧ x21 ≤ 66820) (k22 : 523 ≤ x22 ∧ x22 ≤ 66827) (k25 : 0 ≤ x25 ∧ x25 ≤ 8) (d4 : x11 + 523 ≤ x21 ∧ x21 ≤ x11 + 523) (d8 : x11 + 531 ≤ x18 ∧ x18 ≤ x11 + 531) (d10 : x11 + 2 ≤ x13 ∧ x13 ≤ x11 + 2) (f0 : 1 * x1 + ((-1) * x9 + 0) ≤ (-1)) (f11 : x22 = x21 + x9) (g13 : x11 = r_1) (f23 : x19 = x18 + x9) (f36 : 1 * x9 + ((-1) * all_3 (r_0 + 2) + 0) ≤ 0) (f37 : (-1) * x9 + (1 * all_3 (r_0 + 2) + 0) ≤ 0) (f44 : RWS (r_3) (all_3) (now_3) (latest_3)) (fe_0_5_1 : r_0 = r_1) (fe_0_11_1 : pos_0 = pos_1) (fe_0_12_1 : kind_0 = kind_1) (fe_0_15_1 : from_0 = from_1) (fe_0_5_2 : r_1 = r_2) (fe_0_11_2 : pos_1 = pos_2) (fe_0_12_2 : kind_1 = kind_2) (fe_0_15_2 : from_1 = from_2) (fe_0_5_3 : r_2 = r_3) (fe_0_11_3 : pos_2 = pos_3) (fe_0_12_3 : kind_2 = kind_3) (fe_0_15_3 : from_2 = from_3) (hE_0_2_1 : ∀ j : Int, 0 ≤ j → (j = x22 → all_0 j = x25) ∧ (j ≠ x22 → all_0 j = all_1 j)) (hE_0_2_2 : ∀ j : Int, 0 ≤ j → (j = x19 → all_1 j = x1) ∧ (j ≠ x19 → all_1 j = all_2 j)) (hE_0_2_3 : ∀ j : Int, 0 ≤ j → (j = x13 → all_2 j = x16) ∧ (j ≠ x13 → all_2 j = all_3 j)) (hE_0_3_1 : ∀ j : Int, now_0 j = now_1 j) (hE_0_3_2 : ∀ j : Int, now_1 j = now_2 j) (hE_0_3_3 : ∀ j : Int, now_2 j = now_3 j) (hE_0_4_1 : ∀ j : Int, latest_0 j = latest_1 j) (hE_0_4_2 : ∀ j : Int, latest_1 j = latest_2 j) (hE_0_4_3 : ∀ j : Int, latest_2 j = latest_3 j) (kz_0_11 : 0 ≤ pos_0 ∧ pos_0 ≤ 2000) (kz_0_12 : 0 ≤ kind_0 ∧ kind_0 ≤ 4) (kz_0_15 : 0 ≤ from_0 ∧ from_0 ≤ 2000) : RWS (r_0) (all_0) (now_0) (latest_0) := by
  subst fe_0_5_1
  subst fe_0_11_1
  subst fe_0_12_1
  subst fe_0_15_1
  subst fe_0_5_2
  subst fe_0_11_2
  subst fe_0_12_2
  subst fe_0_15_2
  subst fe_0_5_3
  subst fe_0_11_3
  subst fe_0_12_3
  subst fe_0_15_3
  have e_hE_0_3_1 := funext hE_0_3_1; subst e_hE_0_3_1
  have e_hE_0_3_2 := funext hE_0_3_2; subst e_hE_0_3_2
  have e_hE_0_3_3 := funext hE_0_3_3; subst e_hE_0_3_3
  have e_hE_0_4_1 := funext hE_0_4_1; subst e_hE_0_4_1
  have e_hE_0_4_2 := funext hE_0_4_2; subst e_hE_0_4_2
  have e_hE_0_4_3 := funext hE_0_4_3; subst e_hE_0_4_3
  first
    | assumption
    | (have hr := rws_r ‹RWS _ _ _ _›
       exact rws_off (rws_off (rws_off ‹RWS _ _ _ _› (by assumption) (by omega)) (by assumption) (by omega)) (by assumption) (by omega))
    | (have hr := rws_r ‹RWS _ _ _ _›
       exact rws_off ‹RWS _ _ _ _› (by assumption) (by omega))
def o_Mo_groupItem_at_k0_7 : or_T := (108, 27, [(0, (2, 0, 0, [165])), (1, (0, 0, 0, [])), (3, (0, 0, 2000, [])), (4, (0, 0, 7, [])), (5, (0, 8, 8, [])), (7, (0, 0, 2000, [])), (8, (0, 1, 1, [])), (9, (0, 0, 7, [])), (10, (2, 0, 0, [167])), (11, (0, 0, 66297, [])), (12, (0, 2, 2, [])), (13, (0, 2, 66299, [])), (14, (0, 0, 8, [])), (15, (0, 1, 1, [])), (16, (0, 1, 8, [])), (17, (0, 531, 531, [])), (18, (0, 531, 66828, [])), (19, (0, 531, 66835, [])), (20, (0, 523, 523, [])), (21, (0, 523, 66820, [])), (22, (0, 523, 66827, [])), (23, (0, 0, 2000, [])), (24, (0, 0, 2000, [])), (25, (0, 0, 8, []))], [(23, [1, 9], [-1, 1, -1]), (23, [7, 3], [0, 1, -1]), (23, [7, 3], [0, -1, 1]), (20, [0, 0], [30, 0, 1, 1, 15, -1, 1, 11]), (20, [0], [50, 3, 0, 12, 11, 15, 2, 21, 4, 7, 1, 3, 2, 0, 12, 0, 1, 0, 3, 2, 0, 11, 4, 3, 2, 0, 15, 0, 8, 3, 7, 1, 3, 2, 0, 12, 0, 0, 0, 7, 4, 3, 2, 0, 15, 0, 1, 2, 0, 11]), (20, [7, 0], [30, 0, 1, 0, 0, -1, 1, 15]), (20, [8, 0], [50, 1, 0, 1012, 4, 6, 1, 2, 1, 0, 0, 1, 1, 3, 2, 1, 12, 0, 1]), (100, [10, 22, 25], []), (2, [25, 23, 24], []), (9, [24, 0], [15]), (9, [23, 0], [11]), (1, [22, 21, 9], []), (1, [21, 11, 20], []), (9, [11, 0], [5]), (9, [10, 0], [2]), (23, [1, 9], [-1, 1, -1]), (23, [7, 3], [0, 1, -1]), (23, [7, 3], [0, -1, 1]), (20, [0, 0], [30, 0, 1, 1, 15, -1, 1, 11]), (20, [0], [50, 3, 0, 12, 11, 15, 2, 21, 4, 7, 1, 3, 2, 0, 12, 0, 1, 0, 3, 2, 0, 11, 4, 3, 2, 0, 15, 0, 8, 3, 7, 1, 3, 2, 0, 12, 0, 0, 0, 7, 4, 3, 2, 0, 15, 0, 1, 2, 0, 11]), (20, [7, 0], [30, 0, 1, 0, 0, -1, 1, 15]), (20, [8, 0], [50, 1, 0, 1012, 4, 6, 1, 2, 1, 0, 0, 1, 1, 3, 2, 1, 12, 0, 1]), (100, [10, 19, 1], []), (1, [19, 18, 9], []), (1, [18, 11, 17], []), (23, [1, 9], [-1, 1, -1]), (23, [7, 3], [0, 1, -1]), (23, [7, 3], [0, -1, 1]), (20, [0, 0], [30, 0, 1, 1, 15, -1, 1, 11]), (20, [0], [50, 3, 0, 12, 11, 15, 2, 21, 4, 7, 1, 3, 2, 0, 12, 0, 1, 0, 3, 2, 0, 11, 4, 3, 2, 0, 15, 0, 8, 3, 7, 1, 3, 2, 0, 12, 0, 0, 0, 7, 4, 3, 2, 0, 15, 0, 1, 2, 0, 11]), (20, [7, 0], [30, 0, 1, 0, 0, -1, 1, 15]), (20, [8, 0], [50, 1, 0, 1012, 4, 6, 1, 2, 1, 0, 0, 1, 1, 3, 2, 1, 12, 0, 1]), (100, [10, 13, 16], []), (1, [16, 14, 15], []), (10, [14, 10, 13], []), (1, [13, 11, 12], []), (20, [9, 0], [30, 0, 1, 0, 0, -1, 3, 2005002]), (20, [9, 0], [30, 0, -1, 0, 0, 1, 3, 2005002]), (8, [8], [1]), (23, [7, 3], [0, 1, -1]), (23, [7, 3], [0, -1, 1]), (20, [4, 0], [30, 0, 1, 0, 0, -1, 3, 2005002]), (20, [4, 0], [30, 0, -1, 0, 0, 1, 3, 2005002]), (20, [1, 0], [50, 1, 1, 1005, 1002, 0, 6, 4, 2, 1, 0, 0, 1, 3, 1, 2, 4, 3, 2, 1, 5, 0, 2]), (20, [0], [60, 1, 3, 199, 5, 2, 3, 4]), (20, [0, 0], [30, 0, 1, 1, 15, -1, 1, 11]), (20, [0], [50, 3, 0, 12, 11, 15, 2, 21, 4, 7, 1, 3, 2, 0, 12, 0, 1, 0, 3, 2, 0, 11, 4, 3, 2, 0, 15, 0, 8, 3, 7, 1, 3, 2, 0, 12, 0, 0, 0, 7, 4, 3, 2, 0, 15, 0, 1, 2, 0, 11]), (20, [7, 0], [30, 0, 1, 0, 0, -1, 1, 15]), (20, [8, 0], [50, 1, 0, 1012, 4, 6, 1, 2, 1, 0, 0, 1, 1, 3, 2, 1, 12, 0, 1]), (102, [7], [0]), (23, [7, 3], [0, 1, -1]), (23, [7, 3], [0, -1, 1]), (102, [7], [0, 165011, 165012, 165013, 165014, 165015]), (23, [7, 3], [0, 1, -1]), (23, [7, 3], [0, -1, 1]), (7, [4, 5], [1])], [], [], [(20, [3, 0], [30, -1, 1, 0, 0, -1, 1, 11]), (20, [0], [50, 1, 0, 12, 1, 3, 2, 0, 12, 0, 1]), (20, [9, 0], [50, 1, 1, 1005, 1002, 0, 6, 4, 2, 1, 0, 0, 1, 3, 1, 2, 4, 3, 2, 1, 5, 0, 2]), (20, [0], [60, 1, 3, 199, 5, 2, 3, 4]), (24, [0, 0], []), (24, [1, 1], [])], [], [(25, 23, -2000, 0), (22, 9, 523, 66820), (22, 21, 0, 7), (22, 11, 523, 530), (21, 11, 523, 523), (19, 9, 531, 66828), (19, 18, 0, 7), (19, 11, 531, 538), (18, 11, 531, 531), (16, 14, 1, 1), (13, 11, 2, 2)])
theorem oo_Mo_groupItem_at_k0_7 {kA : Nat → ClassId} : or_ok PRD kA GG o_Mo_groupItem_at_k0_7 := by
  refine or_mk fun A ta ws vs hD hth hl => ?_
  intro t0 r0 t1 k1 t3 k3 t4 k4 t5 k5 t7 k7 t8 k8 t9 k9 t10 r10 t11 k11 t12 k12 t13 k13 t14 k14 t15 k15 t16 k16 t17 k17 t18 k18 t19 k19 t20 k20 t21 k21 t22 k22 t23 k23 t24 k24 t25 k25 d0 d1 d2 d3 d4 d5 d6 d7 d8 d9 d10 f0 f1 f2 f3 f4 f5 f6 ta1 w1 le1 s1 f8 f9 f10 f11 f12 f13 f14 f15 f16 f17 f18 f19 f20 f21 ta2 w2 le2 s2 f23 f24 f25 f26 f27 f28 f29 f30 f31 ta3 w3 le3 s3 f33 f34 f35 f36 f37 f38 f39 f40 f41 f42 f43 f44 f45 f46 f47 f48 ta4 w4 le4 s4 f50 f51 ta5 w5 le5 s5 f53 f54 f55
  replace f0 := shm_211 f0
  replace f1 := shm_7 f1
  replace f2 := shm_22 f2
  replace f3 := shm_1397 f3
  replace f4 := shm_1398 f4
  replace f5 := shm_1396 f5
  replace f6 := shm_1762 f6
  have s1 : (∀ b j, w_el ws b j = if b = v_ad (n_v vs 10) ∧ j = (v_iv (n_v vs 22)).toNat then v_iv (n_v vs 25) else w_el w1 b j) ∧ ∀ b k, w_fd ws b k = w_fd w1 b k := s1.2
  replace f8 := shm_14 f8
  replace f9 := shm_189 f9
  replace f10 := shm_117 f10
  replace f11 := shm_12 f11
  replace f12 := shm_12 f12
  replace f13 := shm_109 f13
  replace f14 := shm_129 f14
  replace f15 := shm_211 f15
  replace f16 := shm_7 f16
  replace f17 := shm_22 f17
  replace f18 := shm_1397 f18
  replace f19 := shm_1398 f19
  replace f20 := shm_1396 f20
  replace f21 := shm_1762 f21
  have s2 : (∀ b j, w_el w1 b j = if b = v_ad (n_v vs 10) ∧ j = (v_iv (n_v vs 19)).toNat then v_iv (n_v vs 1) else w_el w2 b j) ∧ ∀ b k, w_fd w1 b k = w_fd w2 b k := s2.2
  replace f23 := shm_12 f23
  replace f24 := shm_12 f24
  replace f25 := shm_211 f25
  replace f26 := shm_7 f26
  replace f27 := shm_22 f27
  replace f28 := shm_1397 f28
  replace f29 := shm_1398 f29
  replace f30 := shm_1396 f30
  replace f31 := shm_1762 f31
  have s3 : (∀ b j, w_el w2 b j = if b = v_ad (n_v vs 10) ∧ j = (v_iv (n_v vs 13)).toNat then v_iv (n_v vs 16) else w_el w3 b j) ∧ ∀ b k, w_fd w2 b k = w_fd w3 b k := s3.2
  replace f33 := shm_12 f33
  replace f34 := shm_106 f34
  replace f35 := shm_12 f35
  replace f36 := shm_132 f36
  replace f37 := shm_133 f37
  replace f38 := shm_154 f38
  replace f39 := shm_7 f39
  replace f40 := shm_22 f40
  replace f41 := shm_132 f41
  replace f42 := shm_133 f42
  replace f43 := shm_981 f43
  replace f44 := shm_952 f44
  replace f45 := shm_1397 f45
  replace f46 := shm_1398 f46
  replace f47 := shm_1396 f47
  replace f48 := shm_1762 f48
  replace f50 := shm_7 f50
  replace f51 := shm_22 f51
  replace f53 := shm_7 f53
  replace f54 := shm_22 f54
  replace f55 := shm_40 f55
  have ar_0_2_1 : w_ar w1 (n_v vs 0) 2 = w_ar ws (n_v vs 0) 2 := congrArg v_ad (s1.2 _ _).symm
  have ar_0_2_2 : w_ar w2 (n_v vs 0) 2 = w_ar ws (n_v vs 0) 2 := by rw [← ar_0_2_1]; show v_ad (w_fd w2 _ _) = v_ad (w_fd w1 _ _); rw [s2.2]
  have ar_0_2_3 : w_ar w3 (n_v vs 0) 2 = w_ar ws (n_v vs 0) 2 := by rw [← ar_0_2_2]; show v_ad (w_fd w3 _ _) = v_ad (w_fd w2 _ _); rw [s3.2]
  have cr_0_2 := fdq_12 hD hth r0
  have ar_0_3_1 : w_ar w1 (n_v vs 0) 3 = w_ar ws (n_v vs 0) 3 := congrArg v_ad (s1.2 _ _).symm
  have ar_0_3_2 : w_ar w2 (n_v vs 0) 3 = w_ar ws (n_v vs 0) 3 := by rw [← ar_0_3_1]; show v_ad (w_fd w2 _ _) = v_ad (w_fd w1 _ _); rw [s2.2]
  have ar_0_3_3 : w_ar w3 (n_v vs 0) 3 = w_ar ws (n_v vs 0) 3 := by rw [← ar_0_3_2]; show v_ad (w_fd w3 _ _) = v_ad (w_fd w2 _ _); rw [s3.2]
  have cr_0_3 := fdq_141 hD hth r0
  have ar_0_4_1 : w_ar w1 (n_v vs 0) 4 = w_ar ws (n_v vs 0) 4 := congrArg v_ad (s1.2 _ _).symm
  have ar_0_4_2 : w_ar w2 (n_v vs 0) 4 = w_ar ws (n_v vs 0) 4 := by rw [← ar_0_4_1]; show v_ad (w_fd w2 _ _) = v_ad (w_fd w1 _ _); rw [s2.2]
  have ar_0_4_3 : w_ar w3 (n_v vs 0) 4 = w_ar ws (n_v vs 0) 4 := by rw [← ar_0_4_2]; show v_ad (w_fd w3 _ _) = v_ad (w_fd w2 _ _); rw [s3.2]
  have cr_0_4 := fdq_142 hD hth r0
  have fi_0_5_1 : w_fi w1 (n_v vs 0) 5 = w_fi ws (n_v vs 0) 5 := by show v_iv (w_fd w1 _ _) = v_iv (w_fd ws _ _); rw [s1.2]
  have fi_0_5_2 : w_fi w2 (n_v vs 0) 5 = w_fi ws (n_v vs 0) 5 := by rw [← fi_0_5_1]; show v_iv (w_fd w2 _ _) = v_iv (w_fd w1 _ _); rw [s2.2]
  have fi_0_5_3 : w_fi w3 (n_v vs 0) 5 = w_fi ws (n_v vs 0) 5 := by rw [← fi_0_5_2]; show v_iv (w_fd w3 _ _) = v_iv (w_fd w2 _ _); rw [s3.2]
  have ad_10 : v_ad (n_v vs 10) = w_ar ws (n_v vs 0) 2 := (congrArg v_ad f14).trans ar_0_2_1
  have g9 : v_iv (n_v vs 24) = w_fi w1 (n_v vs 0) 15 := congrArg v_iv f9
  have g10 : v_iv (n_v vs 23) = w_fi w1 (n_v vs 0) 11 := congrArg v_iv f10
  have g13 : v_iv (n_v vs 11) = w_fi w1 (n_v vs 0) 5 := congrArg v_iv f13
  simp only [ad_10] at f34
  have h34 : v_iv (n_v vs 14) = w_ei w3 (w_ar ws (n_v vs 0) 2) (v_iv (n_v vs 13)) := f34
  simp only [ar_0_2_3, ar_0_3_3, ar_0_4_3] at f36 f37 f41 f42 f43 f44
  simp only [fi_0_5_3] at f36 f37 f41 f42
  have fe_0_5_1 : w_fi ws (n_v vs 0) 5 = w_fi w1 (n_v vs 0) 5 := congrArg v_iv (s1.2 _ _)
  have fe_0_11_1 : w_fi ws (n_v vs 0) 11 = w_fi w1 (n_v vs 0) 11 := congrArg v_iv (s1.2 _ _)
  have fe_0_12_1 : w_fi ws (n_v vs 0) 12 = w_fi w1 (n_v vs 0) 12 := congrArg v_iv (s1.2 _ _)
  have fe_0_15_1 : w_fi ws (n_v vs 0) 15 = w_fi w1 (n_v vs 0) 15 := congrArg v_iv (s1.2 _ _)
  have fe_0_5_2 : w_fi w1 (n_v vs 0) 5 = w_fi w2 (n_v vs 0) 5 := congrArg v_iv (s2.2 _ _)
  have fe_0_11_2 : w_fi w1 (n_v vs 0) 11 = w_fi w2 (n_v vs 0) 11 := congrArg v_iv (s2.2 _ _)
  have fe_0_12_2 : w_fi w1 (n_v vs 0) 12 = w_fi w2 (n_v vs 0) 12 := congrArg v_iv (s2.2 _ _)
  have fe_0_15_2 : w_fi w1 (n_v vs 0) 15 = w_fi w2 (n_v vs 0) 15 := congrArg v_iv (s2.2 _ _)
  have fe_0_5_3 : w_fi w2 (n_v vs 0) 5 = w_fi w3 (n_v vs 0) 5 := congrArg v_iv (s3.2 _ _)
  have fe_0_11_3 : w_fi w2 (n_v vs 0) 11 = w_fi w3 (n_v vs 0) 11 := congrArg v_iv (s3.2 _ _)
  have fe_0_12_3 : w_fi w2 (n_v vs 0) 12 = w_fi w3 (n_v vs 0) 12 := congrArg v_iv (s3.2 _ _)
  have fe_0_15_3 : w_fi w2 (n_v vs 0) 15 = w_fi w3 (n_v vs 0) 15 := congrArg v_iv (s3.2 _ _)
  have hE_0_2_1 : ∀ j : Int, 0 ≤ j → (j = v_iv (n_v vs 22) → w_ei ws (w_ar ws (n_v vs 0) 2) j = v_iv (n_v vs 25)) ∧ (j ≠ v_iv (n_v vs 22) → w_ei ws (w_ar ws (n_v vs 0) 2) j = w_ei w1 (w_ar ws (n_v vs 0) 2) j) := fun j hj => ⟨fun h => by unfold w_ei; rw [s1.1, if_pos ⟨ad_10.symm, by rw [h]⟩], fun h => by unfold w_ei; rw [s1.1, if_neg (fun e => h (by have := e.2; omega))]⟩
  have hE_0_2_2 : ∀ j : Int, 0 ≤ j → (j = v_iv (n_v vs 19) → w_ei w1 (w_ar ws (n_v vs 0) 2) j = v_iv (n_v vs 1)) ∧ (j ≠ v_iv (n_v vs 19) → w_ei w1 (w_ar ws (n_v vs 0) 2) j = w_ei w2 (w_ar ws (n_v vs 0) 2) j) := fun j hj => ⟨fun h => by unfold w_ei; rw [s2.1, if_pos ⟨ad_10.symm, by rw [h]⟩], fun h => by unfold w_ei; rw [s2.1, if_neg (fun e => h (by have := e.2; omega))]⟩
  have hE_0_2_3 : ∀ j : Int, 0 ≤ j → (j = v_iv (n_v vs 13) → w_ei w2 (w_ar ws (n_v vs 0) 2) j = v_iv (n_v vs 16)) ∧ (j ≠ v_iv (n_v vs 13) → w_ei w2 (w_ar ws (n_v vs 0) 2) j = w_ei w3 (w_ar ws (n_v vs 0) 2) j) := fun j hj => ⟨fun h => by unfold w_ei; rw [s3.1, if_pos ⟨ad_10.symm, by rw [h]⟩], fun h => by unfold w_ei; rw [s3.1, if_neg (fun e => h (by have := e.2; omega))]⟩
  have hE_0_3_1 : ∀ j : Int, w_ei ws (w_ar ws (n_v vs 0) 3) j = w_ei w1 (w_ar ws (n_v vs 0) 3) j := el_kp s1.1 r10 cr_0_3 (by decide)
  have hE_0_3_2 : ∀ j : Int, w_ei w1 (w_ar ws (n_v vs 0) 3) j = w_ei w2 (w_ar ws (n_v vs 0) 3) j := el_kp s2.1 r10 cr_0_3 (by decide)
  have hE_0_3_3 : ∀ j : Int, w_ei w2 (w_ar ws (n_v vs 0) 3) j = w_ei w3 (w_ar ws (n_v vs 0) 3) j := el_kp s3.1 r10 cr_0_3 (by decide)
  have hK_0_3 := elq_77 hD hth cr_0_3
  have hE_0_4_1 : ∀ j : Int, w_ei ws (w_ar ws (n_v vs 0) 4) j = w_ei w1 (w_ar ws (n_v vs 0) 4) j := el_kp s1.1 r10 cr_0_4 (by decide)
  have hE_0_4_2 : ∀ j : Int, w_ei w1 (w_ar ws (n_v vs 0) 4) j = w_ei w2 (w_ar ws (n_v vs 0) 4) j := el_kp s2.1 r10 cr_0_4 (by decide)
  have hE_0_4_3 : ∀ j : Int, w_ei w2 (w_ar ws (n_v vs 0) 4) j = w_ei w3 (w_ar ws (n_v vs 0) 4) j := el_kp s3.1 r10 cr_0_4 (by decide)
  have hK_0_4 := elq_78 hD hth cr_0_4
  have kz_0_11 := fdq_273 hD hth r0
  have kz_0_12 := fdq_186 hD hth r0
  have kz_0_15 := fdq_274 hD hth r0
  first | have hJ0 : w_ei w3 (w_ar ws (n_v vs 0) 2) ((w_fi w3 (n_v vs 0) 5 + 2)) = w_ei w3 (w_ar ws (n_v vs 0) 2) ((w_fi ws (n_v vs 0) 5 + 2)) := congrArg _ (show ((w_fi w3 (n_v vs 0) 5 + 2) : Int) = (w_fi ws (n_v vs 0) 5 + 2) from by omega) | skip
  first | have hI1 := (hE_0_2_1 ((w_fi ws (n_v vs 0) 5 + 2)) (by omega)).2 (by omega) | have hI1 := (hE_0_2_1 ((w_fi ws (n_v vs 0) 5 + 2)) (by omega)).1 (by omega) | skip
  first | have hI2 := (hE_0_2_2 ((w_fi ws (n_v vs 0) 5 + 2)) (by omega)).2 (by omega) | have hI2 := (hE_0_2_2 ((w_fi ws (n_v vs 0) 5 + 2)) (by omega)).1 (by omega) | skip
  first | have hI3 := (hE_0_2_3 ((w_fi ws (n_v vs 0) 5 + 2)) (by omega)).2 (by omega) | have hI3 := (hE_0_2_3 ((w_fi ws (n_v vs 0) 5 + 2)) (by omega)).1 (by omega) | skip
  have nf0 : fc_1 PRD (20, [3, 0], [30, -1, 1, 0, 0, -1, 1, 11]) ws (vs) := ⟨nf_in hl rfl, sgq_1891 (vc_Mo_groupItem_at_k0_7_0 (v_iv (n_v vs 1)) (v_iv (n_v vs 3)) (v_iv (n_v vs 7)) (v_iv (n_v vs 8)) (v_iv (n_v vs 13)) (v_iv (n_v vs 14)) (v_iv (n_v vs 16)) (v_iv (n_v vs 19)) (v_iv (n_v vs 22)) (v_iv (n_v vs 23)) (v_iv (n_v vs 24)) (v_iv (n_v vs 25)) (w_fi ws (n_v vs 0) 15) (w_fi ws (n_v vs 0) 11) (w_fi ws (n_v vs 0) 12) (w_fi w1 (n_v vs 0) 15) (w_fi w1 (n_v vs 0) 11) (w_fi w1 (n_v vs 0) 5) (w_fi w1 (n_v vs 0) 12) (w_fi w2 (n_v vs 0) 15) (w_fi w2 (n_v vs 0) 11) (w_fi w2 (n_v vs 0) 12) (w_ei w3 (w_ar ws (n_v vs 0) 2)) (w_fi ws (n_v vs 0) 5) (w_fi w3 (n_v vs 0) 5) (w_ei w3 (w_ar ws (n_v vs 0) 3)) (w_ei w3 (w_ar ws (n_v vs 0) 4)) (w_fi w3 (n_v vs 0) 15) (w_fi w3 (n_v vs 0) 11) (w_fi w3 (n_v vs 0) 12) (w_fi w2 (n_v vs 0) 5) (w_ei ws (w_ar ws (n_v vs 0) 2)) (w_ei w1 (w_ar ws (n_v vs 0) 2)) (w_ei w2 (w_ar ws (n_v vs 0) 2)) (w_ei ws (w_ar ws (n_v vs 0) 3)) (w_ei w1 (w_ar ws (n_v vs 0) 3)) (w_ei w2 (w_ar ws (n_v vs 0) 3)) (w_ei ws (w_ar ws (n_v vs 0) 4)) (w_ei w1 (w_ar ws (n_v vs 0) 4)) (w_ei w2 (w_ar ws (n_v vs 0) 4)) k1 k3 k7 k8 k13 k14 k16 k19 k22 k23 k24 k25 f1 f2 f5 f8 g9 g10 h34 f46 f48 fe_0_5_1 fe_0_11_1 fe_0_12_1 fe_0_15_1 fe_0_5_2 fe_0_11_2 fe_0_12_2 fe_0_15_2 fe_0_5_3 fe_0_11_3 fe_0_12_3 fe_0_15_3 hE_0_2_1 hE_0_2_2 hE_0_2_3 hE_0_3_1 hE_0_3_2 hE_0_3_3 hE_0_4_1 hE_0_4_2 hE_0_4_3 kz_0_11 kz_0_12 kz_0_15)⟩
  have nf1 : fc_1 PRD (20, [0], [50, 1, 0, 12, 1, 3, 2, 0, 12, 0, 1]) ws (vs) := ⟨nf_in hl rfl, sgq_1791 (vc_Mo_groupItem_at_k0_7_1 (v_iv (n_v vs 1)) (v_iv (n_v vs 8)) (v_iv (n_v vs 13)) (v_iv (n_v vs 14)) (v_iv (n_v vs 16)) (v_iv (n_v vs 19)) (v_iv (n_v vs 22)) (v_iv (n_v vs 25)) (w_fi ws (n_v vs 0) 15) (w_fi ws (n_v vs 0) 11) (w_fi ws (n_v vs 0) 12) (w_fi w1 (n_v vs 0) 15) (w_fi w1 (n_v vs 0) 11) (w_fi w1 (n_v vs 0) 5) (w_fi w1 (n_v vs 0) 12) (w_fi w2 (n_v vs 0) 15) (w_fi w2 (n_v vs 0) 11) (w_fi w2 (n_v vs 0) 12) (w_ei w3 (w_ar ws (n_v vs 0) 2)) (w_fi ws (n_v vs 0) 5) (w_fi w3 (n_v vs 0) 5) (w_ei w3 (w_ar ws (n_v vs 0) 3)) (w_ei w3 (w_ar ws (n_v vs 0) 4)) (w_fi w3 (n_v vs 0) 15) (w_fi w3 (n_v vs 0) 11) (w_fi w3 (n_v vs 0) 12) (w_fi w2 (n_v vs 0) 5) (w_ei ws (w_ar ws (n_v vs 0) 2)) (w_ei w1 (w_ar ws (n_v vs 0) 2)) (w_ei w2 (w_ar ws (n_v vs 0) 2)) (w_ei ws (w_ar ws (n_v vs 0) 3)) (w_ei w1 (w_ar ws (n_v vs 0) 3)) (w_ei w2 (w_ar ws (n_v vs 0) 3)) (w_ei ws (w_ar ws (n_v vs 0) 4)) (w_ei w1 (w_ar ws (n_v vs 0) 4)) (w_ei w2 (w_ar ws (n_v vs 0) 4)) k1 k8 k13 k14 k16 k19 k22 k25 h34 f46 f48 fe_0_5_1 fe_0_11_1 fe_0_12_1 fe_0_15_1 fe_0_5_2 fe_0_11_2 fe_0_12_2 fe_0_15_2 fe_0_5_3 fe_0_11_3 fe_0_12_3 fe_0_15_3 hE_0_2_1 hE_0_2_2 hE_0_2_3 hE_0_3_1 hE_0_3_2 hE_0_3_3 hE_0_4_1 hE_0_4_2 hE_0_4_3 kz_0_11 kz_0_12 kz_0_15)⟩
  have nf2 : fc_1 PRD (20, [9, 0], [50, 1, 1, 1005, 1002, 0, 6, 4, 2, 1, 0, 0, 1, 3, 1, 2, 4, 3, 2, 1, 5, 0, 2]) ws (vs) := ⟨nf_in hl rfl, sgq_981 (vc_Mo_groupItem_at_k0_7_2 (v_iv (n_v vs 1)) (v_iv (n_v vs 9)) (v_iv (n_v vs 11)) (v_iv (n_v vs 13)) (v_iv (n_v vs 14)) (v_iv (n_v vs 16)) (v_iv (n_v vs 18)) (v_iv (n_v vs 19)) (v_iv (n_v vs 21)) (v_iv (n_v vs 22)) (v_iv (n_v vs 25)) (w_fi ws (n_v vs 0) 15) (w_fi ws (n_v vs 0) 11) (w_fi ws (n_v vs 0) 12) (w_fi w1 (n_v vs 0) 15) (w_fi w1 (n_v vs 0) 11) (w_fi w1 (n_v vs 0) 5) (w_fi w1 (n_v vs 0) 12) (w_fi w2 (n_v vs 0) 15) (w_fi w2 (n_v vs 0) 11) (w_fi w2 (n_v vs 0) 12) (w_ei w3 (w_ar ws (n_v vs 0) 2)) (w_fi ws (n_v vs 0) 5) (w_fi w3 (n_v vs 0) 5) (w_ei w3 (w_ar ws (n_v vs 0) 3)) (w_ei w3 (w_ar ws (n_v vs 0) 4)) (w_fi w3 (n_v vs 0) 15) (w_fi w3 (n_v vs 0) 11) (w_fi w3 (n_v vs 0) 12) (w_fi w2 (n_v vs 0) 5) (w_ei ws (w_ar ws (n_v vs 0) 2)) (w_ei w1 (w_ar ws (n_v vs 0) 2)) (w_ei w2 (w_ar ws (n_v vs 0) 2)) (w_ei ws (w_ar ws (n_v vs 0) 3)) (w_ei w1 (w_ar ws (n_v vs 0) 3)) (w_ei w2 (w_ar ws (n_v vs 0) 3)) (w_ei ws (w_ar ws (n_v vs 0) 4)) (w_ei w1 (w_ar ws (n_v vs 0) 4)) (w_ei w2 (w_ar ws (n_v vs 0) 4)) k1 k9 k11 k13 k14 k16 k18 k19 k21 k22 k25 d4 d8 d9 d10 f0 f11 g13 f23 h34 f36 f37 fe_0_5_1 fe_0_11_1 fe_0_12_1 fe_0_15_1 fe_0_5_2 fe_0_11_2 fe_0_12_2 fe_0_15_2 fe_0_5_3 fe_0_11_3 fe_0_12_3 fe_0_15_3 hE_0_2_1 hE_0_2_2 hE_0_2_3 hE_0_3_1 hE_0_3_2 hE_0_3_3 hE_0_4_1 hE_0_4_2 hE_0_4_3 kz_0_11 kz_0_12 kz_0_15)⟩
  have nf3 : fc_1 PRD (20, [0], [60, 1, 3, 199, 5, 2, 3, 4]) ws (vs) := ⟨nf_in hl rfl, sgq_952 (vc_Mo_groupItem_at_k0_7_3 (v_iv (n_v vs 1)) (v_iv (n_v vs 9)) (v_iv (n_v vs 11)) (v_iv (n_v vs 13)) (v_iv (n_v vs 16)) (v_iv (n_v vs 18)) (v_iv (n_v vs 19)) (v_iv (n_v vs 21)) (v_iv (n_v vs 22)) (v_iv (n_v vs 25)) (w_fi ws (n_v vs 0) 15) (w_fi ws (n_v vs 0) 11) (w_fi ws (n_v vs 0) 12) (w_fi w1 (n_v vs 0) 15) (w_fi w1 (n_v vs 0) 11) (w_fi w1 (n_v vs 0) 5) (w_fi w1 (n_v vs 0) 12) (w_fi w2 (n_v vs 0) 15) (w_fi w2 (n_v vs 0) 11) (w_fi w2 (n_v vs 0) 12) (w_ei w3 (w_ar ws (n_v vs 0) 2)) (w_fi ws (n_v vs 0) 5) (w_fi w3 (n_v vs 0) 5) (w_ei w3 (w_ar ws (n_v vs 0) 3)) (w_ei w3 (w_ar ws (n_v vs 0) 4)) (w_fi w3 (n_v vs 0) 15) (w_fi w3 (n_v vs 0) 11) (w_fi w3 (n_v vs 0) 12) (w_fi w2 (n_v vs 0) 5) (w_ei ws (w_ar ws (n_v vs 0) 2)) (w_ei w1 (w_ar ws (n_v vs 0) 2)) (w_ei w2 (w_ar ws (n_v vs 0) 2)) (w_ei ws (w_ar ws (n_v vs 0) 3)) (w_ei w1 (w_ar ws (n_v vs 0) 3)) (w_ei w2 (w_ar ws (n_v vs 0) 3)) (w_ei ws (w_ar ws (n_v vs 0) 4)) (w_ei w1 (w_ar ws (n_v vs 0) 4)) (w_ei w2 (w_ar ws (n_v vs 0) 4)) k1 k9 k11 k13 k16 k18 k19 k21 k22 k25 d4 d8 d10 f0 f11 g13 f23 f36 f37 f44 fe_0_5_1 fe_0_11_1 fe_0_12_1 fe_0_15_1 fe_0_5_2 fe_0_11_2 fe_0_12_2 fe_0_15_2 fe_0_5_3 fe_0_11_3 fe_0_12_3 fe_0_15_3 hE_0_2_1 hE_0_2_2 hE_0_2_3 hE_0_3_1 hE_0_3_2 hE_0_3_3 hE_0_4_1 hE_0_4_2 hE_0_4_3 kz_0_11 kz_0_12 kz_0_15)⟩
  have nf4 : fc_1 PRD (24, [0, 0], []) ws (vs) := by
    refine ⟨nf_in hl rfl, sgq_1 ?_⟩
    · show n_v vs 0 = n_v vs 0
      first | rfl | simp only [true_and]
  have nf5 : fc_1 PRD (24, [1, 1], []) ws (vs) := by
    refine ⟨nf_in hl rfl, sgq_1 ?_⟩
    · show n_v vs 1 = n_v vs 1
      first | rfl | simp only [true_and]
  refine ⟨(fun _ h => (by cases h)), [], trivial, ?_, (fun _ h => (by cases h))⟩
  rw [List.append_nil]
  exact List.forall_mem_cons.mpr ⟨⟨show (20 : Nat) < 100 from by decide, nf0⟩, List.forall_mem_cons.mpr ⟨⟨show (20 : Nat) < 100 from by decide, nf1⟩, List.forall_mem_cons.mpr ⟨⟨show (20 : Nat) < 100 from by decide, nf2⟩, List.forall_mem_cons.mpr ⟨⟨show (20 : Nat) < 100 from by decide, nf3⟩, List.forall_mem_cons.mpr ⟨⟨show (24 : Nat) < 100 from by decide, nf4⟩, List.forall_mem_cons.mpr ⟨⟨show (24 : Nat) < 100 from by decide, nf5⟩, (fun _ h => (by cases h))⟩⟩⟩⟩⟩⟩
set_option maxHeartbeats 4000000 in
theorem vc_Mo_groupItem_at_k0_8_0 (x3 : Int) (x7 : Int) (r_0 : Int) (from_0 : Int) (pos_0 : Int) (k3 : 0 ≤ x3 ∧ x3 ≤ 2000) (k7 : 0 ≤ x7 ∧ x7 ≤ 2000) (f0 : 1 * x7 + ((-1) * x3 + 0) ≤ 0) (f1 : (-1) * x7 + (1 * x3 + 0) ≤ 0) (f6 : 1 * from_0 + ((-1) * pos_0 + 0) ≤ 0) (f8 : 1 * x7 + ((-1) * from_0 + 0) ≤ 0) (kz_0_11 : 0 ≤ pos_0 ∧ pos_0 ≤ 2000) (kz_0_15 : 0 ≤ from_0 ∧ from_0 ≤ 2000) : 1 * x3 + ((-1) * pos_0 + 0) ≤ 0 := by
  first
    | omega
    | (have q1 := (hE_0_2_1 (r_0 + 2) (by omega)).2 (by omega)
       have q2 := (hE_0_2_2 (r_0 + 2) (by omega)).2 (by omega)
       omega)
    | (have q1 := (hE_0_2_1 (r_0 + 1) (by omega)).2 (by omega)
       have q2 := (hE_0_2_2 (r_0 + 1) (by omega)).2 (by omega)
       omega)
    | (have q1 := (hE_0_2_1 (r_0 + 2) (by omega)).2 (by omega)
       omega)
    | (have q1 := (hE_0_2_1 (r_0 + 1) (by omega)).2 (by omega)
       omega)
    | (have q1 := (hE_0_2_1 (r_0 + 2) (by omega)).2 (by omega)
       have q2 := (hE_0_2_2 (r_0 + 2) (by omega)).2 (by omega)
       have q3 := (hE_0_2_3 (r_0 + 2) (by omega)).1 (by omega)
       omega)
    | (have q1 := (hE_0_2_1 (r_0 + 2) (by omega)).2 (by omega)
       have q2 := (hE_0_2_2 (r_0 + 2) (by omega)).2 (by omega)
       have q3 := (hE_0_2_3 (r_0 + 2) (by omega)).2 (by omega)
       omega)
    | (have q1 := (hE_0_2_1 (r_0 + 2) (by omega)).2 (by omega)
       have q2 := (hE_0_2_2 (r_0 + 2) (by omega)).2 (by omega)
       have q3 := (hE_0_2_3 (r_0 + 2) (by omega)).1 (by omega)
       have q4 : x13 = r_0 + 2 := by omega
       rw [q4] at h34
       omega)
set_option maxHeartbeats 4000000 in
theorem vc_Mo_groupItem_at_k0_8_1 (x3 : Int) (r_0 : Int) (pos_0 : Int) (fault_0 : Int) (k3 : 0 ≤ x3 ∧ x3 ≤ 2000) (f10 : (-1) * fault_0 + 0 ≤ (-1)) (kz_0_8 : 0 ≤ fault_0 ∧ fault_0 ≤ 5) (kz_0_11 : 0 ≤ pos_0 ∧ pos_0 ≤ 2000) : (1 ≤ fault_0) ∨ ((x3 + 1) ≤ pos_0) := by
  first
    | omega
    | (have q1 := (hE_0_2_1 (r_0 + 2) (by omega)).2 (by omega)
       have q2 := (hE_0_2_2 (r_0 + 2) (by omega)).2 (by omega)
       omega)
    | (have q1 := (hE_0_2_1 (r_0 + 1) (by omega)).2 (by omega)
       have q2 := (hE_0_2_2 (r_0 + 1) (by omega)).2 (by omega)
       omega)
    | (have q1 := (hE_0_2_1 (r_0 + 2) (by omega)).2 (by omega)
       omega)
    | (have q1 := (hE_0_2_1 (r_0 + 1) (by omega)).2 (by omega)
       omega)
    | (have q1 := (hE_0_2_1 (r_0 + 2) (by omega)).2 (by omega)
       have q2 := (hE_0_2_2 (r_0 + 2) (by omega)).2 (by omega)
       have q3 := (hE_0_2_3 (r_0 + 2) (by omega)).1 (by omega)
       omega)
    | (have q1 := (hE_0_2_1 (r_0 + 2) (by omega)).2 (by omega)
       have q2 := (hE_0_2_2 (r_0 + 2) (by omega)).2 (by omega)
       have q3 := (hE_0_2_3 (r_0 + 2) (by omega)).2 (by omega)
       omega)
    | (have q1 := (hE_0_2_1 (r_0 + 2) (by omega)).2 (by omega)
       have q2 := (hE_0_2_2 (r_0 + 2) (by omega)).2 (by omega)
       have q3 := (hE_0_2_3 (r_0 + 2) (by omega)).1 (by omega)
       have q4 : x13 = r_0 + 2 := by omega
       rw [q4] at h34
       omega)
def o_Mo_groupItem_at_k0_8 : or_T := (44, 11, [(0, (2, 0, 0, [165])), (3, (0, 0, 2000, [])), (7, (0, 0, 2000, []))], [(23, [7, 3], [0, 1, -1]), (23, [7, 3], [0, -1, 1]), (20, [0, 0], [30, 0, 1, 1, 15, -1, 1, 11]), (20, [7, 0], [30, 0, 1, 0, 0, -1, 1, 15]), (20, [0], [30, -1, -1, 1, 8])], [], [], [(20, [3, 0], [30, 0, 1, 0, 0, -1, 1, 11]), (20, [0, 3], [50, 2, 0, 8, 11, 3, 7, 0, 2, 0, 1, 2, 0, 8, 0, 6, 4, 2, 1, 1, 0, 1, 2, 0, 11])], [], [])
theorem oo_Mo_groupItem_at_k0_8 {kA : Nat → ClassId} : or_ok PRD kA GG o_Mo_groupItem_at_k0_8 := by
  refine or_mk fun A ta ws vs hD hth hl => ?_
  intro t0 r0 t3 k3 t7 k7 f0 f1 f6 f8 f10
  have kz_0_8 := fdq_14 hD hth r0
  have kz_0_11 := fdq_273 hD hth r0
  have kz_0_15 := fdq_274 hD hth r0
  have nf0 : fc_1 PRD (20, [3, 0], [30, 0, 1, 0, 0, -1, 1, 11]) ws (vs) := ⟨nf_in hl rfl, sgq_1395 (vc_Mo_groupItem_at_k0_8_0 (v_iv (n_v vs 3)) (v_iv (n_v vs 7)) (w_fi ws (n_v vs 0) 5) (w_fi ws (n_v vs 0) 15) (w_fi ws (n_v vs 0) 11) k3 k7 (shm_7 f0) (shm_22 f1) (shm_1397 f6) (shm_1396 f8) kz_0_11 kz_0_15)⟩
  have nf1 : fc_1 PRD (20, [0, 3], [50, 2, 0, 8, 11, 3, 7, 0, 2, 0, 1, 2, 0, 8, 0, 6, 4, 2, 1, 1, 0, 1, 2, 0, 11]) ws (vs) := ⟨nf_in hl rfl, sgq_1659 (vc_Mo_groupItem_at_k0_8_1 (v_iv (n_v vs 3)) (w_fi ws (n_v vs 0) 5) (w_fi ws (n_v vs 0) 11) (w_fi ws (n_v vs 0) 8) k3 (shm_144 f10) kz_0_8 kz_0_11)⟩
  refine ⟨(fun _ h => (by cases h)), [], trivial, ?_, (fun _ h => (by cases h))⟩
  rw [List.append_nil]
  exact List.forall_mem_cons.mpr ⟨⟨show (20 : Nat) < 100 from by decide, nf0⟩, List.forall_mem_cons.mpr ⟨⟨show (20 : Nat) < 100 from by decide, nf1⟩, (fun _ h => (by cases h))⟩⟩
set_option maxHeartbeats 4000000 in
theorem vc_Mo_groupItem_at_k0_9_0 (pos_0 : Int) (r_0 : Int) (gx : Int) (kz_0_11 : 0 ≤ pos_0 ∧ pos_0 ≤ 2000) (ex2 : gx = pos_0) : 1 * gx + ((-1) * pos_0 + 0) ≤ 0 := by
  first
    | omega
    | (have q1 := (hE_0_2_1 (r_0 + 2) (by omega)).2 (by omega)
       have q2 := (hE_0_2_2 (r_0 + 2) (by omega)).2 (by omega)
       omega)
    | (have q1 := (hE_0_2_1 (r_0 + 1) (by omega)).2 (by omega)
       have q2 := (hE_0_2_2 (r_0 + 1) (by omega)).2 (by omega)
       omega)
    | (have q1 := (hE_0_2_1 (r_0 + 2) (by omega)).2 (by omega)
       omega)
    | (have q1 := (hE_0_2_1 (r_0 + 1) (by omega)).2 (by omega)
       omega)
    | (have q1 := (hE_0_2_1 (r_0 + 2) (by omega)).2 (by omega)
       have q2 := (hE_0_2_2 (r_0 + 2) (by omega)).2 (by omega)
       have q3 := (hE_0_2_3 (r_0 + 2) (by omega)).1 (by omega)
       omega)
    | (have q1 := (hE_0_2_1 (r_0 + 2) (by omega)).2 (by omega)
       have q2 := (hE_0_2_2 (r_0 + 2) (by omega)).2 (by omega)
       have q3 := (hE_0_2_3 (r_0 + 2) (by omega)).2 (by omega)
       omega)
    | (have q1 := (hE_0_2_1 (r_0 + 2) (by omega)).2 (by omega)
       have q2 := (hE_0_2_2 (r_0 + 2) (by omega)).2 (by omega)
       have q3 := (hE_0_2_3 (r_0 + 2) (by omega)).1 (by omega)
       have q4 : x13 = r_0 + 2 := by omega
       rw [q4] at h34
       omega)
set_option maxHeartbeats 4000000 in
theorem vc_Mo_groupItem_at_k0_9_1 (x3 : Int) (pos_0 : Int) (r_0 : Int) (gx : Int) (k3 : 0 ≤ x3 ∧ x3 ≤ 2000) (f6 : 1 * x3 + ((-1) * pos_0 + 0) ≤ (-1)) (kz_0_11 : 0 ≤ pos_0 ∧ pos_0 ≤ 2000) (ex2 : gx = pos_0) : 1 * x3 + ((-1) * gx + 0) ≤ (-1) := by
  first
    | omega
    | (have q1 := (hE_0_2_1 (r_0 + 2) (by omega)).2 (by omega)
       have q2 := (hE_0_2_2 (r_0 + 2) (by omega)).2 (by omega)
       omega)
    | (have q1 := (hE_0_2_1 (r_0 + 1) (by omega)).2 (by omega)
       have q2 := (hE_0_2_2 (r_0 + 1) (by omega)).2 (by omega)
       omega)
    | (have q1 := (hE_0_2_1 (r_0 + 2) (by omega)).2 (by omega)
       omega)
    | (have q1 := (hE_0_2_1 (r_0 + 1) (by omega)).2 (by omega)
       omega)
    | (have q1 := (hE_0_2_1 (r_0 + 2) (by omega)).2 (by omega)
       have q2 := (hE_0_2_2 (r_0 + 2) (by omega)).2 (by omega)
       have q3 := (hE_0_2_3 (r_0 + 2) (by omega)).1 (by omega)
       omega)
    | (have q1 := (hE_0_2_1 (r_0 + 2) (by omega)).2 (by omega)
       have q2 := (hE_0_2_2 (r_0 + 2) (by omega)).2 (by omega)
       have q3 := (hE_0_2_3 (r_0 + 2) (by omega)).2 (by omega)
       omega)
    | (have q1 := (hE_0_2_1 (r_0 + 2) (by omega)).2 (by omega)
       have q2 := (hE_0_2_2 (r_0 + 2) (by omega)).2 (by omega)
       have q3 := (hE_0_2_3 (r_0 + 2) (by omega)).1 (by omega)
       have q4 : x13 = r_0 + 2 := by omega
       rw [q4] at h34
       omega)
def o_Mo_groupItem_at_k0_9 : or_T := (161, 12, [(0, (2, 0, 0, [165])), (3, (0, 0, 2000, []))], [(20, [3, 4], [30, -1, 1, 0, 0, -1, 1, 11]), (24, [0, 4], [])], [], [(0, 0, 2000, [])], [(20, [12, 4], [30, 0, 1, 0, 0, -1, 1, 11]), (23, [3, 12], [-1, 1, -1])], [], [])
theorem oo_Mo_groupItem_at_k0_9 {kA : Nat → ClassId} : or_ok PRD kA GG o_Mo_groupItem_at_k0_9 := by
  refine or_mk fun A ta ws vs hD hth hl => ?_
  intro t0 r0 t3 k3 f6 f11
  replace f6 := shm_1891 f6
  replace f11 := shm_5 f11
  have q4 : n_v vs 4 = n_v vs 0 := f11.symm
  simp only [q4] at f6
  have kz_0_11 := fdq_273 hD hth r0
  obtain ⟨x, ex, hx⟩ := iv_ex (ta := ta) (lo := 0) (hi := 2000) (z := w_fi ws (n_v vs 0) 11) (by omega) (by omega) (by omega) (by omega)
  have ex2 : v_iv (Value.int x) = w_fi ws (n_v vs 0) 11 := ex
  have ex3 : 0 ≤ v_iv (Value.int x) ∧ v_iv (Value.int x) ≤ 2000 := tv_rng hx
  have e_3 : n_v (vs ++ [Value.int x]) 3 = n_v vs 3 := n_v_old (by rw [hl]; decide)
  have e_4 : n_v (vs ++ [Value.int x]) 4 = n_v vs 4 := n_v_old (by rw [hl]; decide)
  have e_12 : n_v (vs ++ [Value.int x]) 12 = Value.int x := n_v_new hl
  have nf0 : fc_1 PRD (20, [12, 4], [30, 0, 1, 0, 0, -1, 1, 11]) ws (vs ++ [Value.int x]) := by
    refine ⟨nf_inA hl rfl, sgq_1395 ?_⟩
    · show 1 * v_iv (n_v (vs ++ [Value.int x]) 12) + ((-1) * w_fi ws (n_v (vs ++ [Value.int x]) 4) 11 + 0) ≤ 0
      simp only [e_4, e_12, q4]
      exact vc_Mo_groupItem_at_k0_9_0 (w_fi ws (n_v vs 0) 11) (w_fi ws (n_v vs 0) 5) (v_iv (Value.int x)) kz_0_11 ex2
  have nf1 : fc_1 PRD (23, [3, 12], [-1, 1, -1]) ws (vs ++ [Value.int x]) := by
    refine ⟨nf_inA hl rfl, sgq_211 ?_⟩
    · show 1 * v_iv (n_v (vs ++ [Value.int x]) 3) + ((-1) * v_iv (n_v (vs ++ [Value.int x]) 12) + 0) ≤ (-1)
      simp only [e_3, e_12]
      exact vc_Mo_groupItem_at_k0_9_1 (v_iv (n_v vs 3)) (w_fi ws (n_v vs 0) 11) (w_fi ws (n_v vs 0) 5) (v_iv (Value.int x)) k3 f6 kz_0_11 ex2
  exact ⟨(fun _ h => (by cases h)), [Value.int x], ag_one hx, List.forall_mem_cons.mpr ⟨⟨show (20 : Nat) < 100 from by decide, nf0⟩, List.forall_mem_cons.mpr ⟨⟨show (23 : Nat) < 100 from by decide, nf1⟩, (fun _ h => (by cases h))⟩⟩, (fun _ h => (by cases h))⟩
set_option maxHeartbeats 4000000 in
theorem vc_Mo_groupItem_at_k0_10_0 (x3 : Int) (r_0 : Int) (gx : Int) (k3 : 0 ≤ x3 ∧ x3 ≤ 2000) (ex2 : gx = x3) : 1 * gx + ((-1) * x3 + 0) ≤ 0 := by
  first
    | omega
    | (have q1 := (hE_0_2_1 (r_0 + 2) (by omega)).2 (by omega)
       have q2 := (hE_0_2_2 (r_0 + 2) (by omega)).2 (by omega)
       omega)
    | (have q1 := (hE_0_2_1 (r_0 + 1) (by omega)).2 (by omega)
       have q2 := (hE_0_2_2 (r_0 + 1) (by omega)).2 (by omega)
       omega)
    | (have q1 := (hE_0_2_1 (r_0 + 2) (by omega)).2 (by omega)
       omega)
    | (have q1 := (hE_0_2_1 (r_0 + 1) (by omega)).2 (by omega)
       omega)
    | (have q1 := (hE_0_2_1 (r_0 + 2) (by omega)).2 (by omega)
       have q2 := (hE_0_2_2 (r_0 + 2) (by omega)).2 (by omega)
       have q3 := (hE_0_2_3 (r_0 + 2) (by omega)).1 (by omega)
       omega)
    | (have q1 := (hE_0_2_1 (r_0 + 2) (by omega)).2 (by omega)
       have q2 := (hE_0_2_2 (r_0 + 2) (by omega)).2 (by omega)
       have q3 := (hE_0_2_3 (r_0 + 2) (by omega)).2 (by omega)
       omega)
    | (have q1 := (hE_0_2_1 (r_0 + 2) (by omega)).2 (by omega)
       have q2 := (hE_0_2_2 (r_0 + 2) (by omega)).2 (by omega)
       have q3 := (hE_0_2_3 (r_0 + 2) (by omega)).1 (by omega)
       have q4 : x13 = r_0 + 2 := by omega
       rw [q4] at h34
       omega)
set_option maxHeartbeats 4000000 in
theorem vc_Mo_groupItem_at_k0_10_1 (x3 : Int) (r_0 : Int) (gx : Int) (k3 : 0 ≤ x3 ∧ x3 ≤ 2000) (ex2 : gx = x3) : (-1) * gx + (1 * x3 + 0) ≤ 0 := by
  first
    | omega
    | (have q1 := (hE_0_2_1 (r_0 + 2) (by omega)).2 (by omega)
       have q2 := (hE_0_2_2 (r_0 + 2) (by omega)).2 (by omega)
       omega)
    | (have q1 := (hE_0_2_1 (r_0 + 1) (by omega)).2 (by omega)
       have q2 := (hE_0_2_2 (r_0 + 1) (by omega)).2 (by omega)
       omega)
    | (have q1 := (hE_0_2_1 (r_0 + 2) (by omega)).2 (by omega)
       omega)
    | (have q1 := (hE_0_2_1 (r_0 + 1) (by omega)).2 (by omega)
       omega)
    | (have q1 := (hE_0_2_1 (r_0 + 2) (by omega)).2 (by omega)
       have q2 := (hE_0_2_2 (r_0 + 2) (by omega)).2 (by omega)
       have q3 := (hE_0_2_3 (r_0 + 2) (by omega)).1 (by omega)
       omega)
    | (have q1 := (hE_0_2_1 (r_0 + 2) (by omega)).2 (by omega)
       have q2 := (hE_0_2_2 (r_0 + 2) (by omega)).2 (by omega)
       have q3 := (hE_0_2_3 (r_0 + 2) (by omega)).2 (by omega)
       omega)
    | (have q1 := (hE_0_2_1 (r_0 + 2) (by omega)).2 (by omega)
       have q2 := (hE_0_2_2 (r_0 + 2) (by omega)).2 (by omega)
       have q3 := (hE_0_2_3 (r_0 + 2) (by omega)).1 (by omega)
       have q4 : x13 = r_0 + 2 := by omega
       rw [q4] at h34
       omega)
set_option maxHeartbeats 4000000 in
theorem vc_Mo_groupItem_at_k0_10_2 (r_0 : Int) (from_0 : Int) (pos_0 : Int) (f6 : 1 * from_0 + ((-1) * pos_0 + 0) ≤ 0) (kz_0_11 : 0 ≤ pos_0 ∧ pos_0 ≤ 2000) (kz_0_15 : 0 ≤ from_0 ∧ from_0 ≤ 2000) : 1 * from_0 + ((-1) * pos_0 + 0) ≤ 0 := by
  first
    | omega
    | (have q1 := (hE_0_2_1 (r_0 + 2) (by omega)).2 (by omega)
       have q2 := (hE_0_2_2 (r_0 + 2) (by omega)).2 (by omega)
       omega)
    | (have q1 := (hE_0_2_1 (r_0 + 1) (by omega)).2 (by omega)
       have q2 := (hE_0_2_2 (r_0 + 1) (by omega)).2 (by omega)
       omega)
    | (have q1 := (hE_0_2_1 (r_0 + 2) (by omega)).2 (by omega)
       omega)
    | (have q1 := (hE_0_2_1 (r_0 + 1) (by omega)).2 (by omega)
       omega)
    | (have q1 := (hE_0_2_1 (r_0 + 2) (by omega)).2 (by omega)
       have q2 := (hE_0_2_2 (r_0 + 2) (by omega)).2 (by omega)
       have q3 := (hE_0_2_3 (r_0 + 2) (by omega)).1 (by omega)
       omega)
    | (have q1 := (hE_0_2_1 (r_0 + 2) (by omega)).2 (by omega)
       have q2 := (hE_0_2_2 (r_0 + 2) (by omega)).2 (by omega)
       have q3 := (hE_0_2_3 (r_0 + 2) (by omega)).2 (by omega)
       omega)
    | (have q1 := (hE_0_2_1 (r_0 + 2) (by omega)).2 (by omega)
       have q2 := (hE_0_2_2 (r_0 + 2) (by omega)).2 (by omega)
       have q3 := (hE_0_2_3 (r_0 + 2) (by omega)).1 (by omega)
       have q4 : x13 = r_0 + 2 := by omega
       rw [q4] at h34
       omega)
set_option maxHeartbeats 4000000 in
theorem vc_Mo_groupItem_at_k0_10_3 (r_0 : Int) (from_0 : Int) (pos_0 : Int) (kind_0 : Int) (f7 : ((kind_0 = 1) → (pos_0 ≤ (from_0 + 8))) ∧ ((kind_0 = 0) ∨ ((from_0 + 1) ≤ pos_0))) (kz_0_11 : 0 ≤ pos_0 ∧ pos_0 ≤ 2000) (kz_0_12 : 0 ≤ kind_0 ∧ kind_0 ≤ 4) (kz_0_15 : 0 ≤ from_0 ∧ from_0 ≤ 2000) : ((kind_0 = 1) → (pos_0 ≤ (from_0 + 8))) ∧ ((kind_0 = 0) ∨ ((from_0 + 1) ≤ pos_0)) := by
  first
    | omega
    | (have q1 := (hE_0_2_1 (r_0 + 2) (by omega)).2 (by omega)
       have q2 := (hE_0_2_2 (r_0 + 2) (by omega)).2 (by omega)
       omega)
    | (have q1 := (hE_0_2_1 (r_0 + 1) (by omega)).2 (by omega)
       have q2 := (hE_0_2_2 (r_0 + 1) (by omega)).2 (by omega)
       omega)
    | (have q1 := (hE_0_2_1 (r_0 + 2) (by omega)).2 (by omega)
       omega)
    | (have q1 := (hE_0_2_1 (r_0 + 1) (by omega)).2 (by omega)
       omega)
    | (have q1 := (hE_0_2_1 (r_0 + 2) (by omega)).2 (by omega)
       have q2 := (hE_0_2_2 (r_0 + 2) (by omega)).2 (by omega)
       have q3 := (hE_0_2_3 (r_0 + 2) (by omega)).1 (by omega)
       omega)
    | (have q1 := (hE_0_2_1 (r_0 + 2) (by omega)).2 (by omega)
       have q2 := (hE_0_2_2 (r_0 + 2) (by omega)).2 (by omega)
       have q3 := (hE_0_2_3 (r_0 + 2) (by omega)).2 (by omega)
       omega)
    | (have q1 := (hE_0_2_1 (r_0 + 2) (by omega)).2 (by omega)
       have q2 := (hE_0_2_2 (r_0 + 2) (by omega)).2 (by omega)
       have q3 := (hE_0_2_3 (r_0 + 2) (by omega)).1 (by omega)
       have q4 : x13 = r_0 + 2 := by omega
       rw [q4] at h34
       omega)
set_option maxHeartbeats 4000000 in
theorem vc_Mo_groupItem_at_k0_10_4 (x3 : Int) (x12 : Int) (r_0 : Int) (from_0 : Int) (pos_0 : Int) (gx : Int) (k3 : 0 ≤ x3 ∧ x3 ≤ 2000) (k12 : 0 ≤ x12 ∧ x12 ≤ 2000) (f0 : 1 * x3 + ((-1) * x12 + 0) ≤ (-1)) (f6 : 1 * from_0 + ((-1) * pos_0 + 0) ≤ 0) (f8 : 1 * x12 + ((-1) * from_0 + 0) ≤ 0) (kz_0_11 : 0 ≤ pos_0 ∧ pos_0 ≤ 2000) (kz_0_15 : 0 ≤ from_0 ∧ from_0 ≤ 2000) (ex2 : gx = x3) : 1 * gx + ((-1) * pos_0 + 0) ≤ 0 := by
  first
    | omega
    | (have q1 := (hE_0_2_1 (r_0 + 2) (by omega)).2 (by omega)
       have q2 := (hE_0_2_2 (r_0 + 2) (by omega)).2 (by omega)
       omega)
    | (have q1 := (hE_0_2_1 (r_0 + 1) (by omega)).2 (by omega)
       have q2 := (hE_0_2_2 (r_0 + 1) (by omega)).2 (by omega)
       omega)
    | (have q1 := (hE_0_2_1 (r_0 + 2) (by omega)).2 (by omega)
       omega)
    | (have q1 := (hE_0_2_1 (r_0 + 1) (by omega)).2 (by omega)
       omega)
    | (have q1 := (hE_0_2_1 (r_0 + 2) (by omega)).2 (by omega)
       have q2 := (hE_0_2_2 (r_0 + 2) (by omega)).2 (by omega)
       have q3 := (hE_0_2_3 (r_0 + 2) (by omega)).1 (by omega)
       omega)
    | (have q1 := (hE_0_2_1 (r_0 + 2) (by omega)).2 (by omega)
       have q2 := (hE_0_2_2 (r_0 + 2) (by omega)).2 (by omega)
       have q3 := (hE_0_2_3 (r_0 + 2) (by omega)).2 (by omega)
       omega)
    | (have q1 := (hE_0_2_1 (r_0 + 2) (by omega)).2 (by omega)
       have q2 := (hE_0_2_2 (r_0 + 2) (by omega)).2 (by omega)
       have q3 := (hE_0_2_3 (r_0 + 2) (by omega)).1 (by omega)
       have q4 : x13 = r_0 + 2 := by omega
       rw [q4] at h34
       omega)
set_option maxHeartbeats 4000000 in
theorem vc_Mo_groupItem_at_k0_10_5 (x3 : Int) (x12 : Int) (r_0 : Int) (from_0 : Int) (pos_0 : Int) (kind_0 : Int) (fault_0 : Int) (gx : Int) (k3 : 0 ≤ x3 ∧ x3 ≤ 2000) (k12 : 0 ≤ x12 ∧ x12 ≤ 2000) (f0 : 1 * x3 + ((-1) * x12 + 0) ≤ (-1)) (f6 : 1 * from_0 + ((-1) * pos_0 + 0) ≤ 0) (f8 : 1 * x12 + ((-1) * from_0 + 0) ≤ 0) (kz_0_8 : 0 ≤ fault_0 ∧ fault_0 ≤ 5) (kz_0_11 : 0 ≤ pos_0 ∧ pos_0 ≤ 2000) (kz_0_12 : 0 ≤ kind_0 ∧ kind_0 ≤ 4) (kz_0_15 : 0 ≤ from_0 ∧ from_0 ≤ 2000) (ex2 : gx = x3) : (1 ≤ fault_0) ∨ ((kind_0 = 0) ∨ ((gx + 1) ≤ pos_0)) := by
  first
    | omega
    | (have q1 := (hE_0_2_1 (r_0 + 2) (by omega)).2 (by omega)
       have q2 := (hE_0_2_2 (r_0 + 2) (by omega)).2 (by omega)
       omega)
    | (have q1 := (hE_0_2_1 (r_0 + 1) (by omega)).2 (by omega)
       have q2 := (hE_0_2_2 (r_0 + 1) (by omega)).2 (by omega)
       omega)
    | (have q1 := (hE_0_2_1 (r_0 + 2) (by omega)).2 (by omega)
       omega)
    | (have q1 := (hE_0_2_1 (r_0 + 1) (by omega)).2 (by omega)
       omega)
    | (have q1 := (hE_0_2_1 (r_0 + 2) (by omega)).2 (by omega)
       have q2 := (hE_0_2_2 (r_0 + 2) (by omega)).2 (by omega)
       have q3 := (hE_0_2_3 (r_0 + 2) (by omega)).1 (by omega)
       omega)
    | (have q1 := (hE_0_2_1 (r_0 + 2) (by omega)).2 (by omega)
       have q2 := (hE_0_2_2 (r_0 + 2) (by omega)).2 (by omega)
       have q3 := (hE_0_2_3 (r_0 + 2) (by omega)).2 (by omega)
       omega)
    | (have q1 := (hE_0_2_1 (r_0 + 2) (by omega)).2 (by omega)
       have q2 := (hE_0_2_2 (r_0 + 2) (by omega)).2 (by omega)
       have q3 := (hE_0_2_3 (r_0 + 2) (by omega)).1 (by omega)
       have q4 : x13 = r_0 + 2 := by omega
       rw [q4] at h34
       omega)
def o_Mo_groupItem_at_k0_10 : or_T := (167, 14, [(0, (2, 0, 0, [165])), (3, (0, 0, 2000, [])), (12, (0, 0, 2000, []))], [(23, [3, 12], [-1, 1, -1]), (24, [0, 4], []), (20, [4, 4], [30, 0, 1, 1, 15, -1, 1, 11]), (20, [4], [50, 3, 0, 12, 11, 15, 2, 21, 4, 7, 1, 3, 2, 0, 12, 0, 1, 0, 3, 2, 0, 11, 4, 3, 2, 0, 15, 0, 8, 3, 7, 1, 3, 2, 0, 12, 0, 0, 0, 7, 4, 3, 2, 0, 15, 0, 1, 2, 0, 11]), (20, [12, 4], [30, 0, 1, 0, 0, -1, 1, 15])], [], [(0, 0, 2000, [])], [(23, [14, 3], [0, 1, -1]), (23, [14, 3], [0, -1, 1]), (20, [4, 4], [30, 0, 1, 1, 15, -1, 1, 11]), (20, [4], [50, 3, 0, 12, 11, 15, 2, 21, 4, 7, 1, 3, 2, 0, 12, 0, 1, 0, 3, 2, 0, 11, 4, 3, 2, 0, 15, 0, 8, 3, 7, 1, 3, 2, 0, 12, 0, 0, 0, 7, 4, 3, 2, 0, 15, 0, 1, 2, 0, 11]), (20, [14, 4], [30, 0, 1, 0, 0, -1, 1, 11]), (20, [4, 14], [50, 3, 0, 8, 12, 11, 3, 7, 0, 2, 0, 1, 2, 0, 8, 3, 7, 1, 3, 2, 0, 12, 0, 0, 0, 6, 4, 2, 1, 1, 0, 1, 2, 0, 11])], [], [])
theorem oo_Mo_groupItem_at_k0_10 {kA : Nat → ClassId} : or_ok PRD kA GG o_Mo_groupItem_at_k0_10 := by
  refine or_mk fun A ta ws vs hD hth hl => ?_
  intro t0 r0 t3 k3 t12 k12 f0 f4 f6 f7 f8
  replace f0 := shm_211 f0
  replace f4 := shm_5 f4
  replace f6 := shm_1397 f6
  replace f7 := shm_1398 f7
  replace f8 := shm_1396 f8
  have q4 : n_v vs 4 = n_v vs 0 := f4.symm
  simp only [q4] at f6 f7 f8
  have kz_0_8 := fdq_14 hD hth r0
  have kz_0_11 := fdq_273 hD hth r0
  have kz_0_12 := fdq_186 hD hth r0
  have kz_0_15 := fdq_274 hD hth r0
  obtain ⟨x, ex, hx⟩ := iv_ex (ta := ta) (lo := 0) (hi := 2000) (z := v_iv (n_v vs 3)) (by omega) (by omega) (by omega) (by omega)
  have ex2 : v_iv (Value.int x) = v_iv (n_v vs 3) := ex
  have ex3 : 0 ≤ v_iv (Value.int x) ∧ v_iv (Value.int x) ≤ 2000 := tv_rng hx
  have e_3 : n_v (vs ++ [Value.int x]) 3 = n_v vs 3 := n_v_old (by rw [hl]; decide)
  have e_4 : n_v (vs ++ [Value.int x]) 4 = n_v vs 4 := n_v_old (by rw [hl]; decide)
  have e_14 : n_v (vs ++ [Value.int x]) 14 = Value.int x := n_v_new hl
  have nf0 : fc_1 PRD (23, [14, 3], [0, 1, -1]) ws (vs ++ [Value.int x]) := by
    refine ⟨nf_inA hl rfl, sgq_7 ?_⟩
    · show 1 * v_iv (n_v (vs ++ [Value.int x]) 14) + ((-1) * v_iv (n_v (vs ++ [Value.int x]) 3) + 0) ≤ 0
      simp only [e_3, e_14]
      exact vc_Mo_groupItem_at_k0_10_0 (v_iv (n_v vs 3)) (w_fi ws (n_v vs 0) 5) (v_iv (Value.int x)) k3 ex2
  have nf1 : fc_1 PRD (23, [14, 3], [0, -1, 1]) ws (vs ++ [Value.int x]) := by
    refine ⟨nf_inA hl rfl, sgq_22 ?_⟩
    · show (-1) * v_iv (n_v (vs ++ [Value.int x]) 14) + (1 * v_iv (n_v (vs ++ [Value.int x]) 3) + 0) ≤ 0
      simp only [e_3, e_14]
      exact vc_Mo_groupItem_at_k0_10_1 (v_iv (n_v vs 3)) (w_fi ws (n_v vs 0) 5) (v_iv (Value.int x)) k3 ex2
  have nf2 : fc_1 PRD (20, [4, 4], [30, 0, 1, 1, 15, -1, 1, 11]) ws (vs ++ [Value.int x]) := by
    refine ⟨nf_inA hl rfl, sgq_1397 ?_⟩
    · show 1 * w_fi ws (n_v (vs ++ [Value.int x]) 4) 15 + ((-1) * w_fi ws (n_v (vs ++ [Value.int x]) 4) 11 + 0) ≤ 0
      simp only [e_4, q4]
      exact vc_Mo_groupItem_at_k0_10_2 (w_fi ws (n_v vs 0) 5) (w_fi ws (n_v vs 0) 15) (w_fi ws (n_v vs 0) 11) f6 kz_0_11 kz_0_15
  have nf3 : fc_1 PRD (20, [4], [50, 3, 0, 12, 11, 15, 2, 21, 4, 7, 1, 3, 2, 0, 12, 0, 1, 0, 3, 2, 0, 11, 4, 3, 2, 0, 15, 0, 8, 3, 7, 1, 3, 2, 0, 12, 0, 0, 0, 7, 4, 3, 2, 0, 15, 0, 1, 2, 0, 11]) ws (vs ++ [Value.int x]) := by
    refine ⟨nf_inA hl rfl, sgq_1398 ?_⟩
    · show ((w_fi ws (n_v (vs ++ [Value.int x]) 4) 12 = 1) → (w_fi ws (n_v (vs ++ [Value.int x]) 4) 11 ≤ (w_fi ws (n_v (vs ++ [Value.int x]) 4) 15 + 8))) ∧ ((w_fi ws (n_v (vs ++ [Value.int x]) 4) 12 = 0) ∨ ((w_fi ws (n_v (vs ++ [Value.int x]) 4) 15 + 1) ≤ w_fi ws (n_v (vs ++ [Value.int x]) 4) 11))
      simp only [e_4, q4]
      exact vc_Mo_groupItem_at_k0_10_3 (w_fi ws (n_v vs 0) 5) (w_fi ws (n_v vs 0) 15) (w_fi ws (n_v vs 0) 11) (w_fi ws (n_v vs 0) 12) f7 kz_0_11 kz_0_12 kz_0_15
  have nf4 : fc_1 PRD (20, [14, 4], [30, 0, 1, 0, 0, -1, 1, 11]) ws (vs ++ [Value.int x]) := by
    refine ⟨nf_inA hl rfl, sgq_1395 ?_⟩
    · show 1 * v_iv (n_v (vs ++ [Value.int x]) 14) + ((-1) * w_fi ws (n_v (vs ++ [Value.int x]) 4) 11 + 0) ≤ 0
      simp only [e_4, e_14, q4]
      exact vc_Mo_groupItem_at_k0_10_4 (v_iv (n_v vs 3)) (v_iv (n_v vs 12)) (w_fi ws (n_v vs 0) 5) (w_fi ws (n_v vs 0) 15) (w_fi ws (n_v vs 0) 11) (v_iv (Value.int x)) k3 k12 f0 f6 f8 kz_0_11 kz_0_15 ex2
  have nf5 : fc_1 PRD (20, [4, 14], [50, 3, 0, 8, 12, 11, 3, 7, 0, 2, 0, 1, 2, 0, 8, 3, 7, 1, 3, 2, 0, 12, 0, 0, 0, 6, 4, 2, 1, 1, 0, 1, 2, 0, 11]) ws (vs ++ [Value.int x]) := by
    refine ⟨nf_inA hl rfl, sgq_1660 ?_⟩
    · show (1 ≤ w_fi ws (n_v (vs ++ [Value.int x]) 4) 8) ∨ ((w_fi ws (n_v (vs ++ [Value.int x]) 4) 12 = 0) ∨ ((v_iv (n_v (vs ++ [Value.int x]) 14) + 1) ≤ w_fi ws (n_v (vs ++ [Value.int x]) 4) 11))
      simp only [e_4, e_14, q4]
      exact vc_Mo_groupItem_at_k0_10_5 (v_iv (n_v vs 3)) (v_iv (n_v vs 12)) (w_fi ws (n_v vs 0) 5) (w_fi ws (n_v vs 0) 15) (w_fi ws (n_v vs 0) 11) (w_fi ws (n_v vs 0) 12) (w_fi ws (n_v vs 0) 8) (v_iv (Value.int x)) k3 k12 f0 f6 f8 kz_0_8 kz_0_11 kz_0_12 kz_0_15 ex2
  exact ⟨(fun _ h => (by cases h)), [Value.int x], ag_one hx, List.forall_mem_cons.mpr ⟨⟨show (23 : Nat) < 100 from by decide, nf0⟩, List.forall_mem_cons.mpr ⟨⟨show (23 : Nat) < 100 from by decide, nf1⟩, List.forall_mem_cons.mpr ⟨⟨show (20 : Nat) < 100 from by decide, nf2⟩, List.forall_mem_cons.mpr ⟨⟨show (20 : Nat) < 100 from by decide, nf3⟩, List.forall_mem_cons.mpr ⟨⟨show (20 : Nat) < 100 from by decide, nf4⟩, List.forall_mem_cons.mpr ⟨⟨show (20 : Nat) < 100 from by decide, nf5⟩, (fun _ h => (by cases h))⟩⟩⟩⟩⟩⟩, (fun _ h => (by cases h))⟩
set_option maxHeartbeats 4000000 in
theorem vc_Mo_groupItem_at_k0_11_0 (r_0 : Int) (from_0 : Int) (pos_0 : Int) (f8 : 1 * from_0 + ((-1) * pos_0 + 0) ≤ 0) (kz_0_11 : 0 ≤ pos_0 ∧ pos_0 ≤ 2000) (kz_0_15 : 0 ≤ from_0 ∧ from_0 ≤ 2000) : 1 * from_0 + ((-1) * pos_0 + 0) ≤ 0 := by
  first
    | omega
    | (have q1 := (hE_0_2_1 (r_0 + 2) (by omega)).2 (by omega)
       have q2 := (hE_0_2_2 (r_0 + 2) (by omega)).2 (by omega)
       omega)
    | (have q1 := (hE_0_2_1 (r_0 + 1) (by omega)).2 (by omega)
       have q2 := (hE_0_2_2 (r_0 + 1) (by omega)).2 (by omega)
       omega)
    | (have q1 := (hE_0_2_1 (r_0 + 2) (by omega)).2 (by omega)
       omega)
    | (have q1 := (hE_0_2_1 (r_0 + 1) (by omega)).2 (by omega)
       omega)
    | (have q1 := (hE_0_2_1 (r_0 + 2) (by omega)).2 (by omega)
       have q2 := (hE_0_2_2 (r_0 + 2) (by omega)).2 (by omega)
       have q3 := (hE_0_2_3 (r_0 + 2) (by omega)).1 (by omega)
       omega)
    | (have q1 := (hE_0_2_1 (r_0 + 2) (by omega)).2 (by omega)
       have q2 := (hE_0_2_2 (r_0 + 2) (by omega)).2 (by omega)
       have q3 := (hE_0_2_3 (r_0 + 2) (by omega)).2 (by omega)
       omega)
    | (have q1 := (hE_0_2_1 (r_0 + 2) (by omega)).2 (by omega)
       have q2 := (hE_0_2_2 (r_0 + 2) (by omega)).2 (by omega)
       have q3 := (hE_0_2_3 (r_0 + 2) (by omega)).1 (by omega)
       have q4 : x13 = r_0 + 2 := by omega
       rw [q4] at h34
       omega)
set_option maxHeartbeats 4000000 in
theorem vc_Mo_groupItem_at_k0_11_1 (r_0 : Int) (from_0 : Int) (pos_0 : Int) (kind_0 : Int) (f9 : ((kind_0 = 1) → (pos_0 ≤ (from_0 + 8))) ∧ ((kind_0 = 0) ∨ ((from_0 + 1) ≤ pos_0))) (kz_0_11 : 0 ≤ pos_0 ∧ pos_0 ≤ 2000) (kz_0_12 : 0 ≤ kind_0 ∧ kind_0 ≤ 4) (kz_0_15 : 0 ≤ from_0 ∧ from_0 ≤ 2000) : ((kind_0 = 1) → (pos_0 ≤ (from_0 + 8))) ∧ ((kind_0 = 0) ∨ ((from_0 + 1) ≤ pos_0)) := by
  first
    | omega
    | (have q1 := (hE_0_2_1 (r_0 + 2) (by omega)).2 (by omega)
       have q2 := (hE_0_2_2 (r_0 + 2) (by omega)).2 (by omega)
       omega)
    | (have q1 := (hE_0_2_1 (r_0 + 1) (by omega)).2 (by omega)
       have q2 := (hE_0_2_2 (r_0 + 1) (by omega)).2 (by omega)
       omega)
    | (have q1 := (hE_0_2_1 (r_0 + 2) (by omega)).2 (by omega)
       omega)
    | (have q1 := (hE_0_2_1 (r_0 + 1) (by omega)).2 (by omega)
       omega)
    | (have q1 := (hE_0_2_1 (r_0 + 2) (by omega)).2 (by omega)
       have q2 := (hE_0_2_2 (r_0 + 2) (by omega)).2 (by omega)
       have q3 := (hE_0_2_3 (r_0 + 2) (by omega)).1 (by omega)
       omega)
    | (have q1 := (hE_0_2_1 (r_0 + 2) (by omega)).2 (by omega)
       have q2 := (hE_0_2_2 (r_0 + 2) (by omega)).2 (by omega)
       have q3 := (hE_0_2_3 (r_0 + 2) (by omega)).2 (by omega)
       omega)
    | (have q1 := (hE_0_2_1 (r_0 + 2) (by omega)).2 (by omega)
       have q2 := (hE_0_2_2 (r_0 + 2) (by omega)).2 (by omega)
       have q3 := (hE_0_2_3 (r_0 + 2) (by omega)).1 (by omega)
       have q4 : x13 = r_0 + 2 := by omega
       rw [q4] at h34
       omega)
set_option maxHeartbeats 4000000 in
theorem vc_Mo_groupItem_at_k0_11_2 (x3 : Int) (x14 : Int) (r_0 : Int) (pos_0 : Int) (fault_0 : Int) (gx : Int) (k3 : 0 ≤ x3 ∧ x3 ≤ 2000) (k14 : 0 ≤ x14 ∧ x14 ≤ 2000) (f0 : 1 * x14 + ((-1) * x3 + 0) ≤ 0) (f1 : (-1) * x14 + (1 * x3 + 0) ≤ 0) (f10 : 1 * x14 + ((-1) * pos_0 + 0) ≤ 0) (kz_0_8 : 0 ≤ fault_0 ∧ fault_0 ≤ 5) (kz_0_11 : 0 ≤ pos_0 ∧ pos_0 ≤ 2000) (ex2 : gx = 2005 + ((-1) * pos_0 + ((-1) * fault_0 + 0))) : 1 * x3 + ((-1) * pos_0 + 0) ≤ 0 := by
  first
    | omega
    | (have q1 := (hE_0_2_1 (r_0 + 2) (by omega)).2 (by omega)
       have q2 := (hE_0_2_2 (r_0 + 2) (by omega)).2 (by omega)
       omega)
    | (have q1 := (hE_0_2_1 (r_0 + 1) (by omega)).2 (by omega)
       have q2 := (hE_0_2_2 (r_0 + 1) (by omega)).2 (by omega)
       omega)
    | (have q1 := (hE_0_2_1 (r_0 + 2) (by omega)).2 (by omega)
       omega)
    | (have q1 := (hE_0_2_1 (r_0 + 1) (by omega)).2 (by omega)
       omega)
    | (have q1 := (hE_0_2_1 (r_0 + 2) (by omega)).2 (by omega)
       have q2 := (hE_0_2_2 (r_0 + 2) (by omega)).2 (by omega)
       have q3 := (hE_0_2_3 (r_0 + 2) (by omega)).1 (by omega)
       omega)
    | (have q1 := (hE_0_2_1 (r_0 + 2) (by omega)).2 (by omega)
       have q2 := (hE_0_2_2 (r_0 + 2) (by omega)).2 (by omega)
       have q3 := (hE_0_2_3 (r_0 + 2) (by omega)).2 (by omega)
       omega)
    | (have q1 := (hE_0_2_1 (r_0 + 2) (by omega)).2 (by omega)
       have q2 := (hE_0_2_2 (r_0 + 2) (by omega)).2 (by omega)
       have q3 := (hE_0_2_3 (r_0 + 2) (by omega)).1 (by omega)
       have q4 : x13 = r_0 + 2 := by omega
       rw [q4] at h34
       omega)
set_option maxHeartbeats 4000000 in
theorem vc_Mo_groupItem_at_k0_11_3 (x3 : Int) (x14 : Int) (r_0 : Int) (pos_0 : Int) (fault_0 : Int) (gx : Int) (k3 : 0 ≤ x3 ∧ x3 ≤ 2000) (k14 : 0 ≤ x14 ∧ x14 ≤ 2000) (f0 : 1 * x14 + ((-1) * x3 + 0) ≤ 0) (f1 : (-1) * x14 + (1 * x3 + 0) ≤ 0) (f10 : 1 * x14 + ((-1) * pos_0 + 0) ≤ 0) (f11 : (1 ≤ fault_0) ∨ ((x14 + 1) ≤ pos_0)) (kz_0_8 : 0 ≤ fault_0 ∧ fault_0 ≤ 5) (kz_0_11 : 0 ≤ pos_0 ∧ pos_0 ≤ 2000) (ex2 : gx = 2005 + ((-1) * pos_0 + ((-1) * fault_0 + 0))) : (1 ≤ fault_0) ∨ ((x3 + 1) ≤ pos_0) := by
  first
    | omega
    | (have q1 := (hE_0_2_1 (r_0 + 2) (by omega)).2 (by omega)
       have q2 := (hE_0_2_2 (r_0 + 2) (by omega)).2 (by omega)
       omega)
    | (have q1 := (hE_0_2_1 (r_0 + 1) (by omega)).2 (by omega)
       have q2 := (hE_0_2_2 (r_0 + 1) (by omega)).2 (by omega)
       omega)
    | (have q1 := (hE_0_2_1 (r_0 + 2) (by omega)).2 (by omega)
       omega)
    | (have q1 := (hE_0_2_1 (r_0 + 1) (by omega)).2 (by omega)
       omega)
    | (have q1 := (hE_0_2_1 (r_0 + 2) (by omega)).2 (by omega)
       have q2 := (hE_0_2_2 (r_0 + 2) (by omega)).2 (by omega)
       have q3 := (hE_0_2_3 (r_0 + 2) (by omega)).1 (by omega)
       omega)
    | (have q1 := (hE_0_2_1 (r_0 + 2) (by omega)).2 (by omega)
       have q2 := (hE_0_2_2 (r_0 + 2) (by omega)).2 (by omega)
       have q3 := (hE_0_2_3 (r_0 + 2) (by omega)).2 (by omega)
       omega)
    | (have q1 := (hE_0_2_1 (r_0 + 2) (by omega)).2 (by omega)
       have q2 := (hE_0_2_2 (r_0 + 2) (by omega)).2 (by omega)
       have q3 := (hE_0_2_3 (r_0 + 2) (by omega)).1 (by omega)
       have q4 : x13 = r_0 + 2 := by omega
       rw [q4] at h34
       omega)
set_option maxHeartbeats 4000000 in
theorem vc_Mo_groupItem_at_k0_11_4 (x7 : Int) (all_0 : Int → Int) (r_0 : Int) (k7 : 0 ≤ x7 ∧ x7 ≤ 7) (f3 : (x7 + 1) ≤ all_0 ((r_0 + 2))) : (x7 + 1) ≤ all_0 ((r_0 + 2)) := by
  first
    | omega
    | (have q1 := (hE_0_2_1 (r_0 + 2) (by omega)).2 (by omega)
       have q2 := (hE_0_2_2 (r_0 + 2) (by omega)).2 (by omega)
       omega)
    | (have q1 := (hE_0_2_1 (r_0 + 1) (by omega)).2 (by omega)
       have q2 := (hE_0_2_2 (r_0 + 1) (by omega)).2 (by omega)
       omega)
    | (have q1 := (hE_0_2_1 (r_0 + 2) (by omega)).2 (by omega)
       omega)
    | (have q1 := (hE_0_2_1 (r_0 + 1) (by omega)).2 (by omega)
       omega)
    | (have q1 := (hE_0_2_1 (r_0 + 2) (by omega)).2 (by omega)
       have q2 := (hE_0_2_2 (r_0 + 2) (by omega)).2 (by omega)
       have q3 := (hE_0_2_3 (r_0 + 2) (by omega)).1 (by omega)
       omega)
    | (have q1 := (hE_0_2_1 (r_0 + 2) (by omega)).2 (by omega)
       have q2 := (hE_0_2_2 (r_0 + 2) (by omega)).2 (by omega)
       have q3 := (hE_0_2_3 (r_0 + 2) (by omega)).2 (by omega)
       omega)
    | (have q1 := (hE_0_2_1 (r_0 + 2) (by omega)).2 (by omega)
       have q2 := (hE_0_2_2 (r_0 + 2) (by omega)).2 (by omega)
       have q3 := (hE_0_2_3 (r_0 + 2) (by omega)).1 (by omega)
       have q4 : x13 = r_0 + 2 := by omega
       rw [q4] at h34
       omega)
set_option maxHeartbeats 4000000 in
theorem vc_Mo_groupItem_at_k0_11_5 (x1 : Int) (x7 : Int) (r_0 : Int) (k1 : 0 ≤ x1 ∧ x1 ≤ 0) (k7 : 0 ≤ x7 ∧ x7 ≤ 7) (f19 : 1 * x1 + ((-1) * x7 + 0) ≤ (-1)) : 1 * x1 + ((-1) * x7 + 0) ≤ (-1) := by
  first
    | omega
    | (have q1 := (hE_0_2_1 (r_0 + 2) (by omega)).2 (by omega)
       have q2 := (hE_0_2_2 (r_0 + 2) (by omega)).2 (by omega)
       omega)
    | (have q1 := (hE_0_2_1 (r_0 + 1) (by omega)).2 (by omega)
       have q2 := (hE_0_2_2 (r_0 + 1) (by omega)).2 (by omega)
       omega)
    | (have q1 := (hE_0_2_1 (r_0 + 2) (by omega)).2 (by omega)
       omega)
    | (have q1 := (hE_0_2_1 (r_0 + 1) (by omega)).2 (by omega)
       omega)
    | (have q1 := (hE_0_2_1 (r_0 + 2) (by omega)).2 (by omega)
       have q2 := (hE_0_2_2 (r_0 + 2) (by omega)).2 (by omega)
       have q3 := (hE_0_2_3 (r_0 + 2) (by omega)).1 (by omega)
       omega)
    | (have q1 := (hE_0_2_1 (r_0 + 2) (by omega)).2 (by omega)
       have q2 := (hE_0_2_2 (r_0 + 2) (by omega)).2 (by omega)
       have q3 := (hE_0_2_3 (r_0 + 2) (by omega)).2 (by omega)
       omega)
    | (have q1 := (hE_0_2_1 (r_0 + 2) (by omega)).2 (by omega)
       have q2 := (hE_0_2_2 (r_0 + 2) (by omega)).2 (by omega)
       have q3 := (hE_0_2_3 (r_0 + 2) (by omega)).1 (by omega)
       have q4 : x13 = r_0 + 2 := by omega
       rw [q4] at h34
       omega)
set_option maxHeartbeats 4000000 in
theorem vc_Mo_groupItem_at_k0_11_6 (all_0 : Int → Int) (r_0 : Int) (now_0 : Int → Int) (latest_0 : Int → Int) (f5 : RWS (r_0) (all_0) (now_0) (latest_0)) : RWS (r_0) (all_0) (now_0) (latest_0) := by
  first
    | assumption
set_option maxHeartbeats 4000000 in
theorem vc_Mo_groupItem_at_k0_11_9 (r_0 : Int) (pos_0 : Int) (fault_0 : Int) (gx : Int) (kz_0_8 : 0 ≤ fault_0 ∧ fault_0 ≤ 5) (kz_0_11 : 0 ≤ pos_0 ∧ pos_0 ≤ 2000) (ex2 : gx = 2005 + ((-1) * pos_0 + ((-1) * fault_0 + 0))) : 1 * gx + (1 * pos_0 + (1 * fault_0 + 0)) ≤ 2005 := by
  first
    | omega
    | (have q1 := (hE_0_2_1 (r_0 + 2) (by omega)).2 (by omega)
       have q2 := (hE_0_2_2 (r_0 + 2) (by omega)).2 (by omega)
       omega)
    | (have q1 := (hE_0_2_1 (r_0 + 1) (by omega)).2 (by omega)
       have q2 := (hE_0_2_2 (r_0 + 1) (by omega)).2 (by omega)
       omega)
    | (have q1 := (hE_0_2_1 (r_0 + 2) (by omega)).2 (by omega)
       omega)
    | (have q1 := (hE_0_2_1 (r_0 + 1) (by omega)).2 (by omega)
       omega)
    | (have q1 := (hE_0_2_1 (r_0 + 2) (by omega)).2 (by omega)
       have q2 := (hE_0_2_2 (r_0 + 2) (by omega)).2 (by omega)
       have q3 := (hE_0_2_3 (r_0 + 2) (by omega)).1 (by omega)
       omega)
    | (have q1 := (hE_0_2_1 (r_0 + 2) (by omega)).2 (by omega)
       have q2 := (hE_0_2_2 (r_0 + 2) (by omega)).2 (by omega)
       have q3 := (hE_0_2_3 (r_0 + 2) (by omega)).2 (by omega)
       omega)
    | (have q1 := (hE_0_2_1 (r_0 + 2) (by omega)).2 (by omega)
       have q2 := (hE_0_2_2 (r_0 + 2) (by omega)).2 (by omega)
       have q3 := (hE_0_2_3 (r_0 + 2) (by omega)).1 (by omega)
       have q4 : x13 = r_0 + 2 := by omega
       rw [q4] at h34
       omega)
set_option maxHeartbeats 4000000 in
theorem vc_Mo_groupItem_at_k0_11_10 (r_0 : Int) (pos_0 : Int) (fault_0 : Int) (gx : Int) (kz_0_8 : 0 ≤ fault_0 ∧ fault_0 ≤ 5) (kz_0_11 : 0 ≤ pos_0 ∧ pos_0 ≤ 2000) (ex2 : gx = 2005 + ((-1) * pos_0 + ((-1) * fault_0 + 0))) : (-1) * gx + ((-1) * pos_0 + ((-1) * fault_0 + 0)) ≤ (-2005) := by
  first
    | omega
    | (have q1 := (hE_0_2_1 (r_0 + 2) (by omega)).2 (by omega)
       have q2 := (hE_0_2_2 (r_0 + 2) (by omega)).2 (by omega)
       omega)
    | (have q1 := (hE_0_2_1 (r_0 + 1) (by omega)).2 (by omega)
       have q2 := (hE_0_2_2 (r_0 + 1) (by omega)).2 (by omega)
       omega)
    | (have q1 := (hE_0_2_1 (r_0 + 2) (by omega)).2 (by omega)
       omega)
    | (have q1 := (hE_0_2_1 (r_0 + 1) (by omega)).2 (by omega)
       omega)
    | (have q1 := (hE_0_2_1 (r_0 + 2) (by omega)).2 (by omega)
       have q2 := (hE_0_2_2 (r_0 + 2) (by omega)).2 (by omega)
       have q3 := (hE_0_2_3 (r_0 + 2) (by omega)).1 (by omega)
       omega)
    | (have q1 := (hE_0_2_1 (r_0 + 2) (by omega)).2 (by omega)
       have q2 := (hE_0_2_2 (r_0 + 2) (by omega)).2 (by omega)
       have q3 := (hE_0_2_3 (r_0 + 2) (by omega)).2 (by omega)
       omega)
    | (have q1 := (hE_0_2_1 (r_0 + 2) (by omega)).2 (by omega)
       have q2 := (hE_0_2_2 (r_0 + 2) (by omega)).2 (by omega)
       have q3 := (hE_0_2_3 (r_0 + 2) (by omega)).1 (by omega)
       have q4 : x13 = r_0 + 2 := by omega
       rw [q4] at h34
       omega)
def o_Mo_groupItem_at_k0_11 : or_T := (170, 15, [(0, (2, 0, 0, [165])), (1, (0, 0, 0, [])), (3, (0, 0, 2000, [])), (7, (0, 0, 7, [])), (14, (0, 0, 2000, []))], [(23, [14, 3], [0, 1, -1]), (23, [14, 3], [0, -1, 1]), (20, [7, 4], [50, 1, 1, 1005, 1002, 0, 6, 4, 2, 1, 0, 0, 1, 3, 1, 2, 4, 3, 2, 1, 5, 0, 2]), (20, [4], [60, 1, 3, 199, 5, 2, 3, 4]), (24, [0, 4], []), (24, [1, 5], []), (20, [4, 4], [30, 0, 1, 1, 15, -1, 1, 11]), (20, [4], [50, 3, 0, 12, 11, 15, 2, 21, 4, 7, 1, 3, 2, 0, 12, 0, 1, 0, 3, 2, 0, 11, 4, 3, 2, 0, 15, 0, 8, 3, 7, 1, 3, 2, 0, 12, 0, 0, 0, 7, 4, 3, 2, 0, 15, 0, 1, 2, 0, 11]), (20, [14, 4], [30, 0, 1, 0, 0, -1, 1, 11]), (20, [4, 14], [50, 2, 0, 8, 11, 3, 7, 0, 2, 0, 1, 2, 0, 8, 0, 6, 4, 2, 1, 1, 0, 1, 2, 0, 11]), (102, [14], [0, 165008, 165009, 165011, 165012, 165013, 165014, 165015]), (102, [12], [0, 165011, 165012, 165013, 165014, 165015]), (23, [5, 7], [-1, 1, -1])], [], [(0, 0, 2005, [])], [(20, [4, 4], [30, 0, 1, 1, 15, -1, 1, 11]), (20, [4], [50, 3, 0, 12, 11, 15, 2, 21, 4, 7, 1, 3, 2, 0, 12, 0, 1, 0, 3, 2, 0, 11, 4, 3, 2, 0, 15, 0, 8, 3, 7, 1, 3, 2, 0, 12, 0, 0, 0, 7, 4, 3, 2, 0, 15, 0, 1, 2, 0, 11]), (20, [3, 4], [30, 0, 1, 0, 0, -1, 1, 11]), (20, [4, 3], [50, 2, 0, 8, 11, 3, 7, 0, 2, 0, 1, 2, 0, 8, 0, 6, 4, 2, 1, 1, 0, 1, 2, 0, 11]), (20, [7, 4], [50, 1, 1, 1005, 1002, 0, 6, 4, 2, 1, 0, 0, 1, 3, 1, 2, 4, 3, 2, 1, 5, 0, 2]), (23, [5, 7], [-1, 1, -1]), (20, [4], [60, 1, 3, 199, 5, 2, 3, 4]), (24, [0, 4], []), (24, [1, 5], []), (20, [15, 4, 4], [30, 2005, 1, 0, 0, 1, 1, 11, 1, 1, 8]), (20, [15, 4, 4], [30, -2005, -1, 0, 0, -1, 1, 11, -1, 1, 8])], [], [])
theorem oo_Mo_groupItem_at_k0_11 {kA : Nat → ClassId} : or_ok PRD kA GG o_Mo_groupItem_at_k0_11 := by
  refine or_mk fun A ta ws vs hD hth hl => ?_
  intro t0 r0 t1 k1 t3 k3 t7 k7 t14 k14 f0 f1 f3 f5 f6 f7 f8 f9 f10 f11 ta1 w1 le1 s1 ta2 w2 le2 s2 f19
  replace f0 := shm_7 f0
  replace f1 := shm_22 f1
  replace f3 := shm_981 f3
  replace f5 := shm_952 f5
  replace f6 := shm_5 f6
  replace f7 := shm_5 f7
  replace f8 := shm_1397 f8
  replace f9 := shm_1398 f9
  replace f10 := shm_1395 f10
  replace f11 := shm_1659 f11
  replace f19 := shm_211 f19
  have q4 : n_v vs 4 = n_v vs 0 := f6.symm
  have q5 : n_v vs 5 = n_v vs 1 := f7.symm
  simp only [q4, q5] at f3 f5 f8 f9 f10 f11 f19
  have kz_0_8 := fdq_14 hD hth r0
  have kz_0_11 := fdq_273 hD hth r0
  have kz_0_12 := fdq_186 hD hth r0
  have kz_0_15 := fdq_274 hD hth r0
  obtain ⟨x, ex, hx⟩ := iv_ex (ta := ta) (lo := 0) (hi := 2005) (z := 2005 + ((-1) * w_fi ws (n_v vs 0) 11 + ((-1) * w_fi ws (n_v vs 0) 8 + 0))) (by omega) (by omega) (by omega) (by omega)
  have ex2 : v_iv (Value.int x) = 2005 + ((-1) * w_fi ws (n_v vs 0) 11 + ((-1) * w_fi ws (n_v vs 0) 8 + 0)) := ex
  have ex3 : 0 ≤ v_iv (Value.int x) ∧ v_iv (Value.int x) ≤ 2005 := tv_rng hx
  have e_0 : n_v (vs ++ [Value.int x]) 0 = n_v vs 0 := n_v_old (by rw [hl]; decide)
  have e_1 : n_v (vs ++ [Value.int x]) 1 = n_v vs 1 := n_v_old (by rw [hl]; decide)
  have e_3 : n_v (vs ++ [Value.int x]) 3 = n_v vs 3 := n_v_old (by rw [hl]; decide)
  have e_4 : n_v (vs ++ [Value.int x]) 4 = n_v vs 4 := n_v_old (by rw [hl]; decide)
  have e_5 : n_v (vs ++ [Value.int x]) 5 = n_v vs 5 := n_v_old (by rw [hl]; decide)
  have e_7 : n_v (vs ++ [Value.int x]) 7 = n_v vs 7 := n_v_old (by rw [hl]; decide)
  have e_15 : n_v (vs ++ [Value.int x]) 15 = Value.int x := n_v_new hl
  have nf0 : fc_1 PRD (20, [4, 4], [30, 0, 1, 1, 15, -1, 1, 11]) ws (vs ++ [Value.int x]) := by
    refine ⟨nf_inA hl rfl, sgq_1397 ?_⟩
    · show 1 * w_fi ws (n_v (vs ++ [Value.int x]) 4) 15 + ((-1) * w_fi ws (n_v (vs ++ [Value.int x]) 4) 11 + 0) ≤ 0
      simp only [e_4, q4]
      exact vc_Mo_groupItem_at_k0_11_0 (w_fi ws (n_v vs 0) 5) (w_fi ws (n_v vs 0) 15) (w_fi ws (n_v vs 0) 11) f8 kz_0_11 kz_0_15
  have nf1 : fc_1 PRD (20, [4], [50, 3, 0, 12, 11, 15, 2, 21, 4, 7, 1, 3, 2, 0, 12, 0, 1, 0, 3, 2, 0, 11, 4, 3, 2, 0, 15, 0, 8, 3, 7, 1, 3, 2, 0, 12, 0, 0, 0, 7, 4, 3, 2, 0, 15, 0, 1, 2, 0, 11]) ws (vs ++ [Value.int x]) := by
    refine ⟨nf_inA hl rfl, sgq_1398 ?_⟩
    · show ((w_fi ws (n_v (vs ++ [Value.int x]) 4) 12 = 1) → (w_fi ws (n_v (vs ++ [Value.int x]) 4) 11 ≤ (w_fi ws (n_v (vs ++ [Value.int x]) 4) 15 + 8))) ∧ ((w_fi ws (n_v (vs ++ [Value.int x]) 4) 12 = 0) ∨ ((w_fi ws (n_v (vs ++ [Value.int x]) 4) 15 + 1) ≤ w_fi ws (n_v (vs ++ [Value.int x]) 4) 11))
      simp only [e_4, q4]
      exact vc_Mo_groupItem_at_k0_11_1 (w_fi ws (n_v vs 0) 5) (w_fi ws (n_v vs 0) 15) (w_fi ws (n_v vs 0) 11) (w_fi ws (n_v vs 0) 12) f9 kz_0_11 kz_0_12 kz_0_15
  have nf2 : fc_1 PRD (20, [3, 4], [30, 0, 1, 0, 0, -1, 1, 11]) ws (vs ++ [Value.int x]) := by
    refine ⟨nf_inA hl rfl, sgq_1395 ?_⟩
    · show 1 * v_iv (n_v (vs ++ [Value.int x]) 3) + ((-1) * w_fi ws (n_v (vs ++ [Value.int x]) 4) 11 + 0) ≤ 0
      simp only [e_3, e_4, q4]
      exact vc_Mo_groupItem_at_k0_11_2 (v_iv (n_v vs 3)) (v_iv (n_v vs 14)) (w_fi ws (n_v vs 0) 5) (w_fi ws (n_v vs 0) 11) (w_fi ws (n_v vs 0) 8) (v_iv (Value.int x)) k3 k14 f0 f1 f10 kz_0_8 kz_0_11 ex2
  have nf3 : fc_1 PRD (20, [4, 3], [50, 2, 0, 8, 11, 3, 7, 0, 2, 0, 1, 2, 0, 8, 0, 6, 4, 2, 1, 1, 0, 1, 2, 0, 11]) ws (vs ++ [Value.int x]) := by
    refine ⟨nf_inA hl rfl, sgq_1659 ?_⟩
    · show (1 ≤ w_fi ws (n_v (vs ++ [Value.int x]) 4) 8) ∨ ((v_iv (n_v (vs ++ [Value.int x]) 3) + 1) ≤ w_fi ws (n_v (vs ++ [Value.int x]) 4) 11)
      simp only [e_3, e_4, q4]
      exact vc_Mo_groupItem_at_k0_11_3 (v_iv (n_v vs 3)) (v_iv (n_v vs 14)) (w_fi ws (n_v vs 0) 5) (w_fi ws (n_v vs 0) 11) (w_fi ws (n_v vs 0) 8) (v_iv (Value.int x)) k3 k14 f0 f1 f10 f11 kz_0_8 kz_0_11 ex2
  have nf4 : fc_1 PRD (20, [7, 4], [50, 1, 1, 1005, 1002, 0, 6, 4, 2, 1, 0, 0, 1, 3, 1, 2, 4, 3, 2, 1, 5, 0, 2]) ws (vs ++ [Value.int x]) := by
    refine ⟨nf_inA hl rfl, sgq_981 ?_⟩
    · show (v_iv (n_v (vs ++ [Value.int x]) 7) + 1) ≤ w_ei ws (w_ar ws (n_v (vs ++ [Value.int x]) 4) 2) ((w_fi ws (n_v (vs ++ [Value.int x]) 4) 5 + 2))
      simp only [e_4, e_7, q4]
      exact vc_Mo_groupItem_at_k0_11_4 (v_iv (n_v vs 7)) (w_ei ws (w_ar ws (n_v vs 0) 2)) (w_fi ws (n_v vs 0) 5) k7 f3
  have nf5 : fc_1 PRD (23, [5, 7], [-1, 1, -1]) ws (vs ++ [Value.int x]) := by
    refine ⟨nf_inA hl rfl, sgq_211 ?_⟩
    · show 1 * v_iv (n_v (vs ++ [Value.int x]) 5) + ((-1) * v_iv (n_v (vs ++ [Value.int x]) 7) + 0) ≤ (-1)
      simp only [e_5, e_7, q5]
      exact vc_Mo_groupItem_at_k0_11_5 (v_iv (n_v vs 1)) (v_iv (n_v vs 7)) (w_fi ws (n_v vs 0) 5) k1 k7 f19
  have nf6 : fc_1 PRD (20, [4], [60, 1, 3, 199, 5, 2, 3, 4]) ws (vs ++ [Value.int x]) := by
    refine ⟨nf_inA hl rfl, sgq_952 ?_⟩
    · show RWS (w_fi ws (n_v (vs ++ [Value.int x]) 4) 5) (w_ei ws (w_ar ws (n_v (vs ++ [Value.int x]) 4) 2)) (w_ei ws (w_ar ws (n_v (vs ++ [Value.int x]) 4) 3)) (w_ei ws (w_ar ws (n_v (vs ++ [Value.int x]) 4) 4))
      simp only [e_4, q4]
      exact vc_Mo_groupItem_at_k0_11_6 (w_ei ws (w_ar ws (n_v vs 0) 2)) (w_fi ws (n_v vs 0) 5) (w_ei ws (w_ar ws (n_v vs 0) 3)) (w_ei ws (w_ar ws (n_v vs 0) 4)) f5
  have nf7 : fc_1 PRD (24, [0, 4], []) ws (vs ++ [Value.int x]) := by
    refine ⟨nf_inA hl rfl, sgq_5 ?_⟩
    · show n_v (vs ++ [Value.int x]) 0 = n_v (vs ++ [Value.int x]) 4
      first | rfl | simp only [e_0, e_4, q4, q5]
  have nf8 : fc_1 PRD (24, [1, 5], []) ws (vs ++ [Value.int x]) := by
    refine ⟨nf_inA hl rfl, sgq_5 ?_⟩
    · show n_v (vs ++ [Value.int x]) 1 = n_v (vs ++ [Value.int x]) 5
      first | rfl | simp only [e_1, e_5, q4, q5]
  have nf9 : fc_1 PRD (20, [15, 4, 4], [30, 2005, 1, 0, 0, 1, 1, 11, 1, 1, 8]) ws (vs ++ [Value.int x]) := by
    refine ⟨nf_inA hl rfl, sgq_2010 ?_⟩
    · show 1 * v_iv (n_v (vs ++ [Value.int x]) 15) + (1 * w_fi ws (n_v (vs ++ [Value.int x]) 4) 11 + (1 * w_fi ws (n_v (vs ++ [Value.int x]) 4) 8 + 0)) ≤ 2005
      simp only [e_4, e_15, q4]
      exact vc_Mo_groupItem_at_k0_11_9 (w_fi ws (n_v vs 0) 5) (w_fi ws (n_v vs 0) 11) (w_fi ws (n_v vs 0) 8) (v_iv (Value.int x)) kz_0_8 kz_0_11 ex2
  have nf10 : fc_1 PRD (20, [15, 4, 4], [30, -2005, -1, 0, 0, -1, 1, 11, -1, 1, 8]) ws (vs ++ [Value.int x]) := by
    refine ⟨nf_inA hl rfl, sgq_2011 ?_⟩
    · show (-1) * v_iv (n_v (vs ++ [Value.int x]) 15) + ((-1) * w_fi ws (n_v (vs ++ [Value.int x]) 4) 11 + ((-1) * w_fi ws (n_v (vs ++ [Value.int x]) 4) 8 + 0)) ≤ (-2005)
      simp only [e_4, e_15, q4]
      exact vc_Mo_groupItem_at_k0_11_10 (w_fi ws (n_v vs 0) 5) (w_fi ws (n_v vs 0) 11) (w_fi ws (n_v vs 0) 8) (v_iv (Value.int x)) kz_0_8 kz_0_11 ex2
  exact ⟨(fun _ h => (by cases h)), [Value.int x], ag_one hx, List.forall_mem_cons.mpr ⟨⟨show (20 : Nat) < 100 from by decide, nf0⟩, List.forall_mem_cons.mpr ⟨⟨show (20 : Nat) < 100 from by decide, nf1⟩, List.forall_mem_cons.mpr ⟨⟨show (20 : Nat) < 100 from by decide, nf2⟩, List.forall_mem_cons.mpr ⟨⟨show (20 : Nat) < 100 from by decide, nf3⟩, List.forall_mem_cons.mpr ⟨⟨show (20 : Nat) < 100 from by decide, nf4⟩, List.forall_mem_cons.mpr ⟨⟨show (23 : Nat) < 100 from by decide, nf5⟩, List.forall_mem_cons.mpr ⟨⟨show (20 : Nat) < 100 from by decide, nf6⟩, List.forall_mem_cons.mpr ⟨⟨show (24 : Nat) < 100 from by decide, nf7⟩, List.forall_mem_cons.mpr ⟨⟨show (24 : Nat) < 100 from by decide, nf8⟩, List.forall_mem_cons.mpr ⟨⟨show (20 : Nat) < 100 from by decide, nf9⟩, List.forall_mem_cons.mpr ⟨⟨show (20 : Nat) < 100 from by decide, nf10⟩, (fun _ h => (by cases h))⟩⟩⟩⟩⟩⟩⟩⟩⟩⟩⟩, (fun _ h => (by cases h))⟩
set_option maxHeartbeats 4000000 in
theorem vc_Mo_groupItem_at_k0_12_r0 (x8 : Int) (x9 : Int) (x10 : Int) (x11 : Int) (x13 : Int) (r_0 : Int) (from_0 : Int) (pos_0 : Int) (kind_0 : Int) (k8 : 0 ≤ x8 ∧ x8 ≤ 8) (k9 : 1 ≤ x9 ∧ x9 ≤ 2000) (k10 : 0 ≤ x10 ∧ x10 ≤ 2000) (k11 : 1 ≤ x11 ∧ x11 ≤ 2000) (d1 : x11 + (-4294967296) ≤ x8 ∧ x8 ≤ x11 + (-1)) (f4 : x11 = x9 - x10) (g5 : x10 = from_0) (g6 : x9 = pos_0) (f8 : ((kind_0 = 1) → (pos_0 ≤ (from_0 + 8))) ∧ ((kind_0 = 0) ∨ ((from_0 + 1) ≤ pos_0))) (f10 : kind_0 = 1) (kz_0_11 : 0 ≤ pos_0 ∧ pos_0 ≤ 2000) (kz_0_12 : 0 ≤ kind_0 ∧ kind_0 ≤ 4) (kz_0_15 : 0 ≤ from_0 ∧ from_0 ≤ 2000) : 0 ≤ x8 ∧ x8 ≤ 7 := by
  first
    | omega
    | (have q1 := (hE_0_2_1 (r_0 + 2) (by omega)).2 (by omega)
       have q2 := (hE_0_2_2 (r_0 + 2) (by omega)).2 (by omega)
       omega)
    | (have q1 := (hE_0_2_1 (r_0 + 1) (by omega)).2 (by omega)
       have q2 := (hE_0_2_2 (r_0 + 1) (by omega)).2 (by omega)
       omega)
    | (have q1 := (hE_0_2_1 (r_0 + 2) (by omega)).2 (by omega)
       omega)
    | (have q1 := (hE_0_2_1 (r_0 + 1) (by omega)).2 (by omega)
       omega)
    | (have q1 := (hE_0_2_1 (r_0 + 2) (by omega)).2 (by omega)
       have q2 := (hE_0_2_2 (r_0 + 2) (by omega)).2 (by omega)
       have q3 := (hE_0_2_3 (r_0 + 2) (by omega)).1 (by omega)
       omega)
    | (have q1 := (hE_0_2_1 (r_0 + 2) (by omega)).2 (by omega)
       have q2 := (hE_0_2_2 (r_0 + 2) (by omega)).2 (by omega)
       have q3 := (hE_0_2_3 (r_0 + 2) (by omega)).2 (by omega)
       omega)
    | (have q1 := (hE_0_2_1 (r_0 + 2) (by omega)).2 (by omega)
       have q2 := (hE_0_2_2 (r_0 + 2) (by omega)).2 (by omega)
       have q3 := (hE_0_2_3 (r_0 + 2) (by omega)).1 (by omega)
       have q4 : x13 = r_0 + 2 := by omega
       rw [q4] at h34
       omega)
def o_Mo_groupItem_at_k0_12 : or_T := (141, 19, [(0, (2, 0, 0, [165])), (1, (0, 0, 0, [])), (3, (0, 0, 2000, [])), (4, (2, 0, 0, [165])), (5, (0, 0, 0, [])), (7, (0, 0, 7, [])), (8, (0, 0, 8, [])), (9, (0, 1, 2000, [])), (10, (0, 0, 2000, [])), (11, (0, 1, 2000, [])), (12, (2, 0, 0, [167])), (13, (0, 0, 66297, [])), (14, (0, 459, 459, [])), (15, (0, 459, 66756, []))], [(1, [15, 13, 14], []), (9, [13, 4], [5]), (9, [12, 4], [2]), (7, [8, 11], [2]), (2, [11, 9, 10], []), (9, [10, 4], [15]), (9, [9, 4], [11]), (20, [4, 4], [30, 0, 1, 1, 15, -1, 1, 11]), (20, [4], [50, 3, 0, 12, 11, 15, 2, 21, 4, 7, 1, 3, 2, 0, 12, 0, 1, 0, 3, 2, 0, 11, 4, 3, 2, 0, 15, 0, 8, 3, 7, 1, 3, 2, 0, 12, 0, 0, 0, 7, 4, 3, 2, 0, 15, 0, 1, 2, 0, 11]), (20, [3, 4], [30, -1, 1, 0, 0, -1, 1, 11]), (20, [4], [50, 1, 0, 12, 1, 3, 2, 0, 12, 0, 1]), (20, [7, 4], [50, 1, 1, 1005, 1002, 0, 6, 4, 2, 1, 0, 0, 1, 3, 1, 2, 4, 3, 2, 1, 5, 0, 2]), (23, [5, 7], [-1, 1, -1]), (20, [4], [60, 1, 3, 199, 5, 2, 3, 4]), (24, [0, 4], []), (24, [1, 5], [])], [(8, (0, 0, 7, []))], [], [], [], [(15, 13, 459, 459), (8, 11, -4294967296, -1), (11, 9, -2000, 0)])
theorem oo_Mo_groupItem_at_k0_12 {kA : Nat → ClassId} : or_ok PRD kA GG o_Mo_groupItem_at_k0_12 := by
  refine or_mk fun A ta ws vs hD hth hl => ?_
  intro t0 r0 t1 k1 t3 k3 t4 r4 t5 k5 t7 k7 t8 k8 t9 k9 t10 k10 t11 k11 t12 r12 t13 k13 t14 k14 t15 k15 d0 d1 d2 f0 f1 f2 f3 f4 f5 f6 f7 f8 f9 f10 f11 f12 f13 f14 f15
  replace f5 := shm_189 f5
  replace f6 := shm_117 f6
  replace f8 := shm_1398 f8
  replace f10 := shm_1791 f10
  replace f14 := shm_5 f14
  have q4 : n_v vs 4 = n_v vs 0 := f14.symm
  simp only [q4] at f5 f6 f8 f10
  have g5 : v_iv (n_v vs 10) = w_fi ws (n_v vs 0) 15 := congrArg v_iv f5
  have g6 : v_iv (n_v vs 9) = w_fi ws (n_v vs 0) 11 := congrArg v_iv f6
  have kz_0_11 := fdq_273 hD hth r0
  have kz_0_12 := fdq_186 hD hth r0
  have kz_0_15 := fdq_274 hD hth r0
  have hrf0 : 0 ≤ v_iv (n_v vs 8) ∧ v_iv (n_v vs 8) ≤ 7 := vc_Mo_groupItem_at_k0_12_r0 (v_iv (n_v vs 8)) (v_iv (n_v vs 9)) (v_iv (n_v vs 10)) (v_iv (n_v vs 11)) (v_iv (n_v vs 13)) (w_fi ws (n_v vs 0) 5) (w_fi ws (n_v vs 0) 15) (w_fi ws (n_v vs 0) 11) (w_fi ws (n_v vs 0) 12) k8 k9 k10 k11 d1 (shm_14 f4) g5 g6 f8 f10 kz_0_11 kz_0_12 kz_0_15
  have rf8 : tv_ok ta (0, 0, 7, []) (n_v vs 8) := tv_in t8 (by first | omega | grind) (by first | omega | grind)
  refine ⟨List.forall_mem_cons.mpr ⟨rf8, (fun _ h => (by cases h))⟩, [], trivial, ?_, (fun _ h => (by cases h))⟩
  rw [List.append_nil]
  exact (fun _ h => (by cases h))
def o_Mo_groupItem_at_k0_13 : or_T := (153, 22, [(7, (0, 0, 7, [])), (8, (0, 0, 7, [])), (13, (5, 0, 66297, [539])), (14, (0, 459, 459, [])), (15, (0, 459, 66756, [])), (16, (0, 8, 8, [])), (17, (0, 0, 56, [])), (18, (0, 459, 66812, [])), (19, (0, 459, 66819, [])), (21, (0, -1, -1, []))], [(1, [19, 18, 8], []), (1, [18, 15, 17], []), (3, [17, 16, 7], []), (1, [15, 13, 14], [])], [], [], [(18, [19, 21], [1])], [], [(19, 8, 459, 66812), (19, 18, 0, 7), (19, 17, 459, 66763), (19, 15, 0, 63), (19, 13, 459, 522), (18, 17, 459, 66756), (18, 15, 0, 56), (18, 13, 459, 515), (15, 13, 459, 459)])
theorem oo_Mo_groupItem_at_k0_13 {kA : Nat → ClassId} : or_ok PRD kA GG o_Mo_groupItem_at_k0_13 := by
  refine or_mk fun A ta ws vs hD hth hl => ?_
  intro t7 k7 t8 k8 t13 t14 k14 t15 k15 t16 k16 t17 k17 t18 k18 t19 k19 t21 k21 d0 d1 d2 d3 d4 d5 d6 d7 d8 f0 f1 f2 f3
  obtain ⟨k13, q13_⟩ : (0 ≤ v_iv (n_v vs 13) ∧ v_iv (n_v vs 13) ≤ 66297) ∧ ∃ q : Int, v_iv (n_v vs 13) = 539 * q := tv_dvk t13
  obtain ⟨q13, hq13⟩ := q13_
  replace f0 := shm_12 f0
  replace f1 := shm_12 f1
  replace f2 := shm_38 f2
  rw [show v_iv (n_v vs 16) = 8 from by omega] at f2
  replace f3 := shm_12 f3
  have nf0 : fc_1 PRD (18, [19, 21], [1]) ws (vs) := by
    refine ⟨nf_in hl rfl, sgq_1268 ?_⟩
    · show pl_ok 1 (v_iv (n_v vs 19)).toNat (v_iv (n_v vs 21))
      exact pl_in pl_M1 (lo := 459) (hi := 522) (a := (-1)) (b := (-1)) (by decide +kernel) (by omega) (by omega) (by omega) (by omega)
  refine ⟨(fun _ h => (by cases h)), [], trivial, ?_, (fun _ h => (by cases h))⟩
  rw [List.append_nil]
  exact List.forall_mem_cons.mpr ⟨⟨show (18 : Nat) < 100 from by decide, nf0⟩, (fun _ h => (by cases h))⟩
set_option maxHeartbeats 4000000 in
theorem vc_Mo_groupItem_at_k0_14_0 (x7 : Int) (x8 : Int) (x13 : Int) (x15 : Int) (x17 : Int) (x18 : Int) (x19 : Int) (x21 : Int) (x22 : Int) (tape_0 : Int → Int) (limit_0 : Int) (from_0 : Int) (pos_0 : Int) (kind_0 : Int) (tape_1 : Int → Int) (limit_1 : Int) (from_1 : Int) (r_1 : Int) (pos_1 : Int) (kind_1 : Int) (all_1 : Int → Int) (now_1 : Int → Int) (latest_1 : Int → Int) (r_0 : Int) (all_0 : Int → Int) (now_0 : Int → Int) (latest_0 : Int → Int) (k7 : 0 ≤ x7 ∧ x7 ≤ 7) (k8 : 0 ≤ x8 ∧ x8 ≤ 7) (k13 : 0 ≤ x13 ∧ x13 ≤ 66297) (k15 : 459 ≤ x15 ∧ x15 ≤ 66756) (k17 : 0 ≤ x17 ∧ x17 ≤ 56) (k18 : 459 ≤ x18 ∧ x18 ≤ 66812) (k19 : 459 ≤ x19 ∧ x19 ≤ 66819) (k21 : (-1) ≤ x21 ∧ x21 ≤ (-1)) (k22 : 1 ≤ x22 ∧ x22 ≤ 8) (d0 : x8 + 1 ≤ x22 ∧ x22 ≤ x8 + 1) (d9 : x15 + 0 ≤ x19 ∧ x19 ≤ x15 + 63) (d14 : x13 + 459 ≤ x15 ∧ x15 ≤ x13 + 459) (f15 : x19 = x18 + x8) (f16 : x18 = x15 + x17) (f17 : x17 = 8 * x7) (g19 : x13 = r_1) (f28 : (x7 + 1) ≤ all_1 ((r_1 + 2))) (fe_0_5_1 : r_0 = r_1) (fe_0_10_1 : limit_0 = limit_1) (fe_0_11_1 : pos_0 = pos_1) (fe_0_12_1 : kind_0 = kind_1) (fe_0_15_1 : from_0 = from_1) (hE_0_1_1 : ∀ j : Int, tape_0 j = tape_1 j) (hE_0_2_1 : ∀ j : Int, 0 ≤ j → (j = x19 → all_0 j = x21) ∧ (j ≠ x19 → all_0 j = all_1 j)) (hE_0_3_1 : ∀ j : Int, now_0 j = now_1 j) (hE_0_4_1 : ∀ j : Int, latest_0 j = latest_1 j) (kz_0_10 : 0 ≤ limit_0 ∧ limit_0 ≤ 2000) (kz_0_11 : 0 ≤ pos_0 ∧ pos_0 ≤ 2000) (kz_0_12 : 0 ≤ kind_0 ∧ kind_0 ≤ 4) (kz_0_15 : 0 ≤ from_0 ∧ from_0 ≤ 2000) : (x7 + 1) ≤ all_0 ((r_0 + 2)) := by
  subst fe_0_5_1
  subst fe_0_10_1
  subst fe_0_11_1
  subst fe_0_12_1
  subst fe_0_15_1
  have e_hE_0_1_1 := funext hE_0_1_1; subst e_hE_0_1_1
  have e_hE_0_3_1 := funext hE_0_3_1; subst e_hE_0_3_1
  have e_hE_0_4_1 := funext hE_0_4_1; subst e_hE_0_4_1
  first
    | omega
    | (have q1 := (hE_0_2_1 (r_0 + 2) (by omega)).2 (by omega)
       have q2 := (hE_0_2_2 (r_0 + 2) (by omega)).2 (by omega)
       omega)
    | (have q1 := (hE_0_2_1 (r_0 + 1) (by omega)).2 (by omega)
       have q2 := (hE_0_2_2 (r_0 + 1) (by omega)).2 (by omega)
       omega)
    | (have q1 := (hE_0_2_1 (r_0 + 2) (by omega)).2 (by omega)
       omega)
    | (have q1 := (hE_0_2_1 (r_0 + 1) (by omega)).2 (by omega)
       omega)
    | (have q1 := (hE_0_2_1 (r_0 + 2) (by omega)).2 (by omega)
       have q2 := (hE_0_2_2 (r_0 + 2) (by omega)).2 (by omega)
       have q3 := (hE_0_2_3 (r_0 + 2) (by omega)).1 (by omega)
       omega)
    | (have q1 := (hE_0_2_1 (r_0 + 2) (by omega)).2 (by omega)
       have q2 := (hE_0_2_2 (r_0 + 2) (by omega)).2 (by omega)
       have q3 := (hE_0_2_3 (r_0 + 2) (by omega)).2 (by omega)
       omega)
    | (have q1 := (hE_0_2_1 (r_0 + 2) (by omega)).2 (by omega)
       have q2 := (hE_0_2_2 (r_0 + 2) (by omega)).2 (by omega)
       have q3 := (hE_0_2_3 (r_0 + 2) (by omega)).1 (by omega)
       have q4 : x13 = r_0 + 2 := by omega
       rw [q4] at h34
       omega)
set_option maxHeartbeats 4000000 in
theorem vc_Mo_groupItem_at_k0_14_1 (x7 : Int) (x8 : Int) (x13 : Int) (x15 : Int) (x17 : Int) (x18 : Int) (x19 : Int) (x21 : Int) (x22 : Int) (tape_0 : Int → Int) (limit_0 : Int) (from_0 : Int) (pos_0 : Int) (kind_0 : Int) (tape_1 : Int → Int) (limit_1 : Int) (from_1 : Int) (r_1 : Int) (pos_1 : Int) (kind_1 : Int) (all_1 : Int → Int) (now_1 : Int → Int) (latest_1 : Int → Int) (r_0 : Int) (all_0 : Int → Int) (now_0 : Int → Int) (latest_0 : Int → Int) (k7 : 0 ≤ x7 ∧ x7 ≤ 7) (k8 : 0 ≤ x8 ∧ x8 ≤ 7) (k13 : 0 ≤ x13 ∧ x13 ≤ 66297) (k15 : 459 ≤ x15 ∧ x15 ≤ 66756) (k17 : 0 ≤ x17 ∧ x17 ≤ 56) (k18 : 459 ≤ x18 ∧ x18 ≤ 66812) (k19 : 459 ≤ x19 ∧ x19 ≤ 66819) (k21 : (-1) ≤ x21 ∧ x21 ≤ (-1)) (k22 : 1 ≤ x22 ∧ x22 ≤ 8) (d0 : x8 + 1 ≤ x22 ∧ x22 ≤ x8 + 1) (d9 : x15 + 0 ≤ x19 ∧ x19 ≤ x15 + 63) (d14 : x13 + 459 ≤ x15 ∧ x15 ≤ x13 + 459) (f15 : x19 = x18 + x8) (f16 : x18 = x15 + x17) (f17 : x17 = 8 * x7) (g19 : x13 = r_1) (f30 : RWS (r_1) (all_1) (now_1) (latest_1)) (fe_0_5_1 : r_0 = r_1) (fe_0_10_1 : limit_0 = limit_1) (fe_0_11_1 : pos_0 = pos_1) (fe_0_12_1 : kind_0 = kind_1) (fe_0_15_1 : from_0 = from_1) (hE_0_1_1 : ∀ j : Int, tape_0 j = tape_1 j) (hE_0_2_1 : ∀ j : Int, 0 ≤ j → (j = x19 → all_0 j = x21) ∧ (j ≠ x19 → all_0 j = all_1 j)) (hE_0_3_1 : ∀ j : Int, now_0 j = now_1 j) (hE_0_4_1 : ∀ j : Int, latest_0 j = latest_1 j) (kz_0_10 : 0 ≤ limit_0 ∧ limit_0 ≤ 2000) (kz_0_11 : 0 ≤ pos_0 ∧ pos_0 ≤ 2000) (kz_0_12 : 0 ≤ kind_0 ∧ kind_0 ≤ 4) (kz_0_15 : 0 ≤ from_0 ∧ from_0 ≤ 2000) : RWS (r_0) (all_0) (now_0) (latest_0) := by
  subst fe_0_5_1
  subst fe_0_10_1
  subst fe_0_11_1
  subst fe_0_12_1
  subst fe_0_15_1
  have e_hE_0_1_1 := funext hE_0_1_1; subst e_hE_0_1_1
  have e_hE_0_3_1 := funext hE_0_3_1; subst e_hE_0_3_1
  have e_hE_0_4_1 := funext hE_0_4_1; subst e_hE_0_4_1
  first
    | assumption
    | (have hr := rws_r ‹RWS _ _ _ _›
       exact rws_off (rws_off (rws_off ‹RWS _ _ _ _› (by assumption) (by omega)) (by assumption) (by omega)) (by assumption) (by omega))
    | (have hr := rws_r ‹RWS _ _ _ _›
       exact rws_off ‹RWS _ _ _ _› (by assumption) (by omega))
def o_Mo_groupItem_at_k0_14 : or_T := (108, 23, [(0, (2, 0, 0, [165])), (1, (0, 0, 0, [])), (3, (0, 0, 2000, [])), (4, (2, 0, 0, [165])), (5, (0, 0, 0, [])), (7, (0, 0, 7, [])), (8, (0, 0, 7, [])), (9, (0, 1, 2000, [])), (10, (0, 0, 2000, [])), (11, (0, 1, 2000, [])), (12, (2, 0, 0, [167])), (13, (0, 0, 66297, [])), (14, (0, 459, 459, [])), (15, (0, 459, 66756, [])), (16, (0, 8, 8, [])), (17, (0, 0, 56, [])), (18, (0, 459, 66812, [])), (19, (0, 459, 66819, [])), (20, (0, 0, 2007, [])), (21, (0, -1, -1, [])), (22, (0, 1, 8, []))], [(6, [22, 8], [1]), (20, [20, 4, 21], [50, 1, 1, 1010, 1001, 4, 11, 0, 6, 4, 2, 1, 0, 0, 1, 2, 1, 10, 1, 2, 1, 2, 9, 5, 3, 1, 1, 1, 0, 0, 256]), (20, [4, 20, 21], [50, 1, 0, 10, 4, 7, 0, 3, 2, 0, 10, 1, 1, 1, 2, 1, 2, 0, -1]), (20, [4, 4], [30, 0, 1, 1, 15, -1, 1, 11]), (20, [4], [50, 3, 0, 12, 11, 15, 2, 21, 4, 7, 1, 3, 2, 0, 12, 0, 1, 0, 3, 2, 0, 11, 4, 3, 2, 0, 15, 0, 8, 3, 7, 1, 3, 2, 0, 12, 0, 0, 0, 7, 4, 3, 2, 0, 15, 0, 1, 2, 0, 11]), (20, [3, 4], [30, -1, 1, 0, 0, -1, 1, 11]), (20, [4], [50, 1, 0, 12, 1, 3, 2, 0, 12, 0, 1]), (23, [5, 7], [-1, 1, -1]), (24, [0, 4], []), (24, [1, 5], []), (100, [12, 19, 21], []), (20, [20, 4, 21], [50, 1, 1, 1010, 1001, 4, 11, 0, 6, 4, 2, 1, 0, 0, 1, 2, 1, 10, 1, 2, 1, 2, 9, 5, 3, 1, 1, 1, 0, 0, 256]), (20, [4, 20, 21], [50, 1, 0, 10, 4, 7, 0, 3, 2, 0, 10, 1, 1, 1, 2, 1, 2, 0, -1]), (1, [20, 10, 8], []), (9, [10, 4], [15]), (1, [19, 18, 8], []), (1, [18, 15, 17], []), (3, [17, 16, 7], []), (1, [15, 13, 14], []), (9, [13, 4], [5]), (9, [12, 4], [2]), (7, [8, 11], [2]), (2, [11, 9, 10], []), (9, [9, 4], [11]), (20, [4, 4], [30, 0, 1, 1, 15, -1, 1, 11]), (20, [4], [50, 3, 0, 12, 11, 15, 2, 21, 4, 7, 1, 3, 2, 0, 12, 0, 1, 0, 3, 2, 0, 11, 4, 3, 2, 0, 15, 0, 8, 3, 7, 1, 3, 2, 0, 12, 0, 0, 0, 7, 4, 3, 2, 0, 15, 0, 1, 2, 0, 11]), (20, [3, 4], [30, -1, 1, 0, 0, -1, 1, 11]), (20, [4], [50, 1, 0, 12, 1, 3, 2, 0, 12, 0, 1]), (20, [7, 4], [50, 1, 1, 1005, 1002, 0, 6, 4, 2, 1, 0, 0, 1, 3, 1, 2, 4, 3, 2, 1, 5, 0, 2]), (23, [5, 7], [-1, 1, -1]), (20, [4], [60, 1, 3, 199, 5, 2, 3, 4])], [], [], [(20, [7, 4], [50, 1, 1, 1005, 1002, 0, 6, 4, 2, 1, 0, 0, 1, 3, 1, 2, 4, 3, 2, 1, 5, 0, 2]), (20, [4], [60, 1, 3, 199, 5, 2, 3, 4])], [], [(22, 8, 1, 1), (22, 11, -4294967296, 0), (20, 8, 0, 2000), (20, 11, -4294967296, 1999), (20, 10, 0, 7), (19, 8, 459, 66812), (19, 11, -4294967296, 66811), (19, 18, 0, 7), (19, 17, 459, 66763), (19, 15, 0, 63), (19, 13, 459, 522), (18, 17, 459, 66756), (18, 15, 0, 56), (18, 13, 459, 515), (15, 13, 459, 459), (8, 11, -4294967296, -1), (11, 9, -2000, 0)])
theorem oo_Mo_groupItem_at_k0_14 {kA : Nat → ClassId} : or_ok PRD kA GG o_Mo_groupItem_at_k0_14 := by
  refine or_mk fun A ta ws vs hD hth hl => ?_
  intro t0 r0 t1 k1 t3 k3 t4 r4 t5 k5 t7 k7 t8 k8 t9 k9 t10 k10 t11 k11 t12 r12 t13 k13 t14 k14 t15 k15 t16 k16 t17 k17 t18 k18 t19 k19 t20 k20 t21 k21 t22 k22 d0 d1 d2 d3 d4 d5 d6 d7 d8 d9 d10 d11 d12 d13 d14 d15 d16 f0 f1 f2 f3 f4 f5 f6 f7 f8 f9 ta1 w1 le1 s1 f11 f12 f13 f14 f15 f16 f17 f18 f19 f20 f21 f22 f23 f24 f25 f26 f27 f28 f29 f30
  replace f0 := shm_4 f0
  replace f1 := shm_535 f1
  replace f2 := shm_536 f2
  replace f3 := shm_1397 f3
  replace f4 := shm_1398 f4
  replace f5 := shm_1891 f5
  replace f6 := shm_1791 f6
  replace f7 := shm_211 f7
  replace f8 := shm_5 f8
  replace f9 := shm_5 f9
  have s1 : (∀ b j, w_el ws b j = if b = v_ad (n_v vs 12) ∧ j = (v_iv (n_v vs 19)).toNat then v_iv (n_v vs 21) else w_el w1 b j) ∧ ∀ b k, w_fd ws b k = w_fd w1 b k := s1.2
  replace f11 := shm_535 f11
  replace f12 := shm_536 f12
  replace f13 := shm_12 f13
  replace f14 := shm_189 f14
  replace f15 := shm_12 f15
  replace f16 := shm_12 f16
  replace f17 := shm_38 f17
  rw [show v_iv (n_v vs 16) = 8 from by omega] at f17
  replace f18 := shm_12 f18
  replace f19 := shm_109 f19
  replace f20 := shm_129 f20
  replace f21 := shm_6 f21
  replace f22 := shm_14 f22
  replace f23 := shm_117 f23
  replace f24 := shm_1397 f24
  replace f25 := shm_1398 f25
  replace f26 := shm_1891 f26
  replace f27 := shm_1791 f27
  replace f28 := shm_981 f28
  replace f29 := shm_211 f29
  replace f30 := shm_952 f30
  have q4 : n_v vs 4 = n_v vs 0 := f8.symm
  have q5 : n_v vs 5 = n_v vs 1 := f9.symm
  simp only [q4, q5] at f1 f2 f3 f4 f5 f6 f7 f11 f12 f14 f19 f20 f23 f24 f25 f26 f27 f28 f29 f30
  have ar_0_1_1 : w_ar w1 (n_v vs 0) 1 = w_ar ws (n_v vs 0) 1 := congrArg v_ad (s1.2 _ _).symm
  have cr_0_1 := fdq_46 hD hth r0
  have ar_0_2_1 : w_ar w1 (n_v vs 0) 2 = w_ar ws (n_v vs 0) 2 := congrArg v_ad (s1.2 _ _).symm
  have cr_0_2 := fdq_12 hD hth r0
  have ar_0_3_1 : w_ar w1 (n_v vs 0) 3 = w_ar ws (n_v vs 0) 3 := congrArg v_ad (s1.2 _ _).symm
  have cr_0_3 := fdq_141 hD hth r0
  have ar_0_4_1 : w_ar w1 (n_v vs 0) 4 = w_ar ws (n_v vs 0) 4 := congrArg v_ad (s1.2 _ _).symm
  have cr_0_4 := fdq_142 hD hth r0
  have ad_12 : v_ad (n_v vs 12) = w_ar ws (n_v vs 0) 2 := (congrArg v_ad f20).trans ar_0_2_1
  simp only [ar_0_1_1] at f11
  have g14 : v_iv (n_v vs 10) = w_fi w1 (n_v vs 0) 15 := congrArg v_iv f14
  have g19 : v_iv (n_v vs 13) = w_fi w1 (n_v vs 0) 5 := congrArg v_iv f19
  have g23 : v_iv (n_v vs 9) = w_fi w1 (n_v vs 0) 11 := congrArg v_iv f23
  simp only [ar_0_2_1, ar_0_3_1, ar_0_4_1] at f28 f30
  have fe_0_5_1 : w_fi ws (n_v vs 0) 5 = w_fi w1 (n_v vs 0) 5 := congrArg v_iv (s1.2 _ _)
  have fe_0_10_1 : w_fi ws (n_v vs 0) 10 = w_fi w1 (n_v vs 0) 10 := congrArg v_iv (s1.2 _ _)
  have fe_0_11_1 : w_fi ws (n_v vs 0) 11 = w_fi w1 (n_v vs 0) 11 := congrArg v_iv (s1.2 _ _)
  have fe_0_12_1 : w_fi ws (n_v vs 0) 12 = w_fi w1 (n_v vs 0) 12 := congrArg v_iv (s1.2 _ _)
  have fe_0_15_1 : w_fi ws (n_v vs 0) 15 = w_fi w1 (n_v vs 0) 15 := congrArg v_iv (s1.2 _ _)
  have hE_0_1_1 : ∀ j : Int, w_ei ws (w_ar ws (n_v vs 0) 1) j = w_ei w1 (w_ar ws (n_v vs 0) 1) j := el_kp s1.1 r12 cr_0_1 (by decide)
  have hK_0_1 := elq_6 hD hth cr_0_1
  have hE_0_2_1 : ∀ j : Int, 0 ≤ j → (j = v_iv (n_v vs 19) → w_ei ws (w_ar ws (n_v vs 0) 2) j = v_iv (n_v vs 21)) ∧ (j ≠ v_iv (n_v vs 19) → w_ei ws (w_ar ws (n_v vs 0) 2) j = w_ei w1 (w_ar ws (n_v vs 0) 2) j) := fun j hj => ⟨fun h => by unfold w_ei; rw [s1.1, if_pos ⟨ad_12.symm, by rw [h]⟩], fun h => by unfold w_ei; rw [s1.1, if_neg (fun e => h (by have := e.2; omega))]⟩
  have hE_0_3_1 : ∀ j : Int, w_ei ws (w_ar ws (n_v vs 0) 3) j = w_ei w1 (w_ar ws (n_v vs 0) 3) j := el_kp s1.1 r12 cr_0_3 (by decide)
  have hK_0_3 := elq_77 hD hth cr_0_3
  have hE_0_4_1 : ∀ j : Int, w_ei ws (w_ar ws (n_v vs 0) 4) j = w_ei w1 (w_ar ws (n_v vs 0) 4) j := el_kp s1.1 r12 cr_0_4 (by decide)
  have hK_0_4 := elq_78 hD hth cr_0_4
  have kz_0_10 := fdq_50 hD hth r0
  have kz_0_11 := fdq_273 hD hth r0
  have kz_0_12 := fdq_186 hD hth r0
  have kz_0_15 := fdq_274 hD hth r0
  first | have hJ0 : w_ei w1 (w_ar ws (n_v vs 0) 2) ((w_fi w1 (n_v vs 0) 5 + 2)) = w_ei w1 (w_ar ws (n_v vs 0) 2) ((w_fi ws (n_v vs 0) 5 + 2)) := congrArg _ (show ((w_fi w1 (n_v vs 0) 5 + 2) : Int) = (w_fi ws (n_v vs 0) 5 + 2) from by omega) | skip
  have hI1 := hE_0_1_1 (v_iv (n_v vs 20))
  first | have hI2 := (hE_0_2_1 ((w_fi ws (n_v vs 0) 5 + 2)) (by omega)).2 (by omega) | have hI2 := (hE_0_2_1 ((w_fi ws (n_v vs 0) 5 + 2)) (by omega)).1 (by omega) | skip
  have nf0 : fc_1 PRD (20, [7, 4], [50, 1, 1, 1005, 1002, 0, 6, 4, 2, 1, 0, 0, 1, 3, 1, 2, 4, 3, 2, 1, 5, 0, 2]) ws (vs) := by
    refine ⟨nf_in hl rfl, sgq_981 ?_⟩
    · show (v_iv (n_v vs 7) + 1) ≤ w_ei ws (w_ar ws (n_v vs 4) 2) ((w_fi ws (n_v vs 4) 5 + 2))
      rw [q4]
      exact vc_Mo_groupItem_at_k0_14_0 (v_iv (n_v vs 7)) (v_iv (n_v vs 8)) (v_iv (n_v vs 13)) (v_iv (n_v vs 15)) (v_iv (n_v vs 17)) (v_iv (n_v vs 18)) (v_iv (n_v vs 19)) (v_iv (n_v vs 21)) (v_iv (n_v vs 22)) (w_ei ws (w_ar ws (n_v vs 0) 1)) (w_fi ws (n_v vs 0) 10) (w_fi ws (n_v vs 0) 15) (w_fi ws (n_v vs 0) 11) (w_fi ws (n_v vs 0) 12) (w_ei w1 (w_ar ws (n_v vs 0) 1)) (w_fi w1 (n_v vs 0) 10) (w_fi w1 (n_v vs 0) 15) (w_fi w1 (n_v vs 0) 5) (w_fi w1 (n_v vs 0) 11) (w_fi w1 (n_v vs 0) 12) (w_ei w1 (w_ar ws (n_v vs 0) 2)) (w_ei w1 (w_ar ws (n_v vs 0) 3)) (w_ei w1 (w_ar ws (n_v vs 0) 4)) (w_fi ws (n_v vs 0) 5) (w_ei ws (w_ar ws (n_v vs 0) 2)) (w_ei ws (w_ar ws (n_v vs 0) 3)) (w_ei ws (w_ar ws (n_v vs 0) 4)) k7 k8 k13 k15 k17 k18 k19 k21 k22 d0 d9 d14 f15 f16 f17 g19 f28 fe_0_5_1 fe_0_10_1 fe_0_11_1 fe_0_12_1 fe_0_15_1 hE_0_1_1 hE_0_2_1 hE_0_3_1 hE_0_4_1 kz_0_10 kz_0_11 kz_0_12 kz_0_15
  have nf1 : fc_1 PRD (20, [4], [60, 1, 3, 199, 5, 2, 3, 4]) ws (vs) := by
    refine ⟨nf_in hl rfl, sgq_952 ?_⟩
    · show RWS (w_fi ws (n_v vs 4) 5) (w_ei ws (w_ar ws (n_v vs 4) 2)) (w_ei ws (w_ar ws (n_v vs 4) 3)) (w_ei ws (w_ar ws (n_v vs 4) 4))
      rw [q4]
      exact vc_Mo_groupItem_at_k0_14_1 (v_iv (n_v vs 7)) (v_iv (n_v vs 8)) (v_iv (n_v vs 13)) (v_iv (n_v vs 15)) (v_iv (n_v vs 17)) (v_iv (n_v vs 18)) (v_iv (n_v vs 19)) (v_iv (n_v vs 21)) (v_iv (n_v vs 22)) (w_ei ws (w_ar ws (n_v vs 0) 1)) (w_fi ws (n_v vs 0) 10) (w_fi ws (n_v vs 0) 15) (w_fi ws (n_v vs 0) 11) (w_fi ws (n_v vs 0) 12) (w_ei w1 (w_ar ws (n_v vs 0) 1)) (w_fi w1 (n_v vs 0) 10) (w_fi w1 (n_v vs 0) 15) (w_fi w1 (n_v vs 0) 5) (w_fi w1 (n_v vs 0) 11) (w_fi w1 (n_v vs 0) 12) (w_ei w1 (w_ar ws (n_v vs 0) 2)) (w_ei w1 (w_ar ws (n_v vs 0) 3)) (w_ei w1 (w_ar ws (n_v vs 0) 4)) (w_fi ws (n_v vs 0) 5) (w_ei ws (w_ar ws (n_v vs 0) 2)) (w_ei ws (w_ar ws (n_v vs 0) 3)) (w_ei ws (w_ar ws (n_v vs 0) 4)) k7 k8 k13 k15 k17 k18 k19 k21 k22 d0 d9 d14 f15 f16 f17 g19 f30 fe_0_5_1 fe_0_10_1 fe_0_11_1 fe_0_12_1 fe_0_15_1 hE_0_1_1 hE_0_2_1 hE_0_3_1 hE_0_4_1 kz_0_10 kz_0_11 kz_0_12 kz_0_15
  refine ⟨(fun _ h => (by cases h)), [], trivial, ?_, (fun _ h => (by cases h))⟩
  rw [List.append_nil]
  exact List.forall_mem_cons.mpr ⟨⟨show (20 : Nat) < 100 from by decide, nf0⟩, List.forall_mem_cons.mpr ⟨⟨show (20 : Nat) < 100 from by decide, nf1⟩, (fun _ h => (by cases h))⟩⟩
def o_Mo_groupItem_at_k0_15 : or_T := (153, 22, [(7, (0, 0, 7, [])), (8, (0, 0, 7, [])), (13, (5, 0, 66297, [539])), (14, (0, 459, 459, [])), (15, (0, 459, 66756, [])), (16, (0, 8, 8, [])), (17, (0, 0, 56, [])), (18, (0, 459, 66812, [])), (19, (0, 459, 66819, [])), (21, (0, 0, 255, []))], [(1, [19, 18, 8], []), (1, [18, 15, 17], []), (3, [17, 16, 7], []), (1, [15, 13, 14], [])], [], [], [(18, [19, 21], [1])], [], [(19, 8, 459, 66812), (19, 18, 0, 7), (19, 17, 459, 66763), (19, 15, 0, 63), (19, 13, 459, 522), (18, 17, 459, 66756), (18, 15, 0, 56), (18, 13, 459, 515), (15, 13, 459, 459)])
theorem oo_Mo_groupItem_at_k0_15 {kA : Nat → ClassId} : or_ok PRD kA GG o_Mo_groupItem_at_k0_15 := by
  refine or_mk fun A ta ws vs hD hth hl => ?_
  intro t7 k7 t8 k8 t13 t14 k14 t15 k15 t16 k16 t17 k17 t18 k18 t19 k19 t21 k21 d0 d1 d2 d3 d4 d5 d6 d7 d8 f0 f1 f2 f3
  obtain ⟨k13, q13_⟩ : (0 ≤ v_iv (n_v vs 13) ∧ v_iv (n_v vs 13) ≤ 66297) ∧ ∃ q : Int, v_iv (n_v vs 13) = 539 * q := tv_dvk t13
  obtain ⟨q13, hq13⟩ := q13_
  replace f0 := shm_12 f0
  replace f1 := shm_12 f1
  replace f2 := shm_38 f2
  rw [show v_iv (n_v vs 16) = 8 from by omega] at f2
  replace f3 := shm_12 f3
  have nf0 : fc_1 PRD (18, [19, 21], [1]) ws (vs) := by
    refine ⟨nf_in hl rfl, sgq_1268 ?_⟩
    · show pl_ok 1 (v_iv (n_v vs 19)).toNat (v_iv (n_v vs 21))
      exact pl_in pl_M1 (lo := 459) (hi := 522) (a := 0) (b := 255) (by decide +kernel) (by omega) (by omega) (by omega) (by omega)
  refine ⟨(fun _ h => (by cases h)), [], trivial, ?_, (fun _ h => (by cases h))⟩
  rw [List.append_nil]
  exact List.forall_mem_cons.mpr ⟨⟨show (18 : Nat) < 100 from by decide, nf0⟩, (fun _ h => (by cases h))⟩
set_option maxHeartbeats 4000000 in
theorem vc_Mo_groupItem_at_k0_16_0 (x7 : Int) (x8 : Int) (x13 : Int) (x15 : Int) (x17 : Int) (x18 : Int) (x19 : Int) (x21 : Int) (x22 : Int) (tape_0 : Int → Int) (limit_0 : Int) (from_0 : Int) (pos_0 : Int) (kind_0 : Int) (tape_1 : Int → Int) (limit_1 : Int) (from_1 : Int) (r_1 : Int) (pos_1 : Int) (kind_1 : Int) (all_1 : Int → Int) (now_1 : Int → Int) (latest_1 : Int → Int) (r_0 : Int) (all_0 : Int → Int) (now_0 : Int → Int) (latest_0 : Int → Int) (k7 : 0 ≤ x7 ∧ x7 ≤ 7) (k8 : 0 ≤ x8 ∧ x8 ≤ 7) (k13 : 0 ≤ x13 ∧ x13 ≤ 66297) (k15 : 459 ≤ x15 ∧ x15 ≤ 66756) (k17 : 0 ≤ x17 ∧ x17 ≤ 56) (k18 : 459 ≤ x18 ∧ x18 ≤ 66812) (k19 : 459 ≤ x19 ∧ x19 ≤ 66819) (k21 : 0 ≤ x21 ∧ x21 ≤ 255) (k22 : 1 ≤ x22 ∧ x22 ≤ 8) (d0 : x8 + 1 ≤ x22 ∧ x22 ≤ x8 + 1) (d8 : x15 + 0 ≤ x19 ∧ x19 ≤ x15 + 63) (d13 : x13 + 459 ≤ x15 ∧ x15 ≤ x13 + 459) (f15 : x19 = x18 + x8) (f16 : x18 = x15 + x17) (f17 : x17 = 8 * x7) (g19 : x13 = r_1) (f28 : (x7 + 1) ≤ all_1 ((r_1 + 2))) (fe_0_5_1 : r_0 = r_1) (fe_0_10_1 : limit_0 = limit_1) (fe_0_11_1 : pos_0 = pos_1) (fe_0_12_1 : kind_0 = kind_1) (fe_0_15_1 : from_0 = from_1) (hE_0_1_1 : ∀ j : Int, tape_0 j = tape_1 j) (hE_0_2_1 : ∀ j : Int, 0 ≤ j → (j = x19 → all_0 j = x21) ∧ (j ≠ x19 → all_0 j = all_1 j)) (hE_0_3_1 : ∀ j : Int, now_0 j = now_1 j) (hE_0_4_1 : ∀ j : Int, latest_0 j = latest_1 j) (kz_0_10 : 0 ≤ limit_0 ∧ limit_0 ≤ 2000) (kz_0_11 : 0 ≤ pos_0 ∧ pos_0 ≤ 2000) (kz_0_12 : 0 ≤ kind_0 ∧ kind_0 ≤ 4) (kz_0_15 : 0 ≤ from_0 ∧ from_0 ≤ 2000) : (x7 + 1) ≤ all_0 ((r_0 + 2)) := by
  subst fe_0_5_1
  subst fe_0_10_1
  subst fe_0_11_1
  subst fe_0_12_1
  subst fe_0_15_1
  have e_hE_0_1_1 := funext hE_0_1_1; subst e_hE_0_1_1
  have e_hE_0_3_1 := funext hE_0_3_1; subst e_hE_0_3_1
  have e_hE_0_4_1 := funext hE_0_4_1; subst e_hE_0_4_1
  first
    | omega
    | (have q1 := (hE_0_2_1 (r_0 + 2) (by omega)).2 (by omega)
       have q2 := (hE_0_2_2 (r_0 + 2) (by omega)).2 (by omega)
       omega)
    | (have q1 := (hE_0_2_1 (r_0 + 1) (by omega)).2 (by omega)
       have q2 := (hE_0_2_2 (r_0 + 1) (by omega)).2 (by omega)
       omega)
    | (have q1 := (hE_0_2_1 (r_0 + 2) (by omega)).2 (by omega)
       omega)
    | (have q1 := (hE_0_2_1 (r_0 + 1) (by omega)).2 (by omega)
       omega)
    | (have q1 := (hE_0_2_1 (r_0 + 2) (by omega)).2 (by omega)
       have q2 := (hE_0_2_2 (r_0 + 2) (by omega)).2 (by omega)
       have q3 := (hE_0_2_3 (r_0 + 2) (by omega)).1 (by omega)
       omega)
    | (have q1 := (hE_0_2_1 (r_0 + 2) (by omega)).2 (by omega)
       have q2 := (hE_0_2_2 (r_0 + 2) (by omega)).2 (by omega)
       have q3 := (hE_0_2_3 (r_0 + 2) (by omega)).2 (by omega)
       omega)
    | (have q1 := (hE_0_2_1 (r_0 + 2) (by omega)).2 (by omega)
       have q2 := (hE_0_2_2 (r_0 + 2) (by omega)).2 (by omega)
       have q3 := (hE_0_2_3 (r_0 + 2) (by omega)).1 (by omega)
       have q4 : x13 = r_0 + 2 := by omega
       rw [q4] at h34
       omega)
set_option maxHeartbeats 4000000 in
theorem vc_Mo_groupItem_at_k0_16_1 (x7 : Int) (x8 : Int) (x13 : Int) (x15 : Int) (x17 : Int) (x18 : Int) (x19 : Int) (x21 : Int) (x22 : Int) (tape_0 : Int → Int) (limit_0 : Int) (from_0 : Int) (pos_0 : Int) (kind_0 : Int) (tape_1 : Int → Int) (limit_1 : Int) (from_1 : Int) (r_1 : Int) (pos_1 : Int) (kind_1 : Int) (all_1 : Int → Int) (now_1 : Int → Int) (latest_1 : Int → Int) (r_0 : Int) (all_0 : Int → Int) (now_0 : Int → Int) (latest_0 : Int → Int) (k7 : 0 ≤ x7 ∧ x7 ≤ 7) (k8 : 0 ≤ x8 ∧ x8 ≤ 7) (k13 : 0 ≤ x13 ∧ x13 ≤ 66297) (k15 : 459 ≤ x15 ∧ x15 ≤ 66756) (k17 : 0 ≤ x17 ∧ x17 ≤ 56) (k18 : 459 ≤ x18 ∧ x18 ≤ 66812) (k19 : 459 ≤ x19 ∧ x19 ≤ 66819) (k21 : 0 ≤ x21 ∧ x21 ≤ 255) (k22 : 1 ≤ x22 ∧ x22 ≤ 8) (d0 : x8 + 1 ≤ x22 ∧ x22 ≤ x8 + 1) (d8 : x15 + 0 ≤ x19 ∧ x19 ≤ x15 + 63) (d13 : x13 + 459 ≤ x15 ∧ x15 ≤ x13 + 459) (f15 : x19 = x18 + x8) (f16 : x18 = x15 + x17) (f17 : x17 = 8 * x7) (g19 : x13 = r_1) (f30 : RWS (r_1) (all_1) (now_1) (latest_1)) (fe_0_5_1 : r_0 = r_1) (fe_0_10_1 : limit_0 = limit_1) (fe_0_11_1 : pos_0 = pos_1) (fe_0_12_1 : kind_0 = kind_1) (fe_0_15_1 : from_0 = from_1) (hE_0_1_1 : ∀ j : Int, tape_0 j = tape_1 j) (hE_0_2_1 : ∀ j : Int, 0 ≤ j → (j = x19 → all_0 j = x21) ∧ (j ≠ x19 → all_0 j = all_1 j)) (hE_0_3_1 : ∀ j : Int, now_0 j = now_1 j) (hE_0_4_1 : ∀ j : Int, latest_0 j = latest_1 j) (kz_0_10 : 0 ≤ limit_0 ∧ limit_0 ≤ 2000) (kz_0_11 : 0 ≤ pos_0 ∧ pos_0 ≤ 2000) (kz_0_12 : 0 ≤ kind_0 ∧ kind_0 ≤ 4) (kz_0_15 : 0 ≤ from_0 ∧ from_0 ≤ 2000) : RWS (r_0) (all_0) (now_0) (latest_0) := by
  subst fe_0_5_1
  subst fe_0_10_1
  subst fe_0_11_1
  subst fe_0_12_1
  subst fe_0_15_1
  have e_hE_0_1_1 := funext hE_0_1_1; subst e_hE_0_1_1
  have e_hE_0_3_1 := funext hE_0_3_1; subst e_hE_0_3_1
  have e_hE_0_4_1 := funext hE_0_4_1; subst e_hE_0_4_1
  first
    | assumption
    | (have hr := rws_r ‹RWS _ _ _ _›
       exact rws_off (rws_off (rws_off ‹RWS _ _ _ _› (by assumption) (by omega)) (by assumption) (by omega)) (by assumption) (by omega))
    | (have hr := rws_r ‹RWS _ _ _ _›
       exact rws_off ‹RWS _ _ _ _› (by assumption) (by omega))
def o_Mo_groupItem_at_k0_16 : or_T := (108, 23, [(0, (2, 0, 0, [165])), (1, (0, 0, 0, [])), (3, (0, 0, 2000, [])), (4, (2, 0, 0, [165])), (5, (0, 0, 0, [])), (7, (0, 0, 7, [])), (8, (0, 0, 7, [])), (9, (0, 1, 2000, [])), (10, (0, 0, 1999, [])), (11, (0, 1, 2000, [])), (12, (2, 0, 0, [167])), (13, (0, 0, 66297, [])), (14, (0, 459, 459, [])), (15, (0, 459, 66756, [])), (16, (0, 8, 8, [])), (17, (0, 0, 56, [])), (18, (0, 459, 66812, [])), (19, (0, 459, 66819, [])), (20, (0, 0, 1999, [])), (21, (0, 0, 255, [])), (22, (0, 1, 8, []))], [(6, [22, 8], [1]), (20, [20, 4, 21], [50, 1, 1, 1010, 1001, 4, 11, 0, 6, 4, 2, 1, 0, 0, 1, 2, 1, 10, 1, 2, 1, 2, 9, 5, 3, 1, 1, 1, 0, 0, 256]), (20, [4, 20, 21], [50, 1, 0, 10, 4, 7, 0, 3, 2, 0, 10, 1, 1, 1, 2, 1, 2, 0, -1]), (20, [4, 4], [30, 0, 1, 1, 15, -1, 1, 11]), (20, [4], [50, 3, 0, 12, 11, 15, 2, 21, 4, 7, 1, 3, 2, 0, 12, 0, 1, 0, 3, 2, 0, 11, 4, 3, 2, 0, 15, 0, 8, 3, 7, 1, 3, 2, 0, 12, 0, 0, 0, 7, 4, 3, 2, 0, 15, 0, 1, 2, 0, 11]), (20, [3, 4], [30, -1, 1, 0, 0, -1, 1, 11]), (20, [4], [50, 1, 0, 12, 1, 3, 2, 0, 12, 0, 1]), (23, [5, 7], [-1, 1, -1]), (24, [0, 4], []), (24, [1, 5], []), (100, [12, 19, 21], []), (20, [20, 4, 21], [50, 1, 1, 1010, 1001, 4, 11, 0, 6, 4, 2, 1, 0, 0, 1, 2, 1, 10, 1, 2, 1, 2, 9, 5, 3, 1, 1, 1, 0, 0, 256]), (20, [4, 20, 21], [50, 1, 0, 10, 4, 7, 0, 3, 2, 0, 10, 1, 1, 1, 2, 1, 2, 0, -1]), (1, [20, 10, 8], []), (9, [10, 4], [15]), (1, [19, 18, 8], []), (1, [18, 15, 17], []), (3, [17, 16, 7], []), (1, [15, 13, 14], []), (9, [13, 4], [5]), (9, [12, 4], [2]), (7, [8, 11], [2]), (2, [11, 9, 10], []), (9, [9, 4], [11]), (20, [4, 4], [30, 0, 1, 1, 15, -1, 1, 11]), (20, [4], [50, 3, 0, 12, 11, 15, 2, 21, 4, 7, 1, 3, 2, 0, 12, 0, 1, 0, 3, 2, 0, 11, 4, 3, 2, 0, 15, 0, 8, 3, 7, 1, 3, 2, 0, 12, 0, 0, 0, 7, 4, 3, 2, 0, 15, 0, 1, 2, 0, 11]), (20, [3, 4], [30, -1, 1, 0, 0, -1, 1, 11]), (20, [4], [50, 1, 0, 12, 1, 3, 2, 0, 12, 0, 1]), (20, [7, 4], [50, 1, 1, 1005, 1002, 0, 6, 4, 2, 1, 0, 0, 1, 3, 1, 2, 4, 3, 2, 1, 5, 0, 2]), (23, [5, 7], [-1, 1, -1]), (20, [4], [60, 1, 3, 199, 5, 2, 3, 4])], [], [], [(20, [7, 4], [50, 1, 1, 1005, 1002, 0, 6, 4, 2, 1, 0, 0, 1, 3, 1, 2, 4, 3, 2, 1, 5, 0, 2]), (20, [4], [60, 1, 3, 199, 5, 2, 3, 4])], [], [(22, 8, 1, 1), (22, 11, -4294967296, 0), (20, 8, 0, 2000), (20, 10, 0, 7), (19, 8, 459, 66812), (19, 11, -4294967296, 66811), (19, 18, 0, 7), (19, 17, 459, 66763), (19, 15, 0, 63), (19, 13, 459, 522), (18, 17, 459, 66756), (18, 15, 0, 56), (18, 13, 459, 515), (15, 13, 459, 459), (8, 11, -4294967296, -1), (11, 9, -2000, 0)])
theorem oo_Mo_groupItem_at_k0_16 {kA : Nat → ClassId} : or_ok PRD kA GG o_Mo_groupItem_at_k0_16 := by
  refine or_mk fun A ta ws vs hD hth hl => ?_
  intro t0 r0 t1 k1 t3 k3 t4 r4 t5 k5 t7 k7 t8 k8 t9 k9 t10 k10 t11 k11 t12 r12 t13 k13 t14 k14 t15 k15 t16 k16 t17 k17 t18 k18 t19 k19 t20 k20 t21 k21 t22 k22 d0 d1 d2 d3 d4 d5 d6 d7 d8 d9 d10 d11 d12 d13 d14 d15 f0 f1 f2 f3 f4 f5 f6 f7 f8 f9 ta1 w1 le1 s1 f11 f12 f13 f14 f15 f16 f17 f18 f19 f20 f21 f22 f23 f24 f25 f26 f27 f28 f29 f30
  replace f0 := shm_4 f0
  replace f1 := shm_535 f1
  replace f2 := shm_536 f2
  replace f3 := shm_1397 f3
  replace f4 := shm_1398 f4
  replace f5 := shm_1891 f5
  replace f6 := shm_1791 f6
  replace f7 := shm_211 f7
  replace f8 := shm_5 f8
  replace f9 := shm_5 f9
  have s1 : (∀ b j, w_el ws b j = if b = v_ad (n_v vs 12) ∧ j = (v_iv (n_v vs 19)).toNat then v_iv (n_v vs 21) else w_el w1 b j) ∧ ∀ b k, w_fd ws b k = w_fd w1 b k := s1.2
  replace f11 := shm_535 f11
  replace f12 := shm_536 f12
  replace f13 := shm_12 f13
  replace f14 := shm_189 f14
  replace f15 := shm_12 f15
  replace f16 := shm_12 f16
  replace f17 := shm_38 f17
  rw [show v_iv (n_v vs 16) = 8 from by omega] at f17
  replace f18 := shm_12 f18
  replace f19 := shm_109 f19
  replace f20 := shm_129 f20
  replace f21 := shm_6 f21
  replace f22 := shm_14 f22
  replace f23 := shm_117 f23
  replace f24 := shm_1397 f24
  replace f25 := shm_1398 f25
  replace f26 := shm_1891 f26
  replace f27 := shm_1791 f27
  replace f28 := shm_981 f28
  replace f29 := shm_211 f29
  replace f30 := shm_952 f30
  have q4 : n_v vs 4 = n_v vs 0 := f8.symm
  have q5 : n_v vs 5 = n_v vs 1 := f9.symm
  simp only [q4, q5] at f1 f2 f3 f4 f5 f6 f7 f11 f12 f14 f19 f20 f23 f24 f25 f26 f27 f28 f29 f30
  have ar_0_1_1 : w_ar w1 (n_v vs 0) 1 = w_ar ws (n_v vs 0) 1 := congrArg v_ad (s1.2 _ _).symm
  have cr_0_1 := fdq_46 hD hth r0
  have ar_0_2_1 : w_ar w1 (n_v vs 0) 2 = w_ar ws (n_v vs 0) 2 := congrArg v_ad (s1.2 _ _).symm
  have cr_0_2 := fdq_12 hD hth r0
  have ar_0_3_1 : w_ar w1 (n_v vs 0) 3 = w_ar ws (n_v vs 0) 3 := congrArg v_ad (s1.2 _ _).symm
  have cr_0_3 := fdq_141 hD hth r0
  have ar_0_4_1 : w_ar w1 (n_v vs 0) 4 = w_ar ws (n_v vs 0) 4 := congrArg v_ad (s1.2 _ _).symm
  have cr_0_4 := fdq_142 hD hth r0
  have ad_12 : v_ad (n_v vs 12) = w_ar ws (n_v vs 0) 2 := (congrArg v_ad f20).trans ar_0_2_1
  simp only [ar_0_1_1] at f11
  have g14 : v_iv (n_v vs 10) = w_fi w1 (n_v vs 0) 15 := congrArg v_iv f14
  have g19 : v_iv (n_v vs 13) = w_fi w1 (n_v vs 0) 5 := congrArg v_iv f19
  have g23 : v_iv (n_v vs 9) = w_fi w1 (n_v vs 0) 11 := congrArg v_iv f23
  simp only [ar_0_2_1, ar_0_3_1, ar_0_4_1] at f28 f30
  have fe_0_5_1 : w_fi ws (n_v vs 0) 5 = w_fi w1 (n_v vs 0) 5 := congrArg v_iv (s1.2 _ _)
  have fe_0_10_1 : w_fi ws (n_v vs 0) 10 = w_fi w1 (n_v vs 0) 10 := congrArg v_iv (s1.2 _ _)
  have fe_0_11_1 : w_fi ws (n_v vs 0) 11 = w_fi w1 (n_v vs 0) 11 := congrArg v_iv (s1.2 _ _)
  have fe_0_12_1 : w_fi ws (n_v vs 0) 12 = w_fi w1 (n_v vs 0) 12 := congrArg v_iv (s1.2 _ _)
  have fe_0_15_1 : w_fi ws (n_v vs 0) 15 = w_fi w1 (n_v vs 0) 15 := congrArg v_iv (s1.2 _ _)
  have hE_0_1_1 : ∀ j : Int, w_ei ws (w_ar ws (n_v vs 0) 1) j = w_ei w1 (w_ar ws (n_v vs 0) 1) j := el_kp s1.1 r12 cr_0_1 (by decide)
  have hK_0_1 := elq_6 hD hth cr_0_1
  have hE_0_2_1 : ∀ j : Int, 0 ≤ j → (j = v_iv (n_v vs 19) → w_ei ws (w_ar ws (n_v vs 0) 2) j = v_iv (n_v vs 21)) ∧ (j ≠ v_iv (n_v vs 19) → w_ei ws (w_ar ws (n_v vs 0) 2) j = w_ei w1 (w_ar ws (n_v vs 0) 2) j) := fun j hj => ⟨fun h => by unfold w_ei; rw [s1.1, if_pos ⟨ad_12.symm, by rw [h]⟩], fun h => by unfold w_ei; rw [s1.1, if_neg (fun e => h (by have := e.2; omega))]⟩
  have hE_0_3_1 : ∀ j : Int, w_ei ws (w_ar ws (n_v vs 0) 3) j = w_ei w1 (w_ar ws (n_v vs 0) 3) j := el_kp s1.1 r12 cr_0_3 (by decide)
  have hK_0_3 := elq_77 hD hth cr_0_3
  have hE_0_4_1 : ∀ j : Int, w_ei ws (w_ar ws (n_v vs 0) 4) j = w_ei w1 (w_ar ws (n_v vs 0) 4) j := el_kp s1.1 r12 cr_0_4 (by decide)
  have hK_0_4 := elq_78 hD hth cr_0_4
  have kz_0_10 := fdq_50 hD hth r0
  have kz_0_11 := fdq_273 hD hth r0
  have kz_0_12 := fdq_186 hD hth r0
  have kz_0_15 := fdq_274 hD hth r0
  first | have hJ0 : w_ei w1 (w_ar ws (n_v vs 0) 2) ((w_fi w1 (n_v vs 0) 5 + 2)) = w_ei w1 (w_ar ws (n_v vs 0) 2) ((w_fi ws (n_v vs 0) 5 + 2)) := congrArg _ (show ((w_fi w1 (n_v vs 0) 5 + 2) : Int) = (w_fi ws (n_v vs 0) 5 + 2) from by omega) | skip
  have hI1 := hE_0_1_1 (v_iv (n_v vs 20))
  first | have hI2 := (hE_0_2_1 ((w_fi ws (n_v vs 0) 5 + 2)) (by omega)).2 (by omega) | have hI2 := (hE_0_2_1 ((w_fi ws (n_v vs 0) 5 + 2)) (by omega)).1 (by omega) | skip
  have nf0 : fc_1 PRD (20, [7, 4], [50, 1, 1, 1005, 1002, 0, 6, 4, 2, 1, 0, 0, 1, 3, 1, 2, 4, 3, 2, 1, 5, 0, 2]) ws (vs) := by
    refine ⟨nf_in hl rfl, sgq_981 ?_⟩
    · show (v_iv (n_v vs 7) + 1) ≤ w_ei ws (w_ar ws (n_v vs 4) 2) ((w_fi ws (n_v vs 4) 5 + 2))
      rw [q4]
      exact vc_Mo_groupItem_at_k0_16_0 (v_iv (n_v vs 7)) (v_iv (n_v vs 8)) (v_iv (n_v vs 13)) (v_iv (n_v vs 15)) (v_iv (n_v vs 17)) (v_iv (n_v vs 18)) (v_iv (n_v vs 19)) (v_iv (n_v vs 21)) (v_iv (n_v vs 22)) (w_ei ws (w_ar ws (n_v vs 0) 1)) (w_fi ws (n_v vs 0) 10) (w_fi ws (n_v vs 0) 15) (w_fi ws (n_v vs 0) 11) (w_fi ws (n_v vs 0) 12) (w_ei w1 (w_ar ws (n_v vs 0) 1)) (w_fi w1 (n_v vs 0) 10) (w_fi w1 (n_v vs 0) 15) (w_fi w1 (n_v vs 0) 5) (w_fi w1 (n_v vs 0) 11) (w_fi w1 (n_v vs 0) 12) (w_ei w1 (w_ar ws (n_v vs 0) 2)) (w_ei w1 (w_ar ws (n_v vs 0) 3)) (w_ei w1 (w_ar ws (n_v vs 0) 4)) (w_fi ws (n_v vs 0) 5) (w_ei ws (w_ar ws (n_v vs 0) 2)) (w_ei ws (w_ar ws (n_v vs 0) 3)) (w_ei ws (w_ar ws (n_v vs 0) 4)) k7 k8 k13 k15 k17 k18 k19 k21 k22 d0 d8 d13 f15 f16 f17 g19 f28 fe_0_5_1 fe_0_10_1 fe_0_11_1 fe_0_12_1 fe_0_15_1 hE_0_1_1 hE_0_2_1 hE_0_3_1 hE_0_4_1 kz_0_10 kz_0_11 kz_0_12 kz_0_15
  have nf1 : fc_1 PRD (20, [4], [60, 1, 3, 199, 5, 2, 3, 4]) ws (vs) := by
    refine ⟨nf_in hl rfl, sgq_952 ?_⟩
    · show RWS (w_fi ws (n_v vs 4) 5) (w_ei ws (w_ar ws (n_v vs 4) 2)) (w_ei ws (w_ar ws (n_v vs 4) 3)) (w_ei ws (w_ar ws (n_v vs 4) 4))
      rw [q4]
      exact vc_Mo_groupItem_at_k0_16_1 (v_iv (n_v vs 7)) (v_iv (n_v vs 8)) (v_iv (n_v vs 13)) (v_iv (n_v vs 15)) (v_iv (n_v vs 17)) (v_iv (n_v vs 18)) (v_iv (n_v vs 19)) (v_iv (n_v vs 21)) (v_iv (n_v vs 22)) (w_ei ws (w_ar ws (n_v vs 0) 1)) (w_fi ws (n_v vs 0) 10) (w_fi ws (n_v vs 0) 15) (w_fi ws (n_v vs 0) 11) (w_fi ws (n_v vs 0) 12) (w_ei w1 (w_ar ws (n_v vs 0) 1)) (w_fi w1 (n_v vs 0) 10) (w_fi w1 (n_v vs 0) 15) (w_fi w1 (n_v vs 0) 5) (w_fi w1 (n_v vs 0) 11) (w_fi w1 (n_v vs 0) 12) (w_ei w1 (w_ar ws (n_v vs 0) 2)) (w_ei w1 (w_ar ws (n_v vs 0) 3)) (w_ei w1 (w_ar ws (n_v vs 0) 4)) (w_fi ws (n_v vs 0) 5) (w_ei ws (w_ar ws (n_v vs 0) 2)) (w_ei ws (w_ar ws (n_v vs 0) 3)) (w_ei ws (w_ar ws (n_v vs 0) 4)) k7 k8 k13 k15 k17 k18 k19 k21 k22 d0 d8 d13 f15 f16 f17 g19 f30 fe_0_5_1 fe_0_10_1 fe_0_11_1 fe_0_12_1 fe_0_15_1 hE_0_1_1 hE_0_2_1 hE_0_3_1 hE_0_4_1 kz_0_10 kz_0_11 kz_0_12 kz_0_15
  refine ⟨(fun _ h => (by cases h)), [], trivial, ?_, (fun _ h => (by cases h))⟩
  rw [List.append_nil]
  exact List.forall_mem_cons.mpr ⟨⟨show (20 : Nat) < 100 from by decide, nf0⟩, List.forall_mem_cons.mpr ⟨⟨show (20 : Nat) < 100 from by decide, nf1⟩, (fun _ h => (by cases h))⟩⟩
set_option maxHeartbeats 4000000 in
theorem vc_Mo_groupItem_at_k0_17_0 (x3 : Int) (r_0 : Int) (gx : Int) (k3 : 0 ≤ x3 ∧ x3 ≤ 2000) (ex2 : gx = x3) : 1 * gx + ((-1) * x3 + 0) ≤ 0 := by
  first
    | omega
    | (have q1 := (hE_0_2_1 (r_0 + 2) (by omega)).2 (by omega)
       have q2 := (hE_0_2_2 (r_0 + 2) (by omega)).2 (by omega)
       omega)
    | (have q1 := (hE_0_2_1 (r_0 + 1) (by omega)).2 (by omega)
       have q2 := (hE_0_2_2 (r_0 + 1) (by omega)).2 (by omega)
       omega)
    | (have q1 := (hE_0_2_1 (r_0 + 2) (by omega)).2 (by omega)
       omega)
    | (have q1 := (hE_0_2_1 (r_0 + 1) (by omega)).2 (by omega)
       omega)
    | (have q1 := (hE_0_2_1 (r_0 + 2) (by omega)).2 (by omega)
       have q2 := (hE_0_2_2 (r_0 + 2) (by omega)).2 (by omega)
       have q3 := (hE_0_2_3 (r_0 + 2) (by omega)).1 (by omega)
       omega)
    | (have q1 := (hE_0_2_1 (r_0 + 2) (by omega)).2 (by omega)
       have q2 := (hE_0_2_2 (r_0 + 2) (by omega)).2 (by omega)
       have q3 := (hE_0_2_3 (r_0 + 2) (by omega)).2 (by omega)
       omega)
    | (have q1 := (hE_0_2_1 (r_0 + 2) (by omega)).2 (by omega)
       have q2 := (hE_0_2_2 (r_0 + 2) (by omega)).2 (by omega)
       have q3 := (hE_0_2_3 (r_0 + 2) (by omega)).1 (by omega)
       have q4 : x13 = r_0 + 2 := by omega
       rw [q4] at h34
       omega)
set_option maxHeartbeats 4000000 in
theorem vc_Mo_groupItem_at_k0_17_1 (x3 : Int) (r_0 : Int) (gx : Int) (k3 : 0 ≤ x3 ∧ x3 ≤ 2000) (ex2 : gx = x3) : (-1) * gx + (1 * x3 + 0) ≤ 0 := by
  first
    | omega
    | (have q1 := (hE_0_2_1 (r_0 + 2) (by omega)).2 (by omega)
       have q2 := (hE_0_2_2 (r_0 + 2) (by omega)).2 (by omega)
       omega)
    | (have q1 := (hE_0_2_1 (r_0 + 1) (by omega)).2 (by omega)
       have q2 := (hE_0_2_2 (r_0 + 1) (by omega)).2 (by omega)
       omega)
    | (have q1 := (hE_0_2_1 (r_0 + 2) (by omega)).2 (by omega)
       omega)
    | (have q1 := (hE_0_2_1 (r_0 + 1) (by omega)).2 (by omega)
       omega)
    | (have q1 := (hE_0_2_1 (r_0 + 2) (by omega)).2 (by omega)
       have q2 := (hE_0_2_2 (r_0 + 2) (by omega)).2 (by omega)
       have q3 := (hE_0_2_3 (r_0 + 2) (by omega)).1 (by omega)
       omega)
    | (have q1 := (hE_0_2_1 (r_0 + 2) (by omega)).2 (by omega)
       have q2 := (hE_0_2_2 (r_0 + 2) (by omega)).2 (by omega)
       have q3 := (hE_0_2_3 (r_0 + 2) (by omega)).2 (by omega)
       omega)
    | (have q1 := (hE_0_2_1 (r_0 + 2) (by omega)).2 (by omega)
       have q2 := (hE_0_2_2 (r_0 + 2) (by omega)).2 (by omega)
       have q3 := (hE_0_2_3 (r_0 + 2) (by omega)).1 (by omega)
       have q4 : x13 = r_0 + 2 := by omega
       rw [q4] at h34
       omega)
set_option maxHeartbeats 4000000 in
theorem vc_Mo_groupItem_at_k0_17_2 (from_0 : Int) (pos_0 : Int) (r_0 : Int) (f2 : 1 * from_0 + ((-1) * pos_0 + 0) ≤ 0) (kz_0_11 : 0 ≤ pos_0 ∧ pos_0 ≤ 2000) (kz_0_15 : 0 ≤ from_0 ∧ from_0 ≤ 2000) : 1 * from_0 + ((-1) * pos_0 + 0) ≤ 0 := by
  first
    | omega
    | (have q1 := (hE_0_2_1 (r_0 + 2) (by omega)).2 (by omega)
       have q2 := (hE_0_2_2 (r_0 + 2) (by omega)).2 (by omega)
       omega)
    | (have q1 := (hE_0_2_1 (r_0 + 1) (by omega)).2 (by omega)
       have q2 := (hE_0_2_2 (r_0 + 1) (by omega)).2 (by omega)
       omega)
    | (have q1 := (hE_0_2_1 (r_0 + 2) (by omega)).2 (by omega)
       omega)
    | (have q1 := (hE_0_2_1 (r_0 + 1) (by omega)).2 (by omega)
       omega)
    | (have q1 := (hE_0_2_1 (r_0 + 2) (by omega)).2 (by omega)
       have q2 := (hE_0_2_2 (r_0 + 2) (by omega)).2 (by omega)
       have q3 := (hE_0_2_3 (r_0 + 2) (by omega)).1 (by omega)
       omega)
    | (have q1 := (hE_0_2_1 (r_0 + 2) (by omega)).2 (by omega)
       have q2 := (hE_0_2_2 (r_0 + 2) (by omega)).2 (by omega)
       have q3 := (hE_0_2_3 (r_0 + 2) (by omega)).2 (by omega)
       omega)
    | (have q1 := (hE_0_2_1 (r_0 + 2) (by omega)).2 (by omega)
       have q2 := (hE_0_2_2 (r_0 + 2) (by omega)).2 (by omega)
       have q3 := (hE_0_2_3 (r_0 + 2) (by omega)).1 (by omega)
       have q4 : x13 = r_0 + 2 := by omega
       rw [q4] at h34
       omega)
set_option maxHeartbeats 4000000 in
theorem vc_Mo_groupItem_at_k0_17_3 (from_0 : Int) (pos_0 : Int) (kind_0 : Int) (r_0 : Int) (f3 : ((kind_0 = 1) → (pos_0 ≤ (from_0 + 8))) ∧ ((kind_0 = 0) ∨ ((from_0 + 1) ≤ pos_0))) (kz_0_11 : 0 ≤ pos_0 ∧ pos_0 ≤ 2000) (kz_0_12 : 0 ≤ kind_0 ∧ kind_0 ≤ 4) (kz_0_15 : 0 ≤ from_0 ∧ from_0 ≤ 2000) : ((kind_0 = 1) → (pos_0 ≤ (from_0 + 8))) ∧ ((kind_0 = 0) ∨ ((from_0 + 1) ≤ pos_0)) := by
  first
    | omega
    | (have q1 := (hE_0_2_1 (r_0 + 2) (by omega)).2 (by omega)
       have q2 := (hE_0_2_2 (r_0 + 2) (by omega)).2 (by omega)
       omega)
    | (have q1 := (hE_0_2_1 (r_0 + 1) (by omega)).2 (by omega)
       have q2 := (hE_0_2_2 (r_0 + 1) (by omega)).2 (by omega)
       omega)
    | (have q1 := (hE_0_2_1 (r_0 + 2) (by omega)).2 (by omega)
       omega)
    | (have q1 := (hE_0_2_1 (r_0 + 1) (by omega)).2 (by omega)
       omega)
    | (have q1 := (hE_0_2_1 (r_0 + 2) (by omega)).2 (by omega)
       have q2 := (hE_0_2_2 (r_0 + 2) (by omega)).2 (by omega)
       have q3 := (hE_0_2_3 (r_0 + 2) (by omega)).1 (by omega)
       omega)
    | (have q1 := (hE_0_2_1 (r_0 + 2) (by omega)).2 (by omega)
       have q2 := (hE_0_2_2 (r_0 + 2) (by omega)).2 (by omega)
       have q3 := (hE_0_2_3 (r_0 + 2) (by omega)).2 (by omega)
       omega)
    | (have q1 := (hE_0_2_1 (r_0 + 2) (by omega)).2 (by omega)
       have q2 := (hE_0_2_2 (r_0 + 2) (by omega)).2 (by omega)
       have q3 := (hE_0_2_3 (r_0 + 2) (by omega)).1 (by omega)
       have q4 : x13 = r_0 + 2 := by omega
       rw [q4] at h34
       omega)
set_option maxHeartbeats 4000000 in
theorem vc_Mo_groupItem_at_k0_17_4 (x3 : Int) (pos_0 : Int) (r_0 : Int) (gx : Int) (k3 : 0 ≤ x3 ∧ x3 ≤ 2000) (f4 : 1 * x3 + ((-1) * pos_0 + 0) ≤ 0) (kz_0_11 : 0 ≤ pos_0 ∧ pos_0 ≤ 2000) (ex2 : gx = x3) : 1 * gx + ((-1) * pos_0 + 0) ≤ 0 := by
  first
    | omega
    | (have q1 := (hE_0_2_1 (r_0 + 2) (by omega)).2 (by omega)
       have q2 := (hE_0_2_2 (r_0 + 2) (by omega)).2 (by omega)
       omega)
    | (have q1 := (hE_0_2_1 (r_0 + 1) (by omega)).2 (by omega)
       have q2 := (hE_0_2_2 (r_0 + 1) (by omega)).2 (by omega)
       omega)
    | (have q1 := (hE_0_2_1 (r_0 + 2) (by omega)).2 (by omega)
       omega)
    | (have q1 := (hE_0_2_1 (r_0 + 1) (by omega)).2 (by omega)
       omega)
    | (have q1 := (hE_0_2_1 (r_0 + 2) (by omega)).2 (by omega)
       have q2 := (hE_0_2_2 (r_0 + 2) (by omega)).2 (by omega)
       have q3 := (hE_0_2_3 (r_0 + 2) (by omega)).1 (by omega)
       omega)
    | (have q1 := (hE_0_2_1 (r_0 + 2) (by omega)).2 (by omega)
       have q2 := (hE_0_2_2 (r_0 + 2) (by omega)).2 (by omega)
       have q3 := (hE_0_2_3 (r_0 + 2) (by omega)).2 (by omega)
       omega)
    | (have q1 := (hE_0_2_1 (r_0 + 2) (by omega)).2 (by omega)
       have q2 := (hE_0_2_2 (r_0 + 2) (by omega)).2 (by omega)
       have q3 := (hE_0_2_3 (r_0 + 2) (by omega)).1 (by omega)
       have q4 : x13 = r_0 + 2 := by omega
       rw [q4] at h34
       omega)
set_option maxHeartbeats 4000000 in
theorem vc_Mo_groupItem_at_k0_17_5 (x10 : Int) (fault_0 : Int) (pos_0 : Int) (kind_0 : Int) (r_0 : Int) (gx : Int) (k10 : 1 ≤ x10 ∧ x10 ≤ 5) (g1 : x10 = fault_0) (kz_0_8 : 0 ≤ fault_0 ∧ fault_0 ≤ 5) (kz_0_11 : 0 ≤ pos_0 ∧ pos_0 ≤ 2000) (kz_0_12 : 0 ≤ kind_0 ∧ kind_0 ≤ 4) : (1 ≤ fault_0) ∨ ((kind_0 = 0) ∨ ((gx + 1) ≤ pos_0)) := by
  first
    | omega
    | (have q1 := (hE_0_2_1 (r_0 + 2) (by omega)).2 (by omega)
       have q2 := (hE_0_2_2 (r_0 + 2) (by omega)).2 (by omega)
       omega)
    | (have q1 := (hE_0_2_1 (r_0 + 1) (by omega)).2 (by omega)
       have q2 := (hE_0_2_2 (r_0 + 1) (by omega)).2 (by omega)
       omega)
    | (have q1 := (hE_0_2_1 (r_0 + 2) (by omega)).2 (by omega)
       omega)
    | (have q1 := (hE_0_2_1 (r_0 + 1) (by omega)).2 (by omega)
       omega)
    | (have q1 := (hE_0_2_1 (r_0 + 2) (by omega)).2 (by omega)
       have q2 := (hE_0_2_2 (r_0 + 2) (by omega)).2 (by omega)
       have q3 := (hE_0_2_3 (r_0 + 2) (by omega)).1 (by omega)
       omega)
    | (have q1 := (hE_0_2_1 (r_0 + 2) (by omega)).2 (by omega)
       have q2 := (hE_0_2_2 (r_0 + 2) (by omega)).2 (by omega)
       have q3 := (hE_0_2_3 (r_0 + 2) (by omega)).2 (by omega)
       omega)
    | (have q1 := (hE_0_2_1 (r_0 + 2) (by omega)).2 (by omega)
       have q2 := (hE_0_2_2 (r_0 + 2) (by omega)).2 (by omega)
       have q3 := (hE_0_2_3 (r_0 + 2) (by omega)).1 (by omega)
       have q4 : x13 = r_0 + 2 := by omega
       rw [q4] at h34
       omega)
def o_Mo_groupItem_at_k0_17 : or_T := (200, 12, [(0, (2, 0, 0, [165])), (3, (0, 0, 2000, [])), (10, (0, 1, 5, []))], [(9, [10, 4], [8]), (20, [4, 4], [30, 0, 1, 1, 15, -1, 1, 11]), (20, [4], [50, 3, 0, 12, 11, 15, 2, 21, 4, 7, 1, 3, 2, 0, 12, 0, 1, 0, 3, 2, 0, 11, 4, 3, 2, 0, 15, 0, 8, 3, 7, 1, 3, 2, 0, 12, 0, 0, 0, 7, 4, 3, 2, 0, 15, 0, 1, 2, 0, 11]), (20, [3, 4], [30, 0, 1, 0, 0, -1, 1, 11]), (24, [0, 4], [])], [], [(0, 0, 2000, [])], [(23, [12, 3], [0, 1, -1]), (23, [12, 3], [0, -1, 1]), (20, [4, 4], [30, 0, 1, 1, 15, -1, 1, 11]), (20, [4], [50, 3, 0, 12, 11, 15, 2, 21, 4, 7, 1, 3, 2, 0, 12, 0, 1, 0, 3, 2, 0, 11, 4, 3, 2, 0, 15, 0, 8, 3, 7, 1, 3, 2, 0, 12, 0, 0, 0, 7, 4, 3, 2, 0, 15, 0, 1, 2, 0, 11]), (20, [12, 4], [30, 0, 1, 0, 0, -1, 1, 11]), (20, [4, 12], [50, 3, 0, 8, 12, 11, 3, 7, 0, 2, 0, 1, 2, 0, 8, 3, 7, 1, 3, 2, 0, 12, 0, 0, 0, 6, 4, 2, 1, 1, 0, 1, 2, 0, 11])], [], [])
theorem oo_Mo_groupItem_at_k0_17 {kA : Nat → ClassId} : or_ok PRD kA GG o_Mo_groupItem_at_k0_17 := by
  refine or_mk fun A ta ws vs hD hth hl => ?_
  intro t0 r0 t3 k3 t10 k10 f1 f2 f3 f4 f9
  replace f1 := shm_143 f1
  replace f2 := shm_1397 f2
  replace f3 := shm_1398 f3
  replace f4 := shm_1395 f4
  replace f9 := shm_5 f9
  have q4 : n_v vs 4 = n_v vs 0 := f9.symm
  simp only [q4] at f1 f2 f3 f4
  have g1 : v_iv (n_v vs 10) = w_fi ws (n_v vs 0) 8 := congrArg v_iv f1
  have kz_0_8 := fdq_14 hD hth r0
  have kz_0_11 := fdq_273 hD hth r0
  have kz_0_12 := fdq_186 hD hth r0
  have kz_0_15 := fdq_274 hD hth r0
  obtain ⟨x, ex, hx⟩ := iv_ex (ta := ta) (lo := 0) (hi := 2000) (z := v_iv (n_v vs 3)) (by omega) (by omega) (by omega) (by omega)
  have ex2 : v_iv (Value.int x) = v_iv (n_v vs 3) := ex
  have ex3 : 0 ≤ v_iv (Value.int x) ∧ v_iv (Value.int x) ≤ 2000 := tv_rng hx
  have e_3 : n_v (vs ++ [Value.int x]) 3 = n_v vs 3 := n_v_old (by rw [hl]; decide)
  have e_4 : n_v (vs ++ [Value.int x]) 4 = n_v vs 4 := n_v_old (by rw [hl]; decide)
  have e_12 : n_v (vs ++ [Value.int x]) 12 = Value.int x := n_v_new hl
  have nf0 : fc_1 PRD (23, [12, 3], [0, 1, -1]) ws (vs ++ [Value.int x]) := by
    refine ⟨nf_inA hl rfl, sgq_7 ?_⟩
    · show 1 * v_iv (n_v (vs ++ [Value.int x]) 12) + ((-1) * v_iv (n_v (vs ++ [Value.int x]) 3) + 0) ≤ 0
      simp only [e_3, e_12]
      exact vc_Mo_groupItem_at_k0_17_0 (v_iv (n_v vs 3)) (w_fi ws (n_v vs 0) 5) (v_iv (Value.int x)) k3 ex2
  have nf1 : fc_1 PRD (23, [12, 3], [0, -1, 1]) ws (vs ++ [Value.int x]) := by
    refine ⟨nf_inA hl rfl, sgq_22 ?_⟩
    · show (-1) * v_iv (n_v (vs ++ [Value.int x]) 12) + (1 * v_iv (n_v (vs ++ [Value.int x]) 3) + 0) ≤ 0
      simp only [e_3, e_12]
      exact vc_Mo_groupItem_at_k0_17_1 (v_iv (n_v vs 3)) (w_fi ws (n_v vs 0) 5) (v_iv (Value.int x)) k3 ex2
  have nf2 : fc_1 PRD (20, [4, 4], [30, 0, 1, 1, 15, -1, 1, 11]) ws (vs ++ [Value.int x]) := by
    refine ⟨nf_inA hl rfl, sgq_1397 ?_⟩
    · show 1 * w_fi ws (n_v (vs ++ [Value.int x]) 4) 15 + ((-1) * w_fi ws (n_v (vs ++ [Value.int x]) 4) 11 + 0) ≤ 0
      simp only [e_4, q4]
      exact vc_Mo_groupItem_at_k0_17_2 (w_fi ws (n_v vs 0) 15) (w_fi ws (n_v vs 0) 11) (w_fi ws (n_v vs 0) 5) f2 kz_0_11 kz_0_15
  have nf3 : fc_1 PRD (20, [4], [50, 3, 0, 12, 11, 15, 2, 21, 4, 7, 1, 3, 2, 0, 12, 0, 1, 0, 3, 2, 0, 11, 4, 3, 2, 0, 15, 0, 8, 3, 7, 1, 3, 2, 0, 12, 0, 0, 0, 7, 4, 3, 2, 0, 15, 0, 1, 2, 0, 11]) ws (vs ++ [Value.int x]) := by
    refine ⟨nf_inA hl rfl, sgq_1398 ?_⟩
    · show ((w_fi ws (n_v (vs ++ [Value.int x]) 4) 12 = 1) → (w_fi ws (n_v (vs ++ [Value.int x]) 4) 11 ≤ (w_fi ws (n_v (vs ++ [Value.int x]) 4) 15 + 8))) ∧ ((w_fi ws (n_v (vs ++ [Value.int x]) 4) 12 = 0) ∨ ((w_fi ws (n_v (vs ++ [Value.int x]) 4) 15 + 1) ≤ w_fi ws (n_v (vs ++ [Value.int x]) 4) 11))
      simp only [e_4, q4]
      exact vc_Mo_groupItem_at_k0_17_3 (w_fi ws (n_v vs 0) 15) (w_fi ws (n_v vs 0) 11) (w_fi ws (n_v vs 0) 12) (w_fi ws (n_v vs 0) 5) f3 kz_0_11 kz_0_12 kz_0_15
  have nf4 : fc_1 PRD (20, [12, 4], [30, 0, 1, 0, 0, -1, 1, 11]) ws (vs ++ [Value.int x]) := by
    refine ⟨nf_inA hl rfl, sgq_1395 ?_⟩
    · show 1 * v_iv (n_v (vs ++ [Value.int x]) 12) + ((-1) * w_fi ws (n_v (vs ++ [Value.int x]) 4) 11 + 0) ≤ 0
      simp only [e_4, e_12, q4]
      exact vc_Mo_groupItem_at_k0_17_4 (v_iv (n_v vs 3)) (w_fi ws (n_v vs 0) 11) (w_fi ws (n_v vs 0) 5) (v_iv (Value.int x)) k3 f4 kz_0_11 ex2
  have nf5 : fc_1 PRD (20, [4, 12], [50, 3, 0, 8, 12, 11, 3, 7, 0, 2, 0, 1, 2, 0, 8, 3, 7, 1, 3, 2, 0, 12, 0, 0, 0, 6, 4, 2, 1, 1, 0, 1, 2, 0, 11]) ws (vs ++ [Value.int x]) := by
    refine ⟨nf_inA hl rfl, sgq_1660 ?_⟩
    · show (1 ≤ w_fi ws (n_v (vs ++ [Value.int x]) 4) 8) ∨ ((w_fi ws (n_v (vs ++ [Value.int x]) 4) 12 = 0) ∨ ((v_iv (n_v (vs ++ [Value.int x]) 12) + 1) ≤ w_fi ws (n_v (vs ++ [Value.int x]) 4) 11))
      simp only [e_4, e_12, q4]
      exact vc_Mo_groupItem_at_k0_17_5 (v_iv (n_v vs 10)) (w_fi ws (n_v vs 0) 8) (w_fi ws (n_v vs 0) 11) (w_fi ws (n_v vs 0) 12) (w_fi ws (n_v vs 0) 5) (v_iv (Value.int x)) k10 g1 kz_0_8 kz_0_11 kz_0_12
  exact ⟨(fun _ h => (by cases h)), [Value.int x], ag_one hx, List.forall_mem_cons.mpr ⟨⟨show (23 : Nat) < 100 from by decide, nf0⟩, List.forall_mem_cons.mpr ⟨⟨show (23 : Nat) < 100 from by decide, nf1⟩, List.forall_mem_cons.mpr ⟨⟨show (20 : Nat) < 100 from by decide, nf2⟩, List.forall_mem_cons.mpr ⟨⟨show (20 : Nat) < 100 from by decide, nf3⟩, List.forall_mem_cons.mpr ⟨⟨show (20 : Nat) < 100 from by decide, nf4⟩, List.forall_mem_cons.mpr ⟨⟨show (20 : Nat) < 100 from by decide, nf5⟩, (fun _ h => (by cases h))⟩⟩⟩⟩⟩⟩, (fun _ h => (by cases h))⟩
set_option maxHeartbeats 4000000 in
theorem vc_Mo_groupItem_at_k0_18_0 (r_0 : Int) (from_0 : Int) (pos_0 : Int) (f7 : 1 * from_0 + ((-1) * pos_0 + 0) ≤ 0) (kz_0_11 : 0 ≤ pos_0 ∧ pos_0 ≤ 2000) (kz_0_15 : 0 ≤ from_0 ∧ from_0 ≤ 2000) : 1 * from_0 + ((-1) * pos_0 + 0) ≤ 0 := by
  first
    | omega
    | (have q1 := (hE_0_2_1 (r_0 + 2) (by omega)).2 (by omega)
       have q2 := (hE_0_2_2 (r_0 + 2) (by omega)).2 (by omega)
       omega)
    | (have q1 := (hE_0_2_1 (r_0 + 1) (by omega)).2 (by omega)
       have q2 := (hE_0_2_2 (r_0 + 1) (by omega)).2 (by omega)
       omega)
    | (have q1 := (hE_0_2_1 (r_0 + 2) (by omega)).2 (by omega)
       omega)
    | (have q1 := (hE_0_2_1 (r_0 + 1) (by omega)).2 (by omega)
       omega)
    | (have q1 := (hE_0_2_1 (r_0 + 2) (by omega)).2 (by omega)
       have q2 := (hE_0_2_2 (r_0 + 2) (by omega)).2 (by omega)
       have q3 := (hE_0_2_3 (r_0 + 2) (by omega)).1 (by omega)
       omega)
    | (have q1 := (hE_0_2_1 (r_0 + 2) (by omega)).2 (by omega)
       have q2 := (hE_0_2_2 (r_0 + 2) (by omega)).2 (by omega)
       have q3 := (hE_0_2_3 (r_0 + 2) (by omega)).2 (by omega)
       omega)
    | (have q1 := (hE_0_2_1 (r_0 + 2) (by omega)).2 (by omega)
       have q2 := (hE_0_2_2 (r_0 + 2) (by omega)).2 (by omega)
       have q3 := (hE_0_2_3 (r_0 + 2) (by omega)).1 (by omega)
       have q4 : x13 = r_0 + 2 := by omega
       rw [q4] at h34
       omega)
set_option maxHeartbeats 4000000 in
theorem vc_Mo_groupItem_at_k0_18_1 (r_0 : Int) (from_0 : Int) (pos_0 : Int) (kind_0 : Int) (f8 : ((kind_0 = 1) → (pos_0 ≤ (from_0 + 8))) ∧ ((kind_0 = 0) ∨ ((from_0 + 1) ≤ pos_0))) (kz_0_11 : 0 ≤ pos_0 ∧ pos_0 ≤ 2000) (kz_0_12 : 0 ≤ kind_0 ∧ kind_0 ≤ 4) (kz_0_15 : 0 ≤ from_0 ∧ from_0 ≤ 2000) : ((kind_0 = 1) → (pos_0 ≤ (from_0 + 8))) ∧ ((kind_0 = 0) ∨ ((from_0 + 1) ≤ pos_0)) := by
  first
    | omega
    | (have q1 := (hE_0_2_1 (r_0 + 2) (by omega)).2 (by omega)
       have q2 := (hE_0_2_2 (r_0 + 2) (by omega)).2 (by omega)
       omega)
    | (have q1 := (hE_0_2_1 (r_0 + 1) (by omega)).2 (by omega)
       have q2 := (hE_0_2_2 (r_0 + 1) (by omega)).2 (by omega)
       omega)
    | (have q1 := (hE_0_2_1 (r_0 + 2) (by omega)).2 (by omega)
       omega)
    | (have q1 := (hE_0_2_1 (r_0 + 1) (by omega)).2 (by omega)
       omega)
    | (have q1 := (hE_0_2_1 (r_0 + 2) (by omega)).2 (by omega)
       have q2 := (hE_0_2_2 (r_0 + 2) (by omega)).2 (by omega)
       have q3 := (hE_0_2_3 (r_0 + 2) (by omega)).1 (by omega)
       omega)
    | (have q1 := (hE_0_2_1 (r_0 + 2) (by omega)).2 (by omega)
       have q2 := (hE_0_2_2 (r_0 + 2) (by omega)).2 (by omega)
       have q3 := (hE_0_2_3 (r_0 + 2) (by omega)).2 (by omega)
       omega)
    | (have q1 := (hE_0_2_1 (r_0 + 2) (by omega)).2 (by omega)
       have q2 := (hE_0_2_2 (r_0 + 2) (by omega)).2 (by omega)
       have q3 := (hE_0_2_3 (r_0 + 2) (by omega)).1 (by omega)
       have q4 : x13 = r_0 + 2 := by omega
       rw [q4] at h34
       omega)
set_option maxHeartbeats 4000000 in
theorem vc_Mo_groupItem_at_k0_18_2 (x3 : Int) (x12 : Int) (r_0 : Int) (pos_0 : Int) (k3 : 0 ≤ x3 ∧ x3 ≤ 2000) (k12 : 0 ≤ x12 ∧ x12 ≤ 2000) (f0 : 1 * x12 + ((-1) * x3 + 0) ≤ 0) (f1 : (-1) * x12 + (1 * x3 + 0) ≤ 0) (f9 : 1 * x12 + ((-1) * pos_0 + 0) ≤ 0) (kz_0_11 : 0 ≤ pos_0 ∧ pos_0 ≤ 2000) : 1 * x3 + ((-1) * pos_0 + 0) ≤ 0 := by
  first
    | omega
    | (have q1 := (hE_0_2_1 (r_0 + 2) (by omega)).2 (by omega)
       have q2 := (hE_0_2_2 (r_0 + 2) (by omega)).2 (by omega)
       omega)
    | (have q1 := (hE_0_2_1 (r_0 + 1) (by omega)).2 (by omega)
       have q2 := (hE_0_2_2 (r_0 + 1) (by omega)).2 (by omega)
       omega)
    | (have q1 := (hE_0_2_1 (r_0 + 2) (by omega)).2 (by omega)
       omega)
    | (have q1 := (hE_0_2_1 (r_0 + 1) (by omega)).2 (by omega)
       omega)
    | (have q1 := (hE_0_2_1 (r_0 + 2) (by omega)).2 (by omega)
       have q2 := (hE_0_2_2 (r_0 + 2) (by omega)).2 (by omega)
       have q3 := (hE_0_2_3 (r_0 + 2) (by omega)).1 (by omega)
       omega)
    | (have q1 := (hE_0_2_1 (r_0 + 2) (by omega)).2 (by omega)
       have q2 := (hE_0_2_2 (r_0 + 2) (by omega)).2 (by omega)
       have q3 := (hE_0_2_3 (r_0 + 2) (by omega)).2 (by omega)
       omega)
    | (have q1 := (hE_0_2_1 (r_0 + 2) (by omega)).2 (by omega)
       have q2 := (hE_0_2_2 (r_0 + 2) (by omega)).2 (by omega)
       have q3 := (hE_0_2_3 (r_0 + 2) (by omega)).1 (by omega)
       have q4 : x13 = r_0 + 2 := by omega
       rw [q4] at h34
       omega)
set_option maxHeartbeats 4000000 in
theorem vc_Mo_groupItem_at_k0_18_3 (x3 : Int) (x12 : Int) (r_0 : Int) (pos_0 : Int) (fault_0 : Int) (k3 : 0 ≤ x3 ∧ x3 ≤ 2000) (k12 : 0 ≤ x12 ∧ x12 ≤ 2000) (f0 : 1 * x12 + ((-1) * x3 + 0) ≤ 0) (f1 : (-1) * x12 + (1 * x3 + 0) ≤ 0) (f9 : 1 * x12 + ((-1) * pos_0 + 0) ≤ 0) (f10 : (1 ≤ fault_0) ∨ ((x12 + 1) ≤ pos_0)) (kz_0_8 : 0 ≤ fault_0 ∧ fault_0 ≤ 5) (kz_0_11 : 0 ≤ pos_0 ∧ pos_0 ≤ 2000) : (1 ≤ fault_0) ∨ ((x3 + 1) ≤ pos_0) := by
  first
    | omega
    | (have q1 := (hE_0_2_1 (r_0 + 2) (by omega)).2 (by omega)
       have q2 := (hE_0_2_2 (r_0 + 2) (by omega)).2 (by omega)
       omega)
    | (have q1 := (hE_0_2_1 (r_0 + 1) (by omega)).2 (by omega)
       have q2 := (hE_0_2_2 (r_0 + 1) (by omega)).2 (by omega)
       omega)
    | (have q1 := (hE_0_2_1 (r_0 + 2) (by omega)).2 (by omega)
       omega)
    | (have q1 := (hE_0_2_1 (r_0 + 1) (by omega)).2 (by omega)
       omega)
    | (have q1 := (hE_0_2_1 (r_0 + 2) (by omega)).2 (by omega)
       have q2 := (hE_0_2_2 (r_0 + 2) (by omega)).2 (by omega)
       have q3 := (hE_0_2_3 (r_0 + 2) (by omega)).1 (by omega)
       omega)
    | (have q1 := (hE_0_2_1 (r_0 + 2) (by omega)).2 (by omega)
       have q2 := (hE_0_2_2 (r_0 + 2) (by omega)).2 (by omega)
       have q3 := (hE_0_2_3 (r_0 + 2) (by omega)).2 (by omega)
       omega)
    | (have q1 := (hE_0_2_1 (r_0 + 2) (by omega)).2 (by omega)
       have q2 := (hE_0_2_2 (r_0 + 2) (by omega)).2 (by omega)
       have q3 := (hE_0_2_3 (r_0 + 2) (by omega)).1 (by omega)
       have q4 : x13 = r_0 + 2 := by omega
       rw [q4] at h34
       omega)
set_option maxHeartbeats 4000000 in
theorem vc_Mo_groupItem_at_k0_18_4 (x1 : Int) (x7 : Int) (all_0 : Int → Int) (r_0 : Int) (k1 : 0 ≤ x1 ∧ x1 ≤ 0) (k7 : 0 ≤ x7 ∧ x7 ≤ 7) (f2 : (x7 + 1) ≤ all_0 ((r_0 + 2))) (f3 : 1 * x1 + ((-1) * x7 + 0) ≤ (-1)) : (x1 + 1) ≤ all_0 ((r_0 + 2)) := by
  first
    | omega
    | (have q1 := (hE_0_2_1 (r_0 + 2) (by omega)).2 (by omega)
       have q2 := (hE_0_2_2 (r_0 + 2) (by omega)).2 (by omega)
       omega)
    | (have q1 := (hE_0_2_1 (r_0 + 1) (by omega)).2 (by omega)
       have q2 := (hE_0_2_2 (r_0 + 1) (by omega)).2 (by omega)
       omega)
    | (have q1 := (hE_0_2_1 (r_0 + 2) (by omega)).2 (by omega)
       omega)
    | (have q1 := (hE_0_2_1 (r_0 + 1) (by omega)).2 (by omega)
       omega)
    | (have q1 := (hE_0_2_1 (r_0 + 2) (by omega)).2 (by omega)
       have q2 := (hE_0_2_2 (r_0 + 2) (by omega)).2 (by omega)
       have q3 := (hE_0_2_3 (r_0 + 2) (by omega)).1 (by omega)
       omega)
    | (have q1 := (hE_0_2_1 (r_0 + 2) (by omega)).2 (by omega)
       have q2 := (hE_0_2_2 (r_0 + 2) (by omega)).2 (by omega)
       have q3 := (hE_0_2_3 (r_0 + 2) (by omega)).2 (by omega)
       omega)
    | (have q1 := (hE_0_2_1 (r_0 + 2) (by omega)).2 (by omega)
       have q2 := (hE_0_2_2 (r_0 + 2) (by omega)).2 (by omega)
       have q3 := (hE_0_2_3 (r_0 + 2) (by omega)).1 (by omega)
       have q4 : x13 = r_0 + 2 := by omega
       rw [q4] at h34
       omega)
set_option maxHeartbeats 4000000 in
theorem vc_Mo_groupItem_at_k0_18_5 (all_0 : Int → Int) (r_0 : Int) (now_0 : Int → Int) (latest_0 : Int → Int) (f4 : RWS (r_0) (all_0) (now_0) (latest_0)) : RWS (r_0) (all_0) (now_0) (latest_0) := by
  first
    | assumption
def o_Mo_groupItem_at_k0_18 : or_T := (203, 13, [(0, (2, 0, 0, [165])), (1, (0, 0, 0, [])), (3, (0, 0, 2000, [])), (7, (0, 0, 7, [])), (12, (0, 0, 2000, []))], [(23, [12, 3], [0, 1, -1]), (23, [12, 3], [0, -1, 1]), (20, [7, 4], [50, 1, 1, 1005, 1002, 0, 6, 4, 2, 1, 0, 0, 1, 3, 1, 2, 4, 3, 2, 1, 5, 0, 2]), (23, [5, 7], [-1, 1, -1]), (20, [4], [60, 1, 3, 199, 5, 2, 3, 4]), (24, [0, 4], []), (24, [1, 5], []), (20, [4, 4], [30, 0, 1, 1, 15, -1, 1, 11]), (20, [4], [50, 3, 0, 12, 11, 15, 2, 21, 4, 7, 1, 3, 2, 0, 12, 0, 1, 0, 3, 2, 0, 11, 4, 3, 2, 0, 15, 0, 8, 3, 7, 1, 3, 2, 0, 12, 0, 0, 0, 7, 4, 3, 2, 0, 15, 0, 1, 2, 0, 11]), (20, [12, 4], [30, 0, 1, 0, 0, -1, 1, 11]), (20, [4, 12], [50, 2, 0, 8, 11, 3, 7, 0, 2, 0, 1, 2, 0, 8, 0, 6, 4, 2, 1, 1, 0, 1, 2, 0, 11])], [], [], [(20, [0, 0], [30, 0, 1, 1, 15, -1, 1, 11]), (20, [0], [50, 3, 0, 12, 11, 15, 2, 21, 4, 7, 1, 3, 2, 0, 12, 0, 1, 0, 3, 2, 0, 11, 4, 3, 2, 0, 15, 0, 8, 3, 7, 1, 3, 2, 0, 12, 0, 0, 0, 7, 4, 3, 2, 0, 15, 0, 1, 2, 0, 11]), (20, [3, 0], [30, 0, 1, 0, 0, -1, 1, 11]), (20, [0, 3], [50, 2, 0, 8, 11, 3, 7, 0, 2, 0, 1, 2, 0, 8, 0, 6, 4, 2, 1, 1, 0, 1, 2, 0, 11]), (20, [1, 0], [50, 1, 1, 1005, 1002, 0, 6, 4, 2, 1, 0, 0, 1, 3, 1, 2, 4, 3, 2, 1, 5, 0, 2]), (20, [0], [60, 1, 3, 199, 5, 2, 3, 4])], [], [])
theorem oo_Mo_groupItem_at_k0_18 {kA : Nat → ClassId} : or_ok PRD kA GG o_Mo_groupItem_at_k0_18 := by
  refine or_mk fun A ta ws vs hD hth hl => ?_
  intro t0 r0 t1 k1 t3 k3 t7 k7 t12 k12 f0 f1 f2 f3 f4 f5 f6 f7 f8 f9 f10
  replace f2 := shm_981 f2
  replace f3 := shm_211 f3
  replace f4 := shm_952 f4
  replace f5 := shm_5 f5
  replace f6 := shm_5 f6
  replace f7 := shm_1397 f7
  replace f8 := shm_1398 f8
  replace f9 := shm_1395 f9
  replace f10 := shm_1659 f10
  have q4 : n_v vs 4 = n_v vs 0 := f5.symm
  have q5 : n_v vs 5 = n_v vs 1 := f6.symm
  simp only [q4, q5] at f2 f3 f4 f7 f8 f9 f10
  have kz_0_8 := fdq_14 hD hth r0
  have kz_0_11 := fdq_273 hD hth r0
  have kz_0_12 := fdq_186 hD hth r0
  have kz_0_15 := fdq_274 hD hth r0
  have nf0 : fc_1 PRD (20, [0, 0], [30, 0, 1, 1, 15, -1, 1, 11]) ws (vs) := ⟨nf_in hl rfl, sgq_1397 (vc_Mo_groupItem_at_k0_18_0 (w_fi ws (n_v vs 0) 5) (w_fi ws (n_v vs 0) 15) (w_fi ws (n_v vs 0) 11) f7 kz_0_11 kz_0_15)⟩
  have nf1 : fc_1 PRD (20, [0], [50, 3, 0, 12, 11, 15, 2, 21, 4, 7, 1, 3, 2, 0, 12, 0, 1, 0, 3, 2, 0, 11, 4, 3, 2, 0, 15, 0, 8, 3, 7, 1, 3, 2, 0, 12, 0, 0, 0, 7, 4, 3, 2, 0, 15, 0, 1, 2, 0, 11]) ws (vs) := ⟨nf_in hl rfl, sgq_1398 (vc_Mo_groupItem_at_k0_18_1 (w_fi ws (n_v vs 0) 5) (w_fi ws (n_v vs 0) 15) (w_fi ws (n_v vs 0) 11) (w_fi ws (n_v vs 0) 12) f8 kz_0_11 kz_0_12 kz_0_15)⟩
  have nf2 : fc_1 PRD (20, [3, 0], [30, 0, 1, 0, 0, -1, 1, 11]) ws (vs) := ⟨nf_in hl rfl, sgq_1395 (vc_Mo_groupItem_at_k0_18_2 (v_iv (n_v vs 3)) (v_iv (n_v vs 12)) (w_fi ws (n_v vs 0) 5) (w_fi ws (n_v vs 0) 11) k3 k12 (shm_7 f0) (shm_22 f1) f9 kz_0_11)⟩
  have nf3 : fc_1 PRD (20, [0, 3], [50, 2, 0, 8, 11, 3, 7, 0, 2, 0, 1, 2, 0, 8, 0, 6, 4, 2, 1, 1, 0, 1, 2, 0, 11]) ws (vs) := ⟨nf_in hl rfl, sgq_1659 (vc_Mo_groupItem_at_k0_18_3 (v_iv (n_v vs 3)) (v_iv (n_v vs 12)) (w_fi ws (n_v vs 0) 5) (w_fi ws (n_v vs 0) 11) (w_fi ws (n_v vs 0) 8) k3 k12 (shm_7 f0) (shm_22 f1) f9 f10 kz_0_8 kz_0_11)⟩
  have nf4 : fc_1 PRD (20, [1, 0], [50, 1, 1, 1005, 1002, 0, 6, 4, 2, 1, 0, 0, 1, 3, 1, 2, 4, 3, 2, 1, 5, 0, 2]) ws (vs) := ⟨nf_in hl rfl, sgq_981 (vc_Mo_groupItem_at_k0_18_4 (v_iv (n_v vs 1)) (v_iv (n_v vs 7)) (w_ei ws (w_ar ws (n_v vs 0) 2)) (w_fi ws (n_v vs 0) 5) k1 k7 f2 f3)⟩
  have nf5 : fc_1 PRD (20, [0], [60, 1, 3, 199, 5, 2, 3, 4]) ws (vs) := ⟨nf_in hl rfl, sgq_952 (vc_Mo_groupItem_at_k0_18_5 (w_ei ws (w_ar ws (n_v vs 0) 2)) (w_fi ws (n_v vs 0) 5) (w_ei ws (w_ar ws (n_v vs 0) 3)) (w_ei ws (w_ar ws (n_v vs 0) 4)) f4)⟩
  refine ⟨(fun _ h => (by cases h)), [], trivial, ?_, (fun _ h => (by cases h))⟩
  rw [List.append_nil]
  exact List.forall_mem_cons.mpr ⟨⟨show (20 : Nat) < 100 from by decide, nf0⟩, List.forall_mem_cons.mpr ⟨⟨show (20 : Nat) < 100 from by decide, nf1⟩, List.forall_mem_cons.mpr ⟨⟨show (20 : Nat) < 100 from by decide, nf2⟩, List.forall_mem_cons.mpr ⟨⟨show (20 : Nat) < 100 from by decide, nf3⟩, List.forall_mem_cons.mpr ⟨⟨show (20 : Nat) < 100 from by decide, nf4⟩, List.forall_mem_cons.mpr ⟨⟨show (20 : Nat) < 100 from by decide, nf5⟩, (fun _ h => (by cases h))⟩⟩⟩⟩⟩⟩

set_option maxHeartbeats 4000000 in
theorem vc_Mo_groupItem_at_k0_19_0 (x13 : Int) (from_0 : Int) (pos_0 : Int) (r_0 : Int) (f5 : 1 * from_0 + ((-1) * pos_0 + 0) ≤ 0) (kz_0_11 : 0 ≤ pos_0 ∧ pos_0 ≤ 2000) (kz_0_15 : 0 ≤ from_0 ∧ from_0 ≤ 2000) : 1 * from_0 + ((-1) * pos_0 + 0) ≤ 0 := by
  first
    | omega
    | (have q1 := (hE_0_2_1 (r_0 + 2) (by omega)).2 (by omega)
       have q2 := (hE_0_2_2 (r_0 + 2) (by omega)).2 (by omega)
       omega)
    | (have q1 := (hE_0_2_1 (r_0 + 1) (by omega)).2 (by omega)
       have q2 := (hE_0_2_2 (r_0 + 1) (by omega)).2 (by omega)
       omega)
    | (have q1 := (hE_0_2_1 (r_0 + 2) (by omega)).2 (by omega)
       omega)
    | (have q1 := (hE_0_2_1 (r_0 + 1) (by omega)).2 (by omega)
       omega)
    | (have q1 := (hE_0_2_1 (r_0 + 2) (by omega)).2 (by omega)
       have q2 := (hE_0_2_2 (r_0 + 2) (by omega)).2 (by omega)
       have q3 := (hE_0_2_3 (r_0 + 2) (by omega)).1 (by omega)
       omega)
    | (have q1 := (hE_0_2_1 (r_0 + 2) (by omega)).2 (by omega)
       have q2 := (hE_0_2_2 (r_0 + 2) (by omega)).2 (by omega)
       have q3 := (hE_0_2_3 (r_0 + 2) (by omega)).2 (by omega)
       omega)
    | (have q1 := (hE_0_2_1 (r_0 + 2) (by omega)).2 (by omega)
       have q2 := (hE_0_2_2 (r_0 + 2) (by omega)).2 (by omega)
       have q3 := (hE_0_2_3 (r_0 + 2) (by omega)).1 (by omega)
       have q4 : x13 = r_0 + 2 := by omega
       rw [q4] at h34
       omega)
set_option maxHeartbeats 4000000 in
theorem vc_Mo_groupItem_at_k0_19_1 (x13 : Int) (kind_0 : Int) (from_0 : Int) (pos_0 : Int) (r_0 : Int) (f6 : ((kind_0 = 1) → (pos_0 ≤ (from_0 + 8))) ∧ ((kind_0 = 0) ∨ ((from_0 + 1) ≤ pos_0))) (kz_0_11 : 0 ≤ pos_0 ∧ pos_0 ≤ 2000) (kz_0_12 : 0 ≤ kind_0 ∧ kind_0 ≤ 4) (kz_0_15 : 0 ≤ from_0 ∧ from_0 ≤ 2000) : ((kind_0 = 1) → (pos_0 ≤ (from_0 + 8))) ∧ ((kind_0 = 0) ∨ ((from_0 + 1) ≤ pos_0)) := by
  first
    | omega
    | (have q1 := (hE_0_2_1 (r_0 + 2) (by omega)).2 (by omega)
       have q2 := (hE_0_2_2 (r_0 + 2) (by omega)).2 (by omega)
       omega)
    | (have q1 := (hE_0_2_1 (r_0 + 1) (by omega)).2 (by omega)
       have q2 := (hE_0_2_2 (r_0 + 1) (by omega)).2 (by omega)
       omega)
    | (have q1 := (hE_0_2_1 (r_0 + 2) (by omega)).2 (by omega)
       omega)
    | (have q1 := (hE_0_2_1 (r_0 + 1) (by omega)).2 (by omega)
       omega)
    | (have q1 := (hE_0_2_1 (r_0 + 2) (by omega)).2 (by omega)
       have q2 := (hE_0_2_2 (r_0 + 2) (by omega)).2 (by omega)
       have q3 := (hE_0_2_3 (r_0 + 2) (by omega)).1 (by omega)
       omega)
    | (have q1 := (hE_0_2_1 (r_0 + 2) (by omega)).2 (by omega)
       have q2 := (hE_0_2_2 (r_0 + 2) (by omega)).2 (by omega)
       have q3 := (hE_0_2_3 (r_0 + 2) (by omega)).2 (by omega)
       omega)
    | (have q1 := (hE_0_2_1 (r_0 + 2) (by omega)).2 (by omega)
       have q2 := (hE_0_2_2 (r_0 + 2) (by omega)).2 (by omega)
       have q3 := (hE_0_2_3 (r_0 + 2) (by omega)).1 (by omega)
       have q4 : x13 = r_0 + 2 := by omega
       rw [q4] at h34
       omega)
