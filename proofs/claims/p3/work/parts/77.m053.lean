
set_option maxHeartbeats 4000000 in
theorem vc_Fa_learnTurned_9_0 (x6 : Int) (nodes_0o1 : Int) (gx : Int) (k6 : 0 ≤ x6 ∧ x6 ≤ 24) (g0 : x6 = nodes_0o1) (kz_1_0 : 0 ≤ nodes_0o1 ∧ nodes_0o1 ≤ 24) (ex2 : gx = x6) : 1 * gx + ((-1) * x6 + 0) ≤ 0 := by
  first
    | omega
    | assumption
  
set_option maxHeartbeats 4000000 in
theorem vc_Fa_learnTurned_9_1 (x6 : Int) (nodes_0o1 : Int) (gx : Int) (k6 : 0 ≤ x6 ∧ x6 ≤ 24) (g0 : x6 = nodes_0o1) (kz_1_0 : 0 ≤ nodes_0o1 ∧ nodes_0o1 ≤ 24) (ex2 : gx = x6) : (-1) * gx + (1 * x6 + 0) ≤ 0 := by
  first
    | omega
    | assumption
  
set_option maxHeartbeats 4000000 in
theorem vc_Fa_learnTurned_9_2 (x5 : Int) (gy : Int) (k5 : 0 ≤ x5 ∧ x5 ≤ 23) (ey2 : gy = x5) : 1 * gy + ((-1) * x5 + 0) ≤ 0 := by
  first
    | omega
    | assumption
  
set_option maxHeartbeats 4000000 in
theorem vc_Fa_learnTurned_9_3 (x5 : Int) (gy : Int) (k5 : 0 ≤ x5 ∧ x5 ≤ 23) (ey2 : gy = x5) : (-1) * gy + (1 * x5 + 0) ≤ 0 := by
  first
    | omega
    | assumption
  
set_option maxHeartbeats 4000000 in
theorem vc_Fa_learnTurned_9_4 (x5 : Int) (x6 : Int) (x7 : Int) (nodes_0o1 : Int) (loop_0 : Int → Int) (member_0 : Int → Int) (gx : Int) (k5 : 0 ≤ x5 ∧ x5 ≤ 23) (k6 : 0 ≤ x6 ∧ x6 ≤ 24) (k7 : 8 ≤ x7 ∧ x7 ≤ 24) (g0 : x6 = nodes_0o1) (f12 : MGI (loop_0) (member_0) (x5) (x6) (x7)) (kz_1_0 : 0 ≤ nodes_0o1 ∧ nodes_0o1 ≤ 24) (ex2 : gx = x6) : MGD (member_0) (x7) := by
  exact mgd_of ‹MGI _ _ _ _ _› (by omega)
set_option maxHeartbeats 4000000 in
theorem vc_Fa_learnTurned_9_5 (x5 : Int) (x6 : Int) (x7 : Int) (nodes_0o1 : Int) (loop_0 : Int → Int) (rank_0 : Int → Int) (member_0 : Int → Int) (gx : Int) (gy : Int) (k5 : 0 ≤ x5 ∧ x5 ≤ 23) (k6 : 0 ≤ x6 ∧ x6 ≤ 24) (k7 : 8 ≤ x7 ∧ x7 ≤ 24) (g0 : x6 = nodes_0o1) (f8 : RKL (nodes_0o1) (loop_0) (rank_0) (x5)) (f12 : MGI (loop_0) (member_0) (x5) (x6) (x7)) (kz_1_0 : 0 ≤ nodes_0o1 ∧ nodes_0o1 ≤ 24) (ex2 : gx = x6) (ey2 : gy = x5) : RKM (rank_0) (loop_0) (member_0) (gx) (gy) (x7) := by
  first
    | assumption
    | exact rkm_of1 ‹RKL _ _ _ _› ‹MGI _ _ _ _ _› (by omega) (by omega)
  
set_option maxHeartbeats 4000000 in
theorem vc_Fa_learnTurned_9_6 (x6 : Int) (nodes_0o1 : Int) (gx : Int) (k6 : 0 ≤ x6 ∧ x6 ≤ 24) (g0 : x6 = nodes_0o1) (kz_1_0 : 0 ≤ nodes_0o1 ∧ nodes_0o1 ≤ 24) (ex2 : gx = x6) : gx = nodes_0o1 := by
  first
    | omega
    | assumption
  
set_option maxHeartbeats 4000000 in
theorem vc_Fa_learnTurned_9_7 (x5 : Int) (gy : Int) (k5 : 0 ≤ x5 ∧ x5 ≤ 23) (ey2 : gy = x5) : gy = x5 := by
  first
    | omega
    | assumption
  
def o_Fa_learnTurned_9 : or_T := (88, 9, [(1, (2, 0, 0, [3])), (5, (0, 0, 23, [])), (6, (0, 0, 24, [])), (7, (0, 8, 24, []))], [(9, [6, 3], [0]), (20, [2, 3, 5], [60, 1, 2, 728, 1000, 11, 12]), (24, [0, 2], []), (24, [1, 3], []), (20, [2, 5, 6, 7], [60, 0, 2, 569, 11, 13])], [], [(0, 0, 24, []), (0, 0, 24, [])], [(23, [9, 6], [0, 1, -1]), (23, [9, 6], [0, -1, 1]), (23, [10, 5], [0, 1, -1]), (23, [10, 5], [0, -1, 1]), (20, [2, 7], [60, 0, 1, 570, 13]), (20, [2, 9, 10, 7], [60, 0, 3, 716, 12, 11, 13]), (20, [9, 3], [50, 1, 0, 1000, 1, 2, 1, 0, 2, 1, 0]), (20, [10, 5], [50, 0, 0, 1, 2, 1, 0, 1, 1])], [], [(5, 4, -4294967296, -1), (5, 4, -4294967296, 0)])
theorem oo_Fa_learnTurned_9 {kA : Nat → ClassId} : or_ok PRD kA GG o_Fa_learnTurned_9 := by
  refine or_mk fun A ta ws vs hD hth hl => ?_
  intro t1 r1 t5 k5 t6 k6 t7 k7 d0 d1 f0 f8 f10 f11 f12
  replace f0 := shm_163 f0
  replace f8 := shm_1903 f8
  replace f10 := shm_5 f10
  replace f11 := shm_5 f11
  replace f12 := shm_359 f12
  have q2 : n_v vs 2 = n_v vs 0 := f10.symm
  have q3 : n_v vs 3 = n_v vs 1 := f11.symm
  simp only [q3, q2] at f0 f8 f12
  have g0 : v_iv (n_v vs 6) = w_fi ws (n_v vs 1) 0 := congrArg v_iv f0
  have kz_1_0 := fdq_21 hD hth r1
  obtain ⟨x, ex, hx⟩ := iv_ex (ta := ta) (lo := 0) (hi := 24) (z := v_iv (n_v vs 6)) (by omega) (by omega) (by omega) (by omega)
  have ex2 : v_iv (Value.int x) = v_iv (n_v vs 6) := ex
  have ex3 : 0 ≤ v_iv (Value.int x) ∧ v_iv (Value.int x) ≤ 24 := tv_rng hx
  obtain ⟨y, ey, hy⟩ := iv_ex (ta := ta) (lo := 0) (hi := 24) (z := v_iv (n_v vs 5)) (by omega) (by omega) (by omega) (by omega)
  have ey2 : v_iv (Value.int y) = v_iv (n_v vs 5) := ey
  have ey3 : 0 ≤ v_iv (Value.int y) ∧ v_iv (Value.int y) ≤ 24 := tv_rng hy
  have e_2 : n_v (vs ++ [Value.int x, Value.int y]) 2 = n_v vs 2 := n_v_old (by rw [hl]; decide)
  have e_3 : n_v (vs ++ [Value.int x, Value.int y]) 3 = n_v vs 3 := n_v_old (by rw [hl]; decide)
  have e_5 : n_v (vs ++ [Value.int x, Value.int y]) 5 = n_v vs 5 := n_v_old (by rw [hl]; decide)
  have e_6 : n_v (vs ++ [Value.int x, Value.int y]) 6 = n_v vs 6 := n_v_old (by rw [hl]; decide)
  have e_7 : n_v (vs ++ [Value.int x, Value.int y]) 7 = n_v vs 7 := n_v_old (by rw [hl]; decide)
  have e_9 : n_v (vs ++ [Value.int x, Value.int y]) 9 = Value.int x := n_v_new0 hl
  have e_10 : n_v (vs ++ [Value.int x, Value.int y]) 10 = Value.int y := n_v_new1 hl
  have nf0 : fc_1 PRD (23, [9, 6], [0, 1, -1]) ws (vs ++ [Value.int x, Value.int y]) := by
    refine ⟨nf_inA hl rfl, sgq_7 ?_⟩
    · show 1 * v_iv (n_v (vs ++ [Value.int x, Value.int y]) 9) + ((-1) * v_iv (n_v (vs ++ [Value.int x, Value.int y]) 6) + 0) ≤ 0
      simp only [e_6, e_9]
      exact vc_Fa_learnTurned_9_0 (v_iv (n_v vs 6)) (w_fi ws (n_v vs 1) 0) (v_iv (Value.int x)) k6 g0 kz_1_0 ex2
  have nf1 : fc_1 PRD (23, [9, 6], [0, -1, 1]) ws (vs ++ [Value.int x, Value.int y]) := by
    refine ⟨nf_inA hl rfl, sgq_22 ?_⟩
    · show (-1) * v_iv (n_v (vs ++ [Value.int x, Value.int y]) 9) + (1 * v_iv (n_v (vs ++ [Value.int x, Value.int y]) 6) + 0) ≤ 0
      simp only [e_6, e_9]
      exact vc_Fa_learnTurned_9_1 (v_iv (n_v vs 6)) (w_fi ws (n_v vs 1) 0) (v_iv (Value.int x)) k6 g0 kz_1_0 ex2
  have nf2 : fc_1 PRD (23, [10, 5], [0, 1, -1]) ws (vs ++ [Value.int x, Value.int y]) := by
    refine ⟨nf_inA hl rfl, sgq_7 ?_⟩
    · show 1 * v_iv (n_v (vs ++ [Value.int x, Value.int y]) 10) + ((-1) * v_iv (n_v (vs ++ [Value.int x, Value.int y]) 5) + 0) ≤ 0
      simp only [e_5, e_10]
      exact vc_Fa_learnTurned_9_2 (v_iv (n_v vs 5)) (v_iv (Value.int y)) k5 ey2
  have nf3 : fc_1 PRD (23, [10, 5], [0, -1, 1]) ws (vs ++ [Value.int x, Value.int y]) := by
    refine ⟨nf_inA hl rfl, sgq_22 ?_⟩
    · show (-1) * v_iv (n_v (vs ++ [Value.int x, Value.int y]) 10) + (1 * v_iv (n_v (vs ++ [Value.int x, Value.int y]) 5) + 0) ≤ 0
      simp only [e_5, e_10]
      exact vc_Fa_learnTurned_9_3 (v_iv (n_v vs 5)) (v_iv (Value.int y)) k5 ey2
  have nf4 : fc_1 PRD (20, [2, 7], [60, 0, 1, 570, 13]) ws (vs ++ [Value.int x, Value.int y]) := by
    refine ⟨nf_inA hl rfl, sgq_1345 ?_⟩
    · show MGD (w_ei ws (w_ar ws (n_v (vs ++ [Value.int x, Value.int y]) 2) 13)) (v_iv (n_v (vs ++ [Value.int x, Value.int y]) 7))
      simp only [e_2, e_7, q2]
      exact vc_Fa_learnTurned_9_4 (v_iv (n_v vs 5)) (v_iv (n_v vs 6)) (v_iv (n_v vs 7)) (w_fi ws (n_v vs 1) 0) (w_ei ws (w_ar ws (n_v vs 0) 11)) (w_ei ws (w_ar ws (n_v vs 0) 13)) (v_iv (Value.int x)) k5 k6 k7 g0 f12 kz_1_0 ex2
  have nf5 : fc_1 PRD (20, [2, 9, 10, 7], [60, 0, 3, 716, 12, 11, 13]) ws (vs ++ [Value.int x, Value.int y]) := by
    refine ⟨nf_inA hl rfl, sgq_1346 ?_⟩
    · show RKM (w_ei ws (w_ar ws (n_v (vs ++ [Value.int x, Value.int y]) 2) 12)) (w_ei ws (w_ar ws (n_v (vs ++ [Value.int x, Value.int y]) 2) 11)) (w_ei ws (w_ar ws (n_v (vs ++ [Value.int x, Value.int y]) 2) 13)) (v_iv (n_v (vs ++ [Value.int x, Value.int y]) 9)) (v_iv (n_v (vs ++ [Value.int x, Value.int y]) 10)) (v_iv (n_v (vs ++ [Value.int x, Value.int y]) 7))
      simp only [e_2, e_7, e_9, e_10, q2]
      exact vc_Fa_learnTurned_9_5 (v_iv (n_v vs 5)) (v_iv (n_v vs 6)) (v_iv (n_v vs 7)) (w_fi ws (n_v vs 1) 0) (w_ei ws (w_ar ws (n_v vs 0) 11)) (w_ei ws (w_ar ws (n_v vs 0) 12)) (w_ei ws (w_ar ws (n_v vs 0) 13)) (v_iv (Value.int x)) (v_iv (Value.int y)) k5 k6 k7 g0 f8 f12 kz_1_0 ex2 ey2
  have nf6 : fc_1 PRD (20, [9, 3], [50, 1, 0, 1000, 1, 2, 1, 0, 2, 1, 0]) ws (vs ++ [Value.int x, Value.int y]) := by
    refine ⟨nf_inA hl rfl, sgq_836 ?_⟩
    · show v_iv (n_v (vs ++ [Value.int x, Value.int y]) 9) = w_fi ws (n_v (vs ++ [Value.int x, Value.int y]) 3) 0
      simp only [e_3, e_9, q3]
      exact vc_Fa_learnTurned_9_6 (v_iv (n_v vs 6)) (w_fi ws (n_v vs 1) 0) (v_iv (Value.int x)) k6 g0 kz_1_0 ex2
  have nf7 : fc_1 PRD (20, [10, 5], [50, 0, 0, 1, 2, 1, 0, 1, 1]) ws (vs ++ [Value.int x, Value.int y]) := by
    refine ⟨nf_inA hl rfl, sgq_48 ?_⟩
    · show v_iv (n_v (vs ++ [Value.int x, Value.int y]) 10) = v_iv (n_v (vs ++ [Value.int x, Value.int y]) 5)
      simp only [e_5, e_10]
      exact vc_Fa_learnTurned_9_7 (v_iv (n_v vs 5)) (v_iv (Value.int y)) k5 ey2
  exact ⟨(fun _ h => (by cases h)), [Value.int x, Value.int y], ag_two hx hy, List.forall_mem_cons.mpr ⟨⟨show (23 : Nat) < 100 from by decide, nf0⟩, List.forall_mem_cons.mpr ⟨⟨show (23 : Nat) < 100 from by decide, nf1⟩, List.forall_mem_cons.mpr ⟨⟨show (23 : Nat) < 100 from by decide, nf2⟩, List.forall_mem_cons.mpr ⟨⟨show (23 : Nat) < 100 from by decide, nf3⟩, List.forall_mem_cons.mpr ⟨⟨show (20 : Nat) < 100 from by decide, nf4⟩, List.forall_mem_cons.mpr ⟨⟨show (20 : Nat) < 100 from by decide, nf5⟩, List.forall_mem_cons.mpr ⟨⟨show (20 : Nat) < 100 from by decide, nf6⟩, List.forall_mem_cons.mpr ⟨⟨show (20 : Nat) < 100 from by decide, nf7⟩, (fun _ h => (by cases h))⟩⟩⟩⟩⟩⟩⟩⟩, (fun _ h => (by cases h))⟩
set_option maxHeartbeats 4000000 in
theorem vc_Fa_learnTurned_10_0 (x5 : Int) (x6 : Int) (x7 : Int) (x9 : Int) (x10 : Int) (x11 : Int) (nodes_0o1 : Int) (member_0 : Int → Int) (loop_0 : Int → Int) (rank_0 : Int → Int) (k5 : 0 ≤ x5 ∧ x5 ≤ 23) (k6 : 0 ≤ x6 ∧ x6 ≤ 24) (k7 : 8 ≤ x7 ∧ x7 ≤ 24) (k9 : 0 ≤ x9 ∧ x9 ≤ 24) (k10 : 0 ≤ x10 ∧ x10 ≤ 24) (k11 : 1 ≤ x11 ∧ x11 ≤ 24) (f1 : x11 = x5 + 1) (f7 : x9 = nodes_0o1) (f8 : x10 = x5) (f9 : x6 = nodes_0o1) (f18 : MGI (loop_0) (member_0) (x5) (x6) (x7)) (f19 : ORE (rank_0) (member_0) (x7)) (f20 : RKM (rank_0) (loop_0) (member_0) (x9) (x10) (x7)) (kz_1_0 : 0 ≤ nodes_0o1 ∧ nodes_0o1 ≤ 24) : RKL (nodes_0o1) (loop_0) (rank_0) (x11) := by
  first
    | assumption
    | exact rkl_start (by omega) (fun v a b => (‹NBR _ _ _› v a (by omega)).1)
    | exact rkl_next1 ‹RKM _ _ _ _ _ _› ‹MGI _ _ _ _ _› ‹ORE _ _ _› (by omega) (by omega) (by omega) (by omega)
    | exact rkl_one1 ‹RKL _ _ _ _› ‹MGI _ _ _ _ _› (by omega) (by omega) (by omega)
  
set_option maxHeartbeats 4000000 in
theorem vc_Fa_learnTurned_10_1 (x4 : Int) (x5 : Int) (x11 : Int) (k4 : 1 ≤ x4 ∧ x4 ≤ 24) (k5 : 0 ≤ x5 ∧ x5 ≤ 23) (k11 : 1 ≤ x11 ∧ x11 ≤ 24) (d0 : x5 + 1 ≤ x11 ∧ x11 ≤ x5 + 1) (d1 : x4 + (-4294967296) ≤ x11 ∧ x11 ≤ x4 + 0) (d3 : x4 + (-4294967296) ≤ x5 ∧ x5 ≤ x4 + (-1)) : x11 ≤ x4 := by
  first
    | omega
    | assumption
  
def o_Fa_learnTurned_10 : or_T := (61, 12, [(0, (2, 0, 0, [2])), (1, (2, 0, 0, [3])), (2, (2, 0, 0, [2])), (3, (2, 0, 0, [3])), (4, (0, 1, 24, [])), (5, (0, 0, 23, [])), (6, (0, 0, 24, [])), (7, (0, 8, 24, [])), (8, (0, 7, 7, [])), (9, (0, 0, 24, [])), (10, (0, 0, 24, [])), (11, (0, 1, 24, []))], [(9, [6, 3], [0]), (6, [11, 5], [1]), (23, [9, 6], [0, 1, -1]), (23, [9, 6], [0, -1, 1]), (23, [10, 5], [0, 1, -1]), (23, [10, 5], [0, -1, 1]), (20, [2, 7], [60, 0, 1, 570, 13]), (20, [9, 3], [50, 1, 0, 1000, 1, 2, 1, 0, 2, 1, 0]), (20, [10, 5], [50, 0, 0, 1, 2, 1, 0, 1, 1]), (20, [6, 3], [50, 1, 0, 1000, 1, 2, 1, 0, 2, 1, 0]), (20, [2, 3], [60, 1, 1, 727, 1000, 10]), (20, [2, 3], [60, 1, 2, 725, 1000, 10, 11]), (20, [2, 3], [60, 1, 3, 719, 1001, 10, 1007, 1008]), (20, [3], [60, 2, 2, 596, 0, 1, 7, 8]), (20, [2, 3, 4], [60, 1, 1, 726, 1000, 11]), (20, [5, 4], [50, 0, 0, 0, 2, 1, 0, 1, 1]), (24, [0, 2], []), (24, [1, 3], []), (20, [2, 5, 6, 7], [60, 0, 2, 569, 11, 13]), (20, [2, 7], [60, 0, 2, 573, 12, 13]), (20, [2, 9, 10, 7], [60, 0, 3, 716, 12, 11, 13]), (102, [10], [35184372088832]), (23, [9, 6], [0, 1, -1]), (23, [9, 6], [0, -1, 1]), (23, [10, 5], [0, 1, -1]), (23, [10, 5], [0, -1, 1]), (7, [7, 8], [4]), (102, [6], [70368744177664]), (7, [5, 4], [2])], [], [], [(20, [2, 3, 11], [60, 1, 2, 728, 1000, 11, 12]), (20, [11, 4], [50, 0, 0, 0, 2, 1, 0, 1, 1])], [], [(11, 5, 1, 1), (11, 4, -4294967296, 0), (11, 4, -4294967296, 1), (5, 4, -4294967296, -1), (5, 4, -4294967296, 0)])
theorem oo_Fa_learnTurned_10 {kA : Nat → ClassId} : or_ok PRD kA GG o_Fa_learnTurned_10 := by
  refine or_mk fun A ta ws vs hD hth hl => ?_
  intro t0 r0 t1 r1 t2 r2 t3 r3 t4 k4 t5 k5 t6 k6 t7 k7 t8 k8 t9 k9 t10 k10 t11 k11 d0 d1 d2 d3 d4 f0 f1 f2 f3 f4 f5 f6 f7 f8 f9 f10 f11 f12 f13 f14 f15 f16 f17 f18 f19 f20 ta1 w1 le1 s1 f22 f23 f24 f25 f26 ta2 w2 le2 s2 f28
  replace f1 := shm_4 f1
  replace f7 := shm_836 f7
  replace f8 := shm_48 f8
  replace f9 := shm_836 f9
  replace f16 := shm_5 f16
  replace f17 := shm_5 f17
  replace f18 := shm_359 f18
  replace f19 := shm_1351 f19
  replace f20 := shm_1346 f20
  have q2 : n_v vs 2 = n_v vs 0 := f16.symm
  have q3 : n_v vs 3 = n_v vs 1 := f17.symm
  simp only [q3, q2] at f7 f9 f18 f19 f20
  have kz_1_0 := fdq_21 hD hth r1
  have nf0 : fc_1 PRD (20, [2, 3, 11], [60, 1, 2, 728, 1000, 11, 12]) ws (vs) := by
    refine ⟨nf_in hl rfl, sgq_1903 ?_⟩
    · show RKL (w_fi ws (n_v vs 3) 0) (w_ei ws (w_ar ws (n_v vs 2) 11)) (w_ei ws (w_ar ws (n_v vs 2) 12)) (v_iv (n_v vs 11))
      simp only [q2, q3]
      exact vc_Fa_learnTurned_10_0 (v_iv (n_v vs 5)) (v_iv (n_v vs 6)) (v_iv (n_v vs 7)) (v_iv (n_v vs 9)) (v_iv (n_v vs 10)) (v_iv (n_v vs 11)) (w_fi ws (n_v vs 1) 0) (w_ei ws (w_ar ws (n_v vs 0) 13)) (w_ei ws (w_ar ws (n_v vs 0) 11)) (w_ei ws (w_ar ws (n_v vs 0) 12)) k5 k6 k7 k9 k10 k11 f1 f7 f8 f9 f18 f19 f20 kz_1_0
  have nf1 : fc_1 PRD (20, [11, 4], [50, 0, 0, 0, 2, 1, 0, 1, 1]) ws (vs) := ⟨nf_in hl rfl, sgq_360 (vc_Fa_learnTurned_10_1 (v_iv (n_v vs 4)) (v_iv (n_v vs 5)) (v_iv (n_v vs 11)) k4 k5 k11 d0 d1 d3)⟩
  refine ⟨(fun _ h => (by cases h)), [], trivial, ?_, (fun _ h => (by cases h))⟩
  rw [List.append_nil]
  exact List.forall_mem_cons.mpr ⟨⟨show (20 : Nat) < 100 from by decide, nf0⟩, List.forall_mem_cons.mpr ⟨⟨show (20 : Nat) < 100 from by decide, nf1⟩, (fun _ h => (by cases h))⟩⟩
set_option maxHeartbeats 4000000 in
theorem vc_Fa_learnTurned_11_0 (x5 : Int) (x6 : Int) (edges_0o1 : Int) (reach_0 : Int → Int) (nodes_0o1 : Int) (loop_0 : Int → Int) (tail_0o1 : Int → Int) (head_0o1 : Int → Int) (rank_0 : Int → Int) (turned_0 : Int → Int) (k5 : 0 ≤ x5 ∧ x5 ≤ 48) (k6 : 0 ≤ x6 ∧ x6 ≤ 48) (d0 : x6 + 0 ≤ x5 ∧ x5 ≤ x6 + 4294967296) (g1 : x6 = edges_0o1) (f2 : WKG (nodes_0o1) (reach_0)) (f3 : NBL (nodes_0o1) (reach_0) (loop_0)) (f4 : ERC (edges_0o1) (reach_0) (tail_0o1) (head_0o1)) (f5 : GKE (nodes_0o1) (edges_0o1) (tail_0o1) (head_0o1)) (f6 : RKP (nodes_0o1) (loop_0) (rank_0)) (f7 : TUJ (loop_0) (rank_0) (turned_0) (tail_0o1) (head_0o1) (x5)) (f8 : x5 ≤ edges_0o1) (hK_0_12 : ∀ j : Int, 0 ≤ j → j < 24 → 0 ≤ rank_0 j ∧ rank_0 j ≤ 23) (kz_1_0 : 0 ≤ nodes_0o1 ∧ nodes_0o1 ≤ 24) (kz_1_1 : 0 ≤ edges_0o1 ∧ edges_0o1 ≤ 48) : TPO (edges_0o1) (tail_0o1) (head_0o1) (turned_0) := by
  first
    | assumption
    | exact tpo_all ‹GKE _ _ _ _› (by omega) ‹WKG _ _› ‹ERC _ _ _ _› ‹NBL _ _ _› ‹RKP _ _ _› (by assumption) ‹TUJ _ _ _ _ _ _› (by omega)
  
def o_Fa_learnTurned_11 : or_T := (190, 7, [(0, (2, 0, 0, [2])), (1, (2, 0, 0, [3])), (5, (0, 0, 48, [])), (6, (0, 0, 48, []))], [(9, [6, 3], [1]), (20, [2, 3], [60, 1, 1, 727, 1000, 10]), (20, [2, 3], [60, 1, 2, 725, 1000, 10, 11]), (20, [2, 3], [60, 1, 3, 719, 1001, 10, 1007, 1008]), (20, [3], [60, 2, 2, 596, 0, 1, 7, 8]), (20, [2, 3], [60, 1, 2, 729, 1000, 11, 12]), (20, [2, 3, 5], [60, 0, 5, 730, 11, 12, 9, 1007, 1008]), (20, [5, 3], [50, 1, 0, 1001, 0, 2, 1, 0, 2, 1, 1]), (24, [0, 2], []), (24, [1, 3], [])], [], [], [(20, [1, 0], [60, 1, 3, 658, 1, 7, 8, 1009])], [], [(5, 6, 0, 4294967296)])
theorem oo_Fa_learnTurned_11 {kA : Nat → ClassId} : or_ok PRD kA GG o_Fa_learnTurned_11 := by
  refine or_mk fun A ta ws vs hD hth hl => ?_
  intro t0 r0 t1 r1 t5 k5 t6 k6 d0 f1 f2 f3 f4 f5 f6 f7 f8 f9 f10
  replace f1 := shm_215 f1
  replace f2 := shm_1900 f2
  replace f3 := shm_1901 f3
  replace f4 := shm_811 f4
  replace f5 := shm_386 f5
  replace f6 := shm_1904 f6
  replace f7 := shm_1905 f7
  replace f8 := shm_483 f8
  replace f9 := shm_5 f9
  replace f10 := shm_5 f10
  have q2 : n_v vs 2 = n_v vs 0 := f9.symm
  have q3 : n_v vs 3 = n_v vs 1 := f10.symm
  simp only [q3, q2] at f1 f2 f3 f4 f5 f6 f7 f8
  have cr_0_12 := fdq_287 hD hth r0
  have g1 : v_iv (n_v vs 6) = w_fi ws (n_v vs 1) 1 := congrArg v_iv f1
  have hK_0_12 := elq_180 hD hth cr_0_12
  have kz_1_0 := fdq_21 hD hth r1
  have kz_1_1 := fdq_30 hD hth r1
  have nf0 : fc_1 PRD (20, [1, 0], [60, 1, 3, 658, 1, 7, 8, 1009]) ws (vs) := ⟨nf_in hl rfl, sgq_1906 (vc_Fa_learnTurned_11_0 (v_iv (n_v vs 5)) (v_iv (n_v vs 6)) (w_fi ws (n_v vs 1) 1) (w_ei ws (w_ar ws (n_v vs 0) 10)) (w_fi ws (n_v vs 1) 0) (w_ei ws (w_ar ws (n_v vs 0) 11)) (w_ei ws (w_ar ws (n_v vs 1) 7)) (w_ei ws (w_ar ws (n_v vs 1) 8)) (w_ei ws (w_ar ws (n_v vs 0) 12)) (w_ei ws (w_ar ws (n_v vs 0) 9)) k5 k6 d0 g1 f2 f3 f4 f5 f6 f7 f8 hK_0_12 kz_1_0 kz_1_1)⟩
  refine ⟨(fun _ h => (by cases h)), [], trivial, ?_, (fun _ h => (by cases h))⟩
  rw [List.append_nil]
  exact List.forall_mem_cons.mpr ⟨⟨show (20 : Nat) < 100 from by decide, nf0⟩, (fun _ h => (by cases h))⟩
set_option maxHeartbeats 4000000 in
theorem vc_Fa_learnTurned_12_0 (x5 : Int) (x8 : Int) (x10 : Int) (x13 : Int) (x14 : Int) (x15 : Int) (x16 : Int) (edges_0o1 : Int) (reach_0 : Int → Int) (nodes_0o1 : Int) (loop_0 : Int → Int) (tail_0o1 : Int → Int) (head_0o1 : Int → Int) (rank_0 : Int → Int) (loop_1 : Int → Int) (head_1o1 : Int → Int) (tail_1o1 : Int → Int) (reach_1 : Int → Int) (nodes_1o1 : Int) (edges_1o1 : Int) (rank_1 : Int → Int) (turned_1 : Int → Int) (turned_0 : Int → Int) (k5 : 0 ≤ x5 ∧ x5 ≤ 47) (k8 : 0 ≤ x8 ∧ x8 ≤ 23) (k10 : 0 ≤ x10 ∧ x10 ≤ 23) (k13 : (-1) ≤ x13 ∧ x13 ≤ 24) (k14 : (-1) ≤ x14 ∧ x14 ≤ 24) (k15 : 0 ≤ x15 ∧ x15 ≤ 0) (k16 : 1 ≤ x16 ∧ x16 ≤ 48) (f5 : x16 = x5 + 1) (f15 : x13 ≠ x14) (h16 : x14 = loop_1 (x10)) (h17 : x13 = loop_1 (x8)) (h18 : x10 = head_1o1 (x5)) (h19 : x8 = tail_1o1 (x5)) (f26 : TUJ (loop_1) (rank_1) (turned_1) (tail_1o1) (head_1o1) (x5)) (fe_1_0_1 : nodes_0o1 = nodes_1o1) (fe_1_1_1 : edges_0o1 = edges_1o1) (hE_0_9_1 : ∀ j : Int, 0 ≤ j → (j = x5 → turned_0 j = x15) ∧ (j ≠ x5 → turned_0 j = turned_1 j)) (hE_0_10_1 : ∀ j : Int, reach_0 j = reach_1 j) (hE_0_11_1 : ∀ j : Int, loop_0 j = loop_1 j) (hE_0_12_1 : ∀ j : Int, rank_0 j = rank_1 j) (hE_1_7_1 : ∀ j : Int, tail_0o1 j = tail_1o1 j) (hE_1_8_1 : ∀ j : Int, head_0o1 j = head_1o1 j) (kz_1_0 : 0 ≤ nodes_0o1 ∧ nodes_0o1 ≤ 24) (kz_1_1 : 0 ≤ edges_0o1 ∧ edges_0o1 ≤ 48) : TUJ (loop_0) (rank_0) (turned_0) (tail_0o1) (head_0o1) (x16) := by
  subst fe_1_0_1
  subst fe_1_1_1
  have e_hE_0_10_1 := funext hE_0_10_1; subst e_hE_0_10_1
  have e_hE_0_11_1 := funext hE_0_11_1; subst e_hE_0_11_1
  have e_hE_0_12_1 := funext hE_0_12_1; subst e_hE_0_12_1
  have e_hE_1_7_1 := funext hE_1_7_1; subst e_hE_1_7_1
  have e_hE_1_8_1 := funext hE_1_8_1; subst e_hE_1_8_1
  first
    | assumption
    | exact ⟨by omega, fun j a b => by omega⟩
    | exact tui_step (a := x8) (b := x10) (x := x15) (p := x5) ‹TUJ _ _ _ _ _ _› (by assumption) (by assumption) hE_0_9_1 rfl (Or.inr ⟨by omega, fun q => by have := q.1; omega⟩) (by omega)
    | exact tui_step (a := x8) (b := x10) (x := x18) (p := x5) ‹TUJ _ _ _ _ _ _› (by assumption) (by assumption) hE_0_9_1 rfl (Or.inr ⟨by omega, fun q => by have := q.2; omega⟩) (by omega)
    | exact tui_step (a := x8) (b := x10) (x := x18) (p := x5) ‹TUJ _ _ _ _ _ _› (by assumption) (by assumption) hE_0_9_1 rfl (Or.inl ⟨by omega, by omega, by omega⟩) (by omega)
  
set_option maxHeartbeats 4000000 in
theorem vc_Fa_learnTurned_12_1 (x5 : Int) (x6 : Int) (x16 : Int) (edges_0o1 : Int) (reach_0 : Int → Int) (nodes_0o1 : Int) (loop_0 : Int → Int) (tail_0o1 : Int → Int) (head_0o1 : Int → Int) (rank_0 : Int → Int) (loop_1 : Int → Int) (head_1o1 : Int → Int) (tail_1o1 : Int → Int) (reach_1 : Int → Int) (nodes_1o1 : Int) (edges_1o1 : Int) (rank_1 : Int → Int) (k5 : 0 ≤ x5 ∧ x5 ≤ 47) (k6 : 1 ≤ x6 ∧ x6 ≤ 48) (k16 : 1 ≤ x16 ∧ x16 ≤ 48) (d0 : x5 + 1 ≤ x16 ∧ x16 ≤ x5 + 1) (d1 : x6 + (-4294967296) ≤ x16 ∧ x16 ≤ x6 + 0) (d2 : x6 + (-4294967296) ≤ x5 ∧ x5 ≤ x6 + (-1)) (g4 : x6 = edges_0o1) (fe_1_0_1 : nodes_0o1 = nodes_1o1) (fe_1_1_1 : edges_0o1 = edges_1o1) (hE_0_10_1 : ∀ j : Int, reach_0 j = reach_1 j) (hE_0_11_1 : ∀ j : Int, loop_0 j = loop_1 j) (hE_0_12_1 : ∀ j : Int, rank_0 j = rank_1 j) (hE_1_7_1 : ∀ j : Int, tail_0o1 j = tail_1o1 j) (hE_1_8_1 : ∀ j : Int, head_0o1 j = head_1o1 j) (kz_1_0 : 0 ≤ nodes_0o1 ∧ nodes_0o1 ≤ 24) (kz_1_1 : 0 ≤ edges_0o1 ∧ edges_0o1 ≤ 48) : x16 ≤ edges_0o1 := by
  subst fe_1_0_1
  subst fe_1_1_1
  have e_hE_0_10_1 := funext hE_0_10_1; subst e_hE_0_10_1
  have e_hE_0_11_1 := funext hE_0_11_1; subst e_hE_0_11_1
  have e_hE_0_12_1 := funext hE_0_12_1; subst e_hE_0_12_1
  have e_hE_1_7_1 := funext hE_1_7_1; subst e_hE_1_7_1
  have e_hE_1_8_1 := funext hE_1_8_1; subst e_hE_1_8_1
  first
    | omega
    | assumption
  
def o_Fa_learnTurned_12 : or_T := (115, 17, [(0, (2, 0, 0, [2])), (1, (2, 0, 0, [3])), (5, (0, 0, 47, [])), (6, (0, 1, 48, [])), (8, (0, 0, 23, [])), (10, (0, 0, 23, [])), (11, (2, 0, 0, [42])), (13, (0, -1, 24, [])), (14, (0, -1, 24, [])), (15, (0, 0, 0, [])), (16, (0, 1, 48, []))], [(9, [12, 2], [11]), (9, [11, 2], [9]), (9, [9, 3], [8]), (9, [7, 3], [7]), (9, [6, 3], [1]), (6, [16, 5], [1]), (24, [0, 2], []), (24, [1, 3], []), (100, [11, 5, 15], []), (7, [13, 14], [1]), (10, [14, 12, 10], []), (10, [13, 12, 8], []), (10, [10, 9, 5], []), (10, [8, 7, 5], []), (20, [2, 3, 5], [60, 0, 5, 730, 11, 12, 9, 1007, 1008])], [], [], [(20, [2, 3, 16], [60, 0, 5, 730, 11, 12, 9, 1007, 1008]), (20, [16, 3], [50, 1, 0, 1001, 0, 2, 1, 0, 2, 1, 1])], [], [(16, 5, 1, 1), (16, 6, -4294967296, 0), (5, 6, -4294967296, -1)])
theorem oo_Fa_learnTurned_12 {kA : Nat → ClassId} : or_ok PRD kA GG o_Fa_learnTurned_12 := by
  refine or_mk fun A ta ws vs hD hth hl => ?_
  intro t0 r0 t1 r1 t5 k5 t6 k6 t8 k8 t10 k10 t11 r11 t13 k13 t14 k14 t15 k15 t16 k16 d0 d1 d2 f0 f1 f2 f3 f4 f5 f12 f13 ta1 w1 le1 s1 f15 f16 f17 f18 f19 f26
  replace f0 := shm_116 f0
  replace f1 := shm_119 f1
  replace f2 := shm_293 f2
  replace f3 := shm_198 f3
  replace f4 := shm_215 f4
  replace f5 := shm_4 f5
  replace f12 := shm_5 f12
  replace f13 := shm_5 f13
  have s1 : (∀ b j, w_el ws b j = if b = v_ad (n_v vs 11) ∧ j = (v_iv (n_v vs 5)).toNat then v_iv (n_v vs 15) else w_el w1 b j) ∧ ∀ b k, w_fd ws b k = w_fd w1 b k := s1.2
  replace f15 := shm_40 f15
  replace f16 := shm_107 f16
  replace f17 := shm_107 f17
  replace f18 := shm_107 f18
  replace f19 := shm_107 f19
  replace f26 := shm_1905 f26
  have q2 : n_v vs 2 = n_v vs 0 := f12.symm
  have q3 : n_v vs 3 = n_v vs 1 := f13.symm
  simp only [q2, q3] at f0 f1 f2 f3 f4 f26
  have ar_0_9_1 : w_ar w1 (n_v vs 0) 9 = w_ar ws (n_v vs 0) 9 := congrArg v_ad (s1.2 _ _).symm
  have ar_0_10_1 : w_ar w1 (n_v vs 0) 10 = w_ar ws (n_v vs 0) 10 := congrArg v_ad (s1.2 _ _).symm
  have cr_0_10 := fdq_203 hD hth r0
  have ar_0_11_1 : w_ar w1 (n_v vs 0) 11 = w_ar ws (n_v vs 0) 11 := congrArg v_ad (s1.2 _ _).symm
  have cr_0_11 := fdq_63 hD hth r0
  have ar_0_12_1 : w_ar w1 (n_v vs 0) 12 = w_ar ws (n_v vs 0) 12 := congrArg v_ad (s1.2 _ _).symm
  have cr_0_12 := fdq_287 hD hth r0
  have ar_1_7_1 : w_ar w1 (n_v vs 1) 7 = w_ar ws (n_v vs 1) 7 := congrArg v_ad (s1.2 _ _).symm
  have cr_1_7 := fdq_46 hD hth r1
  have ar_1_8_1 : w_ar w1 (n_v vs 1) 8 = w_ar ws (n_v vs 1) 8 := congrArg v_ad (s1.2 _ _).symm
  have cr_1_8 := fdq_47 hD hth r1
  have ad_12 : v_ad (n_v vs 12) = w_ar ws (n_v vs 0) 11 := congrArg v_ad f0
  have ad_11 : v_ad (n_v vs 11) = w_ar ws (n_v vs 0) 9 := congrArg v_ad f1
  have ad_9 : v_ad (n_v vs 9) = w_ar ws (n_v vs 1) 8 := congrArg v_ad f2
  have ad_7 : v_ad (n_v vs 7) = w_ar ws (n_v vs 1) 7 := congrArg v_ad f3
  have g4 : v_iv (n_v vs 6) = w_fi ws (n_v vs 1) 1 := congrArg v_iv f4
  simp only [ad_12] at f16
  have h16 : v_iv (n_v vs 14) = w_ei w1 (w_ar ws (n_v vs 0) 11) (v_iv (n_v vs 10)) := f16
  simp only [ad_12] at f17
  have h17 : v_iv (n_v vs 13) = w_ei w1 (w_ar ws (n_v vs 0) 11) (v_iv (n_v vs 8)) := f17
  simp only [ad_9] at f18
  have h18 : v_iv (n_v vs 10) = w_ei w1 (w_ar ws (n_v vs 1) 8) (v_iv (n_v vs 5)) := f18
  simp only [ad_7] at f19
  have h19 : v_iv (n_v vs 8) = w_ei w1 (w_ar ws (n_v vs 1) 7) (v_iv (n_v vs 5)) := f19
  simp only [ar_0_10_1, ar_0_11_1, ar_1_7_1, ar_1_8_1, ar_0_12_1, ar_0_9_1] at f26
  have fe_1_0_1 : w_fi ws (n_v vs 1) 0 = w_fi w1 (n_v vs 1) 0 := congrArg v_iv (s1.2 _ _)
  have fe_1_1_1 : w_fi ws (n_v vs 1) 1 = w_fi w1 (n_v vs 1) 1 := congrArg v_iv (s1.2 _ _)
  have hE_0_9_1 : ∀ j : Int, 0 ≤ j → (j = v_iv (n_v vs 5) → w_ei ws (w_ar ws (n_v vs 0) 9) j = v_iv (n_v vs 15)) ∧ (j ≠ v_iv (n_v vs 5) → w_ei ws (w_ar ws (n_v vs 0) 9) j = w_ei w1 (w_ar ws (n_v vs 0) 9) j) := fun j hj => ⟨fun h => by unfold w_ei; rw [s1.1, if_pos ⟨ad_11.symm, by rw [h]⟩], fun h => by unfold w_ei; rw [s1.1, if_neg (fun e => h (by have := e.2; omega))]⟩
  have hE_0_10_1 : ∀ j : Int, w_ei ws (w_ar ws (n_v vs 0) 10) j = w_ei w1 (w_ar ws (n_v vs 0) 10) j := el_kp s1.1 r11 cr_0_10 (by decide)
  have hE_0_11_1 : ∀ j : Int, w_ei ws (w_ar ws (n_v vs 0) 11) j = w_ei w1 (w_ar ws (n_v vs 0) 11) j := el_kp s1.1 r11 cr_0_11 (by decide)
  have hE_0_12_1 : ∀ j : Int, w_ei ws (w_ar ws (n_v vs 0) 12) j = w_ei w1 (w_ar ws (n_v vs 0) 12) j := el_kp s1.1 r11 cr_0_12 (by decide)
  have hE_1_7_1 : ∀ j : Int, w_ei ws (w_ar ws (n_v vs 1) 7) j = w_ei w1 (w_ar ws (n_v vs 1) 7) j := el_kp s1.1 r11 cr_1_7 (by decide)
  have hE_1_8_1 : ∀ j : Int, w_ei ws (w_ar ws (n_v vs 1) 8) j = w_ei w1 (w_ar ws (n_v vs 1) 8) j := el_kp s1.1 r11 cr_1_8 (by decide)
  have kz_1_0 := fdq_21 hD hth r1
  have kz_1_1 := fdq_30 hD hth r1
  have nf0 : fc_1 PRD (20, [2, 3, 16], [60, 0, 5, 730, 11, 12, 9, 1007, 1008]) ws (vs) := by
    refine ⟨nf_in hl rfl, sgq_1905 ?_⟩
    · show TUJ (w_ei ws (w_ar ws (n_v vs 2) 11)) (w_ei ws (w_ar ws (n_v vs 2) 12)) (w_ei ws (w_ar ws (n_v vs 2) 9)) (w_ei ws (w_ar ws (n_v vs 3) 7)) (w_ei ws (w_ar ws (n_v vs 3) 8)) (v_iv (n_v vs 16))
      simp only [q2, q3]
      exact vc_Fa_learnTurned_12_0 (v_iv (n_v vs 5)) (v_iv (n_v vs 8)) (v_iv (n_v vs 10)) (v_iv (n_v vs 13)) (v_iv (n_v vs 14)) (v_iv (n_v vs 15)) (v_iv (n_v vs 16)) (w_fi ws (n_v vs 1) 1) (w_ei ws (w_ar ws (n_v vs 0) 10)) (w_fi ws (n_v vs 1) 0) (w_ei ws (w_ar ws (n_v vs 0) 11)) (w_ei ws (w_ar ws (n_v vs 1) 7)) (w_ei ws (w_ar ws (n_v vs 1) 8)) (w_ei ws (w_ar ws (n_v vs 0) 12)) (w_ei w1 (w_ar ws (n_v vs 0) 11)) (w_ei w1 (w_ar ws (n_v vs 1) 8)) (w_ei w1 (w_ar ws (n_v vs 1) 7)) (w_ei w1 (w_ar ws (n_v vs 0) 10)) (w_fi w1 (n_v vs 1) 0) (w_fi w1 (n_v vs 1) 1) (w_ei w1 (w_ar ws (n_v vs 0) 12)) (w_ei w1 (w_ar ws (n_v vs 0) 9)) (w_ei ws (w_ar ws (n_v vs 0) 9)) k5 k8 k10 k13 k14 k15 k16 f5 f15 h16 h17 h18 h19 f26 fe_1_0_1 fe_1_1_1 hE_0_9_1 hE_0_10_1 hE_0_11_1 hE_0_12_1 hE_1_7_1 hE_1_8_1 kz_1_0 kz_1_1
  have nf1 : fc_1 PRD (20, [16, 3], [50, 1, 0, 1001, 0, 2, 1, 0, 2, 1, 1]) ws (vs) := by
    refine ⟨nf_in hl rfl, sgq_483 ?_⟩
    · show v_iv (n_v vs 16) ≤ w_fi ws (n_v vs 3) 1
      rw [q3]
      exact vc_Fa_learnTurned_12_1 (v_iv (n_v vs 5)) (v_iv (n_v vs 6)) (v_iv (n_v vs 16)) (w_fi ws (n_v vs 1) 1) (w_ei ws (w_ar ws (n_v vs 0) 10)) (w_fi ws (n_v vs 1) 0) (w_ei ws (w_ar ws (n_v vs 0) 11)) (w_ei ws (w_ar ws (n_v vs 1) 7)) (w_ei ws (w_ar ws (n_v vs 1) 8)) (w_ei ws (w_ar ws (n_v vs 0) 12)) (w_ei w1 (w_ar ws (n_v vs 0) 11)) (w_ei w1 (w_ar ws (n_v vs 1) 8)) (w_ei w1 (w_ar ws (n_v vs 1) 7)) (w_ei w1 (w_ar ws (n_v vs 0) 10)) (w_fi w1 (n_v vs 1) 0) (w_fi w1 (n_v vs 1) 1) (w_ei w1 (w_ar ws (n_v vs 0) 12)) k5 k6 k16 d0 d1 d2 g4 fe_1_0_1 fe_1_1_1 hE_0_10_1 hE_0_11_1 hE_0_12_1 hE_1_7_1 hE_1_8_1 kz_1_0 kz_1_1
  refine ⟨(fun _ h => (by cases h)), [], trivial, ?_, (fun _ h => (by cases h))⟩
  rw [List.append_nil]
  exact List.forall_mem_cons.mpr ⟨⟨show (20 : Nat) < 100 from by decide, nf0⟩, List.forall_mem_cons.mpr ⟨⟨show (20 : Nat) < 100 from by decide, nf1⟩, (fun _ h => (by cases h))⟩⟩
set_option maxHeartbeats 4000000 in
theorem vc_Fa_learnTurned_13_0 (x5 : Int) (x8 : Int) (x10 : Int) (x16 : Int) (x17 : Int) (x18 : Int) (x19 : Int) (edges_0o1 : Int) (reach_0 : Int → Int) (nodes_0o1 : Int) (loop_0 : Int → Int) (tail_0o1 : Int → Int) (head_0o1 : Int → Int) (rank_0 : Int → Int) (rank_1 : Int → Int) (loop_1 : Int → Int) (head_1o1 : Int → Int) (tail_1o1 : Int → Int) (reach_1 : Int → Int) (nodes_1o1 : Int) (edges_1o1 : Int) (turned_1 : Int → Int) (turned_0 : Int → Int) (k5 : 0 ≤ x5 ∧ x5 ≤ 47) (k8 : 0 ≤ x8 ∧ x8 ≤ 23) (k10 : 0 ≤ x10 ∧ x10 ≤ 23) (k16 : 0 ≤ x16 ∧ x16 ≤ 23) (k17 : 0 ≤ x17 ∧ x17 ≤ 23) (k18 : 0 ≤ x18 ∧ x18 ≤ 0) (k19 : 1 ≤ x19 ∧ x19 ≤ 48) (d2 : x17 + (-4294967296) ≤ x16 ∧ x16 ≤ x17 + 0) (f6 : x19 = x5 + 1) (h17 : x17 = rank_1 (x10)) (h18 : x16 = rank_1 (x8)) (h22 : x10 = head_1o1 (x5)) (h23 : x8 = tail_1o1 (x5)) (f30 : TUJ (loop_1) (rank_1) (turned_1) (tail_1o1) (head_1o1) (x5)) (fe_1_0_1 : nodes_0o1 = nodes_1o1) (fe_1_1_1 : edges_0o1 = edges_1o1) (hE_0_9_1 : ∀ j : Int, 0 ≤ j → (j = x5 → turned_0 j = x18) ∧ (j ≠ x5 → turned_0 j = turned_1 j)) (hE_0_10_1 : ∀ j : Int, reach_0 j = reach_1 j) (hE_0_11_1 : ∀ j : Int, loop_0 j = loop_1 j) (hE_0_12_1 : ∀ j : Int, rank_0 j = rank_1 j) (hE_1_7_1 : ∀ j : Int, tail_0o1 j = tail_1o1 j) (hE_1_8_1 : ∀ j : Int, head_0o1 j = head_1o1 j) (kz_1_0 : 0 ≤ nodes_0o1 ∧ nodes_0o1 ≤ 24) (kz_1_1 : 0 ≤ edges_0o1 ∧ edges_0o1 ≤ 48) : TUJ (loop_0) (rank_0) (turned_0) (tail_0o1) (head_0o1) (x19) := by
  subst fe_1_0_1
  subst fe_1_1_1
  have e_hE_0_10_1 := funext hE_0_10_1; subst e_hE_0_10_1
  have e_hE_0_11_1 := funext hE_0_11_1; subst e_hE_0_11_1
  have e_hE_0_12_1 := funext hE_0_12_1; subst e_hE_0_12_1
  have e_hE_1_7_1 := funext hE_1_7_1; subst e_hE_1_7_1
  have e_hE_1_8_1 := funext hE_1_8_1; subst e_hE_1_8_1
  first
    | assumption
    | exact ⟨by omega, fun j a b => by omega⟩
    | exact tui_step (a := x8) (b := x10) (x := x15) (p := x5) ‹TUJ _ _ _ _ _ _› (by assumption) (by assumption) hE_0_9_1 rfl (Or.inr ⟨by omega, fun q => by have := q.1; omega⟩) (by omega)
    | exact tui_step (a := x8) (b := x10) (x := x18) (p := x5) ‹TUJ _ _ _ _ _ _› (by assumption) (by assumption) hE_0_9_1 rfl (Or.inr ⟨by omega, fun q => by have := q.2; omega⟩) (by omega)
    | exact tui_step (a := x8) (b := x10) (x := x18) (p := x5) ‹TUJ _ _ _ _ _ _› (by assumption) (by assumption) hE_0_9_1 rfl (Or.inl ⟨by omega, by omega, by omega⟩) (by omega)
  
set_option maxHeartbeats 4000000 in
theorem vc_Fa_learnTurned_13_1 (x5 : Int) (x6 : Int) (x19 : Int) (edges_0o1 : Int) (reach_0 : Int → Int) (nodes_0o1 : Int) (loop_0 : Int → Int) (tail_0o1 : Int → Int) (head_0o1 : Int → Int) (rank_0 : Int → Int) (rank_1 : Int → Int) (loop_1 : Int → Int) (head_1o1 : Int → Int) (tail_1o1 : Int → Int) (reach_1 : Int → Int) (nodes_1o1 : Int) (edges_1o1 : Int) (k5 : 0 ≤ x5 ∧ x5 ≤ 47) (k6 : 1 ≤ x6 ∧ x6 ≤ 48) (k19 : 1 ≤ x19 ∧ x19 ≤ 48) (d0 : x5 + 1 ≤ x19 ∧ x19 ≤ x5 + 1) (d1 : x6 + (-4294967296) ≤ x19 ∧ x19 ≤ x6 + 0) (d4 : x6 + (-4294967296) ≤ x5 ∧ x5 ≤ x6 + (-1)) (g5 : x6 = edges_0o1) (fe_1_0_1 : nodes_0o1 = nodes_1o1) (fe_1_1_1 : edges_0o1 = edges_1o1) (hE_0_10_1 : ∀ j : Int, reach_0 j = reach_1 j) (hE_0_11_1 : ∀ j : Int, loop_0 j = loop_1 j) (hE_0_12_1 : ∀ j : Int, rank_0 j = rank_1 j) (hE_1_7_1 : ∀ j : Int, tail_0o1 j = tail_1o1 j) (hE_1_8_1 : ∀ j : Int, head_0o1 j = head_1o1 j) (kz_1_0 : 0 ≤ nodes_0o1 ∧ nodes_0o1 ≤ 24) (kz_1_1 : 0 ≤ edges_0o1 ∧ edges_0o1 ≤ 48) : x19 ≤ edges_0o1 := by
  subst fe_1_0_1
  subst fe_1_1_1
  have e_hE_0_10_1 := funext hE_0_10_1; subst e_hE_0_10_1
  have e_hE_0_11_1 := funext hE_0_11_1; subst e_hE_0_11_1
  have e_hE_0_12_1 := funext hE_0_12_1; subst e_hE_0_12_1
  have e_hE_1_7_1 := funext hE_1_7_1; subst e_hE_1_7_1
  have e_hE_1_8_1 := funext hE_1_8_1; subst e_hE_1_8_1
  first
    | omega
    | assumption
  
def o_Fa_learnTurned_13 : or_T := (115, 20, [(0, (2, 0, 0, [2])), (1, (2, 0, 0, [3])), (2, (2, 0, 0, [2])), (3, (2, 0, 0, [3])), (5, (0, 0, 47, [])), (6, (0, 1, 48, [])), (7, (2, 0, 0, [52])), (8, (0, 0, 23, [])), (9, (2, 0, 0, [53])), (10, (0, 0, 23, [])), (11, (2, 0, 0, [42])), (12, (2, 0, 0, [44])), (13, (0, -1, 24, [])), (14, (0, -1, 24, [])), (15, (2, 0, 0, [45])), (16, (0, 0, 23, [])), (17, (0, 0, 23, [])), (18, (0, 0, 0, [])), (19, (0, 1, 48, []))], [(9, [15, 2], [12]), (9, [12, 2], [11]), (9, [11, 2], [9]), (9, [9, 3], [8]), (9, [7, 3], [7]), (9, [6, 3], [1]), (6, [19, 5], [1]), (20, [2, 3], [60, 1, 1, 727, 1000, 10]), (20, [2, 3], [60, 1, 2, 725, 1000, 10, 11]), (20, [2, 3], [60, 1, 3, 719, 1001, 10, 1007, 1008]), (20, [3], [60, 2, 2, 596, 0, 1, 7, 8]), (20, [2, 3], [60, 1, 2, 729, 1000, 11, 12]), (20, [5, 3], [50, 1, 0, 1001, 0, 2, 1, 0, 2, 1, 1]), (24, [0, 2], []), (24, [1, 3], []), (100, [11, 5, 18], []), (7, [16, 17], [5]), (10, [17, 15, 10], []), (10, [16, 15, 8], []), (7, [13, 14], [0]), (10, [14, 12, 10], []), (10, [13, 12, 8], []), (10, [10, 9, 5], []), (10, [8, 7, 5], []), (7, [5, 6], [2]), (20, [2, 3], [60, 1, 1, 727, 1000, 10]), (20, [2, 3], [60, 1, 2, 725, 1000, 10, 11]), (20, [2, 3], [60, 1, 3, 719, 1001, 10, 1007, 1008]), (20, [3], [60, 2, 2, 596, 0, 1, 7, 8]), (20, [2, 3], [60, 1, 2, 729, 1000, 11, 12]), (20, [2, 3, 5], [60, 0, 5, 730, 11, 12, 9, 1007, 1008]), (20, [5, 3], [50, 1, 0, 1001, 0, 2, 1, 0, 2, 1, 1])], [], [], [(20, [2, 3, 19], [60, 0, 5, 730, 11, 12, 9, 1007, 1008]), (20, [19, 3], [50, 1, 0, 1001, 0, 2, 1, 0, 2, 1, 1])], [], [(19, 5, 1, 1), (19, 6, -4294967296, 0), (16, 17, -4294967296, 0), (13, 14, 0, 0), (5, 6, -4294967296, -1)])
theorem oo_Fa_learnTurned_13 {kA : Nat → ClassId} : or_ok PRD kA GG o_Fa_learnTurned_13 := by
  refine or_mk fun A ta ws vs hD hth hl => ?_
  intro t0 r0 t1 r1 t2 r2 t3 r3 t5 k5 t6 k6 t7 r7 t8 k8 t9 r9 t10 k10 t11 r11 t12 r12 t13 k13 t14 k14 t15 r15 t16 k16 t17 k17 t18 k18 t19 k19 d0 d1 d2 d3 d4 f0 f1 f2 f3 f4 f5 f6 f7 f8 f9 f10 f11 f12 f13 f14 ta1 w1 le1 s1 f16 f17 f18 f19 f20 f21 f22 f23 f24 f25 f26 f27 f28 f29 f30 f31
  replace f0 := shm_103 f0
  replace f2 := shm_119 f2
  replace f3 := shm_293 f3
  replace f4 := shm_198 f4
  replace f5 := shm_215 f5
  replace f6 := shm_4 f6
  replace f13 := shm_5 f13
  replace f14 := shm_5 f14
  have s1 : (∀ b j, w_el ws b j = if b = v_ad (n_v vs 11) ∧ j = (v_iv (n_v vs 5)).toNat then v_iv (n_v vs 18) else w_el w1 b j) ∧ ∀ b k, w_fd ws b k = w_fd w1 b k := s1.2
  replace f17 := shm_107 f17
  replace f18 := shm_107 f18
  replace f22 := shm_107 f22
  replace f23 := shm_107 f23
  replace f30 := shm_1905 f30
  have q2 : n_v vs 2 = n_v vs 0 := f13.symm
  have q3 : n_v vs 3 = n_v vs 1 := f14.symm
  simp only [q2, q3] at f0 f2 f3 f4 f5 f30
  have ar_0_9_1 : w_ar w1 (n_v vs 0) 9 = w_ar ws (n_v vs 0) 9 := congrArg v_ad (s1.2 _ _).symm
  have ar_0_10_1 : w_ar w1 (n_v vs 0) 10 = w_ar ws (n_v vs 0) 10 := congrArg v_ad (s1.2 _ _).symm
  have cr_0_10 := fdq_203 hD hth r0
  have ar_0_11_1 : w_ar w1 (n_v vs 0) 11 = w_ar ws (n_v vs 0) 11 := congrArg v_ad (s1.2 _ _).symm
  have cr_0_11 := fdq_63 hD hth r0
  have ar_0_12_1 : w_ar w1 (n_v vs 0) 12 = w_ar ws (n_v vs 0) 12 := congrArg v_ad (s1.2 _ _).symm
  have cr_0_12 := fdq_287 hD hth r0
  have ar_1_7_1 : w_ar w1 (n_v vs 1) 7 = w_ar ws (n_v vs 1) 7 := congrArg v_ad (s1.2 _ _).symm
  have cr_1_7 := fdq_46 hD hth r1
  have ar_1_8_1 : w_ar w1 (n_v vs 1) 8 = w_ar ws (n_v vs 1) 8 := congrArg v_ad (s1.2 _ _).symm
  have cr_1_8 := fdq_47 hD hth r1
  have ad_15 : v_ad (n_v vs 15) = w_ar ws (n_v vs 0) 12 := congrArg v_ad f0
  have ad_11 : v_ad (n_v vs 11) = w_ar ws (n_v vs 0) 9 := congrArg v_ad f2
  have ad_9 : v_ad (n_v vs 9) = w_ar ws (n_v vs 1) 8 := congrArg v_ad f3
  have ad_7 : v_ad (n_v vs 7) = w_ar ws (n_v vs 1) 7 := congrArg v_ad f4
  have g5 : v_iv (n_v vs 6) = w_fi ws (n_v vs 1) 1 := congrArg v_iv f5
  simp only [ad_15] at f17
  have h17 : v_iv (n_v vs 17) = w_ei w1 (w_ar ws (n_v vs 0) 12) (v_iv (n_v vs 10)) := f17
  simp only [ad_15] at f18
  have h18 : v_iv (n_v vs 16) = w_ei w1 (w_ar ws (n_v vs 0) 12) (v_iv (n_v vs 8)) := f18
  simp only [ad_9] at f22
  have h22 : v_iv (n_v vs 10) = w_ei w1 (w_ar ws (n_v vs 1) 8) (v_iv (n_v vs 5)) := f22
  simp only [ad_7] at f23
  have h23 : v_iv (n_v vs 8) = w_ei w1 (w_ar ws (n_v vs 1) 7) (v_iv (n_v vs 5)) := f23
  simp only [ar_0_10_1, ar_0_11_1, ar_1_7_1, ar_1_8_1, ar_0_12_1, ar_0_9_1] at f30
  have fe_1_0_1 : w_fi ws (n_v vs 1) 0 = w_fi w1 (n_v vs 1) 0 := congrArg v_iv (s1.2 _ _)
  have fe_1_1_1 : w_fi ws (n_v vs 1) 1 = w_fi w1 (n_v vs 1) 1 := congrArg v_iv (s1.2 _ _)
  have hE_0_9_1 : ∀ j : Int, 0 ≤ j → (j = v_iv (n_v vs 5) → w_ei ws (w_ar ws (n_v vs 0) 9) j = v_iv (n_v vs 18)) ∧ (j ≠ v_iv (n_v vs 5) → w_ei ws (w_ar ws (n_v vs 0) 9) j = w_ei w1 (w_ar ws (n_v vs 0) 9) j) := fun j hj => ⟨fun h => by unfold w_ei; rw [s1.1, if_pos ⟨ad_11.symm, by rw [h]⟩], fun h => by unfold w_ei; rw [s1.1, if_neg (fun e => h (by have := e.2; omega))]⟩
  have hE_0_10_1 : ∀ j : Int, w_ei ws (w_ar ws (n_v vs 0) 10) j = w_ei w1 (w_ar ws (n_v vs 0) 10) j := el_kp s1.1 r11 cr_0_10 (by decide)
  have hE_0_11_1 : ∀ j : Int, w_ei ws (w_ar ws (n_v vs 0) 11) j = w_ei w1 (w_ar ws (n_v vs 0) 11) j := el_kp s1.1 r11 cr_0_11 (by decide)
  have hE_0_12_1 : ∀ j : Int, w_ei ws (w_ar ws (n_v vs 0) 12) j = w_ei w1 (w_ar ws (n_v vs 0) 12) j := el_kp s1.1 r11 cr_0_12 (by decide)
  have hE_1_7_1 : ∀ j : Int, w_ei ws (w_ar ws (n_v vs 1) 7) j = w_ei w1 (w_ar ws (n_v vs 1) 7) j := el_kp s1.1 r11 cr_1_7 (by decide)
  have hE_1_8_1 : ∀ j : Int, w_ei ws (w_ar ws (n_v vs 1) 8) j = w_ei w1 (w_ar ws (n_v vs 1) 8) j := el_kp s1.1 r11 cr_1_8 (by decide)
  have kz_1_0 := fdq_21 hD hth r1
  have kz_1_1 := fdq_30 hD hth r1
  have nf0 : fc_1 PRD (20, [2, 3, 19], [60, 0, 5, 730, 11, 12, 9, 1007, 1008]) ws (vs) := by
    refine ⟨nf_in hl rfl, sgq_1905 ?_⟩
    · show TUJ (w_ei ws (w_ar ws (n_v vs 2) 11)) (w_ei ws (w_ar ws (n_v vs 2) 12)) (w_ei ws (w_ar ws (n_v vs 2) 9)) (w_ei ws (w_ar ws (n_v vs 3) 7)) (w_ei ws (w_ar ws (n_v vs 3) 8)) (v_iv (n_v vs 19))
      simp only [q2, q3]
      exact vc_Fa_learnTurned_13_0 (v_iv (n_v vs 5)) (v_iv (n_v vs 8)) (v_iv (n_v vs 10)) (v_iv (n_v vs 16)) (v_iv (n_v vs 17)) (v_iv (n_v vs 18)) (v_iv (n_v vs 19)) (w_fi ws (n_v vs 1) 1) (w_ei ws (w_ar ws (n_v vs 0) 10)) (w_fi ws (n_v vs 1) 0) (w_ei ws (w_ar ws (n_v vs 0) 11)) (w_ei ws (w_ar ws (n_v vs 1) 7)) (w_ei ws (w_ar ws (n_v vs 1) 8)) (w_ei ws (w_ar ws (n_v vs 0) 12)) (w_ei w1 (w_ar ws (n_v vs 0) 12)) (w_ei w1 (w_ar ws (n_v vs 0) 11)) (w_ei w1 (w_ar ws (n_v vs 1) 8)) (w_ei w1 (w_ar ws (n_v vs 1) 7)) (w_ei w1 (w_ar ws (n_v vs 0) 10)) (w_fi w1 (n_v vs 1) 0) (w_fi w1 (n_v vs 1) 1) (w_ei w1 (w_ar ws (n_v vs 0) 9)) (w_ei ws (w_ar ws (n_v vs 0) 9)) k5 k8 k10 k16 k17 k18 k19 d2 f6 h17 h18 h22 h23 f30 fe_1_0_1 fe_1_1_1 hE_0_9_1 hE_0_10_1 hE_0_11_1 hE_0_12_1 hE_1_7_1 hE_1_8_1 kz_1_0 kz_1_1
  have nf1 : fc_1 PRD (20, [19, 3], [50, 1, 0, 1001, 0, 2, 1, 0, 2, 1, 1]) ws (vs) := by
    refine ⟨nf_in hl rfl, sgq_483 ?_⟩
    · show v_iv (n_v vs 19) ≤ w_fi ws (n_v vs 3) 1
      rw [q3]
      exact vc_Fa_learnTurned_13_1 (v_iv (n_v vs 5)) (v_iv (n_v vs 6)) (v_iv (n_v vs 19)) (w_fi ws (n_v vs 1) 1) (w_ei ws (w_ar ws (n_v vs 0) 10)) (w_fi ws (n_v vs 1) 0) (w_ei ws (w_ar ws (n_v vs 0) 11)) (w_ei ws (w_ar ws (n_v vs 1) 7)) (w_ei ws (w_ar ws (n_v vs 1) 8)) (w_ei ws (w_ar ws (n_v vs 0) 12)) (w_ei w1 (w_ar ws (n_v vs 0) 12)) (w_ei w1 (w_ar ws (n_v vs 0) 11)) (w_ei w1 (w_ar ws (n_v vs 1) 8)) (w_ei w1 (w_ar ws (n_v vs 1) 7)) (w_ei w1 (w_ar ws (n_v vs 0) 10)) (w_fi w1 (n_v vs 1) 0) (w_fi w1 (n_v vs 1) 1) k5 k6 k19 d0 d1 d4 g5 fe_1_0_1 fe_1_1_1 hE_0_10_1 hE_0_11_1 hE_0_12_1 hE_1_7_1 hE_1_8_1 kz_1_0 kz_1_1
  refine ⟨(fun _ h => (by cases h)), [], trivial, ?_, (fun _ h => (by cases h))⟩
  rw [List.append_nil]
  exact List.forall_mem_cons.mpr ⟨⟨show (20 : Nat) < 100 from by decide, nf0⟩, List.forall_mem_cons.mpr ⟨⟨show (20 : Nat) < 100 from by decide, nf1⟩, (fun _ h => (by cases h))⟩⟩
set_option maxHeartbeats 4000000 in
theorem vc_Fa_learnTurned_14_0 (x5 : Int) (x8 : Int) (x10 : Int) (x13 : Int) (x14 : Int) (x16 : Int) (x17 : Int) (x18 : Int) (x19 : Int) (edges_0o1 : Int) (reach_0 : Int → Int) (nodes_0o1 : Int) (loop_0 : Int → Int) (tail_0o1 : Int → Int) (head_0o1 : Int → Int) (rank_0 : Int → Int) (rank_1 : Int → Int) (loop_1 : Int → Int) (head_1o1 : Int → Int) (tail_1o1 : Int → Int) (reach_1 : Int → Int) (nodes_1o1 : Int) (edges_1o1 : Int) (turned_1 : Int → Int) (turned_0 : Int → Int) (k5 : 0 ≤ x5 ∧ x5 ≤ 47) (k8 : 0 ≤ x8 ∧ x8 ≤ 23) (k10 : 0 ≤ x10 ∧ x10 ≤ 23) (k13 : (-1) ≤ x13 ∧ x13 ≤ 24) (k14 : (-1) ≤ x14 ∧ x14 ≤ 24) (k16 : 1 ≤ x16 ∧ x16 ≤ 23) (k17 : 0 ≤ x17 ∧ x17 ≤ 22) (k18 : 1 ≤ x18 ∧ x18 ≤ 1) (k19 : 1 ≤ x19 ∧ x19 ≤ 48) (d2 : x17 + 1 ≤ x16 ∧ x16 ≤ x17 + 4294967296) (d3 : x14 + 0 ≤ x13 ∧ x13 ≤ x14 + 0) (f6 : x19 = x5 + 1) (h17 : x17 = rank_1 (x10)) (h18 : x16 = rank_1 (x8)) (h20 : x14 = loop_1 (x10)) (h21 : x13 = loop_1 (x8)) (h22 : x10 = head_1o1 (x5)) (h23 : x8 = tail_1o1 (x5)) (f30 : TUJ (loop_1) (rank_1) (turned_1) (tail_1o1) (head_1o1) (x5)) (fe_1_0_1 : nodes_0o1 = nodes_1o1) (fe_1_1_1 : edges_0o1 = edges_1o1) (hE_0_9_1 : ∀ j : Int, 0 ≤ j → (j = x5 → turned_0 j = x18) ∧ (j ≠ x5 → turned_0 j = turned_1 j)) (hE_0_10_1 : ∀ j : Int, reach_0 j = reach_1 j) (hE_0_11_1 : ∀ j : Int, loop_0 j = loop_1 j) (hE_0_12_1 : ∀ j : Int, rank_0 j = rank_1 j) (hE_1_7_1 : ∀ j : Int, tail_0o1 j = tail_1o1 j) (hE_1_8_1 : ∀ j : Int, head_0o1 j = head_1o1 j) (kz_1_0 : 0 ≤ nodes_0o1 ∧ nodes_0o1 ≤ 24) (kz_1_1 : 0 ≤ edges_0o1 ∧ edges_0o1 ≤ 48) : TUJ (loop_0) (rank_0) (turned_0) (tail_0o1) (head_0o1) (x19) := by
  subst fe_1_0_1
  subst fe_1_1_1
  have e_hE_0_10_1 := funext hE_0_10_1; subst e_hE_0_10_1
  have e_hE_0_11_1 := funext hE_0_11_1; subst e_hE_0_11_1
  have e_hE_0_12_1 := funext hE_0_12_1; subst e_hE_0_12_1
  have e_hE_1_7_1 := funext hE_1_7_1; subst e_hE_1_7_1
  have e_hE_1_8_1 := funext hE_1_8_1; subst e_hE_1_8_1
  first
    | assumption
    | exact ⟨by omega, fun j a b => by omega⟩
    | exact tui_step (a := x8) (b := x10) (x := x15) (p := x5) ‹TUJ _ _ _ _ _ _› (by assumption) (by assumption) hE_0_9_1 rfl (Or.inr ⟨by omega, fun q => by have := q.1; omega⟩) (by omega)
    | exact tui_step (a := x8) (b := x10) (x := x18) (p := x5) ‹TUJ _ _ _ _ _ _› (by assumption) (by assumption) hE_0_9_1 rfl (Or.inr ⟨by omega, fun q => by have := q.2; omega⟩) (by omega)
    | exact tui_step (a := x8) (b := x10) (x := x18) (p := x5) ‹TUJ _ _ _ _ _ _› (by assumption) (by assumption) hE_0_9_1 rfl (Or.inl ⟨by omega, by omega, by omega⟩) (by omega)
  
set_option maxHeartbeats 4000000 in
theorem vc_Fa_learnTurned_14_1 (x5 : Int) (x6 : Int) (x19 : Int) (edges_0o1 : Int) (reach_0 : Int → Int) (nodes_0o1 : Int) (loop_0 : Int → Int) (tail_0o1 : Int → Int) (head_0o1 : Int → Int) (rank_0 : Int → Int) (rank_1 : Int → Int) (loop_1 : Int → Int) (head_1o1 : Int → Int) (tail_1o1 : Int → Int) (reach_1 : Int → Int) (nodes_1o1 : Int) (edges_1o1 : Int) (k5 : 0 ≤ x5 ∧ x5 ≤ 47) (k6 : 1 ≤ x6 ∧ x6 ≤ 48) (k19 : 1 ≤ x19 ∧ x19 ≤ 48) (d0 : x5 + 1 ≤ x19 ∧ x19 ≤ x5 + 1) (d1 : x6 + (-4294967296) ≤ x19 ∧ x19 ≤ x6 + 0) (d4 : x6 + (-4294967296) ≤ x5 ∧ x5 ≤ x6 + (-1)) (g5 : x6 = edges_0o1) (fe_1_0_1 : nodes_0o1 = nodes_1o1) (fe_1_1_1 : edges_0o1 = edges_1o1) (hE_0_10_1 : ∀ j : Int, reach_0 j = reach_1 j) (hE_0_11_1 : ∀ j : Int, loop_0 j = loop_1 j) (hE_0_12_1 : ∀ j : Int, rank_0 j = rank_1 j) (hE_1_7_1 : ∀ j : Int, tail_0o1 j = tail_1o1 j) (hE_1_8_1 : ∀ j : Int, head_0o1 j = head_1o1 j) (kz_1_0 : 0 ≤ nodes_0o1 ∧ nodes_0o1 ≤ 24) (kz_1_1 : 0 ≤ edges_0o1 ∧ edges_0o1 ≤ 48) : x19 ≤ edges_0o1 := by
  subst fe_1_0_1
  subst fe_1_1_1
  have e_hE_0_10_1 := funext hE_0_10_1; subst e_hE_0_10_1
  have e_hE_0_11_1 := funext hE_0_11_1; subst e_hE_0_11_1
  have e_hE_0_12_1 := funext hE_0_12_1; subst e_hE_0_12_1
  have e_hE_1_7_1 := funext hE_1_7_1; subst e_hE_1_7_1
  have e_hE_1_8_1 := funext hE_1_8_1; subst e_hE_1_8_1
  first
    | omega
    | assumption
  
def o_Fa_learnTurned_14 : or_T := (115, 20, [(0, (2, 0, 0, [2])), (1, (2, 0, 0, [3])), (2, (2, 0, 0, [2])), (3, (2, 0, 0, [3])), (5, (0, 0, 47, [])), (6, (0, 1, 48, [])), (7, (2, 0, 0, [52])), (8, (0, 0, 23, [])), (9, (2, 0, 0, [53])), (10, (0, 0, 23, [])), (11, (2, 0, 0, [42])), (12, (2, 0, 0, [44])), (13, (0, -1, 24, [])), (14, (0, -1, 24, [])), (15, (2, 0, 0, [45])), (16, (0, 1, 23, [])), (17, (0, 0, 22, [])), (18, (0, 1, 1, [])), (19, (0, 1, 48, []))], [(9, [15, 2], [12]), (9, [12, 2], [11]), (9, [11, 2], [9]), (9, [9, 3], [8]), (9, [7, 3], [7]), (9, [6, 3], [1]), (6, [19, 5], [1]), (20, [2, 3], [60, 1, 1, 727, 1000, 10]), (20, [2, 3], [60, 1, 2, 725, 1000, 10, 11]), (20, [2, 3], [60, 1, 3, 719, 1001, 10, 1007, 1008]), (20, [3], [60, 2, 2, 596, 0, 1, 7, 8]), (20, [2, 3], [60, 1, 2, 729, 1000, 11, 12]), (20, [5, 3], [50, 1, 0, 1001, 0, 2, 1, 0, 2, 1, 1]), (24, [0, 2], []), (24, [1, 3], []), (100, [11, 5, 18], []), (7, [16, 17], [4]), (10, [17, 15, 10], []), (10, [16, 15, 8], []), (7, [13, 14], [0]), (10, [14, 12, 10], []), (10, [13, 12, 8], []), (10, [10, 9, 5], []), (10, [8, 7, 5], []), (7, [5, 6], [2]), (20, [2, 3], [60, 1, 1, 727, 1000, 10]), (20, [2, 3], [60, 1, 2, 725, 1000, 10, 11]), (20, [2, 3], [60, 1, 3, 719, 1001, 10, 1007, 1008]), (20, [3], [60, 2, 2, 596, 0, 1, 7, 8]), (20, [2, 3], [60, 1, 2, 729, 1000, 11, 12]), (20, [2, 3, 5], [60, 0, 5, 730, 11, 12, 9, 1007, 1008]), (20, [5, 3], [50, 1, 0, 1001, 0, 2, 1, 0, 2, 1, 1])], [], [], [(20, [2, 3, 19], [60, 0, 5, 730, 11, 12, 9, 1007, 1008]), (20, [19, 3], [50, 1, 0, 1001, 0, 2, 1, 0, 2, 1, 1])], [], [(19, 5, 1, 1), (19, 6, -4294967296, 0), (16, 17, 1, 4294967296), (13, 14, 0, 0), (5, 6, -4294967296, -1)])
theorem oo_Fa_learnTurned_14 {kA : Nat → ClassId} : or_ok PRD kA GG o_Fa_learnTurned_14 := by
  refine or_mk fun A ta ws vs hD hth hl => ?_
  intro t0 r0 t1 r1 t2 r2 t3 r3 t5 k5 t6 k6 t7 r7 t8 k8 t9 r9 t10 k10 t11 r11 t12 r12 t13 k13 t14 k14 t15 r15 t16 k16 t17 k17 t18 k18 t19 k19 d0 d1 d2 d3 d4 f0 f1 f2 f3 f4 f5 f6 f7 f8 f9 f10 f11 f12 f13 f14 ta1 w1 le1 s1 f16 f17 f18 f19 f20 f21 f22 f23 f24 f25 f26 f27 f28 f29 f30 f31
  replace f0 := shm_103 f0
  replace f1 := shm_116 f1
  replace f2 := shm_119 f2
  replace f3 := shm_293 f3
  replace f4 := shm_198 f4
  replace f5 := shm_215 f5
  replace f6 := shm_4 f6
  replace f13 := shm_5 f13
  replace f14 := shm_5 f14
  have s1 : (∀ b j, w_el ws b j = if b = v_ad (n_v vs 11) ∧ j = (v_iv (n_v vs 5)).toNat then v_iv (n_v vs 18) else w_el w1 b j) ∧ ∀ b k, w_fd ws b k = w_fd w1 b k := s1.2
  replace f17 := shm_107 f17
  replace f18 := shm_107 f18
  replace f20 := shm_107 f20
  replace f21 := shm_107 f21
  replace f22 := shm_107 f22
  replace f23 := shm_107 f23
  replace f30 := shm_1905 f30
  have q2 : n_v vs 2 = n_v vs 0 := f13.symm
  have q3 : n_v vs 3 = n_v vs 1 := f14.symm
  simp only [q2, q3] at f0 f1 f2 f3 f4 f5 f30
  have ar_0_9_1 : w_ar w1 (n_v vs 0) 9 = w_ar ws (n_v vs 0) 9 := congrArg v_ad (s1.2 _ _).symm
  have ar_0_10_1 : w_ar w1 (n_v vs 0) 10 = w_ar ws (n_v vs 0) 10 := congrArg v_ad (s1.2 _ _).symm
  have cr_0_10 := fdq_203 hD hth r0
  have ar_0_11_1 : w_ar w1 (n_v vs 0) 11 = w_ar ws (n_v vs 0) 11 := congrArg v_ad (s1.2 _ _).symm
  have cr_0_11 := fdq_63 hD hth r0
  have ar_0_12_1 : w_ar w1 (n_v vs 0) 12 = w_ar ws (n_v vs 0) 12 := congrArg v_ad (s1.2 _ _).symm
  have cr_0_12 := fdq_287 hD hth r0
  have ar_1_7_1 : w_ar w1 (n_v vs 1) 7 = w_ar ws (n_v vs 1) 7 := congrArg v_ad (s1.2 _ _).symm
  have cr_1_7 := fdq_46 hD hth r1
  have ar_1_8_1 : w_ar w1 (n_v vs 1) 8 = w_ar ws (n_v vs 1) 8 := congrArg v_ad (s1.2 _ _).symm
  have cr_1_8 := fdq_47 hD hth r1
  have ad_15 : v_ad (n_v vs 15) = w_ar ws (n_v vs 0) 12 := congrArg v_ad f0
  have ad_12 : v_ad (n_v vs 12) = w_ar ws (n_v vs 0) 11 := congrArg v_ad f1
  have ad_11 : v_ad (n_v vs 11) = w_ar ws (n_v vs 0) 9 := congrArg v_ad f2
  have ad_9 : v_ad (n_v vs 9) = w_ar ws (n_v vs 1) 8 := congrArg v_ad f3
  have ad_7 : v_ad (n_v vs 7) = w_ar ws (n_v vs 1) 7 := congrArg v_ad f4
  have g5 : v_iv (n_v vs 6) = w_fi ws (n_v vs 1) 1 := congrArg v_iv f5
  simp only [ad_15] at f17
  have h17 : v_iv (n_v vs 17) = w_ei w1 (w_ar ws (n_v vs 0) 12) (v_iv (n_v vs 10)) := f17
  simp only [ad_15] at f18
  have h18 : v_iv (n_v vs 16) = w_ei w1 (w_ar ws (n_v vs 0) 12) (v_iv (n_v vs 8)) := f18
  simp only [ad_12] at f20
  have h20 : v_iv (n_v vs 14) = w_ei w1 (w_ar ws (n_v vs 0) 11) (v_iv (n_v vs 10)) := f20
  simp only [ad_12] at f21
  have h21 : v_iv (n_v vs 13) = w_ei w1 (w_ar ws (n_v vs 0) 11) (v_iv (n_v vs 8)) := f21
  simp only [ad_9] at f22
  have h22 : v_iv (n_v vs 10) = w_ei w1 (w_ar ws (n_v vs 1) 8) (v_iv (n_v vs 5)) := f22
  simp only [ad_7] at f23
  have h23 : v_iv (n_v vs 8) = w_ei w1 (w_ar ws (n_v vs 1) 7) (v_iv (n_v vs 5)) := f23
  simp only [ar_0_10_1, ar_0_11_1, ar_1_7_1, ar_1_8_1, ar_0_12_1, ar_0_9_1] at f30
  have fe_1_0_1 : w_fi ws (n_v vs 1) 0 = w_fi w1 (n_v vs 1) 0 := congrArg v_iv (s1.2 _ _)
  have fe_1_1_1 : w_fi ws (n_v vs 1) 1 = w_fi w1 (n_v vs 1) 1 := congrArg v_iv (s1.2 _ _)
  have hE_0_9_1 : ∀ j : Int, 0 ≤ j → (j = v_iv (n_v vs 5) → w_ei ws (w_ar ws (n_v vs 0) 9) j = v_iv (n_v vs 18)) ∧ (j ≠ v_iv (n_v vs 5) → w_ei ws (w_ar ws (n_v vs 0) 9) j = w_ei w1 (w_ar ws (n_v vs 0) 9) j) := fun j hj => ⟨fun h => by unfold w_ei; rw [s1.1, if_pos ⟨ad_11.symm, by rw [h]⟩], fun h => by unfold w_ei; rw [s1.1, if_neg (fun e => h (by have := e.2; omega))]⟩
  have hE_0_10_1 : ∀ j : Int, w_ei ws (w_ar ws (n_v vs 0) 10) j = w_ei w1 (w_ar ws (n_v vs 0) 10) j := el_kp s1.1 r11 cr_0_10 (by decide)
  have hE_0_11_1 : ∀ j : Int, w_ei ws (w_ar ws (n_v vs 0) 11) j = w_ei w1 (w_ar ws (n_v vs 0) 11) j := el_kp s1.1 r11 cr_0_11 (by decide)
  have hE_0_12_1 : ∀ j : Int, w_ei ws (w_ar ws (n_v vs 0) 12) j = w_ei w1 (w_ar ws (n_v vs 0) 12) j := el_kp s1.1 r11 cr_0_12 (by decide)
  have hE_1_7_1 : ∀ j : Int, w_ei ws (w_ar ws (n_v vs 1) 7) j = w_ei w1 (w_ar ws (n_v vs 1) 7) j := el_kp s1.1 r11 cr_1_7 (by decide)
  have hE_1_8_1 : ∀ j : Int, w_ei ws (w_ar ws (n_v vs 1) 8) j = w_ei w1 (w_ar ws (n_v vs 1) 8) j := el_kp s1.1 r11 cr_1_8 (by decide)
  have kz_1_0 := fdq_21 hD hth r1
  have kz_1_1 := fdq_30 hD hth r1
  have nf0 : fc_1 PRD (20, [2, 3, 19], [60, 0, 5, 730, 11, 12, 9, 1007, 1008]) ws (vs) := by
    refine ⟨nf_in hl rfl, sgq_1905 ?_⟩
    · show TUJ (w_ei ws (w_ar ws (n_v vs 2) 11)) (w_ei ws (w_ar ws (n_v vs 2) 12)) (w_ei ws (w_ar ws (n_v vs 2) 9)) (w_ei ws (w_ar ws (n_v vs 3) 7)) (w_ei ws (w_ar ws (n_v vs 3) 8)) (v_iv (n_v vs 19))
      simp only [q2, q3]
      exact vc_Fa_learnTurned_14_0 (v_iv (n_v vs 5)) (v_iv (n_v vs 8)) (v_iv (n_v vs 10)) (v_iv (n_v vs 13)) (v_iv (n_v vs 14)) (v_iv (n_v vs 16)) (v_iv (n_v vs 17)) (v_iv (n_v vs 18)) (v_iv (n_v vs 19)) (w_fi ws (n_v vs 1) 1) (w_ei ws (w_ar ws (n_v vs 0) 10)) (w_fi ws (n_v vs 1) 0) (w_ei ws (w_ar ws (n_v vs 0) 11)) (w_ei ws (w_ar ws (n_v vs 1) 7)) (w_ei ws (w_ar ws (n_v vs 1) 8)) (w_ei ws (w_ar ws (n_v vs 0) 12)) (w_ei w1 (w_ar ws (n_v vs 0) 12)) (w_ei w1 (w_ar ws (n_v vs 0) 11)) (w_ei w1 (w_ar ws (n_v vs 1) 8)) (w_ei w1 (w_ar ws (n_v vs 1) 7)) (w_ei w1 (w_ar ws (n_v vs 0) 10)) (w_fi w1 (n_v vs 1) 0) (w_fi w1 (n_v vs 1) 1) (w_ei w1 (w_ar ws (n_v vs 0) 9)) (w_ei ws (w_ar ws (n_v vs 0) 9)) k5 k8 k10 k13 k14 k16 k17 k18 k19 d2 d3 f6 h17 h18 h20 h21 h22 h23 f30 fe_1_0_1 fe_1_1_1 hE_0_9_1 hE_0_10_1 hE_0_11_1 hE_0_12_1 hE_1_7_1 hE_1_8_1 kz_1_0 kz_1_1
  have nf1 : fc_1 PRD (20, [19, 3], [50, 1, 0, 1001, 0, 2, 1, 0, 2, 1, 1]) ws (vs) := by
    refine ⟨nf_in hl rfl, sgq_483 ?_⟩
    · show v_iv (n_v vs 19) ≤ w_fi ws (n_v vs 3) 1
      rw [q3]
      exact vc_Fa_learnTurned_14_1 (v_iv (n_v vs 5)) (v_iv (n_v vs 6)) (v_iv (n_v vs 19)) (w_fi ws (n_v vs 1) 1) (w_ei ws (w_ar ws (n_v vs 0) 10)) (w_fi ws (n_v vs 1) 0) (w_ei ws (w_ar ws (n_v vs 0) 11)) (w_ei ws (w_ar ws (n_v vs 1) 7)) (w_ei ws (w_ar ws (n_v vs 1) 8)) (w_ei ws (w_ar ws (n_v vs 0) 12)) (w_ei w1 (w_ar ws (n_v vs 0) 12)) (w_ei w1 (w_ar ws (n_v vs 0) 11)) (w_ei w1 (w_ar ws (n_v vs 1) 8)) (w_ei w1 (w_ar ws (n_v vs 1) 7)) (w_ei w1 (w_ar ws (n_v vs 0) 10)) (w_fi w1 (n_v vs 1) 0) (w_fi w1 (n_v vs 1) 1) k5 k6 k19 d0 d1 d4 g5 fe_1_0_1 fe_1_1_1 hE_0_10_1 hE_0_11_1 hE_0_12_1 hE_1_7_1 hE_1_8_1 kz_1_0 kz_1_1
  refine ⟨(fun _ h => (by cases h)), [], trivial, ?_, (fun _ h => (by cases h))⟩
  rw [List.append_nil]
  exact List.forall_mem_cons.mpr ⟨⟨show (20 : Nat) < 100 from by decide, nf0⟩, List.forall_mem_cons.mpr ⟨⟨show (20 : Nat) < 100 from by decide, nf1⟩, (fun _ h => (by cases h))⟩⟩
def n_Fa_learnTurned_an : List an_T := [(10, [(0, (2, 0, 0, [2])), (1, (2, 0, 0, [3])), (2, (0, 0, 48, []))], [], (0, 0), [(0, 0, 99990), (1, 4, 48), (0, 0, 100000)], [], [], [(2, 0, 0, [2]), (2, 0, 0, [3])], 0, [], [(20, [2, 3, 4], [60, 0, 3, 720, 10, 1007, 1008]), (20, [3], [60, 2, 2, 596, 0, 1, 7, 8]), (20, [4, 3], [50, 1, 0, 1001, 0, 2, 1, 0, 2, 1, 1]), (24, [0, 2], []), (24, [1, 3], [])]), (61, [(0, (2, 0, 0, [2])), (1, (2, 0, 0, [3])), (2, (0, 0, 24, [])), (3, (0, 0, 24, []))], [], (0, 0), [(0, 0, 99939), (1, 5, 24), (0, 0, 100000)], [(5, 4, (Int.negSucc 999999999999), 0)], [], [(2, 0, 0, [2]), (2, 0, 0, [3])], 0, [], [(20, [2, 3], [60, 1, 1, 727, 1000, 10]), (20, [2, 3], [60, 1, 2, 725, 1000, 10, 11]), (20, [2, 3], [60, 1, 3, 719, 1001, 10, 1007, 1008]), (20, [3], [60, 2, 2, 596, 0, 1, 7, 8]), (20, [2, 3, 4], [60, 1, 1, 726, 1000, 11]), (20, [2, 3, 5], [60, 1, 2, 728, 1000, 11, 12]), (20, [5, 4], [50, 0, 0, 0, 2, 1, 0, 1, 1]), (24, [0, 2], []), (24, [1, 3], [])]), (115, [(0, (2, 0, 0, [2])), (1, (2, 0, 0, [3])), (2, (0, 0, 24, [])), (3, (0, 0, 48, []))], [], (0, 0), [(0, 0, 99885), (1, 5, 48), (0, 0, 100000)], [], [], [(2, 0, 0, [2]), (2, 0, 0, [3])], 0, [], [(20, [2, 3], [60, 1, 1, 727, 1000, 10]), (20, [2, 3], [60, 1, 2, 725, 1000, 10, 11]), (20, [2, 3], [60, 1, 3, 719, 1001, 10, 1007, 1008]), (20, [3], [60, 2, 2, 596, 0, 1, 7, 8]), (20, [2, 3], [60, 1, 2, 729, 1000, 11, 12]), (20, [2, 3, 5], [60, 0, 5, 730, 11, 12, 9, 1007, 1008]), (20, [5, 3], [50, 1, 0, 1001, 0, 2, 1, 0, 2, 1, 1]), (24, [0, 2], []), (24, [1, 3], [])])]
def t_Fa_learnTurned_ct : ct_L := [(1, 156, e_Fa_gather), (1, 159, e_Fa_orderLarge), (1, 163, e_Fa_orderSmall), (18, 139, e_jArr_fill1_v61), (169, 148, e_Fa_numberStrong_at_Faloop)]
set_option maxRecDepth 100000 in
theorem c_Fa_learnTurned {l : Launch} {D : va_G} {kA : Nat → ClassId} (h_Fa_gather : ct_ok PRD l D kA GG y_Fa_gather z_Fa_gather e_Fa_gather) (h_Fa_numberStrong_at_Faloop : ct_ok PRD l D kA GG y_Fa_numberStrong_at_Faloop z_Fa_numberStrong_at_Faloop e_Fa_numberStrong_at_Faloop) (h_Fa_orderLarge : ct_ok PRD l D kA GG y_Fa_orderLarge z_Fa_orderLarge e_Fa_orderLarge) (h_Fa_orderSmall : ct_ok PRD l D kA GG y_Fa_orderSmall z_Fa_orderSmall e_Fa_orderSmall) : ct_ok PRD l D kA GG y_Fa_learnTurned z_Fa_learnTurned e_Fa_learnTurned := chk_all_ok (FT := [(41, 2, 9), (45, 2, 10), (48, 2, 11), (51, 2, 12), (64, 3, 0), (69, 3, 1), (72, 3, 7), (75, 3, 8)]) (PT := []) (CT := t_Fa_learnTurned_ct) (KT := []) (NT := []) (AN := n_Fa_learnTurned_an) (OT := [o_Fa_learnTurned_0, o_Fa_learnTurned_1, o_Fa_learnTurned_2, o_Fa_learnTurned_3, o_Fa_learnTurned_4, o_Fa_learnTurned_5, o_Fa_learnTurned_6, o_Fa_learnTurned_7, o_Fa_learnTurned_8, o_Fa_learnTurned_9, o_Fa_learnTurned_10, o_Fa_learnTurned_11, o_Fa_learnTurned_12, o_Fa_learnTurned_13, o_Fa_learnTurned_14]) 3 472 (List.forall_mem_cons.mpr ⟨oo_Fa_learnTurned_0, List.forall_mem_cons.mpr ⟨oo_Fa_learnTurned_1, List.forall_mem_cons.mpr ⟨oo_Fa_learnTurned_2, List.forall_mem_cons.mpr ⟨oo_Fa_learnTurned_3, List.forall_mem_cons.mpr ⟨oo_Fa_learnTurned_4, List.forall_mem_cons.mpr ⟨oo_Fa_learnTurned_5, List.forall_mem_cons.mpr ⟨oo_Fa_learnTurned_6, List.forall_mem_cons.mpr ⟨oo_Fa_learnTurned_7, List.forall_mem_cons.mpr ⟨oo_Fa_learnTurned_8, List.forall_mem_cons.mpr ⟨oo_Fa_learnTurned_9, List.forall_mem_cons.mpr ⟨oo_Fa_learnTurned_10, List.forall_mem_cons.mpr ⟨oo_Fa_learnTurned_11, List.forall_mem_cons.mpr ⟨oo_Fa_learnTurned_12, List.forall_mem_cons.mpr ⟨oo_Fa_learnTurned_13, List.forall_mem_cons.mpr ⟨oo_Fa_learnTurned_14, List.forall_mem_nil _⟩⟩⟩⟩⟩⟩⟩⟩⟩⟩⟩⟩⟩⟩⟩) (by decide +kernel) ⟨List.forall_mem_cons.mpr ⟨gf_Fa_41, List.forall_mem_cons.mpr ⟨gf_Fa_45, List.forall_mem_cons.mpr ⟨gf_Fa_48, List.forall_mem_cons.mpr ⟨gf_Fa_51, List.forall_mem_cons.mpr ⟨gf_Fa_64, List.forall_mem_cons.mpr ⟨gf_Fa_69, List.forall_mem_cons.mpr ⟨gf_Fa_72, List.forall_mem_cons.mpr ⟨gf_Fa_75, List.forall_mem_nil _⟩⟩⟩⟩⟩⟩⟩⟩, List.forall_mem_nil _, List.forall_mem_cons.mpr ⟨cl_virtual (y := y_Fa_gather) (ci := 2) rfl rfl ⟨_, _, rfl⟩ (by decide +kernel) h_Fa_gather wm_881 wm_7 wm_878 wm_880 wv_2_6 ⟨by decide, by decide, by decide +kernel⟩ (by decide), List.forall_mem_cons.mpr ⟨cl_virtual (y := y_Fa_orderLarge) (ci := 2) rfl rfl ⟨_, _, rfl⟩ (by decide +kernel) h_Fa_orderLarge wm_885 wm_7 wm_882 wm_884 wv_2_7 ⟨by decide, by decide, by decide +kernel⟩ (by decide), List.forall_mem_cons.mpr ⟨cl_virtual (y := y_Fa_orderSmall) (ci := 2) rfl rfl ⟨_, _, rfl⟩ (by decide +kernel) h_Fa_orderSmall wm_904 wm_7 wm_901 wm_903 wv_2_10 ⟨by decide, by decide, by decide +kernel⟩ (by decide), List.forall_mem_cons.mpr ⟨cl_static (y := y_jArr_fill1) c_jArr_fill1_v61 wm_55 wm_4 wm_855 wm_54 ⟨by decide, by decide, by decide +kernel⟩ (by decide), List.forall_mem_cons.mpr ⟨cl_virtual (y := y_Fa_numberStrong_at_Faloop) (ci := 2) rfl rfl ⟨_, _, rfl⟩ (by decide +kernel) h_Fa_numberStrong_at_Faloop wm_859 wm_7 wm_856 wm_858 wv_2_2 ⟨by decide, by decide, by decide +kernel⟩ (by decide), List.forall_mem_nil _⟩⟩⟩⟩⟩, List.forall_mem_nil _, List.forall_mem_nil _, GG_pl⟩ (by decide +kernel)

set_option maxHeartbeats 4000000 in
theorem vc_La_findLayers_0_0 (x4 : Int) (nodes_0o2 : Int) (k4 : 0 ≤ x4 ∧ x4 ≤ 24) (g0 : x4 = nodes_0o2) (kz_2_0 : 0 ≤ nodes_0o2 ∧ nodes_0o2 ≤ 24) : x4 = nodes_0o2 := by
  first
    | omega
    | (have q := (‹AP4 _ _ _ _ _ _ _ _ _ _›).1; omega)
    | (have q := (‹APB _ _ _ _ _ _ _ _ _ _›).1; omega)
    | (have q := (‹LYQ _ _ _ _ _›).1 x5 (by omega) (by omega); omega)
  
def o_La_findLayers_0 : or_T := (11, 5, [(2, (2, 0, 0, [3])), (4, (0, 0, 24, []))], [(9, [4, 2], [0])], [], [], [(20, [4, 2], [50, 1, 0, 1000, 1, 2, 1, 0, 2, 1, 0])], [], [])
theorem oo_La_findLayers_0 {kA : Nat → ClassId} : or_ok PRD kA GG o_La_findLayers_0 := by
  refine or_mk fun A ta ws vs hD hth hl => ?_
  intro t2 r2 t4 k4 f0
  replace f0 := shm_163 f0
  have g0 : v_iv (n_v vs 4) = w_fi ws (n_v vs 2) 0 := congrArg v_iv f0
  have kz_2_0 := fdq_21 hD hth r2
  have nf0 : fc_1 PRD (20, [4, 2], [50, 1, 0, 1000, 1, 2, 1, 0, 2, 1, 0]) ws (vs) := ⟨nf_in hl rfl, sgq_836 (vc_La_findLayers_0_0 (v_iv (n_v vs 4)) (w_fi ws (n_v vs 2) 0) k4 g0 kz_2_0)⟩
  refine ⟨(fun _ h => (by cases h)), [], trivial, ?_, (fun _ h => (by cases h))⟩
  rw [List.append_nil]
  exact List.forall_mem_cons.mpr ⟨⟨show (20 : Nat) < 100 from by decide, nf0⟩, (fun _ h => (by cases h))⟩
set_option maxHeartbeats 4000000 in
theorem vc_La_findLayers_1_0 (x4 : Int) (x5 : Int) (tail_0o2 : Int → Int) (head_0o2 : Int → Int) (turned_0o1 : Int → Int) (arcs_0o3 : Int) (nodes_0o3 : Int) (weight_0o2 : Int → Int) (from_0o3 : Int → Int) (to_0o3 : Int → Int) (room_0o3 : Int → Int) (gain_0o3 : Int → Int) (k4 : 0 ≤ x4 ∧ x4 ≤ 24) (k5 : 0 ≤ x5 ∧ x5 ≤ 0) (f4 : (arcs_0o3 = 0) ∧ (nodes_0o3 = x4)) (kz_3_0 : 0 ≤ nodes_0o3 ∧ nodes_0o3 ≤ 72) (kz_3_1 : 0 ≤ arcs_0o3 ∧ arcs_0o3 ≤ 384) : AP4 (arcs_0o3) (from_0o3) (to_0o3) (room_0o3) (gain_0o3) (tail_0o2) (head_0o2) (weight_0o2) (turned_0o1) (x5) := by
  first
    | exact ap_start (by omega) (by omega)
    | (unfold AP4; rw [show 4 * x22 = x21 + 2 by omega]; exact ‹APB _ _ _ _ _ _ _ _ _ _›)
  
set_option maxHeartbeats 4000000 in
theorem vc_La_findLayers_1_1 (x4 : Int) (x5 : Int) (nodes_0o2 : Int) (arcs_0o3 : Int) (nodes_0o3 : Int) (k4 : 0 ≤ x4 ∧ x4 ≤ 24) (g0 : x4 = nodes_0o2) (f4 : (arcs_0o3 = 0) ∧ (nodes_0o3 = x4)) (kz_2_0 : 0 ≤ nodes_0o2 ∧ nodes_0o2 ≤ 24) (kz_3_0 : 0 ≤ nodes_0o3 ∧ nodes_0o3 ≤ 72) (kz_3_1 : 0 ≤ arcs_0o3 ∧ arcs_0o3 ≤ 384) : nodes_0o3 = nodes_0o2 := by
  first
    | omega
    | (have q := (‹AP4 _ _ _ _ _ _ _ _ _ _›).1; omega)
    | (have q := (‹APB _ _ _ _ _ _ _ _ _ _›).1; omega)
    | (have q := (‹LYQ _ _ _ _ _›).1 x5 (by omega) (by omega); omega)
  
set_option maxHeartbeats 4000000 in
theorem vc_La_findLayers_1_3 (x5 : Int) (edges_0o2 : Int) (k5 : 0 ≤ x5 ∧ x5 ≤ 0) (kz_2_1 : 0 ≤ edges_0o2 ∧ edges_0o2 ≤ 48) : x5 ≤ edges_0o2 := by
  first
    | omega
    | (have q := (‹AP4 _ _ _ _ _ _ _ _ _ _›).1; omega)
    | (have q := (‹APB _ _ _ _ _ _ _ _ _ _›).1; omega)
    | (have q := (‹LYQ _ _ _ _ _›).1 x5 (by omega) (by omega); omega)
  
def o_La_findLayers_1 : or_T := (16, 6, [(2, (2, 0, 0, [3])), (3, (2, 0, 0, [10])), (4, (0, 0, 24, [])), (5, (0, 0, 0, []))], [(9, [4, 2], [0]), (20, [3, 4], [50, 2, 0, 1, 0, 2, 7, 1, 3, 2, 0, 1, 0, 0, 1, 3, 2, 0, 0, 1, 1])], [], [], [(20, [3, 2, 1, 5], [60, 1, 8, 654, 1, 2, 3, 4, 5, 1007, 1008, 1009, 2009]), (20, [3, 2], [50, 2, 0, 0, 1000, 1, 3, 2, 0, 0, 2, 1, 0]), (24, [2, 2], []), (20, [5, 2], [50, 1, 0, 1001, 0, 2, 1, 0, 2, 1, 1]), (24, [1, 1], []), (24, [0, 0], []), (24, [1, 1], [])], [], [])
theorem oo_La_findLayers_1 {kA : Nat → ClassId} : or_ok PRD kA GG o_La_findLayers_1 := by
  refine or_mk fun A ta ws vs hD hth hl => ?_
  intro t2 r2 t3 r3 t4 k4 t5 k5 f0 f4
  replace f0 := shm_163 f0
  have g0 : v_iv (n_v vs 4) = w_fi ws (n_v vs 2) 0 := congrArg v_iv f0
  have kz_2_0 := fdq_21 hD hth r2
  have kz_2_1 := fdq_30 hD hth r2
  have kz_3_0 := fdq_114 hD hth r3
  have kz_3_1 := fdq_113 hD hth r3
  have nf0 : fc_1 PRD (20, [3, 2, 1, 5], [60, 1, 8, 654, 1, 2, 3, 4, 5, 1007, 1008, 1009, 2009]) ws (vs) := ⟨nf_in hl rfl, sgq_1907 (vc_La_findLayers_1_0 (v_iv (n_v vs 4)) (v_iv (n_v vs 5)) (w_ei ws (w_ar ws (n_v vs 2) 7)) (w_ei ws (w_ar ws (n_v vs 2) 8)) (w_ei ws (w_ar ws (n_v vs 1) 9)) (w_fi ws (n_v vs 3) 1) (w_fi ws (n_v vs 3) 0) (w_ei ws (w_ar ws (n_v vs 2) 9)) (w_ei ws (w_ar ws (n_v vs 3) 2)) (w_ei ws (w_ar ws (n_v vs 3) 3)) (w_ei ws (w_ar ws (n_v vs 3) 4)) (w_ei ws (w_ar ws (n_v vs 3) 5)) k4 k5 (shm_478 f4) kz_3_0 kz_3_1)⟩
  have nf1 : fc_1 PRD (20, [3, 2], [50, 2, 0, 0, 1000, 1, 3, 2, 0, 0, 2, 1, 0]) ws (vs) := ⟨nf_in hl rfl, sgq_1908 (vc_La_findLayers_1_1 (v_iv (n_v vs 4)) (v_iv (n_v vs 5)) (w_fi ws (n_v vs 2) 0) (w_fi ws (n_v vs 3) 1) (w_fi ws (n_v vs 3) 0) k4 g0 (shm_478 f4) kz_2_0 kz_3_0 kz_3_1)⟩
  have nf2 : fc_1 PRD (24, [2, 2], []) ws (vs) := by
    refine ⟨nf_in hl rfl, sgq_1 ?_⟩
    · show n_v vs 2 = n_v vs 2
      first | rfl | simp only [true_and]
  have nf3 : fc_1 PRD (20, [5, 2], [50, 1, 0, 1001, 0, 2, 1, 0, 2, 1, 1]) ws (vs) := ⟨nf_in hl rfl, sgq_483 (vc_La_findLayers_1_3 (v_iv (n_v vs 5)) (w_fi ws (n_v vs 2) 1) k5 kz_2_1)⟩
  have nf4 : fc_1 PRD (24, [1, 1], []) ws (vs) := by
    refine ⟨nf_in hl rfl, sgq_1 ?_⟩
    · show n_v vs 1 = n_v vs 1
      first | rfl | simp only [true_and]
  have nf5 : fc_1 PRD (24, [0, 0], []) ws (vs) := by
    refine ⟨nf_in hl rfl, sgq_1 ?_⟩
    · show n_v vs 0 = n_v vs 0
      first | rfl | simp only [true_and]
  have nf6 : fc_1 PRD (24, [1, 1], []) ws (vs) := by
    refine ⟨nf_in hl rfl, sgq_1 ?_⟩
    · show n_v vs 1 = n_v vs 1
      first | rfl | simp only [true_and]
  refine ⟨(fun _ h => (by cases h)), [], trivial, ?_, (fun _ h => (by cases h))⟩
  rw [List.append_nil]
  exact List.forall_mem_cons.mpr ⟨⟨show (20 : Nat) < 100 from by decide, nf0⟩, List.forall_mem_cons.mpr ⟨⟨show (20 : Nat) < 100 from by decide, nf1⟩, List.forall_mem_cons.mpr ⟨⟨show (24 : Nat) < 100 from by decide, nf2⟩, List.forall_mem_cons.mpr ⟨⟨show (20 : Nat) < 100 from by decide, nf3⟩, List.forall_mem_cons.mpr ⟨⟨show (24 : Nat) < 100 from by decide, nf4⟩, List.forall_mem_cons.mpr ⟨⟨show (24 : Nat) < 100 from by decide, nf5⟩, List.forall_mem_cons.mpr ⟨⟨show (24 : Nat) < 100 from by decide, nf6⟩, (fun _ h => (by cases h))⟩⟩⟩⟩⟩⟩⟩
set_option maxHeartbeats 4000000 in
theorem vc_La_findLayers_2_0 (x5 : Int) (x8 : Int) (edges_0o2 : Int) (from_0o6 : Int → Int) (to_0o6 : Int → Int) (room_0o6 : Int → Int) (gain_0o6 : Int → Int) (tail_0o2 : Int → Int) (head_0o2 : Int → Int) (weight_0o2 : Int → Int) (turned_0o1 : Int → Int) (arcs_0o6 : Int) (k5 : 0 ≤ x5 ∧ x5 ≤ 48) (k8 : 0 ≤ x8 ∧ x8 ≤ 48) (d0 : x8 + 0 ≤ x5 ∧ x5 ≤ x8 + 4294967296) (g1 : x8 = edges_0o2) (f2 : AP4 (arcs_0o6) (from_0o6) (to_0o6) (room_0o6) (gain_0o6) (tail_0o2) (head_0o2) (weight_0o2) (turned_0o1) (x5)) (f7 : x5 ≤ edges_0o2) (kz_2_1 : 0 ≤ edges_0o2 ∧ edges_0o2 ≤ 48) (kz_6_1 : 0 ≤ arcs_0o6 ∧ arcs_0o6 ≤ 384) : AFT (edges_0o2) (from_0o6) (to_0o6) (tail_0o2) (head_0o2) (turned_0o1) := by
  first
    | assumption
    | (have q := aft_of ‹AP4 _ _ _ _ _ _ _ _ _ _›; rw [show edges_0o2 = x5 by omega]; exact q)
  
set_option maxHeartbeats 4000000 in
theorem vc_La_findLayers_2_1 (x5 : Int) (x8 : Int) (edges_0o2 : Int) (from_0o6 : Int → Int) (to_0o6 : Int → Int) (room_0o6 : Int → Int) (gain_0o6 : Int → Int) (tail_0o2 : Int → Int) (head_0o2 : Int → Int) (weight_0o2 : Int → Int) (turned_0o1 : Int → Int) (arcs_0o6 : Int) (k5 : 0 ≤ x5 ∧ x5 ≤ 48) (k8 : 0 ≤ x8 ∧ x8 ≤ 48) (d0 : x8 + 0 ≤ x5 ∧ x5 ≤ x8 + 4294967296) (g1 : x8 = edges_0o2) (f2 : AP4 (arcs_0o6) (from_0o6) (to_0o6) (room_0o6) (gain_0o6) (tail_0o2) (head_0o2) (weight_0o2) (turned_0o1) (x5)) (f7 : x5 ≤ edges_0o2) (kz_2_1 : 0 ≤ edges_0o2 ∧ edges_0o2 ≤ 48) (kz_6_1 : 0 ≤ arcs_0o6 ∧ arcs_0o6 ≤ 384) : arcs_0o6 = (edges_0o2 * 4) := by
  first
    | omega
    | (have q := (‹AP4 _ _ _ _ _ _ _ _ _ _›).1; omega)
    | (have q := (‹APB _ _ _ _ _ _ _ _ _ _›).1; omega)
    | (have q := (‹LYQ _ _ _ _ _›).1 x5 (by omega) (by omega); omega)
  
set_option maxHeartbeats 4000000 in
theorem vc_La_findLayers_2_2 (x5 : Int) (x8 : Int) (edges_0o2 : Int) (from_0o6 : Int → Int) (to_0o6 : Int → Int) (room_0o6 : Int → Int) (gain_0o6 : Int → Int) (tail_0o2 : Int → Int) (head_0o2 : Int → Int) (weight_0o2 : Int → Int) (turned_0o1 : Int → Int) (arcs_0o6 : Int) (nodes_0o2 : Int) (nodes_0o6 : Int) (k5 : 0 ≤ x5 ∧ x5 ≤ 48) (k8 : 0 ≤ x8 ∧ x8 ≤ 48) (d0 : x8 + 0 ≤ x5 ∧ x5 ≤ x8 + 4294967296) (g1 : x8 = edges_0o2) (f2 : AP4 (arcs_0o6) (from_0o6) (to_0o6) (room_0o6) (gain_0o6) (tail_0o2) (head_0o2) (weight_0o2) (turned_0o1) (x5)) (f3 : GKE (nodes_0o2) (edges_0o2) (tail_0o2) (head_0o2)) (f4 : TPO (edges_0o2) (tail_0o2) (head_0o2) (turned_0o1)) (f5 : nodes_0o6 = nodes_0o2) (f7 : x5 ≤ edges_0o2) (hK_2_9 : ∀ j : Int, 0 ≤ j → j < 48 → 0 ≤ weight_0o2 j ∧ weight_0o2 j ≤ 9) (kz_2_0 : 0 ≤ nodes_0o2 ∧ nodes_0o2 ≤ 24) (kz_2_1 : 0 ≤ edges_0o2 ∧ edges_0o2 ≤ 48) (kz_6_0 : 0 ≤ nodes_0o6 ∧ nodes_0o6 ≤ 72) (kz_6_1 : 0 ≤ arcs_0o6 ∧ arcs_0o6 ≤ 384) : FLO0 (nodes_0o6) (arcs_0o6) (from_0o6) (to_0o6) (room_0o6) (gain_0o6) := by
  first
    | (rw [show nodes_0o6 = nodes_0o2 by omega]; exact flo_ap (m := edges_0o2) ‹AP4 _ _ _ _ _ _ _ _ _ _› (by omega) (by omega) (by omega) (by omega) (by omega) ‹GKE _ _ _ _› ‹TPO _ _ _ _› (by assumption))
  
def o_La_findLayers_2 : or_T := (85, 9, [(2, (2, 0, 0, [3])), (5, (0, 0, 48, [])), (6, (2, 0, 0, [10])), (8, (0, 0, 48, []))], [(9, [8, 7], [1]), (20, [6, 7, 4, 5], [60, 1, 8, 654, 1, 2, 3, 4, 5, 1007, 1008, 1009, 2009]), (20, [7], [60, 2, 2, 596, 0, 1, 7, 8]), (20, [7, 4], [60, 1, 3, 658, 1, 7, 8, 1009]), (20, [6, 7], [50, 2, 0, 0, 1000, 1, 3, 2, 0, 0, 2, 1, 0]), (24, [2, 7], []), (20, [5, 7], [50, 1, 0, 1001, 0, 2, 1, 0, 2, 1, 1]), (24, [1, 4], [])], [], [], [(20, [6, 7, 4], [60, 1, 5, 659, 1001, 2, 3, 1007, 1008, 2009]), (20, [6, 7], [50, 2, 0, 1, 1001, 1, 3, 2, 0, 1, 6, 3, 2, 1, 1, 0, 4]), (20, [6], [60, 2, 4, 532, 0, 1, 2, 3, 4, 5])], [], [(5, 8, 0, 4294967296)])
theorem oo_La_findLayers_2 {kA : Nat → ClassId} : or_ok PRD kA GG o_La_findLayers_2 := by
  refine or_mk fun A ta ws vs hD hth hl => ?_
  intro t2 r2 t5 k5 t6 r6 t8 k8 d0 f1 f2 f3 f4 f5 f6 f7 f8
  replace f1 := shm_215 f1
  replace f2 := shm_1907 f2
  replace f3 := shm_386 f3
  replace f4 := shm_1906 f4
  replace f5 := shm_1908 f5
  replace f6 := shm_5 f6
  replace f7 := shm_483 f7
  replace f8 := shm_5 f8
  have q7 : n_v vs 7 = n_v vs 2 := f6.symm
  have q4 : n_v vs 4 = n_v vs 1 := f8.symm
  simp only [q7, q4] at f1 f2 f3 f4 f5 f7
  have cr_2_9 := fdq_112 hD hth r2
  have g1 : v_iv (n_v vs 8) = w_fi ws (n_v vs 2) 1 := congrArg v_iv f1
  have hK_2_9 := elq_57 hD hth cr_2_9
  have kz_2_0 := fdq_21 hD hth r2
  have kz_2_1 := fdq_30 hD hth r2
  have kz_6_0 := fdq_114 hD hth r6
  have kz_6_1 := fdq_113 hD hth r6
  have nf0 : fc_1 PRD (20, [6, 7, 4], [60, 1, 5, 659, 1001, 2, 3, 1007, 1008, 2009]) ws (vs) := by
    refine ⟨nf_in hl rfl, sgq_1909 ?_⟩
    · show AFT (w_fi ws (n_v vs 7) 1) (w_ei ws (w_ar ws (n_v vs 6) 2)) (w_ei ws (w_ar ws (n_v vs 6) 3)) (w_ei ws (w_ar ws (n_v vs 7) 7)) (w_ei ws (w_ar ws (n_v vs 7) 8)) (w_ei ws (w_ar ws (n_v vs 4) 9))
      simp only [q7, q4]
      exact vc_La_findLayers_2_0 (v_iv (n_v vs 5)) (v_iv (n_v vs 8)) (w_fi ws (n_v vs 2) 1) (w_ei ws (w_ar ws (n_v vs 6) 2)) (w_ei ws (w_ar ws (n_v vs 6) 3)) (w_ei ws (w_ar ws (n_v vs 6) 4)) (w_ei ws (w_ar ws (n_v vs 6) 5)) (w_ei ws (w_ar ws (n_v vs 2) 7)) (w_ei ws (w_ar ws (n_v vs 2) 8)) (w_ei ws (w_ar ws (n_v vs 2) 9)) (w_ei ws (w_ar ws (n_v vs 1) 9)) (w_fi ws (n_v vs 6) 1) k5 k8 d0 g1 f2 f7 kz_2_1 kz_6_1
  have nf1 : fc_1 PRD (20, [6, 7], [50, 2, 0, 1, 1001, 1, 3, 2, 0, 1, 6, 3, 2, 1, 1, 0, 4]) ws (vs) := by
    refine ⟨nf_in hl rfl, sgq_1910 ?_⟩
    · show w_fi ws (n_v vs 6) 1 = (w_fi ws (n_v vs 7) 1 * 4)
      rw [q7]
      exact vc_La_findLayers_2_1 (v_iv (n_v vs 5)) (v_iv (n_v vs 8)) (w_fi ws (n_v vs 2) 1) (w_ei ws (w_ar ws (n_v vs 6) 2)) (w_ei ws (w_ar ws (n_v vs 6) 3)) (w_ei ws (w_ar ws (n_v vs 6) 4)) (w_ei ws (w_ar ws (n_v vs 6) 5)) (w_ei ws (w_ar ws (n_v vs 2) 7)) (w_ei ws (w_ar ws (n_v vs 2) 8)) (w_ei ws (w_ar ws (n_v vs 2) 9)) (w_ei ws (w_ar ws (n_v vs 1) 9)) (w_fi ws (n_v vs 6) 1) k5 k8 d0 g1 f2 f7 kz_2_1 kz_6_1
  have nf2 : fc_1 PRD (20, [6], [60, 2, 4, 532, 0, 1, 2, 3, 4, 5]) ws (vs) := ⟨nf_in hl rfl, sgq_1611 (vc_La_findLayers_2_2 (v_iv (n_v vs 5)) (v_iv (n_v vs 8)) (w_fi ws (n_v vs 2) 1) (w_ei ws (w_ar ws (n_v vs 6) 2)) (w_ei ws (w_ar ws (n_v vs 6) 3)) (w_ei ws (w_ar ws (n_v vs 6) 4)) (w_ei ws (w_ar ws (n_v vs 6) 5)) (w_ei ws (w_ar ws (n_v vs 2) 7)) (w_ei ws (w_ar ws (n_v vs 2) 8)) (w_ei ws (w_ar ws (n_v vs 2) 9)) (w_ei ws (w_ar ws (n_v vs 1) 9)) (w_fi ws (n_v vs 6) 1) (w_fi ws (n_v vs 2) 0) (w_fi ws (n_v vs 6) 0) k5 k8 d0 g1 f2 f3 f4 f5 f7 hK_2_9 kz_2_0 kz_2_1 kz_6_0 kz_6_1)⟩
  refine ⟨(fun _ h => (by cases h)), [], trivial, ?_, (fun _ h => (by cases h))⟩
  rw [List.append_nil]
  exact List.forall_mem_cons.mpr ⟨⟨show (20 : Nat) < 100 from by decide, nf0⟩, List.forall_mem_cons.mpr ⟨⟨show (20 : Nat) < 100 from by decide, nf1⟩, List.forall_mem_cons.mpr ⟨⟨show (20 : Nat) < 100 from by decide, nf2⟩, (fun _ h => (by cases h))⟩⟩⟩
set_option maxHeartbeats 4000000 in
theorem vc_La_findLayers_3_0 (x5 : Int) (x10 : Int) (layerCount_0 : Int) (edges_0o2 : Int) (from_0o6 : Int → Int) (to_0o6 : Int → Int) (tail_0o2 : Int → Int) (head_0o2 : Int → Int) (turned_0o1 : Int → Int) (arcs_0o6 : Int) (nodes_0o2 : Int) (nodes_0o6 : Int) (place_0o6 : Int → Int) (from_1o6 : Int → Int) (to_1o6 : Int → Int) (tail_1o2 : Int → Int) (head_1o2 : Int → Int) (turned_1o1 : Int → Int) (edges_1o2 : Int) (arcs_1o6 : Int) (nodes_1o2 : Int) (nodes_1o6 : Int) (place_1o6 : Int → Int) (layerOf_0 : Int → Int) (layerOf_1 : Int → Int) (k10 : 0 ≤ x10 ∧ x10 ≤ 0) (fe_2_0_1 : nodes_0o2 = nodes_1o2) (fe_2_1_1 : edges_0o2 = edges_1o2) (fe_6_0_1 : nodes_0o6 = nodes_1o6) (fe_6_1_1 : arcs_0o6 = arcs_1o6) (hE_0_4_1 : ∀ j : Int, layerOf_0 j = layerOf_1 j) (hE_1_9_1 : ∀ j : Int, turned_0o1 j = turned_1o1 j) (hE_2_7_1 : ∀ j : Int, tail_0o2 j = tail_1o2 j) (hE_2_8_1 : ∀ j : Int, head_0o2 j = head_1o2 j) (hE_6_2_1 : ∀ j : Int, from_0o6 j = from_1o6 j) (hE_6_3_1 : ∀ j : Int, to_0o6 j = to_1o6 j) (hE_6_6_1 : ∀ j : Int, place_0o6 j = place_1o6 j) (kz_0_2 : 0 ≤ layerCount_0 ∧ layerCount_0 ≤ 24) (kz_2_0 : 0 ≤ nodes_0o2 ∧ nodes_0o2 ≤ 24) (kz_2_1 : 0 ≤ edges_0o2 ∧ edges_0o2 ≤ 48) (kz_6_0 : 0 ≤ nodes_0o6 ∧ nodes_0o6 ≤ 72) (kz_6_1 : 0 ≤ arcs_0o6 ∧ arcs_0o6 ≤ 384) : LYF (layerCount_0) (layerOf_0) (place_0o6) (x10) := by
  subst fe_2_0_1
  subst fe_2_1_1
  subst fe_6_0_1
  subst fe_6_1_1
  have e_hE_0_4_1 := funext hE_0_4_1; subst e_hE_0_4_1
  have e_hE_1_9_1 := funext hE_1_9_1; subst e_hE_1_9_1
  have e_hE_2_7_1 := funext hE_2_7_1; subst e_hE_2_7_1
  have e_hE_2_8_1 := funext hE_2_8_1; subst e_hE_2_8_1
  have e_hE_6_2_1 := funext hE_6_2_1; subst e_hE_6_2_1
  have e_hE_6_3_1 := funext hE_6_3_1; subst e_hE_6_3_1
  have e_hE_6_6_1 := funext hE_6_6_1; subst e_hE_6_6_1
  first
    | exact lyf_start (by omega)
    | exact lyf_step (x := x12) (y := x13) (z := x15) (p := x5) ‹LYF _ _ _ _› (by assumption) rfl (by assumption) (by omega) (by assumption) (by omega) (by omega) (by omega) (by omega)
  
set_option maxHeartbeats 4000000 in
theorem vc_La_findLayers_3_1 (x5 : Int) (x10 : Int) (edges_0o2 : Int) (from_0o6 : Int → Int) (to_0o6 : Int → Int) (tail_0o2 : Int → Int) (head_0o2 : Int → Int) (turned_0o1 : Int → Int) (arcs_0o6 : Int) (nodes_0o2 : Int) (nodes_0o6 : Int) (place_0o6 : Int → Int) (from_1o6 : Int → Int) (to_1o6 : Int → Int) (tail_1o2 : Int → Int) (head_1o2 : Int → Int) (turned_1o1 : Int → Int) (edges_1o2 : Int) (arcs_1o6 : Int) (nodes_1o2 : Int) (nodes_1o6 : Int) (place_1o6 : Int → Int) (layerOf_0 : Int → Int) (layerOf_1 : Int → Int) (k10 : 0 ≤ x10 ∧ x10 ≤ 0) (fe_2_0_1 : nodes_0o2 = nodes_1o2) (fe_2_1_1 : edges_0o2 = edges_1o2) (fe_6_0_1 : nodes_0o6 = nodes_1o6) (fe_6_1_1 : arcs_0o6 = arcs_1o6) (hE_0_4_1 : ∀ j : Int, layerOf_0 j = layerOf_1 j) (hE_1_9_1 : ∀ j : Int, turned_0o1 j = turned_1o1 j) (hE_2_7_1 : ∀ j : Int, tail_0o2 j = tail_1o2 j) (hE_2_8_1 : ∀ j : Int, head_0o2 j = head_1o2 j) (hE_6_2_1 : ∀ j : Int, from_0o6 j = from_1o6 j) (hE_6_3_1 : ∀ j : Int, to_0o6 j = to_1o6 j) (hE_6_6_1 : ∀ j : Int, place_0o6 j = place_1o6 j) (kz_2_0 : 0 ≤ nodes_0o2 ∧ nodes_0o2 ≤ 24) (kz_2_1 : 0 ≤ edges_0o2 ∧ edges_0o2 ≤ 48) (kz_6_0 : 0 ≤ nodes_0o6 ∧ nodes_0o6 ≤ 72) (kz_6_1 : 0 ≤ arcs_0o6 ∧ arcs_0o6 ≤ 384) : x10 ≤ nodes_0o2 := by
  subst fe_2_0_1
  subst fe_2_1_1
  subst fe_6_0_1
  subst fe_6_1_1
  have e_hE_0_4_1 := funext hE_0_4_1; subst e_hE_0_4_1
  have e_hE_1_9_1 := funext hE_1_9_1; subst e_hE_1_9_1
  have e_hE_2_7_1 := funext hE_2_7_1; subst e_hE_2_7_1
  have e_hE_2_8_1 := funext hE_2_8_1; subst e_hE_2_8_1
  have e_hE_6_2_1 := funext hE_6_2_1; subst e_hE_6_2_1
  have e_hE_6_3_1 := funext hE_6_3_1; subst e_hE_6_3_1
  have e_hE_6_6_1 := funext hE_6_6_1; subst e_hE_6_6_1
  first
    | omega
    | (have q := (‹AP4 _ _ _ _ _ _ _ _ _ _›).1; omega)
    | (have q := (‹APB _ _ _ _ _ _ _ _ _ _›).1; omega)
    | (have q := (‹LYQ _ _ _ _ _›).1 x5 (by omega) (by omega); omega)
  
def o_La_findLayers_3 : or_T := (95, 11, [(0, (2, 0, 0, [4])), (2, (2, 0, 0, [3])), (6, (2, 0, 0, [10])), (10, (0, 0, 0, []))], [(24, [2, 7], []), (24, [0, 3], []), (101, [3, 9], [2])], [], [], [(20, [3, 6, 10], [60, 1, 2, 661, 2, 4, 1006]), (20, [10, 7], [50, 1, 0, 1000, 0, 2, 1, 0, 2, 1, 0])], [], [])
theorem oo_La_findLayers_3 {kA : Nat → ClassId} : or_ok PRD kA GG o_La_findLayers_3 := by
  refine or_mk fun A ta ws vs hD hth hl => ?_
  intro t0 r0 t2 r2 t6 r6 t10 k10 f7 f10 ta1 w1 le1 s1
  replace f7 := shm_5 f7
  replace f10 := shm_5 f10
  have s1 : (∀ b j, w_el ws b j = w_el w1 b j) ∧ ∀ b j, w_fd ws b j = if b = v_ad (n_v vs 3) ∧ j = 2 then n_v vs 9 else w_fd w1 b j := s1.2
  have q7 : n_v vs 7 = n_v vs 2 := f7.symm
  have q3 : n_v vs 3 = n_v vs 0 := f10.symm
  rw [q3] at s1
  have fe_2_0_1 : w_fi ws (n_v vs 2) 0 = w_fi w1 (n_v vs 2) 0 := by show v_iv (w_fd _ _ _) = v_iv (w_fd _ _ _); rw [s1.2, if_neg (fun e => absurd e.2 (by decide))]
  have fe_2_1_1 : w_fi ws (n_v vs 2) 1 = w_fi w1 (n_v vs 2) 1 := by show v_iv (w_fd _ _ _) = v_iv (w_fd _ _ _); rw [s1.2, if_neg (fun e => absurd e.2 (by decide))]
  have fe_6_0_1 : w_fi ws (n_v vs 6) 0 = w_fi w1 (n_v vs 6) 0 := by show v_iv (w_fd _ _ _) = v_iv (w_fd _ _ _); rw [s1.2, if_neg (fun e => absurd e.2 (by decide))]
  have fe_6_1_1 : w_fi ws (n_v vs 6) 1 = w_fi w1 (n_v vs 6) 1 := by show v_iv (w_fd _ _ _) = v_iv (w_fd _ _ _); rw [s1.2, if_neg (fun e => absurd e.2 (by decide))]
  have hE_0_4_1 : ∀ j : Int, w_ei ws (w_ar ws (n_v vs 0) 4) j = w_ei w1 (w_ar ws (n_v vs 0) 4) j := fun j => s1.1 _ _
  have hE_1_9_1 : ∀ j : Int, w_ei ws (w_ar ws (n_v vs 1) 9) j = w_ei w1 (w_ar ws (n_v vs 1) 9) j := fun j => s1.1 _ _
  have hE_2_7_1 : ∀ j : Int, w_ei ws (w_ar ws (n_v vs 2) 7) j = w_ei w1 (w_ar ws (n_v vs 2) 7) j := fun j => s1.1 _ _
  have hE_2_8_1 : ∀ j : Int, w_ei ws (w_ar ws (n_v vs 2) 8) j = w_ei w1 (w_ar ws (n_v vs 2) 8) j := fun j => s1.1 _ _
  have hE_6_2_1 : ∀ j : Int, w_ei ws (w_ar ws (n_v vs 6) 2) j = w_ei w1 (w_ar ws (n_v vs 6) 2) j := fun j => s1.1 _ _
  have hE_6_3_1 : ∀ j : Int, w_ei ws (w_ar ws (n_v vs 6) 3) j = w_ei w1 (w_ar ws (n_v vs 6) 3) j := fun j => s1.1 _ _
  have hE_6_6_1 : ∀ j : Int, w_ei ws (w_ar ws (n_v vs 6) 6) j = w_ei w1 (w_ar ws (n_v vs 6) 6) j := fun j => s1.1 _ _
  have kz_0_2 := fdq_77 hD hth r0
  have kz_2_0 := fdq_21 hD hth r2
  have kz_2_1 := fdq_30 hD hth r2
  have kz_6_0 := fdq_114 hD hth r6
  have kz_6_1 := fdq_113 hD hth r6
  have nf0 : fc_1 PRD (20, [3, 6, 10], [60, 1, 2, 661, 2, 4, 1006]) ws (vs) := by
    refine ⟨nf_in hl rfl, sgq_1911 ?_⟩
    · show LYF (w_fi ws (n_v vs 3) 2) (w_ei ws (w_ar ws (n_v vs 3) 4)) (w_ei ws (w_ar ws (n_v vs 6) 6)) (v_iv (n_v vs 10))
      rw [q3]
      exact vc_La_findLayers_3_0 (v_iv (n_v vs 5)) (v_iv (n_v vs 10)) (w_fi ws (n_v vs 0) 2) (w_fi ws (n_v vs 2) 1) (w_ei ws (w_ar ws (n_v vs 6) 2)) (w_ei ws (w_ar ws (n_v vs 6) 3)) (w_ei ws (w_ar ws (n_v vs 2) 7)) (w_ei ws (w_ar ws (n_v vs 2) 8)) (w_ei ws (w_ar ws (n_v vs 1) 9)) (w_fi ws (n_v vs 6) 1) (w_fi ws (n_v vs 2) 0) (w_fi ws (n_v vs 6) 0) (w_ei ws (w_ar ws (n_v vs 6) 6)) (w_ei w1 (w_ar ws (n_v vs 6) 2)) (w_ei w1 (w_ar ws (n_v vs 6) 3)) (w_ei w1 (w_ar ws (n_v vs 2) 7)) (w_ei w1 (w_ar ws (n_v vs 2) 8)) (w_ei w1 (w_ar ws (n_v vs 1) 9)) (w_fi w1 (n_v vs 2) 1) (w_fi w1 (n_v vs 6) 1) (w_fi w1 (n_v vs 2) 0) (w_fi w1 (n_v vs 6) 0) (w_ei w1 (w_ar ws (n_v vs 6) 6)) (w_ei ws (w_ar ws (n_v vs 0) 4)) (w_ei w1 (w_ar ws (n_v vs 0) 4)) k10 fe_2_0_1 fe_2_1_1 fe_6_0_1 fe_6_1_1 hE_0_4_1 hE_1_9_1 hE_2_7_1 hE_2_8_1 hE_6_2_1 hE_6_3_1 hE_6_6_1 kz_0_2 kz_2_0 kz_2_1 kz_6_0 kz_6_1
  have nf1 : fc_1 PRD (20, [10, 7], [50, 1, 0, 1000, 0, 2, 1, 0, 2, 1, 0]) ws (vs) := by
    refine ⟨nf_in hl rfl, sgq_411 ?_⟩
    · show v_iv (n_v vs 10) ≤ w_fi ws (n_v vs 7) 0
      rw [q7]
      exact vc_La_findLayers_3_1 (v_iv (n_v vs 5)) (v_iv (n_v vs 10)) (w_fi ws (n_v vs 2) 1) (w_ei ws (w_ar ws (n_v vs 6) 2)) (w_ei ws (w_ar ws (n_v vs 6) 3)) (w_ei ws (w_ar ws (n_v vs 2) 7)) (w_ei ws (w_ar ws (n_v vs 2) 8)) (w_ei ws (w_ar ws (n_v vs 1) 9)) (w_fi ws (n_v vs 6) 1) (w_fi ws (n_v vs 2) 0) (w_fi ws (n_v vs 6) 0) (w_ei ws (w_ar ws (n_v vs 6) 6)) (w_ei w1 (w_ar ws (n_v vs 6) 2)) (w_ei w1 (w_ar ws (n_v vs 6) 3)) (w_ei w1 (w_ar ws (n_v vs 2) 7)) (w_ei w1 (w_ar ws (n_v vs 2) 8)) (w_ei w1 (w_ar ws (n_v vs 1) 9)) (w_fi w1 (n_v vs 2) 1) (w_fi w1 (n_v vs 6) 1) (w_fi w1 (n_v vs 2) 0) (w_fi w1 (n_v vs 6) 0) (w_ei w1 (w_ar ws (n_v vs 6) 6)) (w_ei ws (w_ar ws (n_v vs 0) 4)) (w_ei w1 (w_ar ws (n_v vs 0) 4)) k10 fe_2_0_1 fe_2_1_1 fe_6_0_1 fe_6_1_1 hE_0_4_1 hE_1_9_1 hE_2_7_1 hE_2_8_1 hE_6_2_1 hE_6_3_1 hE_6_6_1 kz_2_0 kz_2_1 kz_6_0 kz_6_1
  refine ⟨(fun _ h => (by cases h)), [], trivial, ?_, (fun _ h => (by cases h))⟩
  rw [List.append_nil]
  exact List.forall_mem_cons.mpr ⟨⟨show (20 : Nat) < 100 from by decide, nf0⟩, List.forall_mem_cons.mpr ⟨⟨show (20 : Nat) < 100 from by decide, nf1⟩, (fun _ h => (by cases h))⟩⟩
set_option maxHeartbeats 4000000 in
theorem vc_La_findLayers_4_2 (x5 : Int) (weight_0o2 : Int → Int) (tail_0o2 : Int → Int) (head_0o2 : Int → Int) (turned_0o1 : Int → Int) (from_0o6 : Int → Int) (to_0o6 : Int → Int) (room_0o6 : Int → Int) (gain_0o6 : Int → Int) (arcs_0o6 : Int) (gu : Int) (k5 : 0 ≤ x5 ∧ x5 ≤ 47) (f6 : AP4 (arcs_0o6) (from_0o6) (to_0o6) (room_0o6) (gain_0o6) (tail_0o2) (head_0o2) (weight_0o2) (turned_0o1) (x5)) (kz_6_1 : 0 ≤ arcs_0o6 ∧ arcs_0o6 ≤ 384) (eu2 : gu = arcs_0o6) : AP (arcs_0o6) (from_0o6) (to_0o6) (room_0o6) (gain_0o6) (tail_0o2) (head_0o2) (weight_0o2) (turned_0o1) (gu) := by
  first
    | (have q := (‹AP4 _ _ _ _ _ _ _ _ _ _›); rw [show gu = 4 * x5 by (have := q.1; omega)]; exact q)
    | (have q := (‹APB _ _ _ _ _ _ _ _ _ _›); rw [show gu = x15 + 2 by (have := q.1; omega)]; exact q)
  
set_option maxHeartbeats 4000000 in
theorem vc_La_findLayers_4_3 (x5 : Int) (x9 : Int) (x10 : Int) (x12 : Int) (weight_0o2 : Int → Int) (tail_0o2 : Int → Int) (head_0o2 : Int → Int) (turned_0o1 : Int → Int) (from_0o6 : Int → Int) (to_0o6 : Int → Int) (room_0o6 : Int → Int) (gain_0o6 : Int → Int) (arcs_0o6 : Int) (gu : Int) (k5 : 0 ≤ x5 ∧ x5 ≤ 47) (k9 : 0 ≤ x9 ∧ x9 ≤ 23) (k10 : 0 ≤ x10 ∧ x10 ≤ 23) (k12 : 0 ≤ x12 ∧ x12 ≤ 9) (h0 : x12 = weight_0o2 (x5)) (f2 : LOX (tail_0o2) (head_0o2) (turned_0o1) (x5) (x10)) (f3 : UPX (tail_0o2) (head_0o2) (turned_0o1) (x5) (x9)) (f6 : AP4 (arcs_0o6) (from_0o6) (to_0o6) (room_0o6) (gain_0o6) (tail_0o2) (head_0o2) (weight_0o2) (turned_0o1) (x5)) (kz_6_1 : 0 ≤ arcs_0o6 ∧ arcs_0o6 ≤ 384) (eu2 : gu = arcs_0o6) : APQ (tail_0o2) (head_0o2) (weight_0o2) (turned_0o1) (gu) (x9) (x10) (x12) := by
  first
    | (have q := (‹AP4 _ _ _ _ _ _ _ _ _ _›).1; exact apq_of (e := x5) (by omega) ‹UPX _ _ _ _ _› ‹LOX _ _ _ _ _› (by assumption))
  
set_option maxHeartbeats 4000000 in
theorem vc_La_findLayers_4_4 (x5 : Int) (x8 : Int) (weight_0o2 : Int → Int) (tail_0o2 : Int → Int) (head_0o2 : Int → Int) (turned_0o1 : Int → Int) (edges_0o2 : Int) (from_0o6 : Int → Int) (to_0o6 : Int → Int) (room_0o6 : Int → Int) (gain_0o6 : Int → Int) (arcs_0o6 : Int) (gu : Int) (k5 : 0 ≤ x5 ∧ x5 ≤ 47) (k8 : 1 ≤ x8 ∧ x8 ≤ 48) (d0 : x8 + (-4294967296) ≤ x5 ∧ x5 ≤ x8 + (-1)) (g5 : x8 = edges_0o2) (f6 : AP4 (arcs_0o6) (from_0o6) (to_0o6) (room_0o6) (gain_0o6) (tail_0o2) (head_0o2) (weight_0o2) (turned_0o1) (x5)) (kz_2_1 : 0 ≤ edges_0o2 ∧ edges_0o2 ≤ 48) (kz_6_1 : 0 ≤ arcs_0o6 ∧ arcs_0o6 ≤ 384) (eu2 : gu = arcs_0o6) : gu ≤ 191 := by
  first
    | omega
    | (have q := (‹AP4 _ _ _ _ _ _ _ _ _ _›).1; omega)
    | (have q := (‹APB _ _ _ _ _ _ _ _ _ _›).1; omega)
    | (have q := (‹LYQ _ _ _ _ _›).1 x5 (by omega) (by omega); omega)
  
set_option maxHeartbeats 4000000 in
theorem vc_La_findLayers_4_5 (x5 : Int) (weight_0o2 : Int → Int) (tail_0o2 : Int → Int) (head_0o2 : Int → Int) (turned_0o1 : Int → Int) (from_0o6 : Int → Int) (to_0o6 : Int → Int) (room_0o6 : Int → Int) (gain_0o6 : Int → Int) (arcs_0o6 : Int) (gu : Int) (k5 : 0 ≤ x5 ∧ x5 ≤ 47) (f6 : AP4 (arcs_0o6) (from_0o6) (to_0o6) (room_0o6) (gain_0o6) (tail_0o2) (head_0o2) (weight_0o2) (turned_0o1) (x5)) (kz_6_1 : 0 ≤ arcs_0o6 ∧ arcs_0o6 ≤ 384) (eu2 : gu = arcs_0o6) : gu = (x5 * 4) := by
  first
    | omega
    | (have q := (‹AP4 _ _ _ _ _ _ _ _ _ _›).1; omega)
    | (have q := (‹APB _ _ _ _ _ _ _ _ _ _›).1; omega)
    | (have q := (‹LYQ _ _ _ _ _›).1 x5 (by omega) (by omega); omega)
  
set_option maxHeartbeats 4000000 in
theorem vc_La_findLayers_4_6 (tail_0o2 : Int → Int) (head_0o2 : Int → Int) (edges_0o2 : Int) (nodes_0o2 : Int) (f7 : GKE (nodes_0o2) (edges_0o2) (tail_0o2) (head_0o2)) (kz_2_0 : 0 ≤ nodes_0o2 ∧ nodes_0o2 ≤ 24) (kz_2_1 : 0 ≤ edges_0o2 ∧ edges_0o2 ≤ 48) : GKE (nodes_0o2) (edges_0o2) (tail_0o2) (head_0o2) := by
  first
    | assumption
  
def o_La_findLayers_4 : or_T := (52, 13, [(1, (2, 0, 0, [2])), (2, (2, 0, 0, [3])), (5, (0, 0, 47, [])), (6, (2, 0, 0, [10])), (8, (0, 1, 48, [])), (9, (0, 0, 23, [])), (10, (0, 0, 23, [])), (12, (0, 0, 9, []))], [(10, [12, 11, 5], []), (9, [11, 7], [9]), (20, [7, 4, 5, 10], [60, 0, 3, 650, 7, 8, 1009]), (20, [7, 4, 5, 9], [60, 0, 3, 649, 7, 8, 1009]), (9, [8, 7], [1]), (20, [6, 7, 4, 5], [60, 1, 8, 654, 1, 2, 3, 4, 5, 1007, 1008, 1009, 2009]), (20, [7], [60, 2, 2, 596, 0, 1, 7, 8]), (24, [2, 7], []), (24, [1, 4], []), (24, [0, 3], [])], [], [(2, 0, 0, [3]), (2, 0, 0, [2]), (0, 0, 384, [])], [(24, [2, 13], []), (24, [1, 14], []), (20, [6, 13, 14, 15], [60, 1, 8, 651, 1, 2, 3, 4, 5, 1007, 1008, 1009, 2009]), (20, [13, 14, 15, 9, 10, 12], [60, 0, 4, 656, 7, 8, 9, 1009]), (20, [15], [50, 0, 0, 0, 2, 1, 0, 0, 191]), (20, [15, 5], [50, 0, 0, 1, 2, 1, 0, 6, 2, 1, 1, 0, 4]), (20, [7], [60, 2, 2, 596, 0, 1, 7, 8])], [], [(5, 8, -4294967296, -1)])
theorem oo_La_findLayers_4 {kA : Nat → ClassId} : or_ok PRD kA GG o_La_findLayers_4 := by
  refine or_mk fun A ta ws vs hD hth hl => ?_
  intro t1 r1 t2 r2 t5 k5 t6 r6 t8 k8 t9 k9 t10 k10 t12 k12 d0 f0 f1 f2 f3 f5 f6 f7 f10 f12 f13
  replace f0 := shm_107 f0
  replace f1 := shm_119 f1
  replace f2 := shm_392 f2
  replace f3 := shm_402 f3
  replace f5 := shm_215 f5
  replace f6 := shm_1907 f6
  replace f7 := shm_386 f7
  replace f10 := shm_5 f10
  replace f12 := shm_5 f12
  replace f13 := shm_5 f13
  have q7 : n_v vs 7 = n_v vs 2 := f10.symm
  have q4 : n_v vs 4 = n_v vs 1 := f12.symm
  have q3 : n_v vs 3 = n_v vs 0 := f13.symm
  simp only [q7, q4] at f1 f2 f3 f5 f6 f7
  have ad_11 : v_ad (n_v vs 11) = w_ar ws (n_v vs 2) 9 := congrArg v_ad f1
  simp only [ad_11] at f0
  have h0 : v_iv (n_v vs 12) = w_ei ws (w_ar ws (n_v vs 2) 9) (v_iv (n_v vs 5)) := f0
  have g5 : v_iv (n_v vs 8) = w_fi ws (n_v vs 2) 1 := congrArg v_iv f5
  have kz_2_0 := fdq_21 hD hth r2
  have kz_2_1 := fdq_30 hD hth r2
  have kz_6_1 := fdq_113 hD hth r6
  obtain ⟨u, eu, hu⟩ := iv_ex (ta := ta) (lo := 0) (hi := 384) (z := w_fi ws (n_v vs 6) 1) (by omega) (by omega) (by omega) (by omega)
  have eu2 : v_iv (Value.int u) = w_fi ws (n_v vs 6) 1 := eu
  have eu3 : 0 ≤ v_iv (Value.int u) ∧ v_iv (Value.int u) ≤ 384 := tv_rng hu
  have e_1 : n_v (vs ++ [n_v vs 2, n_v vs 1, Value.int u]) 1 = n_v vs 1 := n_v_old (by rw [hl]; decide)
  have e_2 : n_v (vs ++ [n_v vs 2, n_v vs 1, Value.int u]) 2 = n_v vs 2 := n_v_old (by rw [hl]; decide)
  have e_5 : n_v (vs ++ [n_v vs 2, n_v vs 1, Value.int u]) 5 = n_v vs 5 := n_v_old (by rw [hl]; decide)
  have e_6 : n_v (vs ++ [n_v vs 2, n_v vs 1, Value.int u]) 6 = n_v vs 6 := n_v_old (by rw [hl]; decide)
  have e_7 : n_v (vs ++ [n_v vs 2, n_v vs 1, Value.int u]) 7 = n_v vs 7 := n_v_old (by rw [hl]; decide)
  have e_9 : n_v (vs ++ [n_v vs 2, n_v vs 1, Value.int u]) 9 = n_v vs 9 := n_v_old (by rw [hl]; decide)
  have e_10 : n_v (vs ++ [n_v vs 2, n_v vs 1, Value.int u]) 10 = n_v vs 10 := n_v_old (by rw [hl]; decide)
  have e_12 : n_v (vs ++ [n_v vs 2, n_v vs 1, Value.int u]) 12 = n_v vs 12 := n_v_old (by rw [hl]; decide)
  have e_13 : n_v (vs ++ [n_v vs 2, n_v vs 1, Value.int u]) 13 = n_v vs 2 := n_v_newk (k := 0) hl rfl
  have e_14 : n_v (vs ++ [n_v vs 2, n_v vs 1, Value.int u]) 14 = n_v vs 1 := n_v_newk (k := 1) hl rfl
  have e_15 : n_v (vs ++ [n_v vs 2, n_v vs 1, Value.int u]) 15 = Value.int u := n_v_newk (k := 2) hl rfl
  have nf0 : fc_1 PRD (24, [2, 13], []) ws (vs ++ [n_v vs 2, n_v vs 1, Value.int u]) := by
    refine ⟨nf_inA hl rfl, sgq_5 ?_⟩
    · show n_v (vs ++ [n_v vs 2, n_v vs 1, Value.int u]) 2 = n_v (vs ++ [n_v vs 2, n_v vs 1, Value.int u]) 13
      first | rfl | simp only [e_2, e_13, q7, q4, q3]
  have nf1 : fc_1 PRD (24, [1, 14], []) ws (vs ++ [n_v vs 2, n_v vs 1, Value.int u]) := by
    refine ⟨nf_inA hl rfl, sgq_5 ?_⟩
    · show n_v (vs ++ [n_v vs 2, n_v vs 1, Value.int u]) 1 = n_v (vs ++ [n_v vs 2, n_v vs 1, Value.int u]) 14
      first | rfl | simp only [e_1, e_14, q7, q4, q3]
  have nf2 : fc_1 PRD (20, [6, 13, 14, 15], [60, 1, 8, 651, 1, 2, 3, 4, 5, 1007, 1008, 1009, 2009]) ws (vs ++ [n_v vs 2, n_v vs 1, Value.int u]) := by
    refine ⟨nf_inA hl rfl, sgq_474 ?_⟩
    · show AP (w_fi ws (n_v (vs ++ [n_v vs 2, n_v vs 1, Value.int u]) 6) 1) (w_ei ws (w_ar ws (n_v (vs ++ [n_v vs 2, n_v vs 1, Value.int u]) 6) 2)) (w_ei ws (w_ar ws (n_v (vs ++ [n_v vs 2, n_v vs 1, Value.int u]) 6) 3)) (w_ei ws (w_ar ws (n_v (vs ++ [n_v vs 2, n_v vs 1, Value.int u]) 6) 4)) (w_ei ws (w_ar ws (n_v (vs ++ [n_v vs 2, n_v vs 1, Value.int u]) 6) 5)) (w_ei ws (w_ar ws (n_v (vs ++ [n_v vs 2, n_v vs 1, Value.int u]) 13) 7)) (w_ei ws (w_ar ws (n_v (vs ++ [n_v vs 2, n_v vs 1, Value.int u]) 13) 8)) (w_ei ws (w_ar ws (n_v (vs ++ [n_v vs 2, n_v vs 1, Value.int u]) 13) 9)) (w_ei ws (w_ar ws (n_v (vs ++ [n_v vs 2, n_v vs 1, Value.int u]) 14) 9)) (v_iv (n_v (vs ++ [n_v vs 2, n_v vs 1, Value.int u]) 15))
      simp only [e_6, e_13, e_14, e_15]
      exact vc_La_findLayers_4_2 (v_iv (n_v vs 5)) (w_ei ws (w_ar ws (n_v vs 2) 9)) (w_ei ws (w_ar ws (n_v vs 2) 7)) (w_ei ws (w_ar ws (n_v vs 2) 8)) (w_ei ws (w_ar ws (n_v vs 1) 9)) (w_ei ws (w_ar ws (n_v vs 6) 2)) (w_ei ws (w_ar ws (n_v vs 6) 3)) (w_ei ws (w_ar ws (n_v vs 6) 4)) (w_ei ws (w_ar ws (n_v vs 6) 5)) (w_fi ws (n_v vs 6) 1) (v_iv (Value.int u)) k5 f6 kz_6_1 eu2
  have nf3 : fc_1 PRD (20, [13, 14, 15, 9, 10, 12], [60, 0, 4, 656, 7, 8, 9, 1009]) ws (vs ++ [n_v vs 2, n_v vs 1, Value.int u]) := by
    refine ⟨nf_inA hl rfl, sgq_921 ?_⟩
    · show APQ (w_ei ws (w_ar ws (n_v (vs ++ [n_v vs 2, n_v vs 1, Value.int u]) 13) 7)) (w_ei ws (w_ar ws (n_v (vs ++ [n_v vs 2, n_v vs 1, Value.int u]) 13) 8)) (w_ei ws (w_ar ws (n_v (vs ++ [n_v vs 2, n_v vs 1, Value.int u]) 13) 9)) (w_ei ws (w_ar ws (n_v (vs ++ [n_v vs 2, n_v vs 1, Value.int u]) 14) 9)) (v_iv (n_v (vs ++ [n_v vs 2, n_v vs 1, Value.int u]) 15)) (v_iv (n_v (vs ++ [n_v vs 2, n_v vs 1, Value.int u]) 9)) (v_iv (n_v (vs ++ [n_v vs 2, n_v vs 1, Value.int u]) 10)) (v_iv (n_v (vs ++ [n_v vs 2, n_v vs 1, Value.int u]) 12))
      simp only [e_9, e_10, e_12, e_13, e_14, e_15]
      exact vc_La_findLayers_4_3 (v_iv (n_v vs 5)) (v_iv (n_v vs 9)) (v_iv (n_v vs 10)) (v_iv (n_v vs 12)) (w_ei ws (w_ar ws (n_v vs 2) 9)) (w_ei ws (w_ar ws (n_v vs 2) 7)) (w_ei ws (w_ar ws (n_v vs 2) 8)) (w_ei ws (w_ar ws (n_v vs 1) 9)) (w_ei ws (w_ar ws (n_v vs 6) 2)) (w_ei ws (w_ar ws (n_v vs 6) 3)) (w_ei ws (w_ar ws (n_v vs 6) 4)) (w_ei ws (w_ar ws (n_v vs 6) 5)) (w_fi ws (n_v vs 6) 1) (v_iv (Value.int u)) k5 k9 k10 k12 h0 f2 f3 f6 kz_6_1 eu2
  have nf4 : fc_1 PRD (20, [15], [50, 0, 0, 0, 2, 1, 0, 0, 191]) ws (vs ++ [n_v vs 2, n_v vs 1, Value.int u]) := by
    refine ⟨nf_inA hl rfl, sgq_476 ?_⟩
    · show v_iv (n_v (vs ++ [n_v vs 2, n_v vs 1, Value.int u]) 15) ≤ 191
      rw [e_15]
      exact vc_La_findLayers_4_4 (v_iv (n_v vs 5)) (v_iv (n_v vs 8)) (w_ei ws (w_ar ws (n_v vs 2) 9)) (w_ei ws (w_ar ws (n_v vs 2) 7)) (w_ei ws (w_ar ws (n_v vs 2) 8)) (w_ei ws (w_ar ws (n_v vs 1) 9)) (w_fi ws (n_v vs 2) 1) (w_ei ws (w_ar ws (n_v vs 6) 2)) (w_ei ws (w_ar ws (n_v vs 6) 3)) (w_ei ws (w_ar ws (n_v vs 6) 4)) (w_ei ws (w_ar ws (n_v vs 6) 5)) (w_fi ws (n_v vs 6) 1) (v_iv (Value.int u)) k5 k8 d0 g5 f6 kz_2_1 kz_6_1 eu2
  have nf5 : fc_1 PRD (20, [15, 5], [50, 0, 0, 1, 2, 1, 0, 6, 2, 1, 1, 0, 4]) ws (vs ++ [n_v vs 2, n_v vs 1, Value.int u]) := by
    refine ⟨nf_inA hl rfl, sgq_1912 ?_⟩
    · show v_iv (n_v (vs ++ [n_v vs 2, n_v vs 1, Value.int u]) 15) = (v_iv (n_v (vs ++ [n_v vs 2, n_v vs 1, Value.int u]) 5) * 4)
      simp only [e_5, e_15]
      exact vc_La_findLayers_4_5 (v_iv (n_v vs 5)) (w_ei ws (w_ar ws (n_v vs 2) 9)) (w_ei ws (w_ar ws (n_v vs 2) 7)) (w_ei ws (w_ar ws (n_v vs 2) 8)) (w_ei ws (w_ar ws (n_v vs 1) 9)) (w_ei ws (w_ar ws (n_v vs 6) 2)) (w_ei ws (w_ar ws (n_v vs 6) 3)) (w_ei ws (w_ar ws (n_v vs 6) 4)) (w_ei ws (w_ar ws (n_v vs 6) 5)) (w_fi ws (n_v vs 6) 1) (v_iv (Value.int u)) k5 f6 kz_6_1 eu2
  have nf6 : fc_1 PRD (20, [7], [60, 2, 2, 596, 0, 1, 7, 8]) ws (vs ++ [n_v vs 2, n_v vs 1, Value.int u]) := by
    refine ⟨nf_inA hl rfl, sgq_386 ?_⟩
    · show GKE (w_fi ws (n_v (vs ++ [n_v vs 2, n_v vs 1, Value.int u]) 7) 0) (w_fi ws (n_v (vs ++ [n_v vs 2, n_v vs 1, Value.int u]) 7) 1) (w_ei ws (w_ar ws (n_v (vs ++ [n_v vs 2, n_v vs 1, Value.int u]) 7) 7)) (w_ei ws (w_ar ws (n_v (vs ++ [n_v vs 2, n_v vs 1, Value.int u]) 7) 8))
      simp only [e_7, q7]
      exact vc_La_findLayers_4_6 (w_ei ws (w_ar ws (n_v vs 2) 7)) (w_ei ws (w_ar ws (n_v vs 2) 8)) (w_fi ws (n_v vs 2) 1) (w_fi ws (n_v vs 2) 0) f7 kz_2_0 kz_2_1
  exact ⟨(fun _ h => (by cases h)), [n_v vs 2, n_v vs 1, Value.int u], ag_three t2 t1 hu, List.forall_mem_cons.mpr ⟨⟨show (24 : Nat) < 100 from by decide, nf0⟩, List.forall_mem_cons.mpr ⟨⟨show (24 : Nat) < 100 from by decide, nf1⟩, List.forall_mem_cons.mpr ⟨⟨show (20 : Nat) < 100 from by decide, nf2⟩, List.forall_mem_cons.mpr ⟨⟨show (20 : Nat) < 100 from by decide, nf3⟩, List.forall_mem_cons.mpr ⟨⟨show (20 : Nat) < 100 from by decide, nf4⟩, List.forall_mem_cons.mpr ⟨⟨show (20 : Nat) < 100 from by decide, nf5⟩, List.forall_mem_cons.mpr ⟨⟨show (20 : Nat) < 100 from by decide, nf6⟩, (fun _ h => (by cases h))⟩⟩⟩⟩⟩⟩⟩, (fun _ h => (by cases h))⟩
set_option maxHeartbeats 4000000 in
theorem vc_La_findLayers_5_2 (x5 : Int) (x15 : Int) (tail_0o2 : Int → Int) (head_0o2 : Int → Int) (turned_0o1 : Int → Int) (weight_0o2 : Int → Int) (from_0o6 : Int → Int) (to_0o6 : Int → Int) (room_0o6 : Int → Int) (gain_0o6 : Int → Int) (arcs_0o6 : Int) (gu : Int) (k5 : 0 ≤ x5 ∧ x5 ≤ 47) (k15 : 0 ≤ x15 ∧ x15 ≤ 384) (f8 : x15 = (x5 * 4)) (f19 : APB (arcs_0o6) (from_0o6) (to_0o6) (room_0o6) (gain_0o6) (tail_0o2) (head_0o2) (weight_0o2) (turned_0o1) (x15)) (kz_6_1 : 0 ≤ arcs_0o6 ∧ arcs_0o6 ≤ 384) (eu2 : gu = arcs_0o6) : AP (arcs_0o6) (from_0o6) (to_0o6) (room_0o6) (gain_0o6) (tail_0o2) (head_0o2) (weight_0o2) (turned_0o1) (gu) := by
  first
    | (have q := (‹AP4 _ _ _ _ _ _ _ _ _ _›); rw [show gu = 4 * x5 by (have := q.1; omega)]; exact q)
    | (have q := (‹APB _ _ _ _ _ _ _ _ _ _›); rw [show gu = x15 + 2 by (have := q.1; omega)]; exact q)
  
set_option maxHeartbeats 4000000 in
theorem vc_La_findLayers_5_3 (x5 : Int) (x15 : Int) (x16 : Int) (x17 : Int) (tail_0o2 : Int → Int) (head_0o2 : Int → Int) (turned_0o1 : Int → Int) (weight_0o2 : Int → Int) (from_0o6 : Int → Int) (to_0o6 : Int → Int) (room_0o6 : Int → Int) (gain_0o6 : Int → Int) (arcs_0o6 : Int) (gu : Int) (k5 : 0 ≤ x5 ∧ x5 ≤ 47) (k15 : 0 ≤ x15 ∧ x15 ≤ 384) (k16 : 0 ≤ x16 ∧ x16 ≤ 23) (k17 : 0 ≤ x17 ∧ x17 ≤ 23) (f2 : LOX (tail_0o2) (head_0o2) (turned_0o1) (x5) (x17)) (f3 : UPX (tail_0o2) (head_0o2) (turned_0o1) (x5) (x16)) (f8 : x15 = (x5 * 4)) (f19 : APB (arcs_0o6) (from_0o6) (to_0o6) (room_0o6) (gain_0o6) (tail_0o2) (head_0o2) (weight_0o2) (turned_0o1) (x15)) (kz_6_1 : 0 ≤ arcs_0o6 ∧ arcs_0o6 ≤ 384) (eu2 : gu = arcs_0o6) : APH (tail_0o2) (head_0o2) (weight_0o2) (turned_0o1) (gu) (x16) (x17) := by
  first
    | (have q := (‹APB _ _ _ _ _ _ _ _ _ _›).1; exact aph_of (e := x5) (by omega) (by assumption) (by assumption))
  
set_option maxHeartbeats 4000000 in
theorem vc_La_findLayers_5_4 (x5 : Int) (x8 : Int) (x15 : Int) (edges_0o2 : Int) (tail_0o2 : Int → Int) (head_0o2 : Int → Int) (turned_0o1 : Int → Int) (weight_0o2 : Int → Int) (from_0o6 : Int → Int) (to_0o6 : Int → Int) (room_0o6 : Int → Int) (gain_0o6 : Int → Int) (arcs_0o6 : Int) (gu : Int) (k5 : 0 ≤ x5 ∧ x5 ≤ 47) (k8 : 1 ≤ x8 ∧ x8 ≤ 48) (k15 : 0 ≤ x15 ∧ x15 ≤ 384) (d0 : x8 + (-4294967296) ≤ x5 ∧ x5 ≤ x8 + (-1)) (g1 : x8 = edges_0o2) (f8 : x15 = (x5 * 4)) (f19 : APB (arcs_0o6) (from_0o6) (to_0o6) (room_0o6) (gain_0o6) (tail_0o2) (head_0o2) (weight_0o2) (turned_0o1) (x15)) (kz_2_1 : 0 ≤ edges_0o2 ∧ edges_0o2 ≤ 48) (kz_6_1 : 0 ≤ arcs_0o6 ∧ arcs_0o6 ≤ 384) (eu2 : gu = arcs_0o6) : gu ≤ 191 := by
  first
    | omega
    | (have q := (‹AP4 _ _ _ _ _ _ _ _ _ _›).1; omega)
    | (have q := (‹APB _ _ _ _ _ _ _ _ _ _›).1; omega)
    | (have q := (‹LYQ _ _ _ _ _›).1 x5 (by omega) (by omega); omega)
  
set_option maxHeartbeats 4000000 in
theorem vc_La_findLayers_5_5 (x5 : Int) (x18 : Int) (k18 : 1 ≤ x18 ∧ x18 ≤ 1) : x18 = 1 := by
  first
    | omega
    | (have q := (‹AP4 _ _ _ _ _ _ _ _ _ _›).1; omega)
    | (have q := (‹APB _ _ _ _ _ _ _ _ _ _›).1; omega)
    | (have q := (‹LYQ _ _ _ _ _›).1 x5 (by omega) (by omega); omega)
  
set_option maxHeartbeats 4000000 in
theorem vc_La_findLayers_5_6 (x5 : Int) (x15 : Int) (tail_0o2 : Int → Int) (head_0o2 : Int → Int) (turned_0o1 : Int → Int) (weight_0o2 : Int → Int) (from_0o6 : Int → Int) (to_0o6 : Int → Int) (room_0o6 : Int → Int) (gain_0o6 : Int → Int) (arcs_0o6 : Int) (gu : Int) (k5 : 0 ≤ x5 ∧ x5 ≤ 47) (k15 : 0 ≤ x15 ∧ x15 ≤ 384) (f8 : x15 = (x5 * 4)) (f19 : APB (arcs_0o6) (from_0o6) (to_0o6) (room_0o6) (gain_0o6) (tail_0o2) (head_0o2) (weight_0o2) (turned_0o1) (x15)) (kz_6_1 : 0 ≤ arcs_0o6 ∧ arcs_0o6 ≤ 384) (eu2 : gu = arcs_0o6) : gu = ((x5 * 4) + 2) := by
  first
    | omega
    | (have q := (‹AP4 _ _ _ _ _ _ _ _ _ _›).1; omega)
    | (have q := (‹APB _ _ _ _ _ _ _ _ _ _›).1; omega)
    | (have q := (‹LYQ _ _ _ _ _›).1 x5 (by omega) (by omega); omega)
  
set_option maxHeartbeats 4000000 in
theorem vc_La_findLayers_5_7 (edges_0o2 : Int) (tail_0o2 : Int → Int) (head_0o2 : Int → Int) (nodes_0o2 : Int) (f12 : GKE (nodes_0o2) (edges_0o2) (tail_0o2) (head_0o2)) (kz_2_0 : 0 ≤ nodes_0o2 ∧ nodes_0o2 ≤ 24) (kz_2_1 : 0 ≤ edges_0o2 ∧ edges_0o2 ≤ 48) : GKE (nodes_0o2) (edges_0o2) (tail_0o2) (head_0o2) := by
  first
    | assumption
  
def o_La_findLayers_5 : or_T := (72, 19, [(1, (2, 0, 0, [2])), (2, (2, 0, 0, [3])), (5, (0, 0, 47, [])), (6, (2, 0, 0, [10])), (8, (0, 1, 48, [])), (15, (0, 0, 384, [])), (16, (0, 0, 23, [])), (17, (0, 0, 23, [])), (18, (0, 1, 1, []))], [(9, [8, 7], [1]), (20, [7, 4, 5, 17], [60, 0, 3, 650, 7, 8, 1009]), (20, [7, 4, 5, 16], [60, 0, 3, 649, 7, 8, 1009]), (24, [2, 13], []), (24, [1, 14], []), (20, [15, 5], [50, 0, 0, 1, 2, 1, 0, 6, 2, 1, 1, 0, 4]), (20, [7], [60, 2, 2, 596, 0, 1, 7, 8]), (24, [2, 7], []), (24, [1, 4], []), (24, [0, 3], []), (20, [6, 13, 14, 15], [60, 1, 8, 653, 1, 2, 3, 4, 5, 1007, 1008, 1009, 2009])], [], [(2, 0, 0, [3]), (2, 0, 0, [2]), (0, 0, 384, [])], [(24, [2, 19], []), (24, [1, 20], []), (20, [6, 19, 20, 21], [60, 1, 8, 651, 1, 2, 3, 4, 5, 1007, 1008, 1009, 2009]), (20, [19, 20, 21, 16, 17], [60, 0, 4, 657, 7, 8, 9, 1009]), (20, [21], [50, 0, 0, 0, 2, 1, 0, 0, 191]), (20, [18], [50, 0, 0, 1, 2, 1, 0, 0, 1]), (20, [21, 5], [50, 0, 0, 1, 2, 1, 0, 4, 6, 6, 2, 1, 1, 0, 4, 0, 2]), (20, [7], [60, 2, 2, 596, 0, 1, 7, 8])], [], [(5, 8, -4294967296, -1)])
theorem oo_La_findLayers_5 {kA : Nat → ClassId} : or_ok PRD kA GG o_La_findLayers_5 := by
  refine or_mk fun A ta ws vs hD hth hl => ?_
  intro t1 r1 t2 r2 t5 k5 t6 r6 t8 k8 t15 k15 t16 k16 t17 k17 t18 k18 d0 f1 f2 f3 f4 f5 f8 f12 f15 f17 f18 f19
  replace f1 := shm_215 f1
  replace f2 := shm_392 f2
  replace f3 := shm_402 f3
  replace f4 := shm_5 f4
  replace f5 := shm_5 f5
  replace f8 := shm_1912 f8
  replace f12 := shm_386 f12
  replace f15 := shm_5 f15
  replace f17 := shm_5 f17
  replace f18 := shm_5 f18
  replace f19 := shm_920 f19
  have q13 : n_v vs 13 = n_v vs 2 := f4.symm
  have q14 : n_v vs 14 = n_v vs 1 := f5.symm
  have q7 : n_v vs 7 = n_v vs 2 := f15.symm
  have q4 : n_v vs 4 = n_v vs 1 := f17.symm
  have q3 : n_v vs 3 = n_v vs 0 := f18.symm
  simp only [q7, q4, q13, q14] at f1 f2 f3 f12 f19
  have g1 : v_iv (n_v vs 8) = w_fi ws (n_v vs 2) 1 := congrArg v_iv f1
  have kz_2_0 := fdq_21 hD hth r2
  have kz_2_1 := fdq_30 hD hth r2
  have kz_6_1 := fdq_113 hD hth r6
  obtain ⟨u, eu, hu⟩ := iv_ex (ta := ta) (lo := 0) (hi := 384) (z := w_fi ws (n_v vs 6) 1) (by omega) (by omega) (by omega) (by omega)
  have eu2 : v_iv (Value.int u) = w_fi ws (n_v vs 6) 1 := eu
  have eu3 : 0 ≤ v_iv (Value.int u) ∧ v_iv (Value.int u) ≤ 384 := tv_rng hu
  have e_1 : n_v (vs ++ [n_v vs 2, n_v vs 1, Value.int u]) 1 = n_v vs 1 := n_v_old (by rw [hl]; decide)
  have e_2 : n_v (vs ++ [n_v vs 2, n_v vs 1, Value.int u]) 2 = n_v vs 2 := n_v_old (by rw [hl]; decide)
  have e_5 : n_v (vs ++ [n_v vs 2, n_v vs 1, Value.int u]) 5 = n_v vs 5 := n_v_old (by rw [hl]; decide)
  have e_6 : n_v (vs ++ [n_v vs 2, n_v vs 1, Value.int u]) 6 = n_v vs 6 := n_v_old (by rw [hl]; decide)
  have e_7 : n_v (vs ++ [n_v vs 2, n_v vs 1, Value.int u]) 7 = n_v vs 7 := n_v_old (by rw [hl]; decide)
  have e_16 : n_v (vs ++ [n_v vs 2, n_v vs 1, Value.int u]) 16 = n_v vs 16 := n_v_old (by rw [hl]; decide)
  have e_17 : n_v (vs ++ [n_v vs 2, n_v vs 1, Value.int u]) 17 = n_v vs 17 := n_v_old (by rw [hl]; decide)
  have e_18 : n_v (vs ++ [n_v vs 2, n_v vs 1, Value.int u]) 18 = n_v vs 18 := n_v_old (by rw [hl]; decide)
  have e_19 : n_v (vs ++ [n_v vs 2, n_v vs 1, Value.int u]) 19 = n_v vs 2 := n_v_newk (k := 0) hl rfl
  have e_20 : n_v (vs ++ [n_v vs 2, n_v vs 1, Value.int u]) 20 = n_v vs 1 := n_v_newk (k := 1) hl rfl
  have e_21 : n_v (vs ++ [n_v vs 2, n_v vs 1, Value.int u]) 21 = Value.int u := n_v_newk (k := 2) hl rfl
  have nf0 : fc_1 PRD (24, [2, 19], []) ws (vs ++ [n_v vs 2, n_v vs 1, Value.int u]) := by
    refine ⟨nf_inA hl rfl, sgq_5 ?_⟩
    · show n_v (vs ++ [n_v vs 2, n_v vs 1, Value.int u]) 2 = n_v (vs ++ [n_v vs 2, n_v vs 1, Value.int u]) 19
      first | rfl | simp only [e_2, e_19, q13, q14, q7, q4, q3]
  have nf1 : fc_1 PRD (24, [1, 20], []) ws (vs ++ [n_v vs 2, n_v vs 1, Value.int u]) := by
    refine ⟨nf_inA hl rfl, sgq_5 ?_⟩
    · show n_v (vs ++ [n_v vs 2, n_v vs 1, Value.int u]) 1 = n_v (vs ++ [n_v vs 2, n_v vs 1, Value.int u]) 20
      first | rfl | simp only [e_1, e_20, q13, q14, q7, q4, q3]
  have nf2 : fc_1 PRD (20, [6, 19, 20, 21], [60, 1, 8, 651, 1, 2, 3, 4, 5, 1007, 1008, 1009, 2009]) ws (vs ++ [n_v vs 2, n_v vs 1, Value.int u]) := by
    refine ⟨nf_inA hl rfl, sgq_474 ?_⟩
    · show AP (w_fi ws (n_v (vs ++ [n_v vs 2, n_v vs 1, Value.int u]) 6) 1) (w_ei ws (w_ar ws (n_v (vs ++ [n_v vs 2, n_v vs 1, Value.int u]) 6) 2)) (w_ei ws (w_ar ws (n_v (vs ++ [n_v vs 2, n_v vs 1, Value.int u]) 6) 3)) (w_ei ws (w_ar ws (n_v (vs ++ [n_v vs 2, n_v vs 1, Value.int u]) 6) 4)) (w_ei ws (w_ar ws (n_v (vs ++ [n_v vs 2, n_v vs 1, Value.int u]) 6) 5)) (w_ei ws (w_ar ws (n_v (vs ++ [n_v vs 2, n_v vs 1, Value.int u]) 19) 7)) (w_ei ws (w_ar ws (n_v (vs ++ [n_v vs 2, n_v vs 1, Value.int u]) 19) 8)) (w_ei ws (w_ar ws (n_v (vs ++ [n_v vs 2, n_v vs 1, Value.int u]) 19) 9)) (w_ei ws (w_ar ws (n_v (vs ++ [n_v vs 2, n_v vs 1, Value.int u]) 20) 9)) (v_iv (n_v (vs ++ [n_v vs 2, n_v vs 1, Value.int u]) 21))
      simp only [e_6, e_19, e_20, e_21]
      exact vc_La_findLayers_5_2 (v_iv (n_v vs 5)) (v_iv (n_v vs 15)) (w_ei ws (w_ar ws (n_v vs 2) 7)) (w_ei ws (w_ar ws (n_v vs 2) 8)) (w_ei ws (w_ar ws (n_v vs 1) 9)) (w_ei ws (w_ar ws (n_v vs 2) 9)) (w_ei ws (w_ar ws (n_v vs 6) 2)) (w_ei ws (w_ar ws (n_v vs 6) 3)) (w_ei ws (w_ar ws (n_v vs 6) 4)) (w_ei ws (w_ar ws (n_v vs 6) 5)) (w_fi ws (n_v vs 6) 1) (v_iv (Value.int u)) k5 k15 f8 f19 kz_6_1 eu2
  have nf3 : fc_1 PRD (20, [19, 20, 21, 16, 17], [60, 0, 4, 657, 7, 8, 9, 1009]) ws (vs ++ [n_v vs 2, n_v vs 1, Value.int u]) := by
    refine ⟨nf_inA hl rfl, sgq_918 ?_⟩
    · show APH (w_ei ws (w_ar ws (n_v (vs ++ [n_v vs 2, n_v vs 1, Value.int u]) 19) 7)) (w_ei ws (w_ar ws (n_v (vs ++ [n_v vs 2, n_v vs 1, Value.int u]) 19) 8)) (w_ei ws (w_ar ws (n_v (vs ++ [n_v vs 2, n_v vs 1, Value.int u]) 19) 9)) (w_ei ws (w_ar ws (n_v (vs ++ [n_v vs 2, n_v vs 1, Value.int u]) 20) 9)) (v_iv (n_v (vs ++ [n_v vs 2, n_v vs 1, Value.int u]) 21)) (v_iv (n_v (vs ++ [n_v vs 2, n_v vs 1, Value.int u]) 16)) (v_iv (n_v (vs ++ [n_v vs 2, n_v vs 1, Value.int u]) 17))
      simp only [e_16, e_17, e_19, e_20, e_21]
      exact vc_La_findLayers_5_3 (v_iv (n_v vs 5)) (v_iv (n_v vs 15)) (v_iv (n_v vs 16)) (v_iv (n_v vs 17)) (w_ei ws (w_ar ws (n_v vs 2) 7)) (w_ei ws (w_ar ws (n_v vs 2) 8)) (w_ei ws (w_ar ws (n_v vs 1) 9)) (w_ei ws (w_ar ws (n_v vs 2) 9)) (w_ei ws (w_ar ws (n_v vs 6) 2)) (w_ei ws (w_ar ws (n_v vs 6) 3)) (w_ei ws (w_ar ws (n_v vs 6) 4)) (w_ei ws (w_ar ws (n_v vs 6) 5)) (w_fi ws (n_v vs 6) 1) (v_iv (Value.int u)) k5 k15 k16 k17 f2 f3 f8 f19 kz_6_1 eu2
  have nf4 : fc_1 PRD (20, [21], [50, 0, 0, 0, 2, 1, 0, 0, 191]) ws (vs ++ [n_v vs 2, n_v vs 1, Value.int u]) := by
    refine ⟨nf_inA hl rfl, sgq_476 ?_⟩
    · show v_iv (n_v (vs ++ [n_v vs 2, n_v vs 1, Value.int u]) 21) ≤ 191
      rw [e_21]
      exact vc_La_findLayers_5_4 (v_iv (n_v vs 5)) (v_iv (n_v vs 8)) (v_iv (n_v vs 15)) (w_fi ws (n_v vs 2) 1) (w_ei ws (w_ar ws (n_v vs 2) 7)) (w_ei ws (w_ar ws (n_v vs 2) 8)) (w_ei ws (w_ar ws (n_v vs 1) 9)) (w_ei ws (w_ar ws (n_v vs 2) 9)) (w_ei ws (w_ar ws (n_v vs 6) 2)) (w_ei ws (w_ar ws (n_v vs 6) 3)) (w_ei ws (w_ar ws (n_v vs 6) 4)) (w_ei ws (w_ar ws (n_v vs 6) 5)) (w_fi ws (n_v vs 6) 1) (v_iv (Value.int u)) k5 k8 k15 d0 g1 f8 f19 kz_2_1 kz_6_1 eu2
  have nf5 : fc_1 PRD (20, [18], [50, 0, 0, 1, 2, 1, 0, 0, 1]) ws (vs ++ [n_v vs 2, n_v vs 1, Value.int u]) := by
    refine ⟨nf_inA hl rfl, sgq_510 ?_⟩
    · show v_iv (n_v (vs ++ [n_v vs 2, n_v vs 1, Value.int u]) 18) = 1
      rw [e_18]
      exact vc_La_findLayers_5_5 (v_iv (n_v vs 5)) (v_iv (n_v vs 18)) k18
  have nf6 : fc_1 PRD (20, [21, 5], [50, 0, 0, 1, 2, 1, 0, 4, 6, 6, 2, 1, 1, 0, 4, 0, 2]) ws (vs ++ [n_v vs 2, n_v vs 1, Value.int u]) := by
    refine ⟨nf_inA hl rfl, sgq_1913 ?_⟩
    · show v_iv (n_v (vs ++ [n_v vs 2, n_v vs 1, Value.int u]) 21) = ((v_iv (n_v (vs ++ [n_v vs 2, n_v vs 1, Value.int u]) 5) * 4) + 2)
      simp only [e_5, e_21]
      exact vc_La_findLayers_5_6 (v_iv (n_v vs 5)) (v_iv (n_v vs 15)) (w_ei ws (w_ar ws (n_v vs 2) 7)) (w_ei ws (w_ar ws (n_v vs 2) 8)) (w_ei ws (w_ar ws (n_v vs 1) 9)) (w_ei ws (w_ar ws (n_v vs 2) 9)) (w_ei ws (w_ar ws (n_v vs 6) 2)) (w_ei ws (w_ar ws (n_v vs 6) 3)) (w_ei ws (w_ar ws (n_v vs 6) 4)) (w_ei ws (w_ar ws (n_v vs 6) 5)) (w_fi ws (n_v vs 6) 1) (v_iv (Value.int u)) k5 k15 f8 f19 kz_6_1 eu2
  have nf7 : fc_1 PRD (20, [7], [60, 2, 2, 596, 0, 1, 7, 8]) ws (vs ++ [n_v vs 2, n_v vs 1, Value.int u]) := by
    refine ⟨nf_inA hl rfl, sgq_386 ?_⟩
    · show GKE (w_fi ws (n_v (vs ++ [n_v vs 2, n_v vs 1, Value.int u]) 7) 0) (w_fi ws (n_v (vs ++ [n_v vs 2, n_v vs 1, Value.int u]) 7) 1) (w_ei ws (w_ar ws (n_v (vs ++ [n_v vs 2, n_v vs 1, Value.int u]) 7) 7)) (w_ei ws (w_ar ws (n_v (vs ++ [n_v vs 2, n_v vs 1, Value.int u]) 7) 8))
      simp only [e_7, q7]
      exact vc_La_findLayers_5_7 (w_fi ws (n_v vs 2) 1) (w_ei ws (w_ar ws (n_v vs 2) 7)) (w_ei ws (w_ar ws (n_v vs 2) 8)) (w_fi ws (n_v vs 2) 0) f12 kz_2_0 kz_2_1
  exact ⟨(fun _ h => (by cases h)), [n_v vs 2, n_v vs 1, Value.int u], ag_three t2 t1 hu, List.forall_mem_cons.mpr ⟨⟨show (24 : Nat) < 100 from by decide, nf0⟩, List.forall_mem_cons.mpr ⟨⟨show (24 : Nat) < 100 from by decide, nf1⟩, List.forall_mem_cons.mpr ⟨⟨show (20 : Nat) < 100 from by decide, nf2⟩, List.forall_mem_cons.mpr ⟨⟨show (20 : Nat) < 100 from by decide, nf3⟩, List.forall_mem_cons.mpr ⟨⟨show (20 : Nat) < 100 from by decide, nf4⟩, List.forall_mem_cons.mpr ⟨⟨show (20 : Nat) < 100 from by decide, nf5⟩, List.forall_mem_cons.mpr ⟨⟨show (20 : Nat) < 100 from by decide, nf6⟩, List.forall_mem_cons.mpr ⟨⟨show (20 : Nat) < 100 from by decide, nf7⟩, (fun _ h => (by cases h))⟩⟩⟩⟩⟩⟩⟩⟩, (fun _ h => (by cases h))⟩
set_option maxHeartbeats 4000000 in
theorem vc_La_findLayers_6_0 (x5 : Int) (x21 : Int) (x22 : Int) (tail_0o2 : Int → Int) (head_0o2 : Int → Int) (weight_0o2 : Int → Int) (turned_0o1 : Int → Int) (from_0o6 : Int → Int) (to_0o6 : Int → Int) (room_0o6 : Int → Int) (gain_0o6 : Int → Int) (arcs_0o6 : Int) (k5 : 0 ≤ x5 ∧ x5 ≤ 47) (k21 : 0 ≤ x21 ∧ x21 ≤ 384) (k22 : 1 ≤ x22 ∧ x22 ≤ 48) (d0 : x5 + 1 ≤ x22 ∧ x22 ≤ x5 + 1) (f8 : x21 = ((x5 * 4) + 2)) (f27 : APB (arcs_0o6) (from_0o6) (to_0o6) (room_0o6) (gain_0o6) (tail_0o2) (head_0o2) (weight_0o2) (turned_0o1) (x21)) (kz_6_1 : 0 ≤ arcs_0o6 ∧ arcs_0o6 ≤ 384) : AP4 (arcs_0o6) (from_0o6) (to_0o6) (room_0o6) (gain_0o6) (tail_0o2) (head_0o2) (weight_0o2) (turned_0o1) (x22) := by
  first
    | exact ap_start (by omega) (by omega)
    | (unfold AP4; rw [show 4 * x22 = x21 + 2 by omega]; exact ‹APB _ _ _ _ _ _ _ _ _ _›)
  
set_option maxHeartbeats 4000000 in
theorem vc_La_findLayers_6_1 (x5 : Int) (x8 : Int) (x22 : Int) (edges_0o2 : Int) (k5 : 0 ≤ x5 ∧ x5 ≤ 47) (k8 : 1 ≤ x8 ∧ x8 ≤ 48) (k22 : 1 ≤ x22 ∧ x22 ≤ 48) (d0 : x5 + 1 ≤ x22 ∧ x22 ≤ x5 + 1) (d1 : x8 + (-4294967296) ≤ x22 ∧ x22 ≤ x8 + 0) (d2 : x8 + (-4294967296) ≤ x5 ∧ x5 ≤ x8 + (-1)) (g1 : x8 = edges_0o2) (kz_2_1 : 0 ≤ edges_0o2 ∧ edges_0o2 ≤ 48) : x22 ≤ edges_0o2 := by
  first
    | omega
    | (have q := (‹AP4 _ _ _ _ _ _ _ _ _ _›).1; omega)
    | (have q := (‹APB _ _ _ _ _ _ _ _ _ _›).1; omega)
    | (have q := (‹LYQ _ _ _ _ _›).1 x5 (by omega) (by omega); omega)
  
def o_La_findLayers_6 : or_T := (16, 23, [(2, (2, 0, 0, [3])), (5, (0, 0, 47, [])), (6, (2, 0, 0, [10])), (8, (0, 1, 48, [])), (21, (0, 0, 384, [])), (22, (0, 1, 48, []))], [(9, [8, 7], [1]), (24, [2, 19], []), (24, [1, 20], []), (20, [21, 5], [50, 0, 0, 1, 2, 1, 0, 4, 6, 6, 2, 1, 1, 0, 4, 0, 2]), (24, [2, 7], []), (24, [1, 4], []), (20, [6, 19, 20, 21], [60, 1, 8, 653, 1, 2, 3, 4, 5, 1007, 1008, 1009, 2009])], [], [], [(20, [6, 7, 4, 22], [60, 1, 8, 654, 1, 2, 3, 4, 5, 1007, 1008, 1009, 2009]), (20, [22, 7], [50, 1, 0, 1001, 0, 2, 1, 0, 2, 1, 1])], [], [(22, 5, 1, 1), (22, 8, -4294967296, 0), (5, 8, -4294967296, -1)])
theorem oo_La_findLayers_6 {kA : Nat → ClassId} : or_ok PRD kA GG o_La_findLayers_6 := by
  refine or_mk fun A ta ws vs hD hth hl => ?_
  intro t2 r2 t5 k5 t6 r6 t8 k8 t21 k21 t22 k22 d0 d1 d2 f1 f3 f4 f8 f23 f25 f27
  replace f1 := shm_215 f1
  replace f3 := shm_5 f3
  replace f4 := shm_5 f4
  replace f8 := shm_1913 f8
  replace f23 := shm_5 f23
  replace f25 := shm_5 f25
  replace f27 := shm_920 f27
  have q19 : n_v vs 19 = n_v vs 2 := f3.symm
  have q20 : n_v vs 20 = n_v vs 1 := f4.symm
  have q7 : n_v vs 7 = n_v vs 2 := f23.symm
  have q4 : n_v vs 4 = n_v vs 1 := f25.symm
  simp only [q7, q19, q20] at f1 f27
  have g1 : v_iv (n_v vs 8) = w_fi ws (n_v vs 2) 1 := congrArg v_iv f1
  have kz_2_1 := fdq_30 hD hth r2
  have kz_6_1 := fdq_113 hD hth r6
  have nf0 : fc_1 PRD (20, [6, 7, 4, 22], [60, 1, 8, 654, 1, 2, 3, 4, 5, 1007, 1008, 1009, 2009]) ws (vs) := by
    refine ⟨nf_in hl rfl, sgq_1907 ?_⟩
    · show AP4 (w_fi ws (n_v vs 6) 1) (w_ei ws (w_ar ws (n_v vs 6) 2)) (w_ei ws (w_ar ws (n_v vs 6) 3)) (w_ei ws (w_ar ws (n_v vs 6) 4)) (w_ei ws (w_ar ws (n_v vs 6) 5)) (w_ei ws (w_ar ws (n_v vs 7) 7)) (w_ei ws (w_ar ws (n_v vs 7) 8)) (w_ei ws (w_ar ws (n_v vs 7) 9)) (w_ei ws (w_ar ws (n_v vs 4) 9)) (v_iv (n_v vs 22))
      simp only [q7, q4]
      exact vc_La_findLayers_6_0 (v_iv (n_v vs 5)) (v_iv (n_v vs 21)) (v_iv (n_v vs 22)) (w_ei ws (w_ar ws (n_v vs 2) 7)) (w_ei ws (w_ar ws (n_v vs 2) 8)) (w_ei ws (w_ar ws (n_v vs 2) 9)) (w_ei ws (w_ar ws (n_v vs 1) 9)) (w_ei ws (w_ar ws (n_v vs 6) 2)) (w_ei ws (w_ar ws (n_v vs 6) 3)) (w_ei ws (w_ar ws (n_v vs 6) 4)) (w_ei ws (w_ar ws (n_v vs 6) 5)) (w_fi ws (n_v vs 6) 1) k5 k21 k22 d0 f8 f27 kz_6_1
  have nf1 : fc_1 PRD (20, [22, 7], [50, 1, 0, 1001, 0, 2, 1, 0, 2, 1, 1]) ws (vs) := by
    refine ⟨nf_in hl rfl, sgq_483 ?_⟩
    · show v_iv (n_v vs 22) ≤ w_fi ws (n_v vs 7) 1
      rw [q7]
      exact vc_La_findLayers_6_1 (v_iv (n_v vs 5)) (v_iv (n_v vs 8)) (v_iv (n_v vs 22)) (w_fi ws (n_v vs 2) 1) k5 k8 k22 d0 d1 d2 g1 kz_2_1
  refine ⟨(fun _ h => (by cases h)), [], trivial, ?_, (fun _ h => (by cases h))⟩
  rw [List.append_nil]
  exact List.forall_mem_cons.mpr ⟨⟨show (20 : Nat) < 100 from by decide, nf0⟩, List.forall_mem_cons.mpr ⟨⟨show (20 : Nat) < 100 from by decide, nf1⟩, (fun _ h => (by cases h))⟩⟩
set_option maxHeartbeats 4000000 in
theorem vc_La_findLayers_7_0 (x5 : Int) (x9 : Int) (layerCount_0 : Int) (nodes_0o2 : Int) (layerOf_0 : Int → Int) (place_0o7 : Int → Int) (from_0o7 : Int → Int) (to_0o7 : Int → Int) (nodes_0o7 : Int) (arcs_0o7 : Int) (tail_0o2 : Int → Int) (head_0o2 : Int → Int) (turned_0o1 : Int → Int) (edges_0o2 : Int) (k5 : 0 ≤ x5 ∧ x5 ≤ 24) (k9 : 0 ≤ x9 ∧ x9 ≤ 24) (d0 : x9 + 0 ≤ x5 ∧ x5 ≤ x9 + 4294967296) (g2 : x9 = nodes_0o2) (f3 : LYF (layerCount_0) (layerOf_0) (place_0o7) (x5)) (f4 : LYQ (nodes_0o7) (arcs_0o7) (from_0o7) (to_0o7) (place_0o7)) (f5 : AFT (edges_0o2) (from_0o7) (to_0o7) (tail_0o2) (head_0o2) (turned_0o1)) (f6 : GKE (nodes_0o2) (edges_0o2) (tail_0o2) (head_0o2)) (f7 : nodes_0o7 = nodes_0o2) (f8 : arcs_0o7 = (edges_0o2 * 4)) (f10 : x5 ≤ nodes_0o2) (kz_0_2 : 0 ≤ layerCount_0 ∧ layerCount_0 ≤ 24) (kz_2_0 : 0 ≤ nodes_0o2 ∧ nodes_0o2 ≤ 24) (kz_2_1 : 0 ≤ edges_0o2 ∧ edges_0o2 ≤ 48) (kz_7_0 : 0 ≤ nodes_0o7 ∧ nodes_0o7 ≤ 72) (kz_7_1 : 0 ≤ arcs_0o7 ∧ arcs_0o7 ≤ 384) : LYG (layerCount_0) (nodes_0o2) (edges_0o2) (layerOf_0) (tail_0o2) (head_0o2) (turned_0o1) := by
  first
    | (have q := (‹LYQ _ _ _ _ _›); rw [show nodes_0o7 = nodes_0o2 by omega] at q; exact lyg_of ‹LYF _ _ _ _› (by omega) q (by omega) ‹AFT _ _ _ _ _ _› ‹GKE _ _ _ _› (by omega) (by omega))
  
def o_La_findLayers_7 : or_T := (146, 10, [(0, (2, 0, 0, [4])), (2, (2, 0, 0, [3])), (5, (0, 0, 24, [])), (7, (2, 0, 0, [10])), (9, (0, 0, 24, []))], [(9, [9, 8], [0]), (20, [3, 7, 5], [60, 1, 2, 661, 2, 4, 1006]), (20, [7], [60, 2, 3, 538, 0, 1, 2, 3, 6]), (20, [7, 8, 4], [60, 1, 5, 659, 1001, 2, 3, 1007, 1008, 2009]), (20, [8], [60, 2, 2, 596, 0, 1, 7, 8]), (20, [7, 8], [50, 2, 0, 0, 1000, 1, 3, 2, 0, 0, 2, 1, 0]), (20, [7, 8], [50, 2, 0, 1, 1001, 1, 3, 2, 0, 1, 6, 3, 2, 1, 1, 0, 4]), (24, [2, 8], []), (20, [5, 8], [50, 1, 0, 1000, 0, 2, 1, 0, 2, 1, 0]), (24, [1, 4], []), (24, [0, 3], [])], [], [], [(20, [0, 2, 1], [60, 3, 4, 660, 2, 1000, 1001, 4, 1007, 1008, 2009])], [], [(5, 9, 0, 4294967296)])
theorem oo_La_findLayers_7 {kA : Nat → ClassId} : or_ok PRD kA GG o_La_findLayers_7 := by
  refine or_mk fun A ta ws vs hD hth hl => ?_
  intro t0 r0 t2 r2 t5 k5 t7 r7 t9 k9 d0 f2 f3 f4 f5 f6 f7 f8 f9 f10 f11 f12
  replace f2 := shm_163 f2
  replace f3 := shm_1911 f3
  replace f5 := shm_1909 f5
  replace f6 := shm_386 f6
  replace f7 := shm_1908 f7
  replace f8 := shm_1910 f8
  replace f9 := shm_5 f9
  replace f10 := shm_411 f10
  replace f11 := shm_5 f11
  replace f12 := shm_5 f12
  have q8 : n_v vs 8 = n_v vs 2 := f9.symm
  have q4 : n_v vs 4 = n_v vs 1 := f11.symm
  have q3 : n_v vs 3 = n_v vs 0 := f12.symm
  simp only [q3, q8, q4] at f2 f3 f5 f6 f7 f8 f10
  have g2 : v_iv (n_v vs 9) = w_fi ws (n_v vs 2) 0 := congrArg v_iv f2
  have kz_0_2 := fdq_77 hD hth r0
  have kz_2_0 := fdq_21 hD hth r2
  have kz_2_1 := fdq_30 hD hth r2
  have kz_7_0 := fdq_114 hD hth r7
  have kz_7_1 := fdq_113 hD hth r7
  have nf0 : fc_1 PRD (20, [0, 2, 1], [60, 3, 4, 660, 2, 1000, 1001, 4, 1007, 1008, 2009]) ws (vs) := ⟨nf_in hl rfl, sgq_1087 (vc_La_findLayers_7_0 (v_iv (n_v vs 5)) (v_iv (n_v vs 9)) (w_fi ws (n_v vs 0) 2) (w_fi ws (n_v vs 2) 0) (w_ei ws (w_ar ws (n_v vs 0) 4)) (w_ei ws (w_ar ws (n_v vs 7) 6)) (w_ei ws (w_ar ws (n_v vs 7) 2)) (w_ei ws (w_ar ws (n_v vs 7) 3)) (w_fi ws (n_v vs 7) 0) (w_fi ws (n_v vs 7) 1) (w_ei ws (w_ar ws (n_v vs 2) 7)) (w_ei ws (w_ar ws (n_v vs 2) 8)) (w_ei ws (w_ar ws (n_v vs 1) 9)) (w_fi ws (n_v vs 2) 1) k5 k9 d0 g2 f3 (shm_1615 f4) f5 f6 f7 f8 f10 kz_0_2 kz_2_0 kz_2_1 kz_7_0 kz_7_1)⟩
  refine ⟨(fun _ h => (by cases h)), [], trivial, ?_, (fun _ h => (by cases h))⟩
  rw [List.append_nil]
  exact List.forall_mem_cons.mpr ⟨⟨show (20 : Nat) < 100 from by decide, nf0⟩, (fun _ h => (by cases h))⟩
set_option maxHeartbeats 4000000 in
theorem vc_La_findLayers_8_r0 (x5 : Int) (x9 : Int) (x12 : Int) (place_0o7 : Int → Int) (nodes_0o2 : Int) (from_0o7 : Int → Int) (to_0o7 : Int → Int) (nodes_0o7 : Int) (arcs_0o7 : Int) (k5 : 0 ≤ x5 ∧ x5 ≤ 23) (k9 : 1 ≤ x9 ∧ x9 ≤ 24) (k12 : (-2147483648) ≤ x12 ∧ x12 ≤ 2147483647) (d0 : x9 + (-4294967296) ≤ x5 ∧ x5 ≤ x9 + (-1)) (h1 : x12 = place_0o7 (x5)) (g5 : x9 = nodes_0o2) (f7 : LYQ (nodes_0o7) (arcs_0o7) (from_0o7) (to_0o7) (place_0o7)) (f10 : nodes_0o7 = nodes_0o2) (kz_2_0 : 0 ≤ nodes_0o2 ∧ nodes_0o2 ≤ 24) (kz_7_0 : 0 ≤ nodes_0o7 ∧ nodes_0o7 ≤ 72) (kz_7_1 : 0 ≤ arcs_0o7 ∧ arcs_0o7 ≤ 384) : 0 ≤ x12 ∧ x12 ≤ 23 := by
  first
    | omega
    | (have q := (‹AP4 _ _ _ _ _ _ _ _ _ _›).1; omega)
    | (have q := (‹APB _ _ _ _ _ _ _ _ _ _›).1; omega)
    | (have q := (‹LYQ _ _ _ _ _›).1 x5 (by omega) (by omega); omega)
  
def o_La_findLayers_8 : or_T := (120, 13, [(0, (2, 0, 0, [4])), (1, (2, 0, 0, [2])), (2, (2, 0, 0, [3])), (3, (2, 0, 0, [4])), (4, (2, 0, 0, [2])), (5, (0, 0, 23, [])), (6, (0, 0, 24, [])), (7, (2, 0, 0, [10])), (8, (2, 0, 0, [3])), (9, (0, 1, 24, [])), (10, (2, 0, 0, [62])), (11, (2, 0, 0, [122])), (12, (0, -2147483648, 2147483647, []))], [(9, [6, 3], [2]), (10, [12, 11, 5], []), (9, [11, 7], [6]), (9, [10, 3], [4]), (7, [5, 9], [2]), (9, [9, 8], [0]), (20, [3, 7, 5], [60, 1, 2, 661, 2, 4, 1006]), (20, [7], [60, 2, 3, 538, 0, 1, 2, 3, 6]), (20, [7, 8, 4], [60, 1, 5, 659, 1001, 2, 3, 1007, 1008, 2009]), (20, [8], [60, 2, 2, 596, 0, 1, 7, 8]), (20, [7, 8], [50, 2, 0, 0, 1000, 1, 3, 2, 0, 0, 2, 1, 0]), (20, [7, 8], [50, 2, 0, 1, 1001, 1, 3, 2, 0, 1, 6, 3, 2, 1, 1, 0, 4]), (24, [2, 8], []), (20, [5, 8], [50, 1, 0, 1000, 0, 2, 1, 0, 2, 1, 0]), (24, [1, 4], []), (24, [0, 3], [])], [(12, (0, 0, 23, []))], [], [], [], [(5, 9, -4294967296, -1), (6, 5, -4294967296, 23)])
theorem oo_La_findLayers_8 {kA : Nat → ClassId} : or_ok PRD kA GG o_La_findLayers_8 := by
  refine or_mk fun A ta ws vs hD hth hl => ?_
  intro t0 r0 t1 r1 t2 r2 t3 r3 t4 r4 t5 k5 t6 k6 t7 r7 t8 r8 t9 k9 t10 r10 t11 r11 t12 k12 d0 d1 f0 f1 f2 f3 f4 f5 f6 f7 f8 f9 f10 f11 f12 f13 f14 f15
  replace f1 := shm_107 f1
  replace f2 := shm_111 f2
  replace f5 := shm_163 f5
  replace f10 := shm_1908 f10
  replace f12 := shm_5 f12
  have q8 : n_v vs 8 = n_v vs 2 := f12.symm
  simp only [q8] at f5 f10
  have ad_11 : v_ad (n_v vs 11) = w_ar ws (n_v vs 7) 6 := congrArg v_ad f2
  simp only [ad_11] at f1
  have h1 : v_iv (n_v vs 12) = w_ei ws (w_ar ws (n_v vs 7) 6) (v_iv (n_v vs 5)) := f1
  have g5 : v_iv (n_v vs 9) = w_fi ws (n_v vs 2) 0 := congrArg v_iv f5
  have kz_2_0 := fdq_21 hD hth r2
  have kz_7_0 := fdq_114 hD hth r7
  have kz_7_1 := fdq_113 hD hth r7
  have hrf0 : 0 ≤ v_iv (n_v vs 12) ∧ v_iv (n_v vs 12) ≤ 23 := vc_La_findLayers_8_r0 (v_iv (n_v vs 5)) (v_iv (n_v vs 9)) (v_iv (n_v vs 12)) (w_ei ws (w_ar ws (n_v vs 7) 6)) (w_fi ws (n_v vs 2) 0) (w_ei ws (w_ar ws (n_v vs 7) 2)) (w_ei ws (w_ar ws (n_v vs 7) 3)) (w_fi ws (n_v vs 7) 0) (w_fi ws (n_v vs 7) 1) k5 k9 k12 d0 h1 g5 (shm_1615 f7) f10 kz_2_0 kz_7_0 kz_7_1
  have rf12 : tv_ok ta (0, 0, 23, []) (n_v vs 12) := tv_in t12 (by first | omega | grind) (by first | omega | grind)
  refine ⟨List.forall_mem_cons.mpr ⟨rf12, (fun _ h => (by cases h))⟩, [], trivial, ?_, (fun _ h => (by cases h))⟩
  rw [List.append_nil]
  exact (fun _ h => (by cases h))
set_option maxHeartbeats 4000000 in
theorem vc_La_findLayers_9_0 (x5 : Int) (x6 : Int) (x12 : Int) (x13 : Int) (x15 : Int) (x16 : Int) (x17 : Int) (layerCount_0 : Int) (nodes_0o2 : Int) (from_0o7 : Int → Int) (to_0o7 : Int → Int) (place_0o7 : Int → Int) (nodes_0o7 : Int) (arcs_0o7 : Int) (tail_0o2 : Int → Int) (head_0o2 : Int → Int) (turned_0o1 : Int → Int) (edges_0o2 : Int) (layerOf_1 : Int → Int) (layerCount_1 : Int) (from_1o7 : Int → Int) (to_1o7 : Int → Int) (place_1o7 : Int → Int) (nodes_1o7 : Int) (arcs_1o7 : Int) (tail_1o2 : Int → Int) (head_1o2 : Int → Int) (turned_1o1 : Int → Int) (edges_1o2 : Int) (nodes_1o2 : Int) (place_2o7 : Int → Int) (layerOf_2 : Int → Int) (layerCount_2 : Int) (from_2o7 : Int → Int) (to_2o7 : Int → Int) (nodes_2o7 : Int) (arcs_2o7 : Int) (tail_2o2 : Int → Int) (head_2o2 : Int → Int) (turned_2o1 : Int → Int) (edges_2o2 : Int) (nodes_2o2 : Int) (layerOf_0 : Int → Int) (k5 : 0 ≤ x5 ∧ x5 ≤ 23) (k6 : 0 ≤ x6 ∧ x6 ≤ 24) (k12 : 0 ≤ x12 ∧ x12 ≤ 23) (k13 : 0 ≤ x13 ∧ x13 ≤ 23) (k15 : 1 ≤ x15 ∧ x15 ≤ 24) (k16 : 1 ≤ x16 ∧ x16 ≤ 24) (k17 : 1 ≤ x17 ∧ x17 ≤ 24) (d2 : x13 + 1 ≤ x15 ∧ x15 ≤ x13 + 1) (g0 : x16 = layerCount_0) (f4 : x17 = x5 + 1) (f5 : 1 * x6 + ((-1) * x16 + 0) ≤ 0) (f6 : 1 * x15 + ((-1) * x16 + 0) ≤ 0) (h20 : x13 = layerOf_1 (x5)) (g21 : x6 = layerCount_1) (h29 : x12 = place_2o7 (x5)) (f31 : LYF (layerCount_2) (layerOf_2) (place_2o7) (x5)) (fe_2_0_1 : nodes_0o2 = nodes_1o2) (fe_2_1_1 : edges_0o2 = edges_1o2) (fe_7_0_1 : nodes_0o7 = nodes_1o7) (fe_7_1_1 : arcs_0o7 = arcs_1o7) (fe_0_2_2 : layerCount_1 = layerCount_2) (fe_2_0_2 : nodes_1o2 = nodes_2o2) (fe_2_1_2 : edges_1o2 = edges_2o2) (fe_7_0_2 : nodes_1o7 = nodes_2o7) (fe_7_1_2 : arcs_1o7 = arcs_2o7) (hE_0_4_1 : ∀ j : Int, layerOf_0 j = layerOf_1 j) (hE_0_4_2 : ∀ j : Int, 0 ≤ j → (j = x5 → layerOf_1 j = x12) ∧ (j ≠ x5 → layerOf_1 j = layerOf_2 j)) (hE_1_9_1 : ∀ j : Int, turned_0o1 j = turned_1o1 j) (hE_1_9_2 : ∀ j : Int, turned_1o1 j = turned_2o1 j) (hE_2_7_1 : ∀ j : Int, tail_0o2 j = tail_1o2 j) (hE_2_7_2 : ∀ j : Int, tail_1o2 j = tail_2o2 j) (hE_2_8_1 : ∀ j : Int, head_0o2 j = head_1o2 j) (hE_2_8_2 : ∀ j : Int, head_1o2 j = head_2o2 j) (hE_7_2_1 : ∀ j : Int, from_0o7 j = from_1o7 j) (hE_7_2_2 : ∀ j : Int, from_1o7 j = from_2o7 j) (hE_7_3_1 : ∀ j : Int, to_0o7 j = to_1o7 j) (hE_7_3_2 : ∀ j : Int, to_1o7 j = to_2o7 j) (hE_7_6_1 : ∀ j : Int, place_0o7 j = place_1o7 j) (hE_7_6_2 : ∀ j : Int, place_1o7 j = place_2o7 j) (kz_0_2 : 0 ≤ layerCount_0 ∧ layerCount_0 ≤ 24) (kz_2_0 : 0 ≤ nodes_0o2 ∧ nodes_0o2 ≤ 24) (kz_2_1 : 0 ≤ edges_0o2 ∧ edges_0o2 ≤ 48) (kz_7_0 : 0 ≤ nodes_0o7 ∧ nodes_0o7 ≤ 72) (kz_7_1 : 0 ≤ arcs_0o7 ∧ arcs_0o7 ≤ 384) : LYF (layerCount_0) (layerOf_0) (place_0o7) (x17) := by
  subst fe_2_0_1
  subst fe_2_1_1
  subst fe_7_0_1
  subst fe_7_1_1
  subst fe_0_2_2
  subst fe_2_0_2
  subst fe_2_1_2
  subst fe_7_0_2
  subst fe_7_1_2
  have e_hE_0_4_1 := funext hE_0_4_1; subst e_hE_0_4_1
  have e_hE_1_9_1 := funext hE_1_9_1; subst e_hE_1_9_1
  have e_hE_1_9_2 := funext hE_1_9_2; subst e_hE_1_9_2
  have e_hE_2_7_1 := funext hE_2_7_1; subst e_hE_2_7_1
  have e_hE_2_7_2 := funext hE_2_7_2; subst e_hE_2_7_2
  have e_hE_2_8_1 := funext hE_2_8_1; subst e_hE_2_8_1
  have e_hE_2_8_2 := funext hE_2_8_2; subst e_hE_2_8_2
  have e_hE_7_2_1 := funext hE_7_2_1; subst e_hE_7_2_1
  have e_hE_7_2_2 := funext hE_7_2_2; subst e_hE_7_2_2
  have e_hE_7_3_1 := funext hE_7_3_1; subst e_hE_7_3_1
  have e_hE_7_3_2 := funext hE_7_3_2; subst e_hE_7_3_2
  have e_hE_7_6_1 := funext hE_7_6_1; subst e_hE_7_6_1
  have e_hE_7_6_2 := funext hE_7_6_2; subst e_hE_7_6_2
  first
    | exact lyf_start (by omega)
    | exact lyf_step (x := x12) (y := x13) (z := x15) (p := x5) ‹LYF _ _ _ _› (by assumption) rfl (by assumption) (by omega) (by assumption) (by omega) (by omega) (by omega) (by omega)
  
set_option maxHeartbeats 4000000 in
theorem vc_La_findLayers_9_1 (x5 : Int) (x9 : Int) (x17 : Int) (nodes_0o2 : Int) (from_0o7 : Int → Int) (to_0o7 : Int → Int) (place_0o7 : Int → Int) (nodes_0o7 : Int) (arcs_0o7 : Int) (tail_0o2 : Int → Int) (head_0o2 : Int → Int) (turned_0o1 : Int → Int) (edges_0o2 : Int) (layerOf_1 : Int → Int) (layerCount_1 : Int) (from_1o7 : Int → Int) (to_1o7 : Int → Int) (place_1o7 : Int → Int) (nodes_1o7 : Int) (arcs_1o7 : Int) (tail_1o2 : Int → Int) (head_1o2 : Int → Int) (turned_1o1 : Int → Int) (edges_1o2 : Int) (nodes_1o2 : Int) (place_2o7 : Int → Int) (layerCount_2 : Int) (from_2o7 : Int → Int) (to_2o7 : Int → Int) (nodes_2o7 : Int) (arcs_2o7 : Int) (tail_2o2 : Int → Int) (head_2o2 : Int → Int) (turned_2o1 : Int → Int) (edges_2o2 : Int) (nodes_2o2 : Int) (layerOf_0 : Int → Int) (k5 : 0 ≤ x5 ∧ x5 ≤ 23) (k9 : 1 ≤ x9 ∧ x9 ≤ 24) (k17 : 1 ≤ x17 ∧ x17 ≤ 24) (d0 : x5 + 1 ≤ x17 ∧ x17 ≤ x5 + 1) (d1 : x9 + (-4294967296) ≤ x17 ∧ x17 ≤ x9 + 0) (d3 : x9 + (-4294967296) ≤ x5 ∧ x5 ≤ x9 + (-1)) (g3 : x9 = nodes_0o2) (f10 : nodes_0o7 = nodes_0o2) (fe_2_0_1 : nodes_0o2 = nodes_1o2) (fe_2_1_1 : edges_0o2 = edges_1o2) (fe_7_0_1 : nodes_0o7 = nodes_1o7) (fe_7_1_1 : arcs_0o7 = arcs_1o7) (fe_0_2_2 : layerCount_1 = layerCount_2) (fe_2_0_2 : nodes_1o2 = nodes_2o2) (fe_2_1_2 : edges_1o2 = edges_2o2) (fe_7_0_2 : nodes_1o7 = nodes_2o7) (fe_7_1_2 : arcs_1o7 = arcs_2o7) (hE_0_4_1 : ∀ j : Int, layerOf_0 j = layerOf_1 j) (hE_1_9_1 : ∀ j : Int, turned_0o1 j = turned_1o1 j) (hE_1_9_2 : ∀ j : Int, turned_1o1 j = turned_2o1 j) (hE_2_7_1 : ∀ j : Int, tail_0o2 j = tail_1o2 j) (hE_2_7_2 : ∀ j : Int, tail_1o2 j = tail_2o2 j) (hE_2_8_1 : ∀ j : Int, head_0o2 j = head_1o2 j) (hE_2_8_2 : ∀ j : Int, head_1o2 j = head_2o2 j) (hE_7_2_1 : ∀ j : Int, from_0o7 j = from_1o7 j) (hE_7_2_2 : ∀ j : Int, from_1o7 j = from_2o7 j) (hE_7_3_1 : ∀ j : Int, to_0o7 j = to_1o7 j) (hE_7_3_2 : ∀ j : Int, to_1o7 j = to_2o7 j) (hE_7_6_1 : ∀ j : Int, place_0o7 j = place_1o7 j) (hE_7_6_2 : ∀ j : Int, place_1o7 j = place_2o7 j) (kz_2_0 : 0 ≤ nodes_0o2 ∧ nodes_0o2 ≤ 24) (kz_2_1 : 0 ≤ edges_0o2 ∧ edges_0o2 ≤ 48) (kz_7_0 : 0 ≤ nodes_0o7 ∧ nodes_0o7 ≤ 72) (kz_7_1 : 0 ≤ arcs_0o7 ∧ arcs_0o7 ≤ 384) : x17 ≤ nodes_0o2 := by
  subst fe_2_0_1
  subst fe_2_1_1
  subst fe_7_0_1
  subst fe_7_1_1
  subst fe_0_2_2
  subst fe_2_0_2
  subst fe_2_1_2
  subst fe_7_0_2
  subst fe_7_1_2
  have e_hE_0_4_1 := funext hE_0_4_1; subst e_hE_0_4_1
  have e_hE_1_9_1 := funext hE_1_9_1; subst e_hE_1_9_1
  have e_hE_1_9_2 := funext hE_1_9_2; subst e_hE_1_9_2
  have e_hE_2_7_1 := funext hE_2_7_1; subst e_hE_2_7_1
  have e_hE_2_7_2 := funext hE_2_7_2; subst e_hE_2_7_2
  have e_hE_2_8_1 := funext hE_2_8_1; subst e_hE_2_8_1
  have e_hE_2_8_2 := funext hE_2_8_2; subst e_hE_2_8_2
  have e_hE_7_2_1 := funext hE_7_2_1; subst e_hE_7_2_1
  have e_hE_7_2_2 := funext hE_7_2_2; subst e_hE_7_2_2
  have e_hE_7_3_1 := funext hE_7_3_1; subst e_hE_7_3_1
  have e_hE_7_3_2 := funext hE_7_3_2; subst e_hE_7_3_2
  have e_hE_7_6_1 := funext hE_7_6_1; subst e_hE_7_6_1
  have e_hE_7_6_2 := funext hE_7_6_2; subst e_hE_7_6_2
  first
    | omega
    | (have q := (‹AP4 _ _ _ _ _ _ _ _ _ _›).1; omega)
    | (have q := (‹APB _ _ _ _ _ _ _ _ _ _›).1; omega)
    | (have q := (‹LYQ _ _ _ _ _›).1 x5 (by omega) (by omega); omega)
  
def o_La_findLayers_9 : or_T := (95, 18, [(0, (2, 0, 0, [4])), (1, (2, 0, 0, [2])), (2, (2, 0, 0, [3])), (5, (0, 0, 23, [])), (6, (0, 0, 24, [])), (7, (2, 0, 0, [10])), (9, (0, 1, 24, [])), (10, (2, 0, 0, [62])), (12, (0, 0, 23, [])), (13, (0, 0, 23, [])), (15, (0, 1, 24, [])), (16, (0, 1, 24, [])), (17, (0, 1, 24, []))], [(9, [16, 3], [2]), (9, [11, 7], [6]), (9, [10, 3], [4]), (9, [9, 8], [0]), (6, [17, 5], [1]), (23, [6, 16], [0, 1, -1]), (23, [15, 16], [0, 1, -1]), (20, [7, 8], [50, 2, 0, 0, 1000, 1, 3, 2, 0, 0, 2, 1, 0]), (24, [2, 8], []), (24, [0, 3], []), (101, [3, 16], [2]), (10, [13, 10, 5], []), (9, [6, 3], [2]), (100, [10, 5, 12], []), (10, [12, 11, 5], []), (20, [3, 7, 5], [60, 1, 2, 661, 2, 4, 1006])], [], [], [(20, [3, 7, 17], [60, 1, 2, 661, 2, 4, 1006]), (20, [17, 8], [50, 1, 0, 1000, 0, 2, 1, 0, 2, 1, 0])], [], [(17, 5, 1, 1), (17, 9, -4294967296, 0), (15, 13, 1, 1), (5, 9, -4294967296, -1), (6, 5, -4294967296, 23)])
theorem oo_La_findLayers_9 {kA : Nat → ClassId} : or_ok PRD kA GG o_La_findLayers_9 := by
  refine or_mk fun A ta ws vs hD hth hl => ?_
  intro t0 r0 t1 r1 t2 r2 t5 k5 t6 k6 t7 r7 t9 k9 t10 r10 t12 k12 t13 k13 t15 k15 t16 k16 t17 k17 d0 d1 d2 d3 d4 f0 f1 f2 f3 f4 f5 f6 f10 f12 f15 ta1 w1 le1 s1 f20 f21 ta2 w2 le2 s2 f29 f31
  replace f0 := shm_120 f0
  replace f1 := shm_111 f1
  replace f2 := shm_108 f2
  replace f3 := shm_163 f3
  replace f4 := shm_4 f4
  replace f5 := shm_7 f5
  replace f6 := shm_7 f6
  replace f10 := shm_1908 f10
  replace f12 := shm_5 f12
  replace f15 := shm_5 f15
  have s1 : (∀ b j, w_el ws b j = w_el w1 b j) ∧ ∀ b j, w_fd ws b j = if b = v_ad (n_v vs 3) ∧ j = 2 then n_v vs 16 else w_fd w1 b j := s1.2
  replace f20 := shm_107 f20
  replace f21 := shm_120 f21
  have s2 : (∀ b j, w_el w1 b j = if b = v_ad (n_v vs 10) ∧ j = (v_iv (n_v vs 5)).toNat then v_iv (n_v vs 12) else w_el w2 b j) ∧ ∀ b k, w_fd w1 b k = w_fd w2 b k := s2.2
  replace f29 := shm_107 f29
  replace f31 := shm_1911 f31
  have q8 : n_v vs 8 = n_v vs 2 := f12.symm
  have q3 : n_v vs 3 = n_v vs 0 := f15.symm
  simp only [q3, q8] at f0 f2 f3 f10
  rw [q3] at s1
  simp only [q3] at f21 f31
  have ar_0_4_1 : w_ar w1 (n_v vs 0) 4 = w_ar ws (n_v vs 0) 4 := by show v_ad (w_fd w1 _ _) = v_ad (w_fd ws _ _); rw [s1.2, if_neg (fun e => absurd e.2 (by decide))]
  have ar_0_4_2 : w_ar w2 (n_v vs 0) 4 = w_ar ws (n_v vs 0) 4 := by rw [← ar_0_4_1]; show v_ad (w_fd w2 _ _) = v_ad (w_fd w1 _ _); rw [s2.2]
  have ar_1_9_1 : w_ar w1 (n_v vs 1) 9 = w_ar ws (n_v vs 1) 9 := by show v_ad (w_fd w1 _ _) = v_ad (w_fd ws _ _); rw [s1.2, if_neg (fun e => absurd e.2 (by decide))]
  have ar_1_9_2 : w_ar w2 (n_v vs 1) 9 = w_ar ws (n_v vs 1) 9 := by rw [← ar_1_9_1]; show v_ad (w_fd w2 _ _) = v_ad (w_fd w1 _ _); rw [s2.2]
  have cr_1_9 := fdq_76 hD hth r1
  have ar_2_7_1 : w_ar w1 (n_v vs 2) 7 = w_ar ws (n_v vs 2) 7 := by show v_ad (w_fd w1 _ _) = v_ad (w_fd ws _ _); rw [s1.2, if_neg (fun e => absurd e.2 (by decide))]
  have ar_2_7_2 : w_ar w2 (n_v vs 2) 7 = w_ar ws (n_v vs 2) 7 := by rw [← ar_2_7_1]; show v_ad (w_fd w2 _ _) = v_ad (w_fd w1 _ _); rw [s2.2]
  have cr_2_7 := fdq_46 hD hth r2
  have ar_2_8_1 : w_ar w1 (n_v vs 2) 8 = w_ar ws (n_v vs 2) 8 := by show v_ad (w_fd w1 _ _) = v_ad (w_fd ws _ _); rw [s1.2, if_neg (fun e => absurd e.2 (by decide))]
  have ar_2_8_2 : w_ar w2 (n_v vs 2) 8 = w_ar ws (n_v vs 2) 8 := by rw [← ar_2_8_1]; show v_ad (w_fd w2 _ _) = v_ad (w_fd w1 _ _); rw [s2.2]
  have cr_2_8 := fdq_47 hD hth r2
  have ar_7_2_1 : w_ar w1 (n_v vs 7) 2 = w_ar ws (n_v vs 7) 2 := by show v_ad (w_fd w1 _ _) = v_ad (w_fd ws _ _); rw [s1.2, if_neg (fun e => by have e1 := e.1; have e2 := r7; rw [e1, r0] at e2; exact absurd (Option.some.inj e2) (by decide))]
  have ar_7_2_2 : w_ar w2 (n_v vs 7) 2 = w_ar ws (n_v vs 7) 2 := by rw [← ar_7_2_1]; show v_ad (w_fd w2 _ _) = v_ad (w_fd w1 _ _); rw [s2.2]
  have cr_7_2 := fdq_108 hD hth r7
  have ar_7_3_1 : w_ar w1 (n_v vs 7) 3 = w_ar ws (n_v vs 7) 3 := by show v_ad (w_fd w1 _ _) = v_ad (w_fd ws _ _); rw [s1.2, if_neg (fun e => absurd e.2 (by decide))]
  have ar_7_3_2 : w_ar w2 (n_v vs 7) 3 = w_ar ws (n_v vs 7) 3 := by rw [← ar_7_3_1]; show v_ad (w_fd w2 _ _) = v_ad (w_fd w1 _ _); rw [s2.2]
  have cr_7_3 := fdq_109 hD hth r7
  have ar_7_6_1 : w_ar w1 (n_v vs 7) 6 = w_ar ws (n_v vs 7) 6 := by show v_ad (w_fd w1 _ _) = v_ad (w_fd ws _ _); rw [s1.2, if_neg (fun e => absurd e.2 (by decide))]
  have ar_7_6_2 : w_ar w2 (n_v vs 7) 6 = w_ar ws (n_v vs 7) 6 := by rw [← ar_7_6_1]; show v_ad (w_fd w2 _ _) = v_ad (w_fd w1 _ _); rw [s2.2]
  have cr_7_6 := fdq_115 hD hth r7
  have ad_11 : v_ad (n_v vs 11) = w_ar ws (n_v vs 7) 6 := congrArg v_ad f1
  have ad_10 : v_ad (n_v vs 10) = w_ar ws (n_v vs 0) 4 := congrArg v_ad f2
  have g0 : v_iv (n_v vs 16) = w_fi ws (n_v vs 0) 2 := congrArg v_iv f0
  have g3 : v_iv (n_v vs 9) = w_fi ws (n_v vs 2) 0 := congrArg v_iv f3
  simp only [ad_10] at f20
  have h20 : v_iv (n_v vs 13) = w_ei w1 (w_ar ws (n_v vs 0) 4) (v_iv (n_v vs 5)) := f20
  have g21 : v_iv (n_v vs 6) = w_fi w1 (n_v vs 0) 2 := congrArg v_iv f21
  simp only [ar_7_2_1, ar_7_3_1, ar_7_6_1, ar_1_9_1, ar_2_7_1, ar_2_8_1, ad_11] at f29
  have h29 : v_iv (n_v vs 12) = w_ei w2 (w_ar ws (n_v vs 7) 6) (v_iv (n_v vs 5)) := f29
  simp only [ar_0_4_2, ar_7_6_2, ar_7_2_2, ar_7_3_2, ar_1_9_2, ar_2_7_2, ar_2_8_2] at f31
  have fe_2_0_1 : w_fi ws (n_v vs 2) 0 = w_fi w1 (n_v vs 2) 0 := by show v_iv (w_fd _ _ _) = v_iv (w_fd _ _ _); rw [s1.2, if_neg (fun e => absurd e.2 (by decide))]
  have fe_2_1_1 : w_fi ws (n_v vs 2) 1 = w_fi w1 (n_v vs 2) 1 := by show v_iv (w_fd _ _ _) = v_iv (w_fd _ _ _); rw [s1.2, if_neg (fun e => absurd e.2 (by decide))]
  have fe_7_0_1 : w_fi ws (n_v vs 7) 0 = w_fi w1 (n_v vs 7) 0 := by show v_iv (w_fd _ _ _) = v_iv (w_fd _ _ _); rw [s1.2, if_neg (fun e => absurd e.2 (by decide))]
  have fe_7_1_1 : w_fi ws (n_v vs 7) 1 = w_fi w1 (n_v vs 7) 1 := by show v_iv (w_fd _ _ _) = v_iv (w_fd _ _ _); rw [s1.2, if_neg (fun e => absurd e.2 (by decide))]
  have fe_0_2_2 : w_fi w1 (n_v vs 0) 2 = w_fi w2 (n_v vs 0) 2 := congrArg v_iv (s2.2 _ _)
  have fe_2_0_2 : w_fi w1 (n_v vs 2) 0 = w_fi w2 (n_v vs 2) 0 := congrArg v_iv (s2.2 _ _)
  have fe_2_1_2 : w_fi w1 (n_v vs 2) 1 = w_fi w2 (n_v vs 2) 1 := congrArg v_iv (s2.2 _ _)
  have fe_7_0_2 : w_fi w1 (n_v vs 7) 0 = w_fi w2 (n_v vs 7) 0 := congrArg v_iv (s2.2 _ _)
  have fe_7_1_2 : w_fi w1 (n_v vs 7) 1 = w_fi w2 (n_v vs 7) 1 := congrArg v_iv (s2.2 _ _)
  have hE_0_4_1 : ∀ j : Int, w_ei ws (w_ar ws (n_v vs 0) 4) j = w_ei w1 (w_ar ws (n_v vs 0) 4) j := fun j => s1.1 _ _
  have hE_0_4_2 : ∀ j : Int, 0 ≤ j → (j = v_iv (n_v vs 5) → w_ei w1 (w_ar ws (n_v vs 0) 4) j = v_iv (n_v vs 12)) ∧ (j ≠ v_iv (n_v vs 5) → w_ei w1 (w_ar ws (n_v vs 0) 4) j = w_ei w2 (w_ar ws (n_v vs 0) 4) j) := fun j hj => ⟨fun h => by unfold w_ei; rw [s2.1, if_pos ⟨ad_10.symm, by rw [h]⟩], fun h => by unfold w_ei; rw [s2.1, if_neg (fun e => h (by have := e.2; omega))]⟩
  have hE_1_9_1 : ∀ j : Int, w_ei ws (w_ar ws (n_v vs 1) 9) j = w_ei w1 (w_ar ws (n_v vs 1) 9) j := fun j => s1.1 _ _
  have hE_1_9_2 : ∀ j : Int, w_ei w1 (w_ar ws (n_v vs 1) 9) j = w_ei w2 (w_ar ws (n_v vs 1) 9) j := el_kp s2.1 r10 cr_1_9 (by decide)
  have hE_2_7_1 : ∀ j : Int, w_ei ws (w_ar ws (n_v vs 2) 7) j = w_ei w1 (w_ar ws (n_v vs 2) 7) j := fun j => s1.1 _ _
  have hE_2_7_2 : ∀ j : Int, w_ei w1 (w_ar ws (n_v vs 2) 7) j = w_ei w2 (w_ar ws (n_v vs 2) 7) j := el_kp s2.1 r10 cr_2_7 (by decide)
  have hE_2_8_1 : ∀ j : Int, w_ei ws (w_ar ws (n_v vs 2) 8) j = w_ei w1 (w_ar ws (n_v vs 2) 8) j := fun j => s1.1 _ _
  have hE_2_8_2 : ∀ j : Int, w_ei w1 (w_ar ws (n_v vs 2) 8) j = w_ei w2 (w_ar ws (n_v vs 2) 8) j := el_kp s2.1 r10 cr_2_8 (by decide)
  have hE_7_2_1 : ∀ j : Int, w_ei ws (w_ar ws (n_v vs 7) 2) j = w_ei w1 (w_ar ws (n_v vs 7) 2) j := fun j => s1.1 _ _
  have hE_7_2_2 : ∀ j : Int, w_ei w1 (w_ar ws (n_v vs 7) 2) j = w_ei w2 (w_ar ws (n_v vs 7) 2) j := el_kp s2.1 r10 cr_7_2 (by decide)
  have hE_7_3_1 : ∀ j : Int, w_ei ws (w_ar ws (n_v vs 7) 3) j = w_ei w1 (w_ar ws (n_v vs 7) 3) j := fun j => s1.1 _ _
  have hE_7_3_2 : ∀ j : Int, w_ei w1 (w_ar ws (n_v vs 7) 3) j = w_ei w2 (w_ar ws (n_v vs 7) 3) j := el_kp s2.1 r10 cr_7_3 (by decide)
  have hE_7_6_1 : ∀ j : Int, w_ei ws (w_ar ws (n_v vs 7) 6) j = w_ei w1 (w_ar ws (n_v vs 7) 6) j := fun j => s1.1 _ _
  have hE_7_6_2 : ∀ j : Int, w_ei w1 (w_ar ws (n_v vs 7) 6) j = w_ei w2 (w_ar ws (n_v vs 7) 6) j := el_kp s2.1 r10 cr_7_6 (by decide)
  have kz_0_2 := fdq_77 hD hth r0
  have kz_2_0 := fdq_21 hD hth r2
  have kz_2_1 := fdq_30 hD hth r2
  have kz_7_0 := fdq_114 hD hth r7
  have kz_7_1 := fdq_113 hD hth r7
  have nf0 : fc_1 PRD (20, [3, 7, 17], [60, 1, 2, 661, 2, 4, 1006]) ws (vs) := by
    refine ⟨nf_in hl rfl, sgq_1911 ?_⟩
    · show LYF (w_fi ws (n_v vs 3) 2) (w_ei ws (w_ar ws (n_v vs 3) 4)) (w_ei ws (w_ar ws (n_v vs 7) 6)) (v_iv (n_v vs 17))
      rw [q3]
      exact vc_La_findLayers_9_0 (v_iv (n_v vs 5)) (v_iv (n_v vs 6)) (v_iv (n_v vs 12)) (v_iv (n_v vs 13)) (v_iv (n_v vs 15)) (v_iv (n_v vs 16)) (v_iv (n_v vs 17)) (w_fi ws (n_v vs 0) 2) (w_fi ws (n_v vs 2) 0) (w_ei ws (w_ar ws (n_v vs 7) 2)) (w_ei ws (w_ar ws (n_v vs 7) 3)) (w_ei ws (w_ar ws (n_v vs 7) 6)) (w_fi ws (n_v vs 7) 0) (w_fi ws (n_v vs 7) 1) (w_ei ws (w_ar ws (n_v vs 2) 7)) (w_ei ws (w_ar ws (n_v vs 2) 8)) (w_ei ws (w_ar ws (n_v vs 1) 9)) (w_fi ws (n_v vs 2) 1) (w_ei w1 (w_ar ws (n_v vs 0) 4)) (w_fi w1 (n_v vs 0) 2) (w_ei w1 (w_ar ws (n_v vs 7) 2)) (w_ei w1 (w_ar ws (n_v vs 7) 3)) (w_ei w1 (w_ar ws (n_v vs 7) 6)) (w_fi w1 (n_v vs 7) 0) (w_fi w1 (n_v vs 7) 1) (w_ei w1 (w_ar ws (n_v vs 2) 7)) (w_ei w1 (w_ar ws (n_v vs 2) 8)) (w_ei w1 (w_ar ws (n_v vs 1) 9)) (w_fi w1 (n_v vs 2) 1) (w_fi w1 (n_v vs 2) 0) (w_ei w2 (w_ar ws (n_v vs 7) 6)) (w_ei w2 (w_ar ws (n_v vs 0) 4)) (w_fi w2 (n_v vs 0) 2) (w_ei w2 (w_ar ws (n_v vs 7) 2)) (w_ei w2 (w_ar ws (n_v vs 7) 3)) (w_fi w2 (n_v vs 7) 0) (w_fi w2 (n_v vs 7) 1) (w_ei w2 (w_ar ws (n_v vs 2) 7)) (w_ei w2 (w_ar ws (n_v vs 2) 8)) (w_ei w2 (w_ar ws (n_v vs 1) 9)) (w_fi w2 (n_v vs 2) 1) (w_fi w2 (n_v vs 2) 0) (w_ei ws (w_ar ws (n_v vs 0) 4)) k5 k6 k12 k13 k15 k16 k17 d2 g0 f4 f5 f6 h20 g21 h29 f31 fe_2_0_1 fe_2_1_1 fe_7_0_1 fe_7_1_1 fe_0_2_2 fe_2_0_2 fe_2_1_2 fe_7_0_2 fe_7_1_2 hE_0_4_1 hE_0_4_2 hE_1_9_1 hE_1_9_2 hE_2_7_1 hE_2_7_2 hE_2_8_1 hE_2_8_2 hE_7_2_1 hE_7_2_2 hE_7_3_1 hE_7_3_2 hE_7_6_1 hE_7_6_2 kz_0_2 kz_2_0 kz_2_1 kz_7_0 kz_7_1
  have nf1 : fc_1 PRD (20, [17, 8], [50, 1, 0, 1000, 0, 2, 1, 0, 2, 1, 0]) ws (vs) := by
    refine ⟨nf_in hl rfl, sgq_411 ?_⟩
    · show v_iv (n_v vs 17) ≤ w_fi ws (n_v vs 8) 0
      rw [q8]
      exact vc_La_findLayers_9_1 (v_iv (n_v vs 5)) (v_iv (n_v vs 9)) (v_iv (n_v vs 17)) (w_fi ws (n_v vs 2) 0) (w_ei ws (w_ar ws (n_v vs 7) 2)) (w_ei ws (w_ar ws (n_v vs 7) 3)) (w_ei ws (w_ar ws (n_v vs 7) 6)) (w_fi ws (n_v vs 7) 0) (w_fi ws (n_v vs 7) 1) (w_ei ws (w_ar ws (n_v vs 2) 7)) (w_ei ws (w_ar ws (n_v vs 2) 8)) (w_ei ws (w_ar ws (n_v vs 1) 9)) (w_fi ws (n_v vs 2) 1) (w_ei w1 (w_ar ws (n_v vs 0) 4)) (w_fi w1 (n_v vs 0) 2) (w_ei w1 (w_ar ws (n_v vs 7) 2)) (w_ei w1 (w_ar ws (n_v vs 7) 3)) (w_ei w1 (w_ar ws (n_v vs 7) 6)) (w_fi w1 (n_v vs 7) 0) (w_fi w1 (n_v vs 7) 1) (w_ei w1 (w_ar ws (n_v vs 2) 7)) (w_ei w1 (w_ar ws (n_v vs 2) 8)) (w_ei w1 (w_ar ws (n_v vs 1) 9)) (w_fi w1 (n_v vs 2) 1) (w_fi w1 (n_v vs 2) 0) (w_ei w2 (w_ar ws (n_v vs 7) 6)) (w_fi w2 (n_v vs 0) 2) (w_ei w2 (w_ar ws (n_v vs 7) 2)) (w_ei w2 (w_ar ws (n_v vs 7) 3)) (w_fi w2 (n_v vs 7) 0) (w_fi w2 (n_v vs 7) 1) (w_ei w2 (w_ar ws (n_v vs 2) 7)) (w_ei w2 (w_ar ws (n_v vs 2) 8)) (w_ei w2 (w_ar ws (n_v vs 1) 9)) (w_fi w2 (n_v vs 2) 1) (w_fi w2 (n_v vs 2) 0) (w_ei ws (w_ar ws (n_v vs 0) 4)) k5 k9 k17 d0 d1 d3 g3 f10 fe_2_0_1 fe_2_1_1 fe_7_0_1 fe_7_1_1 fe_0_2_2 fe_2_0_2 fe_2_1_2 fe_7_0_2 fe_7_1_2 hE_0_4_1 hE_1_9_1 hE_1_9_2 hE_2_7_1 hE_2_7_2 hE_2_8_1 hE_2_8_2 hE_7_2_1 hE_7_2_2 hE_7_3_1 hE_7_3_2 hE_7_6_1 hE_7_6_2 kz_2_0 kz_2_1 kz_7_0 kz_7_1
  refine ⟨(fun _ h => (by cases h)), [], trivial, ?_, (fun _ h => (by cases h))⟩
  rw [List.append_nil]
  exact List.forall_mem_cons.mpr ⟨⟨show (20 : Nat) < 100 from by decide, nf0⟩, List.forall_mem_cons.mpr ⟨⟨show (20 : Nat) < 100 from by decide, nf1⟩, (fun _ h => (by cases h))⟩⟩
def n_La_findLayers_an : List an_T := [(16, [(0, (2, 0, 0, [4])), (1, (2, 0, 0, [2])), (2, (0, 0, 48, []))], [], (0, 0), [(0, 0, 99984), (1, 5, 48), (0, 0, 100000)], [], [((0, 0), (2, 0, 0, [10])), ((0, 1), (2, 0, 0, [3]))], [(2, 0, 0, [4]), (2, 0, 0, [2]), (2, 0, 0, [3])], 0, [], [(20, [6, 7, 4, 5], [60, 1, 8, 654, 1, 2, 3, 4, 5, 1007, 1008, 1009, 2009]), (20, [7], [60, 2, 2, 596, 0, 1, 7, 8]), (20, [7, 4], [60, 1, 3, 658, 1, 7, 8, 1009]), (20, [6, 7], [50, 2, 0, 0, 1000, 1, 3, 2, 0, 0, 2, 1, 0]), (24, [2, 7], []), (20, [5, 7], [50, 1, 0, 1001, 0, 2, 1, 0, 2, 1, 1]), (24, [1, 4], []), (24, [0, 3], []), (24, [1, 4], [])]), (95, [(0, (2, 0, 0, [4])), (1, (2, 0, 0, [2])), (2, (0, 0, 24, []))], [], (0, 0), [(0, 0, 99905), (1, 5, 24), (0, 0, 100000)], [(6, 5, (Int.negSucc 999999999999), 23)], [((0, 2), (0, 0, 24, [])), ((0, 0), (2, 0, 0, [10])), ((0, 1), (2, 0, 0, [3]))], [(2, 0, 0, [4]), (2, 0, 0, [2]), (2, 0, 0, [3])], 0, [], [(20, [3, 7, 5], [60, 1, 2, 661, 2, 4, 1006]), (20, [7], [60, 2, 3, 538, 0, 1, 2, 3, 6]), (20, [7, 8, 4], [60, 1, 5, 659, 1001, 2, 3, 1007, 1008, 2009]), (20, [8], [60, 2, 2, 596, 0, 1, 7, 8]), (20, [7, 8], [50, 2, 0, 0, 1000, 1, 3, 2, 0, 0, 2, 1, 0]), (20, [7, 8], [50, 2, 0, 1, 1001, 1, 3, 2, 0, 1, 6, 3, 2, 1, 1, 0, 4]), (24, [2, 8], []), (20, [5, 8], [50, 1, 0, 1000, 0, 2, 1, 0, 2, 1, 0]), (24, [1, 4], []), (24, [0, 3], []), (24, [1, 4], [])])]
def t_La_findLayers_ct : ct_L := [(1, 142, e_St_begin), (1, 149, e_La_upperEnd), (1, 153, e_La_lowerEnd), (160, 159, e_St_addPiece_at_gl), (220, 163, e_St_addGap_at_gl), (259, 166, e_St_solve_at_gl), (405, 170, e_jMath_max1_v754), (405, 170, e_jMath_max1_v755)]
set_option maxRecDepth 100000 in
theorem c_La_findLayers {l : Launch} {D : va_G} {kA : Nat → ClassId} (h_La_lowerEnd : ct_ok PRD l D kA GG y_La_lowerEnd z_La_lowerEnd e_La_lowerEnd) (h_La_upperEnd : ct_ok PRD l D kA GG y_La_upperEnd z_La_upperEnd e_La_upperEnd) (h_St_addGap_at_gl : ct_ok PRD l D kA GG y_St_addGap_at_gl z_St_addGap_at_gl e_St_addGap_at_gl) (h_St_addPiece_at_gl : ct_ok PRD l D kA GG y_St_addPiece_at_gl z_St_addPiece_at_gl e_St_addPiece_at_gl) (h_St_begin : ct_ok PRD l D kA GG y_St_begin z_St_begin e_St_begin) (h_St_solve_at_gl : ct_ok PRD l D kA GG y_St_solve_at_gl z_St_solve_at_gl e_St_solve_at_gl) : ct_ok PRD l D kA GG y_La_findLayers z_La_findLayers e_La_findLayers := chk_all_ok (FT := [(12, 4, 0), (18, 4, 1), (22, 4, 2), (29, 4, 4), (139, 3, 0), (146, 3, 1), (156, 3, 9), (169, 10, 6)]) (PT := [(22, 4, 2, .int)]) (CT := t_La_findLayers_ct) (KT := []) (NT := []) (AN := n_La_findLayers_an) (OT := [o_La_findLayers_0, o_La_findLayers_1, o_La_findLayers_2, o_La_findLayers_3, o_La_findLayers_4, o_La_findLayers_5, o_La_findLayers_6, o_La_findLayers_7, o_La_findLayers_8, o_La_findLayers_9]) 3 316 (List.forall_mem_cons.mpr ⟨oo_La_findLayers_0, List.forall_mem_cons.mpr ⟨oo_La_findLayers_1, List.forall_mem_cons.mpr ⟨oo_La_findLayers_2, List.forall_mem_cons.mpr ⟨oo_La_findLayers_3, List.forall_mem_cons.mpr ⟨oo_La_findLayers_4, List.forall_mem_cons.mpr ⟨oo_La_findLayers_5, List.forall_mem_cons.mpr ⟨oo_La_findLayers_6, List.forall_mem_cons.mpr ⟨oo_La_findLayers_7, List.forall_mem_cons.mpr ⟨oo_La_findLayers_8, List.forall_mem_cons.mpr ⟨oo_La_findLayers_9, List.forall_mem_nil _⟩⟩⟩⟩⟩⟩⟩⟩⟩⟩) (by decide +kernel) ⟨List.forall_mem_cons.mpr ⟨gf_La_12, List.forall_mem_cons.mpr ⟨gf_La_18, List.forall_mem_cons.mpr ⟨gf_La_22, List.forall_mem_cons.mpr ⟨gf_La_29, List.forall_mem_cons.mpr ⟨gf_La_139, List.forall_mem_cons.mpr ⟨gf_La_146, List.forall_mem_cons.mpr ⟨gf_La_156, List.forall_mem_cons.mpr ⟨gf_La_169, List.forall_mem_nil _⟩⟩⟩⟩⟩⟩⟩⟩, List.forall_mem_cons.mpr ⟨pf_La_22, List.forall_mem_nil _⟩, List.forall_mem_cons.mpr ⟨cl_virtual (y := y_St_begin) (ci := 10) rfl rfl ⟨_, _, rfl⟩ (by decide +kernel) h_St_begin wm_1317 wm_19 wm_1314 wm_1315 wm_1316 ⟨by decide, by decide, by decide +kernel⟩ (by decide), List.forall_mem_cons.mpr ⟨cl_virtual (y := y_La_upperEnd) (ci := 4) rfl rfl ⟨_, _, rfl⟩ (by decide +kernel) h_La_upperEnd wm_1321 wm_18 wm_1318 wm_1320 wv_4_9 ⟨by decide, by decide, by decide +kernel⟩ (by decide), List.forall_mem_cons.mpr ⟨cl_virtual (y := y_La_lowerEnd) (ci := 4) rfl rfl ⟨_, _, rfl⟩ (by decide +kernel) h_La_lowerEnd wm_1325 wm_18 wm_1322 wm_1324 wv_4_10 ⟨by decide, by decide, by decide +kernel⟩ (by decide), List.forall_mem_cons.mpr ⟨cl_virtual (y := y_St_addPiece_at_gl) (ci := 10) rfl rfl ⟨_, _, rfl⟩ (by decide +kernel) h_St_addPiece_at_gl wm_1329 wm_19 wm_1326 wm_1327 wm_1328 ⟨by decide, by decide, by decide +kernel⟩ (by decide), List.forall_mem_cons.mpr ⟨cl_virtual (y := y_St_addGap_at_gl) (ci := 10) rfl rfl ⟨_, _, rfl⟩ (by decide +kernel) h_St_addGap_at_gl wm_1337 wm_19 wm_1334 wm_1335 wm_1336 ⟨by decide, by decide, by decide +kernel⟩ (by decide), List.forall_mem_cons.mpr ⟨cl_virtual (y := y_St_solve_at_gl) (ci := 10) rfl rfl ⟨_, _, rfl⟩ (by decide +kernel) h_St_solve_at_gl wm_1342 wm_19 wm_1339 wm_1340 wm_1341 ⟨by decide, by decide, by decide +kernel⟩ (by decide), List.forall_mem_cons.mpr ⟨cl_static (y := y_jMath_max1) c_jMath_max1_v754 wm_836 wm_10 wm_1362 wm_835 ⟨by decide, by decide, by decide +kernel⟩ (by decide), List.forall_mem_cons.mpr ⟨cl_static (y := y_jMath_max1) c_jMath_max1_v755 wm_836 wm_10 wm_1362 wm_835 ⟨by decide, by decide, by decide +kernel⟩ (by decide), List.forall_mem_nil _⟩⟩⟩⟩⟩⟩⟩⟩, List.forall_mem_nil _, List.forall_mem_nil _, GG_pl⟩ (by decide +kernel)
set_option maxHeartbeats 4000000 in
theorem vc_Pl_layAreas_0_0 (x1 : Int) (x9 : Int) (k1 : 8 ≤ x1 ∧ x1 ≤ 512) (k9 : 0 ≤ x9 ∧ x9 ≤ 0) : HUL (x9) (x1) := by
  first
    | exact ⟨⟨by omega, by omega⟩, by omega, by omega⟩
  
set_option maxHeartbeats 4000000 in
theorem vc_Pl_layAreas_0_1 (x1 : Int) (x10 : Int) (k1 : 8 ≤ x1 ∧ x1 ≤ 512) (k10 : 0 ≤ x10 ∧ x10 ≤ 0) : HUL (x10) (x1) := by
  first
    | exact ⟨⟨by omega, by omega⟩, by omega, by omega⟩
  
set_option maxHeartbeats 4000000 in
theorem vc_Pl_layAreas_0_2 (x7 : Int) (area_0o2 : Int → Int) (k7 : 0 ≤ x7 ∧ x7 ≤ 0) (hT1 : ∀ j : Int, 0 ≤ j → j < x7 + 128 → 0 ≤ area_0o2 j ∧ area_0o2 j ≤ 0) : BXA (area_0o2) := by
  first
    | assumption
    | exact bxa_0 (fun j a b => by have := hT1 j a (by omega); omega)
  
def o_Pl_layAreas_0 : or_T := (18, 11, [(1, (0, 8, 512, [])), (2, (2, 0, 0, [0])), (7, (0, 0, 0, [])), (9, (0, 0, 0, [])), (10, (0, 0, 0, []))], [(9, [6, 2], [13]), (20, [6, 7], [8, 0, 0, 128])], [], [], [(20, [9, 1], [61, 0, 791]), (20, [10, 1], [61, 0, 791]), (20, [2], [60, 0, 1, 844, 13])], [], [])
theorem oo_Pl_layAreas_0 {kA : Nat → ClassId} : or_ok PRD kA GG o_Pl_layAreas_0 := by
  refine or_mk fun A ta ws vs hD hth hl => ?_
  intro t1 k1 t2 r2 t7 k7 t9 k9 t10 k10 f0 f1
  replace f0 := shm_361 f0
  replace f1 := shm_50 f1
  have ad_6 : v_ad (n_v vs 6) = w_ar ws (n_v vs 2) 13 := congrArg v_ad f0
  have hT1 : ∀ j : Int, 0 ≤ j → j < v_iv (n_v vs 7) + 128 → 0 ≤ w_ei ws (w_ar ws (n_v vs 2) 13) j ∧ w_ei ws (w_ar ws (n_v vs 2) 13) j ≤ 0 := fun j h0 h1 => by have h2 := f1 j.toNat (by omega); rw [ad_6] at h2; exact h2
  have nf0 : fc_1 PRD (20, [9, 1], [61, 0, 791]) ws (vs) := ⟨nf_in hl rfl, sgq_417 (vc_Pl_layAreas_0_0 (v_iv (n_v vs 1)) (v_iv (n_v vs 9)) k1 k9)⟩
  have nf1 : fc_1 PRD (20, [10, 1], [61, 0, 791]) ws (vs) := ⟨nf_in hl rfl, sgq_417 (vc_Pl_layAreas_0_1 (v_iv (n_v vs 1)) (v_iv (n_v vs 10)) k1 k10)⟩
  have nf2 : fc_1 PRD (20, [2], [60, 0, 1, 844, 13]) ws (vs) := ⟨nf_in hl rfl, sgq_418 (vc_Pl_layAreas_0_2 (v_iv (n_v vs 7)) (w_ei ws (w_ar ws (n_v vs 2) 13)) k7 hT1)⟩
  refine ⟨(fun _ h => (by cases h)), [], trivial, ?_, (fun _ h => (by cases h))⟩
  rw [List.append_nil]
  exact List.forall_mem_cons.mpr ⟨⟨show (20 : Nat) < 100 from by decide, nf0⟩, List.forall_mem_cons.mpr ⟨⟨show (20 : Nat) < 100 from by decide, nf1⟩, List.forall_mem_cons.mpr ⟨⟨show (20 : Nat) < 100 from by decide, nf2⟩, (fun _ h => (by cases h))⟩⟩⟩
def o_Pl_layAreas_1 : or_T := (23, 12, [], [], [], [], [(24, [0, 0], [])], [], [])
theorem oo_Pl_layAreas_1 {kA : Nat → ClassId} : or_ok PRD kA GG o_Pl_layAreas_1 := by
  refine or_mk fun A ta ws vs hD hth hl => ?_
  have nf0 : fc_1 PRD (24, [0, 0], []) ws (vs) := by
    refine ⟨nf_in hl rfl, sgq_1 ?_⟩
    · show n_v vs 0 = n_v vs 0
      first | rfl | simp only [true_and]
  refine ⟨(fun _ h => (by cases h)), [], trivial, ?_, (fun _ h => (by cases h))⟩
  rw [List.append_nil]
  exact List.forall_mem_cons.mpr ⟨⟨show (24 : Nat) < 100 from by decide, nf0⟩, (fun _ h => (by cases h))⟩
set_option maxHeartbeats 4000000 in
theorem vc_Pl_layAreas_2_0 (x16 : Int) (x17 : Int) (x20 : Int) (k16 : 24 ≤ x16 ∧ x16 ≤ 31) (k17 : 96 ≤ x17 ∧ x17 ≤ 124) (k20 : 4 ≤ x20 ∧ x20 ≤ 4) (f1 : x17 = 4 * x16) : x17 + x20 ≤ 128 := by
  first
    | omega
  
set_option maxHeartbeats 4000000 in
theorem vc_Pl_layAreas_2_1 (x19 : Int) (x20 : Int) (k19 : 0 ≤ x19 ∧ x19 ≤ 0) (k20 : 4 ≤ x20 ∧ x20 ≤ 4) : x19 + x20 ≤ 4 := by
  first
    | omega
  
set_option maxHeartbeats 4000000 in
theorem vc_Pl_layAreas_2_2 (x8 : Int) (x16 : Int) (x17 : Int) (x19 : Int) (x20 : Int) (area_0o9 : Int → Int) (a18_0 : Int → Int) (k8 : 0 ≤ x8 ∧ x8 ≤ 7) (k16 : 24 ≤ x16 ∧ x16 ≤ 31) (k17 : 96 ≤ x17 ∧ x17 ≤ 124) (k19 : 0 ≤ x19 ∧ x19 ≤ 0) (k20 : 4 ≤ x20 ∧ x20 ≤ 4) (d0 : x8 + 24 ≤ x16 ∧ x16 ≤ x8 + 24) (f1 : x17 = 4 * x16) (f4 : BXA (area_0o9)) : BXC (a18_0) (area_0o9) (x17) (x19) (x20) := by
  first
    | exact ⟨‹BXA _›, by omega, by omega, x8, by omega, by omega, by omega⟩
  
def o_Pl_layAreas_2 : or_T := (69, 21, [(8, (0, 0, 7, [])), (14, (0, 4, 4, [])), (16, (0, 24, 31, [])), (17, (0, 96, 124, [])), (19, (0, 0, 0, [])), (20, (0, 4, 4, []))], [(3, [17, 14, 16], []), (9, [13, 9], [13]), (20, [9], [60, 0, 1, 844, 13])], [], [], [(21, [17, 20], [128]), (21, [19, 20], [4]), (20, [18, 13, 17, 19, 20], [61, 2, 846])], [], [(16, 8, 24, 24)])
theorem oo_Pl_layAreas_2 {kA : Nat → ClassId} : or_ok PRD kA GG o_Pl_layAreas_2 := by
  refine or_mk fun A ta ws vs hD hth hl => ?_
  intro t8 k8 t14 k14 t16 k16 t17 k17 t19 k19 t20 k20 d0 f1 f3 f4
  replace f1 := shm_38 f1
  rw [show v_iv (n_v vs 14) = 4 from by omega] at f1
  replace f3 := shm_361 f3
  replace f4 := shm_418 f4
  have ad_13 : v_ad (n_v vs 13) = w_ar ws (n_v vs 9) 13 := congrArg v_ad f3
  have nf0 : fc_1 PRD (21, [17, 20], [128]) ws (vs) := ⟨nf_in hl rfl, sgq_1914 (vc_Pl_layAreas_2_0 (v_iv (n_v vs 16)) (v_iv (n_v vs 17)) (v_iv (n_v vs 20)) k16 k17 k20 f1)⟩
  have nf1 : fc_1 PRD (21, [19, 20], [4]) ws (vs) := ⟨nf_in hl rfl, sgq_1915 (vc_Pl_layAreas_2_1 (v_iv (n_v vs 19)) (v_iv (n_v vs 20)) k19 k20)⟩
  have nf2 : fc_1 PRD (20, [18, 13, 17, 19, 20], [61, 2, 846]) ws (vs) := by
    refine ⟨nf_in hl rfl, sgq_1916 ?_⟩
    · show BXC (w_ei ws (v_ad (n_v vs 18))) (w_ei ws (v_ad (n_v vs 13))) (v_iv (n_v vs 17)) (v_iv (n_v vs 19)) (v_iv (n_v vs 20))
      rw [ad_13]
      exact vc_Pl_layAreas_2_2 (v_iv (n_v vs 8)) (v_iv (n_v vs 16)) (v_iv (n_v vs 17)) (v_iv (n_v vs 19)) (v_iv (n_v vs 20)) (w_ei ws (w_ar ws (n_v vs 9) 13)) (w_ei ws (v_ad (n_v vs 18))) k8 k16 k17 k19 k20 d0 f1 f4
  refine ⟨(fun _ h => (by cases h)), [], trivial, ?_, (fun _ h => (by cases h))⟩
  rw [List.append_nil]
  exact List.forall_mem_cons.mpr ⟨⟨show (21 : Nat) < 100 from by decide, nf0⟩, List.forall_mem_cons.mpr ⟨⟨show (21 : Nat) < 100 from by decide, nf1⟩, List.forall_mem_cons.mpr ⟨⟨show (20 : Nat) < 100 from by decide, nf2⟩, (fun _ h => (by cases h))⟩⟩⟩
set_option maxHeartbeats 4000000 in
theorem vc_Pl_layAreas_3_0 (x17 : Int) (x19 : Int) (x20 : Int) (area_0o9 : Int → Int) (space_0 : Int → Int) (k17 : 96 ≤ x17 ∧ x17 ≤ 124) (k19 : 0 ≤ x19 ∧ x19 ≤ 0) (k20 : 4 ≤ x20 ∧ x20 ≤ 4) (f7 : BXD (space_0) (area_0o9) (x17) (x19) (x20)) : SPC (space_0) := by
  first
    | assumption
    | exact (‹BXD _ _ _ _ _›).1
  
def o_Pl_layAreas_3 : or_T := (73, 21, [(17, (0, 96, 124, [])), (19, (0, 0, 0, [])), (20, (0, 4, 4, []))], [(9, [18, 6], [12]), (9, [13, 9], [13]), (24, [0, 6], []), (20, [18, 13, 17, 19, 20], [61, 2, 847])], [], [], [(20, [6], [60, 0, 1, 845, 12])], [], [])
theorem oo_Pl_layAreas_3 {kA : Nat → ClassId} : or_ok PRD kA GG o_Pl_layAreas_3 := by
  refine or_mk fun A ta ws vs hD hth hl => ?_
  intro t17 k17 t19 k19 t20 k20 f0 f1 f6 f7
  replace f0 := shm_103 f0
  replace f1 := shm_361 f1
  replace f6 := shm_5 f6
  replace f7 := shm_1917 f7
  have q6 : n_v vs 6 = n_v vs 0 := f6.symm
  simp only [q6] at f0
  have ad_18 : v_ad (n_v vs 18) = w_ar ws (n_v vs 0) 12 := congrArg v_ad f0
  have ad_13 : v_ad (n_v vs 13) = w_ar ws (n_v vs 9) 13 := congrArg v_ad f1
  simp only [ad_13, ad_18] at f7
  have nf0 : fc_1 PRD (20, [6], [60, 0, 1, 845, 12]) ws (vs) := by
    refine ⟨nf_in hl rfl, sgq_885 ?_⟩
    · show SPC (w_ei ws (w_ar ws (n_v vs 6) 12))
      rw [q6]
      exact vc_Pl_layAreas_3_0 (v_iv (n_v vs 17)) (v_iv (n_v vs 19)) (v_iv (n_v vs 20)) (w_ei ws (w_ar ws (n_v vs 9) 13)) (w_ei ws (w_ar ws (n_v vs 0) 12)) k17 k19 k20 f7
  refine ⟨(fun _ h => (by cases h)), [], trivial, ?_, (fun _ h => (by cases h))⟩
  rw [List.append_nil]
  exact List.forall_mem_cons.mpr ⟨⟨show (20 : Nat) < 100 from by decide, nf0⟩, (fun _ h => (by cases h))⟩
def o_Pl_layAreas_4 : or_T := (169, 39, [(4, (2, 0, 0, [12])), (5, (0, 0, 3072, [])), (8, (0, 0, 23, [])), (25, (2, 0, 0, [15])), (38, (0, -1024, 1024, []))], [(100, [25, 8, 38], []), (20, [4, 5], [62, 2000000])], [], [], [(20, [4, 5], [62, 2000000])], [], [])
theorem oo_Pl_layAreas_4 {kA : Nat → ClassId} : or_ok PRD kA GG o_Pl_layAreas_4 := by
  refine or_mk fun A ta ws vs hD hth hl => ?_
  intro t4 r4 t5 k5 t8 k8 t25 r25 t38 k38 ta1 w1 le1 s1 f1
  have s1 : (∀ b j, w_el ws b j = if b = v_ad (n_v vs 25) ∧ j = (v_iv (n_v vs 8)).toNat then v_iv (n_v vs 38) else w_el w1 b j) ∧ ∀ b k, w_fd ws b k = w_fd w1 b k := s1.2
  replace f1 := shm_161 f1
  have nf0 : fc_1 PRD (20, [4, 5], [62, 2000000]) ws (vs) := by
    refine ⟨nf_in hl rfl, sgq_161 ?_⟩
    · show HY ws (n_v vs 4) (v_iv (n_v vs 5) + (((2000000 : Nat) : Int) - 2000000))
      have hn := hy_ne (k := 3) (g := GG_12) hD hth r4 rfl (by decide) rfl rfl r25 (by decide) s1.2
      have hn0 := hy_ne (k := 0) (g := GG_12) hD hth r4 rfl (by decide) rfl rfl r25 (by decide) s1.2
      exact hy_st (hy_le f1 (by omega)) s1 hn hn0 (by omega) (by omega)
  refine ⟨(fun _ h => (by cases h)), [], trivial, ?_, (fun _ h => (by cases h))⟩
  rw [List.append_nil]
  exact List.forall_mem_cons.mpr ⟨⟨show (20 : Nat) < 100 from by decide, nf0⟩, (fun _ h => (by cases h))⟩
def n_Pl_layAreas_an : List an_T := [(23, [(0, (2, 0, 0, [6])), (1, (0, 8, 512, [])), (2, (0, 0, 8, []))], [], (0, 0), [(0, 0, 99977), (1, 8, 8), (0, 0, 100000)], [(1, 7, (Int.negSucc 999999999999), 0), (7, 1, (Int.negSucc 999999999999), 0)], [((0, 1), (2, 0, 0, [0])), ((0, 0), (2, 0, 0, [3]))], [(2, 0, 0, [6]), (0, 8, 512, []), (2, 0, 0, [0]), (2, 0, 0, [3]), (2, 0, 0, [12]), (0, 0, 3072, [])], 0, [], [(20, [9], [60, 0, 1, 844, 13]), (20, [4, 5], [62, 2000000]), (24, [0, 6], [])]), (84, [(0, (2, 0, 0, [6])), (1, (0, 8, 512, [])), (2, (0, 0, 24, []))], [], (0, 0), [(0, 0, 99916), (1, 8, 24), (0, 0, 100000)], [(1, 7, (Int.negSucc 999999999999), 0), (7, 1, (Int.negSucc 999999999999), 0)], [((0, 1), (2, 0, 0, [0])), ((0, 0), (2, 0, 0, [3]))], [(2, 0, 0, [6]), (0, 8, 512, []), (2, 0, 0, [0]), (2, 0, 0, [3]), (2, 0, 0, [12]), (0, 0, 3072, [])], 0, [], [(20, [4, 5], [62, 2000000]), (24, [0, 6], [])])]
def t_Pl_layAreas_ct : ct_L := [(1, 162, e_Pl_setArea), (1, 169, e_Gr_sizeOfGroup), (1, 172, e_Pl_gatherItems), (1, 181, e_Pl_layRows), (27, 156, e_jArr_fill1_v756), (210, 175, e_acp_88), (210, 175, e_acp_89), (210, 175, e_acp_90), (210, 175, e_acp_91), (210, 175, e_acp_92), (210, 175, e_acp_93)]
set_option maxRecDepth 100000 in
theorem c_Pl_layAreas {l : Launch} {D : va_G} {kA : Nat → ClassId} (h_Gr_sizeOfGroup : ct_ok PRD l D kA GG y_Gr_sizeOfGroup z_Gr_sizeOfGroup e_Gr_sizeOfGroup) (h_Pl_gatherItems : ct_ok PRD l D kA GG y_Pl_gatherItems z_Pl_gatherItems e_Pl_gatherItems) (h_Pl_layRows : ct_ok PRD l D kA GG y_Pl_layRows z_Pl_layRows e_Pl_layRows) (h_Pl_setArea : ct_ok PRD l D kA GG y_Pl_setArea z_Pl_setArea e_Pl_setArea) : ct_ok PRD l D kA GG y_Pl_layAreas z_Pl_layAreas e_Pl_layAreas := chk_all_ok (FT := [(9, 6, 0), (15, 6, 1), (51, 6, 12), (74, 3, 0), (127, 0, 2), (135, 0, 3), (153, 0, 13), (166, 3, 2)]) (PT := []) (CT := t_Pl_layAreas_ct) (KT := []) (NT := []) (AN := n_Pl_layAreas_an) (OT := [o_Pl_layAreas_0, o_Pl_layAreas_1, o_Pl_layAreas_2, o_Pl_layAreas_3, o_Pl_layAreas_4]) 3 424 (List.forall_mem_cons.mpr ⟨oo_Pl_layAreas_0, List.forall_mem_cons.mpr ⟨oo_Pl_layAreas_1, List.forall_mem_cons.mpr ⟨oo_Pl_layAreas_2, List.forall_mem_cons.mpr ⟨oo_Pl_layAreas_3, List.forall_mem_cons.mpr ⟨oo_Pl_layAreas_4, List.forall_mem_nil _⟩⟩⟩⟩⟩) (by decide +kernel) ⟨List.forall_mem_cons.mpr ⟨gf_Pl_9, List.forall_mem_cons.mpr ⟨gf_Pl_15, List.forall_mem_cons.mpr ⟨gf_Pl_51, List.forall_mem_cons.mpr ⟨gf_Pl_74, List.forall_mem_cons.mpr ⟨gf_Pl_127, List.forall_mem_cons.mpr ⟨gf_Pl_135, List.forall_mem_cons.mpr ⟨gf_Pl_153, List.forall_mem_cons.mpr ⟨gf_Pl_166, List.forall_mem_nil _⟩⟩⟩⟩⟩⟩⟩⟩, List.forall_mem_nil _, List.forall_mem_cons.mpr ⟨cl_virtual (y := y_Pl_setArea) (ci := 6) rfl rfl ⟨_, _, rfl⟩ (by decide +kernel) h_Pl_setArea wm_1725 wm_21 wm_1722 wm_1724 wv_7_13 ⟨by decide, by decide, by decide +kernel⟩ (by decide), List.forall_mem_cons.mpr ⟨cl_virtual (y := y_Gr_sizeOfGroup) (ci := 3) rfl rfl ⟨_, _, rfl⟩ (by decide +kernel) h_Gr_sizeOfGroup wm_946 wm_3 wm_1726 wm_944 wm_945 ⟨by decide, by decide, by decide +kernel⟩ (by decide), List.forall_mem_cons.mpr ⟨cl_virtual (y := y_Pl_gatherItems) (ci := 6) rfl rfl ⟨_, _, rfl⟩ (by decide +kernel) h_Pl_gatherItems wm_1730 wm_21 wm_1727 wm_1729 wv_7_14 ⟨by decide, by decide, by decide +kernel⟩ (by decide), List.forall_mem_cons.mpr ⟨cl_virtual (y := y_Pl_layRows) (ci := 6) rfl rfl ⟨_, _, rfl⟩ (by decide +kernel) h_Pl_layRows wm_1739 wm_21 wm_1736 wm_1738 wv_8_0 ⟨by decide, by decide, by decide +kernel⟩ (by decide), List.forall_mem_cons.mpr ⟨cl_static (y := y_jArr_fill1) c_jArr_fill1_v756 wm_55 wm_4 wm_1721 wm_54 ⟨by decide, by decide, by decide +kernel⟩ (by decide), List.forall_mem_cons.mpr ⟨cl_copyT rfl rfl (Or.inr (fun Dd S sp dp n gs a b c h => bxc_le (Dd := Dd) (S := S) (sp := sp) (dp := dp) (n := n)  a b c h)) (fun Dd S D_zq S_zq sp dp n gs a b c d e h => bxc_bxd (Dd := Dd) (S := S) (D_zq := D_zq) (S_zq := S_zq) (sp := sp) (dp := dp) (n := n)  a b c d e h) wm_1735 wm_750 wm_749 wm_15, List.forall_mem_cons.mpr ⟨cl_copyT rfl rfl (Or.inr (fun Dd S sp dp n gs a b c h => bxc_le (Dd := Dd) (S := S) (sp := sp) (dp := dp) (n := n)  a b c h)) (fun Dd S D_zq S_zq sp dp n gs a b c d e h => bxc_bxd (Dd := Dd) (S := S) (D_zq := D_zq) (S_zq := S_zq) (sp := sp) (dp := dp) (n := n)  a b c d e h) wm_1735 wm_750 wm_749 wm_15, List.forall_mem_cons.mpr ⟨cl_copyT rfl rfl (Or.inr (fun Dd S sp dp n gs a b c h => bxc_le (Dd := Dd) (S := S) (sp := sp) (dp := dp) (n := n)  a b c h)) (fun Dd S D_zq S_zq sp dp n gs a b c d e h => bxc_bxd (Dd := Dd) (S := S) (D_zq := D_zq) (S_zq := S_zq) (sp := sp) (dp := dp) (n := n)  a b c d e h) wm_1735 wm_750 wm_749 wm_15, List.forall_mem_cons.mpr ⟨cl_copyT rfl rfl (Or.inr (fun Dd S sp dp n gs a b c h => bxc_le (Dd := Dd) (S := S) (sp := sp) (dp := dp) (n := n)  a b c h)) (fun Dd S D_zq S_zq sp dp n gs a b c d e h => bxc_bxd (Dd := Dd) (S := S) (D_zq := D_zq) (S_zq := S_zq) (sp := sp) (dp := dp) (n := n)  a b c d e h) wm_1735 wm_750 wm_749 wm_15, List.forall_mem_cons.mpr ⟨cl_copyT rfl rfl (Or.inr (fun Dd S sp dp n gs a b c h => bxc_le (Dd := Dd) (S := S) (sp := sp) (dp := dp) (n := n)  a b c h)) (fun Dd S D_zq S_zq sp dp n gs a b c d e h => bxc_bxd (Dd := Dd) (S := S) (D_zq := D_zq) (S_zq := S_zq) (sp := sp) (dp := dp) (n := n)  a b c d e h) wm_1735 wm_750 wm_749 wm_15, List.forall_mem_cons.mpr ⟨cl_copyT rfl rfl (Or.inr (fun Dd S sp dp n gs a b c h => bxc_le (Dd := Dd) (S := S) (sp := sp) (dp := dp) (n := n)  a b c h)) (fun Dd S D_zq S_zq sp dp n gs a b c d e h => bxc_bxd (Dd := Dd) (S := S) (D_zq := D_zq) (S_zq := S_zq) (sp := sp) (dp := dp) (n := n)  a b c d e h) wm_1735 wm_750 wm_749 wm_15, List.forall_mem_nil _⟩⟩⟩⟩⟩⟩⟩⟩⟩⟩⟩, List.forall_mem_nil _, List.forall_mem_nil _, GG_pl⟩ (by decide +kernel)

set_option maxHeartbeats 4000000 in
theorem vc_Ro_lead_0_0 (x3 : Int) (tail_0o1 : Int → Int) (head_0o1 : Int → Int) (nodes_0o1 : Int) (edges_0o1 : Int) (k3 : 0 ≤ x3 ∧ x3 ≤ 47) (f0 : GKE (nodes_0o1) (edges_0o1) (tail_0o1) (head_0o1)) (f1 : (0 ≤ x3) ∧ ((x3 + 1) ≤ edges_0o1)) (kz_1_0 : 0 ≤ nodes_0o1 ∧ nodes_0o1 ≤ 24) (kz_1_1 : 0 ≤ edges_0o1 ∧ edges_0o1 ≤ 48) : 1 ≤ nodes_0o1 := by
  first
    | omega
    | (have g := ‹GKE _ _ _ _› x3 (by omega) (by omega); omega)
    | assumption
    | (have e := (hE_2_4_1 x3 (by omega)).1 rfl; omega)
    | (have e := (hE_2_4_1 x3 (by omega)).1 (by omega); omega)
    | (have h := ‹FRM _ _ _ _ _ _ _ _›.1; exact h)
    | (have h := ‹FRM _ _ _ _ _ _ _ _›.1; omega)
  
def o_Ro_lead_0 : or_T := (11, 4, [(1, (2, 0, 0, [3])), (3, (0, 0, 47, []))], [(20, [1], [60, 2, 2, 596, 0, 1, 7, 8]), (20, [3, 1], [50, 1, 0, 1001, 2, 6, 0, 2, 0, 0, 1, 0, 0, 6, 4, 2, 1, 0, 0, 1, 2, 1, 1])], [], [], [(20, [1], [50, 1, 0, 0, 0, 2, 0, 1, 2, 0, 0])], [], [])
theorem oo_Ro_lead_0 {kA : Nat → ClassId} : or_ok PRD kA GG o_Ro_lead_0 := by
  refine or_mk fun A ta ws vs hD hth hl => ?_
  intro t1 r1 t3 k3 f0 f1
  have kz_1_0 := fdq_21 hD hth r1
  have kz_1_1 := fdq_30 hD hth r1
  have nf0 : fc_1 PRD (20, [1], [50, 1, 0, 0, 0, 2, 0, 1, 2, 0, 0]) ws (vs) := ⟨nf_in hl rfl, sgq_1220 (vc_Ro_lead_0_0 (v_iv (n_v vs 3)) (w_ei ws (w_ar ws (n_v vs 1) 7)) (w_ei ws (w_ar ws (n_v vs 1) 8)) (w_fi ws (n_v vs 1) 0) (w_fi ws (n_v vs 1) 1) k3 (shm_386 f0) (shm_387 f1) kz_1_0 kz_1_1)⟩
  refine ⟨(fun _ h => (by cases h)), [], trivial, ?_, (fun _ h => (by cases h))⟩
  rw [List.append_nil]
  exact List.forall_mem_cons.mpr ⟨⟨show (20 : Nat) < 100 from by decide, nf0⟩, (fun _ h => (by cases h))⟩
set_option maxHeartbeats 4000000 in
theorem vc_Ro_lead_1_0 (x4 : Int) (nodes_0o1 : Int) (nameLength_0o1 : Int → Int) (x_0o2 : Int → Int) (y_0o2 : Int → Int) (left_0 : Int) (top_0 : Int) (width_0 : Int) (height_0 : Int) (k4 : 1 ≤ x4 ∧ x4 ≤ 1) (f0 : x4 ≠ 0) (f4 : FRA (left_0) (top_0) (width_0) (height_0) (nodes_0o1) (nameLength_0o1) (x_0o2) (y_0o2) (x4)) (kz_0_2 : (-40000011) ≤ left_0 ∧ left_0 ≤ 1000000000) (kz_0_3 : (-40000003) ≤ top_0 ∧ top_0 ≤ 1000000000) (kz_0_4 : (-2147483648) ≤ width_0 ∧ width_0 ≤ 2147483647) (kz_0_5 : (-2147483648) ≤ height_0 ∧ height_0 ≤ 2147483647) (kz_1_0 : 0 ≤ nodes_0o1 ∧ nodes_0o1 ≤ 24) : FRM (left_0) (top_0) (width_0) (height_0) (nodes_0o1) (nameLength_0o1) (x_0o2) (y_0o2) := by
  first
    | assumption
    | exact ‹FRA _ _ _ _ _ _ _ _ _› (by omega)
  
def o_Ro_lead_1 : or_T := (20, 5, [(0, (2, 0, 0, [9])), (1, (2, 0, 0, [3])), (4, (0, 1, 1, []))], [(8, [4], [1]), (20, [0, 1, 2, 4], [60, 5, 3, 840, 2, 3, 4, 5, 1000, 1004, 2002, 2003])], [], [], [(20, [0, 1, 2], [60, 5, 3, 839, 2, 3, 4, 5, 1000, 1004, 2002, 2003])], [], [])
theorem oo_Ro_lead_1 {kA : Nat → ClassId} : or_ok PRD kA GG o_Ro_lead_1 := by
  refine or_mk fun A ta ws vs hD hth hl => ?_
  intro t0 r0 t1 r1 t4 k4 f0 f4
  have kz_0_2 := fdq_106 hD hth r0
  have kz_0_3 := fdq_107 hD hth r0
  have kz_0_4 := fdq_103 hD hth r0
  have kz_0_5 := fdq_104 hD hth r0
  have kz_1_0 := fdq_21 hD hth r1
  have nf0 : fc_1 PRD (20, [0, 1, 2], [60, 5, 3, 839, 2, 3, 4, 5, 1000, 1004, 2002, 2003]) ws (vs) := ⟨nf_in hl rfl, sgq_471 (vc_Ro_lead_1_0 (v_iv (n_v vs 4)) (w_fi ws (n_v vs 1) 0) (w_ei ws (w_ar ws (n_v vs 1) 4)) (w_ei ws (w_ar ws (n_v vs 2) 2)) (w_ei ws (w_ar ws (n_v vs 2) 3)) (w_fi ws (n_v vs 0) 2) (w_fi ws (n_v vs 0) 3) (w_fi ws (n_v vs 0) 4) (w_fi ws (n_v vs 0) 5) k4 (shm_142 f0) (shm_1222 f4) kz_0_2 kz_0_3 kz_0_4 kz_0_5 kz_1_0)⟩
  refine ⟨(fun _ h => (by cases h)), [], trivial, ?_, (fun _ h => (by cases h))⟩
  rw [List.append_nil]
  exact List.forall_mem_cons.mpr ⟨⟨show (20 : Nat) < 100 from by decide, nf0⟩, (fun _ h => (by cases h))⟩
set_option maxHeartbeats 4000000 in
theorem vc_Ro_lead_2_0 (x3 : Int) (x6 : Int) (tail_0o1 : Int → Int) (k3 : 0 ≤ x3 ∧ x3 ≤ 47) (k6 : 0 ≤ x6 ∧ x6 ≤ 23) (h2 : x6 = tail_0o1 (x3)) : x6 = tail_0o1 (x3) := by
  first
    | omega
    | (have g := ‹GKE _ _ _ _› x3 (by omega) (by omega); omega)
    | assumption
    | (have e := (hE_2_4_1 x3 (by omega)).1 rfl; omega)
    | (have e := (hE_2_4_1 x3 (by omega)).1 (by omega); omega)
    | (have h := ‹FRM _ _ _ _ _ _ _ _›.1; exact h)
    | (have h := ‹FRM _ _ _ _ _ _ _ _›.1; omega)
  
set_option maxHeartbeats 4000000 in
theorem vc_Ro_lead_2_1 (x3 : Int) (x8 : Int) (head_0o1 : Int → Int) (k3 : 0 ≤ x3 ∧ x3 ≤ 47) (k8 : 0 ≤ x8 ∧ x8 ≤ 23) (h0 : x8 = head_0o1 (x3)) : x8 = head_0o1 (x3) := by
  first
    | omega
    | (have g := ‹GKE _ _ _ _› x3 (by omega) (by omega); omega)
    | assumption
    | (have e := (hE_2_4_1 x3 (by omega)).1 rfl; omega)
    | (have e := (hE_2_4_1 x3 (by omega)).1 (by omega); omega)
    | (have h := ‹FRM _ _ _ _ _ _ _ _›.1; exact h)
    | (have h := ‹FRM _ _ _ _ _ _ _ _›.1; omega)
  
def o_Ro_lead_2 : or_T := (47, 9, [(3, (0, 0, 47, [])), (6, (0, 0, 23, [])), (8, (0, 0, 23, []))], [(10, [8, 7, 3], []), (9, [7, 1], [8]), (10, [6, 5, 3], []), (9, [5, 1], [7])], [], [], [(20, [6, 1, 3], [50, 0, 1, 1007, 1, 2, 1, 0, 3, 1, 7, 1, 2]), (20, [8, 1, 3], [50, 0, 1, 1008, 1, 2, 1, 0, 3, 1, 8, 1, 2])], [], [])
theorem oo_Ro_lead_2 {kA : Nat → ClassId} : or_ok PRD kA GG o_Ro_lead_2 := by
  refine or_mk fun A ta ws vs hD hth hl => ?_
  intro t3 k3 t6 k6 t8 k8 f0 f1 f2 f3
  replace f0 := shm_107 f0
  replace f1 := shm_293 f1
  replace f2 := shm_107 f2
  replace f3 := shm_198 f3
  have ad_7 : v_ad (n_v vs 7) = w_ar ws (n_v vs 1) 8 := congrArg v_ad f1
  have ad_5 : v_ad (n_v vs 5) = w_ar ws (n_v vs 1) 7 := congrArg v_ad f3
  simp only [ad_7] at f0
  have h0 : v_iv (n_v vs 8) = w_ei ws (w_ar ws (n_v vs 1) 8) (v_iv (n_v vs 3)) := f0
  simp only [ad_5] at f2
  have h2 : v_iv (n_v vs 6) = w_ei ws (w_ar ws (n_v vs 1) 7) (v_iv (n_v vs 3)) := f2
  have nf0 : fc_1 PRD (20, [6, 1, 3], [50, 0, 1, 1007, 1, 2, 1, 0, 3, 1, 7, 1, 2]) ws (vs) := ⟨nf_in hl rfl, sgq_1918 (vc_Ro_lead_2_0 (v_iv (n_v vs 3)) (v_iv (n_v vs 6)) (w_ei ws (w_ar ws (n_v vs 1) 7)) k3 k6 h2)⟩
  have nf1 : fc_1 PRD (20, [8, 1, 3], [50, 0, 1, 1008, 1, 2, 1, 0, 3, 1, 8, 1, 2]) ws (vs) := ⟨nf_in hl rfl, sgq_1919 (vc_Ro_lead_2_1 (v_iv (n_v vs 3)) (v_iv (n_v vs 8)) (w_ei ws (w_ar ws (n_v vs 1) 8)) k3 k8 h0)⟩
  refine ⟨(fun _ h => (by cases h)), [], trivial, ?_, (fun _ h => (by cases h))⟩
  rw [List.append_nil]
  exact List.forall_mem_cons.mpr ⟨⟨show (20 : Nat) < 100 from by decide, nf0⟩, List.forall_mem_cons.mpr ⟨⟨show (20 : Nat) < 100 from by decide, nf1⟩, (fun _ h => (by cases h))⟩⟩
set_option maxHeartbeats 4000000 in
theorem vc_Ro_lead_3_0 (x3 : Int) (x6 : Int) (tail_0o1 : Int → Int) (head_0o1 : Int → Int) (nodes_0o1 : Int) (edges_0o1 : Int) (k3 : 0 ≤ x3 ∧ x3 ≤ 47) (k6 : 0 ≤ x6 ∧ x6 ≤ 23) (f2 : x6 = tail_0o1 (x3)) (f6 : GKE (nodes_0o1) (edges_0o1) (tail_0o1) (head_0o1)) (f7 : (0 ≤ x3) ∧ ((x3 + 1) ≤ edges_0o1)) (kz_1_0 : 0 ≤ nodes_0o1 ∧ nodes_0o1 ≤ 24) (kz_1_1 : 0 ≤ edges_0o1 ∧ edges_0o1 ≤ 48) : (0 ≤ x6) ∧ ((x6 + 1) ≤ nodes_0o1) := by
  first
    | omega
    | (have g := ‹GKE _ _ _ _› x3 (by omega) (by omega); omega)
    | assumption
    | (have e := (hE_2_4_1 x3 (by omega)).1 rfl; omega)
    | (have e := (hE_2_4_1 x3 (by omega)).1 (by omega); omega)
    | (have h := ‹FRM _ _ _ _ _ _ _ _›.1; exact h)
    | (have h := ‹FRM _ _ _ _ _ _ _ _›.1; omega)
  
def o_Ro_lead_3 : or_T := (54, 9, [(1, (2, 0, 0, [3])), (3, (0, 0, 47, [])), (6, (0, 0, 23, []))], [(20, [6, 1, 3], [50, 0, 1, 1007, 1, 2, 1, 0, 3, 1, 7, 1, 2]), (20, [1], [60, 2, 2, 596, 0, 1, 7, 8]), (20, [3, 1], [50, 1, 0, 1001, 2, 6, 0, 2, 0, 0, 1, 0, 0, 6, 4, 2, 1, 0, 0, 1, 2, 1, 1])], [], [], [(20, [6, 1], [50, 1, 0, 1000, 2, 6, 0, 2, 0, 0, 1, 0, 0, 6, 4, 2, 1, 0, 0, 1, 2, 1, 0])], [], [])
theorem oo_Ro_lead_3 {kA : Nat → ClassId} : or_ok PRD kA GG o_Ro_lead_3 := by
  refine or_mk fun A ta ws vs hD hth hl => ?_
  intro t1 r1 t3 k3 t6 k6 f2 f6 f7
  have kz_1_0 := fdq_21 hD hth r1
  have kz_1_1 := fdq_30 hD hth r1
  have nf0 : fc_1 PRD (20, [6, 1], [50, 1, 0, 1000, 2, 6, 0, 2, 0, 0, 1, 0, 0, 6, 4, 2, 1, 0, 0, 1, 2, 1, 0]) ws (vs) := ⟨nf_in hl rfl, sgq_416 (vc_Ro_lead_3_0 (v_iv (n_v vs 3)) (v_iv (n_v vs 6)) (w_ei ws (w_ar ws (n_v vs 1) 7)) (w_ei ws (w_ar ws (n_v vs 1) 8)) (w_fi ws (n_v vs 1) 0) (w_fi ws (n_v vs 1) 1) k3 k6 (shm_1918 f2) (shm_386 f6) (shm_387 f7) kz_1_0 kz_1_1)⟩
  refine ⟨(fun _ h => (by cases h)), [], trivial, ?_, (fun _ h => (by cases h))⟩
  rw [List.append_nil]
  exact List.forall_mem_cons.mpr ⟨⟨show (20 : Nat) < 100 from by decide, nf0⟩, (fun _ h => (by cases h))⟩
set_option maxHeartbeats 4000000 in
theorem vc_Ro_lead_4_0 (x3 : Int) (x9 : Int) (start_0 : Int) (x_0o2 : Int → Int) (y_0o2 : Int → Int) (left_0 : Int) (top_0 : Int) (width_0 : Int) (height_0 : Int) (nodes_0o1 : Int) (tail_0o1 : Int → Int) (head_0o1 : Int → Int) (nameLength_0o1 : Int → Int) (edges_0o1 : Int) (x_1o2 : Int → Int) (y_1o2 : Int → Int) (left_1 : Int) (top_1 : Int) (width_1 : Int) (height_1 : Int) (nodes_1o1 : Int) (tail_1o1 : Int → Int) (head_1o1 : Int → Int) (nameLength_1o1 : Int → Int) (edges_1o1 : Int) (k9 : 0 ≤ x9 ∧ x9 ≤ 5999) (g0 : x9 = start_0) (f4 : (0 ≤ x9) ∧ ((x9 + 1) ≤ (width_0 * height_0))) (fe_0_2_1 : left_0 = left_1) (fe_0_3_1 : top_0 = top_1) (fe_0_4_1 : width_0 = width_1) (fe_0_5_1 : height_0 = height_1) (fe_1_0_1 : nodes_0o1 = nodes_1o1) (fe_1_1_1 : edges_0o1 = edges_1o1) (hE_1_4_1 : ∀ j : Int, nameLength_0o1 j = nameLength_1o1 j) (hE_1_7_1 : ∀ j : Int, tail_0o1 j = tail_1o1 j) (hE_1_8_1 : ∀ j : Int, head_0o1 j = head_1o1 j) (hE_2_2_1 : ∀ j : Int, x_0o2 j = x_1o2 j) (hE_2_3_1 : ∀ j : Int, y_0o2 j = y_1o2 j) (kz_0_2 : (-40000011) ≤ left_0 ∧ left_0 ≤ 1000000000) (kz_0_3 : (-40000003) ≤ top_0 ∧ top_0 ≤ 1000000000) (kz_0_4 : (-2147483648) ≤ width_0 ∧ width_0 ≤ 2147483647) (kz_0_5 : (-2147483648) ≤ height_0 ∧ height_0 ≤ 2147483647) (kz_0_6 : 0 ≤ start_0 ∧ start_0 ≤ 5999) (kz_1_0 : 0 ≤ nodes_0o1 ∧ nodes_0o1 ≤ 24) (kz_1_1 : 0 ≤ edges_0o1 ∧ edges_0o1 ≤ 48) : (start_0 + 1) ≤ (width_0 * height_0) := by
  subst fe_0_2_1
  subst fe_0_3_1
  subst fe_0_4_1
  subst fe_0_5_1
  subst fe_1_0_1
  subst fe_1_1_1
  have e_hE_1_4_1 := funext hE_1_4_1; subst e_hE_1_4_1
  have e_hE_1_7_1 := funext hE_1_7_1; subst e_hE_1_7_1
  have e_hE_1_8_1 := funext hE_1_8_1; subst e_hE_1_8_1
  have e_hE_2_2_1 := funext hE_2_2_1; subst e_hE_2_2_1
  have e_hE_2_3_1 := funext hE_2_3_1; subst e_hE_2_3_1
  first
    | omega
    | (have g := ‹GKE _ _ _ _› x3 (by omega) (by omega); omega)
    | assumption
    | (have e := (hE_2_4_1 x3 (by omega)).1 rfl; omega)
    | (have e := (hE_2_4_1 x3 (by omega)).1 (by omega); omega)
    | (have h := ‹FRM _ _ _ _ _ _ _ _›.1; exact h)
    | (have h := ‹FRM _ _ _ _ _ _ _ _›.1; omega)
  
def o_Ro_lead_4 : or_T := (60, 10, [(0, (2, 0, 0, [9])), (1, (2, 0, 0, [3])), (9, (0, 0, 5999, []))], [(9, [9, 0], [6]), (20, [9, 0], [50, 2, 0, 1004, 1005, 2, 6, 0, 2, 0, 0, 1, 0, 0, 6, 4, 2, 1, 0, 0, 1, 6, 3, 2, 1, 4, 2, 1, 5]), (101, [0, 9], [6])], [], [], [(20, [0], [50, 3, 0, 6, 4, 5, 0, 7, 4, 3, 2, 0, 6, 0, 1, 6, 3, 2, 0, 4, 2, 0, 5])], [], [])
theorem oo_Ro_lead_4 {kA : Nat → ClassId} : or_ok PRD kA GG o_Ro_lead_4 := by
  refine or_mk fun A ta ws vs hD hth hl => ?_
  intro t0 r0 t1 r1 t9 k9 f0 f4 ta1 w1 le1 s1
  replace f0 := shm_111 f0
  have s1 : (∀ b j, w_el ws b j = w_el w1 b j) ∧ ∀ b j, w_fd ws b j = if b = v_ad (n_v vs 0) ∧ j = 6 then n_v vs 9 else w_fd w1 b j := s1.2
  have g0 : v_iv (n_v vs 9) = w_fi ws (n_v vs 0) 6 := congrArg v_iv f0
  have fe_0_2_1 : w_fi ws (n_v vs 0) 2 = w_fi w1 (n_v vs 0) 2 := by show v_iv (w_fd _ _ _) = v_iv (w_fd _ _ _); rw [s1.2, if_neg (fun e => absurd e.2 (by decide))]
  have fe_0_3_1 : w_fi ws (n_v vs 0) 3 = w_fi w1 (n_v vs 0) 3 := by show v_iv (w_fd _ _ _) = v_iv (w_fd _ _ _); rw [s1.2, if_neg (fun e => absurd e.2 (by decide))]
  have fe_0_4_1 : w_fi ws (n_v vs 0) 4 = w_fi w1 (n_v vs 0) 4 := by show v_iv (w_fd _ _ _) = v_iv (w_fd _ _ _); rw [s1.2, if_neg (fun e => absurd e.2 (by decide))]
  have fe_0_5_1 : w_fi ws (n_v vs 0) 5 = w_fi w1 (n_v vs 0) 5 := by show v_iv (w_fd _ _ _) = v_iv (w_fd _ _ _); rw [s1.2, if_neg (fun e => absurd e.2 (by decide))]
  have fe_1_0_1 : w_fi ws (n_v vs 1) 0 = w_fi w1 (n_v vs 1) 0 := by show v_iv (w_fd _ _ _) = v_iv (w_fd _ _ _); rw [s1.2, if_neg (fun e => absurd e.2 (by decide))]
  have fe_1_1_1 : w_fi ws (n_v vs 1) 1 = w_fi w1 (n_v vs 1) 1 := by show v_iv (w_fd _ _ _) = v_iv (w_fd _ _ _); rw [s1.2, if_neg (fun e => absurd e.2 (by decide))]
  have hE_1_4_1 : ∀ j : Int, w_ei ws (w_ar ws (n_v vs 1) 4) j = w_ei w1 (w_ar ws (n_v vs 1) 4) j := fun j => s1.1 _ _
  have hE_1_7_1 : ∀ j : Int, w_ei ws (w_ar ws (n_v vs 1) 7) j = w_ei w1 (w_ar ws (n_v vs 1) 7) j := fun j => s1.1 _ _
  have hE_1_8_1 : ∀ j : Int, w_ei ws (w_ar ws (n_v vs 1) 8) j = w_ei w1 (w_ar ws (n_v vs 1) 8) j := fun j => s1.1 _ _
  have hE_2_2_1 : ∀ j : Int, w_ei ws (w_ar ws (n_v vs 2) 2) j = w_ei w1 (w_ar ws (n_v vs 2) 2) j := fun j => s1.1 _ _
  have hE_2_3_1 : ∀ j : Int, w_ei ws (w_ar ws (n_v vs 2) 3) j = w_ei w1 (w_ar ws (n_v vs 2) 3) j := fun j => s1.1 _ _
  have kz_0_2 := fdq_106 hD hth r0
  have kz_0_3 := fdq_107 hD hth r0
  have kz_0_4 := fdq_103 hD hth r0
  have kz_0_5 := fdq_104 hD hth r0
  have kz_0_6 := fdq_267 hD hth r0
  have kz_1_0 := fdq_21 hD hth r1
  have kz_1_1 := fdq_30 hD hth r1
  have nf0 : fc_1 PRD (20, [0], [50, 3, 0, 6, 4, 5, 0, 7, 4, 3, 2, 0, 6, 0, 1, 6, 3, 2, 0, 4, 2, 0, 5]) ws (vs) := ⟨nf_in hl rfl, sgq_1119 (vc_Ro_lead_4_0 (v_iv (n_v vs 3)) (v_iv (n_v vs 9)) (w_fi ws (n_v vs 0) 6) (w_ei ws (w_ar ws (n_v vs 2) 2)) (w_ei ws (w_ar ws (n_v vs 2) 3)) (w_fi ws (n_v vs 0) 2) (w_fi ws (n_v vs 0) 3) (w_fi ws (n_v vs 0) 4) (w_fi ws (n_v vs 0) 5) (w_fi ws (n_v vs 1) 0) (w_ei ws (w_ar ws (n_v vs 1) 7)) (w_ei ws (w_ar ws (n_v vs 1) 8)) (w_ei ws (w_ar ws (n_v vs 1) 4)) (w_fi ws (n_v vs 1) 1) (w_ei w1 (w_ar ws (n_v vs 2) 2)) (w_ei w1 (w_ar ws (n_v vs 2) 3)) (w_fi w1 (n_v vs 0) 2) (w_fi w1 (n_v vs 0) 3) (w_fi w1 (n_v vs 0) 4) (w_fi w1 (n_v vs 0) 5) (w_fi w1 (n_v vs 1) 0) (w_ei w1 (w_ar ws (n_v vs 1) 7)) (w_ei w1 (w_ar ws (n_v vs 1) 8)) (w_ei w1 (w_ar ws (n_v vs 1) 4)) (w_fi w1 (n_v vs 1) 1) k9 g0 (shm_473 f4) fe_0_2_1 fe_0_3_1 fe_0_4_1 fe_0_5_1 fe_1_0_1 fe_1_1_1 hE_1_4_1 hE_1_7_1 hE_1_8_1 hE_2_2_1 hE_2_3_1 kz_0_2 kz_0_3 kz_0_4 kz_0_5 kz_0_6 kz_1_0 kz_1_1)⟩
  refine ⟨(fun _ h => (by cases h)), [], trivial, ?_, (fun _ h => (by cases h))⟩
  rw [List.append_nil]
  exact List.forall_mem_cons.mpr ⟨⟨show (20 : Nat) < 100 from by decide, nf0⟩, (fun _ h => (by cases h))⟩
set_option maxHeartbeats 4000000 in
theorem vc_Ro_lead_5_0 (x3 : Int) (x8 : Int) (width_0 : Int) (height_0 : Int) (x_0o2 : Int → Int) (y_0o2 : Int → Int) (left_0 : Int) (top_0 : Int) (nodes_0o1 : Int) (tail_0o1 : Int → Int) (head_0o1 : Int → Int) (nameLength_0o1 : Int → Int) (edges_0o1 : Int) (x_1o2 : Int → Int) (y_1o2 : Int → Int) (left_1 : Int) (top_1 : Int) (width_1 : Int) (height_1 : Int) (nodes_1o1 : Int) (tail_1o1 : Int → Int) (head_1o1 : Int → Int) (nameLength_1o1 : Int → Int) (edges_1o1 : Int) (k3 : 0 ≤ x3 ∧ x3 ≤ 47) (k8 : 0 ≤ x8 ∧ x8 ≤ 23) (f8 : x8 = head_0o1 (x3)) (f12 : (0 ≤ x3) ∧ ((x3 + 1) ≤ edges_0o1)) (f22 : GKE (nodes_1o1) (edges_1o1) (tail_1o1) (head_1o1)) (fe_0_2_1 : left_0 = left_1) (fe_0_3_1 : top_0 = top_1) (fe_0_4_1 : width_0 = width_1) (fe_0_5_1 : height_0 = height_1) (fe_1_0_1 : nodes_0o1 = nodes_1o1) (fe_1_1_1 : edges_0o1 = edges_1o1) (hE_1_4_1 : ∀ j : Int, nameLength_0o1 j = nameLength_1o1 j) (hE_1_7_1 : ∀ j : Int, tail_0o1 j = tail_1o1 j) (hE_1_8_1 : ∀ j : Int, head_0o1 j = head_1o1 j) (hE_2_2_1 : ∀ j : Int, x_0o2 j = x_1o2 j) (hE_2_3_1 : ∀ j : Int, y_0o2 j = y_1o2 j) (kz_0_2 : (-40000011) ≤ left_0 ∧ left_0 ≤ 1000000000) (kz_0_3 : (-40000003) ≤ top_0 ∧ top_0 ≤ 1000000000) (kz_0_4 : (-2147483648) ≤ width_0 ∧ width_0 ≤ 2147483647) (kz_0_5 : (-2147483648) ≤ height_0 ∧ height_0 ≤ 2147483647) (kz_1_0 : 0 ≤ nodes_0o1 ∧ nodes_0o1 ≤ 24) (kz_1_1 : 0 ≤ edges_0o1 ∧ edges_0o1 ≤ 48) : (0 ≤ x8) ∧ ((x8 + 1) ≤ nodes_0o1) := by
  subst fe_0_2_1
  subst fe_0_3_1
  subst fe_0_4_1
  subst fe_0_5_1
  subst fe_1_0_1
  subst fe_1_1_1
  have e_hE_1_4_1 := funext hE_1_4_1; subst e_hE_1_4_1
  have e_hE_1_7_1 := funext hE_1_7_1; subst e_hE_1_7_1
  have e_hE_1_8_1 := funext hE_1_8_1; subst e_hE_1_8_1
  have e_hE_2_2_1 := funext hE_2_2_1; subst e_hE_2_2_1
  have e_hE_2_3_1 := funext hE_2_3_1; subst e_hE_2_3_1
  first
    | omega
    | (have g := ‹GKE _ _ _ _› x3 (by omega) (by omega); omega)
    | assumption
    | (have e := (hE_2_4_1 x3 (by omega)).1 rfl; omega)
    | (have e := (hE_2_4_1 x3 (by omega)).1 (by omega); omega)
    | (have h := ‹FRM _ _ _ _ _ _ _ _›.1; exact h)
    | (have h := ‹FRM _ _ _ _ _ _ _ _›.1; omega)
  
def o_Ro_lead_5 : or_T := (64, 10, [(0, (2, 0, 0, [9])), (1, (2, 0, 0, [3])), (3, (0, 0, 47, [])), (8, (0, 0, 23, []))], [(20, [8, 1, 3], [50, 0, 1, 1008, 1, 2, 1, 0, 3, 1, 8, 1, 2]), (20, [3, 1], [50, 1, 0, 1001, 2, 6, 0, 2, 0, 0, 1, 0, 0, 6, 4, 2, 1, 0, 0, 1, 2, 1, 1]), (101, [0, 9], [6]), (20, [1], [60, 2, 2, 596, 0, 1, 7, 8])], [], [], [(20, [8, 1], [50, 1, 0, 1000, 2, 6, 0, 2, 0, 0, 1, 0, 0, 6, 4, 2, 1, 0, 0, 1, 2, 1, 0])], [], [])
theorem oo_Ro_lead_5 {kA : Nat → ClassId} : or_ok PRD kA GG o_Ro_lead_5 := by
  refine or_mk fun A ta ws vs hD hth hl => ?_
  intro t0 r0 t1 r1 t3 k3 t8 k8 f8 f12 ta1 w1 le1 s1 f22
  have s1 : (∀ b j, w_el ws b j = w_el w1 b j) ∧ ∀ b j, w_fd ws b j = if b = v_ad (n_v vs 0) ∧ j = 6 then n_v vs 9 else w_fd w1 b j := s1.2
  replace f22 := shm_386 f22
  have ar_1_4_1 : w_ar w1 (n_v vs 1) 4 = w_ar ws (n_v vs 1) 4 := by show v_ad (w_fd w1 _ _) = v_ad (w_fd ws _ _); rw [s1.2, if_neg (fun e => absurd e.2 (by decide))]
  have ar_1_7_1 : w_ar w1 (n_v vs 1) 7 = w_ar ws (n_v vs 1) 7 := by show v_ad (w_fd w1 _ _) = v_ad (w_fd ws _ _); rw [s1.2, if_neg (fun e => absurd e.2 (by decide))]
  have ar_1_8_1 : w_ar w1 (n_v vs 1) 8 = w_ar ws (n_v vs 1) 8 := by show v_ad (w_fd w1 _ _) = v_ad (w_fd ws _ _); rw [s1.2, if_neg (fun e => absurd e.2 (by decide))]
  have ar_2_2_1 : w_ar w1 (n_v vs 2) 2 = w_ar ws (n_v vs 2) 2 := by show v_ad (w_fd w1 _ _) = v_ad (w_fd ws _ _); rw [s1.2, if_neg (fun e => absurd e.2 (by decide))]
  have ar_2_3_1 : w_ar w1 (n_v vs 2) 3 = w_ar ws (n_v vs 2) 3 := by show v_ad (w_fd w1 _ _) = v_ad (w_fd ws _ _); rw [s1.2, if_neg (fun e => absurd e.2 (by decide))]
  simp only [ar_2_2_1, ar_2_3_1, ar_1_7_1, ar_1_8_1, ar_1_4_1] at f22
  have fe_0_2_1 : w_fi ws (n_v vs 0) 2 = w_fi w1 (n_v vs 0) 2 := by show v_iv (w_fd _ _ _) = v_iv (w_fd _ _ _); rw [s1.2, if_neg (fun e => absurd e.2 (by decide))]
  have fe_0_3_1 : w_fi ws (n_v vs 0) 3 = w_fi w1 (n_v vs 0) 3 := by show v_iv (w_fd _ _ _) = v_iv (w_fd _ _ _); rw [s1.2, if_neg (fun e => absurd e.2 (by decide))]
  have fe_0_4_1 : w_fi ws (n_v vs 0) 4 = w_fi w1 (n_v vs 0) 4 := by show v_iv (w_fd _ _ _) = v_iv (w_fd _ _ _); rw [s1.2, if_neg (fun e => absurd e.2 (by decide))]
  have fe_0_5_1 : w_fi ws (n_v vs 0) 5 = w_fi w1 (n_v vs 0) 5 := by show v_iv (w_fd _ _ _) = v_iv (w_fd _ _ _); rw [s1.2, if_neg (fun e => absurd e.2 (by decide))]
  have fe_1_0_1 : w_fi ws (n_v vs 1) 0 = w_fi w1 (n_v vs 1) 0 := by show v_iv (w_fd _ _ _) = v_iv (w_fd _ _ _); rw [s1.2, if_neg (fun e => absurd e.2 (by decide))]
  have fe_1_1_1 : w_fi ws (n_v vs 1) 1 = w_fi w1 (n_v vs 1) 1 := by show v_iv (w_fd _ _ _) = v_iv (w_fd _ _ _); rw [s1.2, if_neg (fun e => absurd e.2 (by decide))]
  have hE_1_4_1 : ∀ j : Int, w_ei ws (w_ar ws (n_v vs 1) 4) j = w_ei w1 (w_ar ws (n_v vs 1) 4) j := fun j => s1.1 _ _
  have hE_1_7_1 : ∀ j : Int, w_ei ws (w_ar ws (n_v vs 1) 7) j = w_ei w1 (w_ar ws (n_v vs 1) 7) j := fun j => s1.1 _ _
  have hE_1_8_1 : ∀ j : Int, w_ei ws (w_ar ws (n_v vs 1) 8) j = w_ei w1 (w_ar ws (n_v vs 1) 8) j := fun j => s1.1 _ _
  have hE_2_2_1 : ∀ j : Int, w_ei ws (w_ar ws (n_v vs 2) 2) j = w_ei w1 (w_ar ws (n_v vs 2) 2) j := fun j => s1.1 _ _
  have hE_2_3_1 : ∀ j : Int, w_ei ws (w_ar ws (n_v vs 2) 3) j = w_ei w1 (w_ar ws (n_v vs 2) 3) j := fun j => s1.1 _ _
  have kz_0_2 := fdq_106 hD hth r0
  have kz_0_3 := fdq_107 hD hth r0
  have kz_0_4 := fdq_103 hD hth r0
  have kz_0_5 := fdq_104 hD hth r0
  have kz_1_0 := fdq_21 hD hth r1
  have kz_1_1 := fdq_30 hD hth r1
  have nf0 : fc_1 PRD (20, [8, 1], [50, 1, 0, 1000, 2, 6, 0, 2, 0, 0, 1, 0, 0, 6, 4, 2, 1, 0, 0, 1, 2, 1, 0]) ws (vs) := ⟨nf_in hl rfl, sgq_416 (vc_Ro_lead_5_0 (v_iv (n_v vs 3)) (v_iv (n_v vs 8)) (w_fi ws (n_v vs 0) 4) (w_fi ws (n_v vs 0) 5) (w_ei ws (w_ar ws (n_v vs 2) 2)) (w_ei ws (w_ar ws (n_v vs 2) 3)) (w_fi ws (n_v vs 0) 2) (w_fi ws (n_v vs 0) 3) (w_fi ws (n_v vs 1) 0) (w_ei ws (w_ar ws (n_v vs 1) 7)) (w_ei ws (w_ar ws (n_v vs 1) 8)) (w_ei ws (w_ar ws (n_v vs 1) 4)) (w_fi ws (n_v vs 1) 1) (w_ei w1 (w_ar ws (n_v vs 2) 2)) (w_ei w1 (w_ar ws (n_v vs 2) 3)) (w_fi w1 (n_v vs 0) 2) (w_fi w1 (n_v vs 0) 3) (w_fi w1 (n_v vs 0) 4) (w_fi w1 (n_v vs 0) 5) (w_fi w1 (n_v vs 1) 0) (w_ei w1 (w_ar ws (n_v vs 1) 7)) (w_ei w1 (w_ar ws (n_v vs 1) 8)) (w_ei w1 (w_ar ws (n_v vs 1) 4)) (w_fi w1 (n_v vs 1) 1) k3 k8 (shm_1919 f8) (shm_387 f12) f22 fe_0_2_1 fe_0_3_1 fe_0_4_1 fe_0_5_1 fe_1_0_1 fe_1_1_1 hE_1_4_1 hE_1_7_1 hE_1_8_1 hE_2_2_1 hE_2_3_1 kz_0_2 kz_0_3 kz_0_4 kz_0_5 kz_1_0 kz_1_1)⟩
  refine ⟨(fun _ h => (by cases h)), [], trivial, ?_, (fun _ h => (by cases h))⟩
  rw [List.append_nil]
  exact List.forall_mem_cons.mpr ⟨⟨show (20 : Nat) < 100 from by decide, nf0⟩, (fun _ h => (by cases h))⟩
set_option maxHeartbeats 4000000 in
theorem vc_Ro_lead_6_0 (x3 : Int) (x14 : Int) (x15 : Int) (turns_0 : Int) (goal_0 : Int) (start_0 : Int) (x_0o2 : Int → Int) (y_0o2 : Int → Int) (left_0 : Int) (top_0 : Int) (width_0 : Int) (height_0 : Int) (nodes_0o1 : Int) (tail_0o1 : Int → Int) (head_0o1 : Int → Int) (nameLength_0o1 : Int → Int) (edges_0o1 : Int) (x_1o2 : Int → Int) (y_1o2 : Int → Int) (left_1 : Int) (top_1 : Int) (width_1 : Int) (height_1 : Int) (nodes_1o1 : Int) (start_1 : Int) (tail_1o1 : Int → Int) (head_1o1 : Int → Int) (nameLength_1o1 : Int → Int) (edges_1o1 : Int) (x_2o2 : Int → Int) (y_2o2 : Int → Int) (left_2 : Int) (top_2 : Int) (width_2 : Int) (height_2 : Int) (nodes_2o1 : Int) (start_2 : Int) (tail_2o1 : Int → Int) (head_2o1 : Int → Int) (nameLength_2o1 : Int → Int) (edges_2o1 : Int) (x_3o2 : Int → Int) (y_3o2 : Int → Int) (left_3 : Int) (top_3 : Int) (width_3 : Int) (height_3 : Int) (nodes_3o1 : Int) (start_3 : Int) (tail_3o1 : Int → Int) (head_3o1 : Int → Int) (nameLength_3o1 : Int → Int) (edges_3o1 : Int) (x_4o2 : Int → Int) (y_4o2 : Int → Int) (left_4 : Int) (top_4 : Int) (width_4 : Int) (height_4 : Int) (nodes_4o1 : Int) (tail_4o1 : Int → Int) (head_4o1 : Int → Int) (nameLength_4o1 : Int → Int) (edges_4o1 : Int) (goal_1 : Int) (turns_1 : Int) (goal_2 : Int) (turns_2 : Int) (turns_3 : Int) (bends_0o2 : Int → Int) (bends_1o2 : Int → Int) (bends_2o2 : Int → Int) (bends_3o2 : Int → Int) (bends_4o2 : Int → Int) (k3 : 0 ≤ x3 ∧ x3 ≤ 47) (k14 : 0 ≤ x14 ∧ x14 ≤ 0) (k15 : 0 ≤ x15 ∧ x15 ≤ 0) (fe_0_2_1 : left_0 = left_1) (fe_0_3_1 : top_0 = top_1) (fe_0_4_1 : width_0 = width_1) (fe_0_5_1 : height_0 = height_1) (fe_0_6_1 : start_0 = start_1) (fe_0_7_1 : goal_0 = goal_1) (fe_0_17_1 : turns_0 = turns_1) (fe_1_0_1 : nodes_0o1 = nodes_1o1) (fe_1_1_1 : edges_0o1 = edges_1o1) (fe_0_2_2 : left_1 = left_2) (fe_0_3_2 : top_1 = top_2) (fe_0_4_2 : width_1 = width_2) (fe_0_5_2 : height_1 = height_2) (fe_0_6_2 : start_1 = start_2) (fe_0_7_2 : goal_1 = goal_2) (fe_1_0_2 : nodes_1o1 = nodes_2o1) (fe_1_1_2 : edges_1o1 = edges_2o1) (fe_0_2_3 : left_2 = left_3) (fe_0_3_3 : top_2 = top_3) (fe_0_4_3 : width_2 = width_3) (fe_0_5_3 : height_2 = height_3) (fe_0_6_3 : start_2 = start_3) (fe_0_17_3 : turns_2 = turns_3) (fe_1_0_3 : nodes_2o1 = nodes_3o1) (fe_1_1_3 : edges_2o1 = edges_3o1) (fe_0_2_4 : left_3 = left_4) (fe_0_3_4 : top_3 = top_4) (fe_0_4_4 : width_3 = width_4) (fe_0_5_4 : height_3 = height_4) (fe_1_0_4 : nodes_3o1 = nodes_4o1) (fe_1_1_4 : edges_3o1 = edges_4o1) (hE_1_4_1 : ∀ j : Int, nameLength_0o1 j = nameLength_1o1 j) (hE_1_4_2 : ∀ j : Int, nameLength_1o1 j = nameLength_2o1 j) (hE_1_4_3 : ∀ j : Int, nameLength_2o1 j = nameLength_3o1 j) (hE_1_4_4 : ∀ j : Int, nameLength_3o1 j = nameLength_4o1 j) (hE_1_7_1 : ∀ j : Int, tail_0o1 j = tail_1o1 j) (hE_1_7_2 : ∀ j : Int, tail_1o1 j = tail_2o1 j) (hE_1_7_3 : ∀ j : Int, tail_2o1 j = tail_3o1 j) (hE_1_7_4 : ∀ j : Int, tail_3o1 j = tail_4o1 j) (hE_1_8_1 : ∀ j : Int, head_0o1 j = head_1o1 j) (hE_1_8_2 : ∀ j : Int, head_1o1 j = head_2o1 j) (hE_1_8_3 : ∀ j : Int, head_2o1 j = head_3o1 j) (hE_1_8_4 : ∀ j : Int, head_3o1 j = head_4o1 j) (hE_2_2_1 : ∀ j : Int, x_0o2 j = x_1o2 j) (hE_2_2_2 : ∀ j : Int, x_1o2 j = x_2o2 j) (hE_2_2_3 : ∀ j : Int, x_2o2 j = x_3o2 j) (hE_2_2_4 : ∀ j : Int, x_3o2 j = x_4o2 j) (hE_2_3_1 : ∀ j : Int, y_0o2 j = y_1o2 j) (hE_2_3_2 : ∀ j : Int, y_1o2 j = y_2o2 j) (hE_2_3_3 : ∀ j : Int, y_2o2 j = y_3o2 j) (hE_2_3_4 : ∀ j : Int, y_3o2 j = y_4o2 j) (hE_2_4_1 : ∀ j : Int, 0 ≤ j → (j = x3 → bends_0o2 j = x14) ∧ (j ≠ x3 → bends_0o2 j = bends_1o2 j)) (hE_2_4_2 : ∀ j : Int, bends_1o2 j = bends_2o2 j) (hE_2_4_3 : ∀ j : Int, bends_2o2 j = bends_3o2 j) (hE_2_4_4 : ∀ j : Int, bends_3o2 j = bends_4o2 j) (kz_0_2 : (-40000011) ≤ left_0 ∧ left_0 ≤ 1000000000) (kz_0_3 : (-40000003) ≤ top_0 ∧ top_0 ≤ 1000000000) (kz_0_4 : (-2147483648) ≤ width_0 ∧ width_0 ≤ 2147483647) (kz_0_5 : (-2147483648) ≤ height_0 ∧ height_0 ≤ 2147483647) (kz_0_6 : 0 ≤ start_0 ∧ start_0 ≤ 5999) (kz_0_7 : 0 ≤ goal_0 ∧ goal_0 ≤ 5999) (kz_0_17 : 0 ≤ turns_0 ∧ turns_0 ≤ 6000) (kz_1_0 : 0 ≤ nodes_0o1 ∧ nodes_0o1 ≤ 24) (kz_1_1 : 0 ≤ edges_0o1 ∧ edges_0o1 ≤ 48) : bends_0o2 (x3) ≤ x15 := by
  subst fe_0_2_1
  subst fe_0_3_1
  subst fe_0_4_1
  subst fe_0_5_1
  subst fe_0_6_1
  subst fe_0_7_1
  subst fe_0_17_1
  subst fe_1_0_1
  subst fe_1_1_1
  subst fe_0_2_2
  subst fe_0_3_2
  subst fe_0_4_2
  subst fe_0_5_2
  subst fe_0_6_2
  subst fe_0_7_2
  subst fe_1_0_2
  subst fe_1_1_2
  subst fe_0_2_3
  subst fe_0_3_3
  subst fe_0_4_3
  subst fe_0_5_3
  subst fe_0_6_3
  subst fe_0_17_3
  subst fe_1_0_3
  subst fe_1_1_3
  subst fe_0_2_4
  subst fe_0_3_4
  subst fe_0_4_4
  subst fe_0_5_4
  subst fe_1_0_4
  subst fe_1_1_4
  have e_hE_1_4_1 := funext hE_1_4_1; subst e_hE_1_4_1
  have e_hE_1_4_2 := funext hE_1_4_2; subst e_hE_1_4_2
  have e_hE_1_4_3 := funext hE_1_4_3; subst e_hE_1_4_3
  have e_hE_1_4_4 := funext hE_1_4_4; subst e_hE_1_4_4
  have e_hE_1_7_1 := funext hE_1_7_1; subst e_hE_1_7_1
  have e_hE_1_7_2 := funext hE_1_7_2; subst e_hE_1_7_2
  have e_hE_1_7_3 := funext hE_1_7_3; subst e_hE_1_7_3
  have e_hE_1_7_4 := funext hE_1_7_4; subst e_hE_1_7_4
  have e_hE_1_8_1 := funext hE_1_8_1; subst e_hE_1_8_1
  have e_hE_1_8_2 := funext hE_1_8_2; subst e_hE_1_8_2
  have e_hE_1_8_3 := funext hE_1_8_3; subst e_hE_1_8_3
  have e_hE_1_8_4 := funext hE_1_8_4; subst e_hE_1_8_4
  have e_hE_2_2_1 := funext hE_2_2_1; subst e_hE_2_2_1
  have e_hE_2_2_2 := funext hE_2_2_2; subst e_hE_2_2_2
  have e_hE_2_2_3 := funext hE_2_2_3; subst e_hE_2_2_3
  have e_hE_2_2_4 := funext hE_2_2_4; subst e_hE_2_2_4
  have e_hE_2_3_1 := funext hE_2_3_1; subst e_hE_2_3_1
  have e_hE_2_3_2 := funext hE_2_3_2; subst e_hE_2_3_2
  have e_hE_2_3_3 := funext hE_2_3_3; subst e_hE_2_3_3
  have e_hE_2_3_4 := funext hE_2_3_4; subst e_hE_2_3_4
  have e_hE_2_4_2 := funext hE_2_4_2; subst e_hE_2_4_2
  have e_hE_2_4_3 := funext hE_2_4_3; subst e_hE_2_4_3
  have e_hE_2_4_4 := funext hE_2_4_4; subst e_hE_2_4_4
  first
    | omega
    | (have g := ‹GKE _ _ _ _› x3 (by omega) (by omega); omega)
    | assumption
    | (have e := (hE_2_4_1 x3 (by omega)).1 rfl; omega)
    | (have e := (hE_2_4_1 x3 (by omega)).1 (by omega); omega)
    | (have h := ‹FRM _ _ _ _ _ _ _ _›.1; exact h)
    | (have h := ‹FRM _ _ _ _ _ _ _ _›.1; omega)
  
set_option maxHeartbeats 4000000 in
theorem vc_Ro_lead_6_1 (x3 : Int) (x11 : Int) (x14 : Int) (turns_0 : Int) (goal_0 : Int) (start_0 : Int) (x_0o2 : Int → Int) (y_0o2 : Int → Int) (left_0 : Int) (top_0 : Int) (width_0 : Int) (height_0 : Int) (nodes_0o1 : Int) (tail_0o1 : Int → Int) (head_0o1 : Int → Int) (nameLength_0o1 : Int → Int) (edges_0o1 : Int) (x_1o2 : Int → Int) (y_1o2 : Int → Int) (left_1 : Int) (top_1 : Int) (width_1 : Int) (height_1 : Int) (nodes_1o1 : Int) (start_1 : Int) (tail_1o1 : Int → Int) (head_1o1 : Int → Int) (nameLength_1o1 : Int → Int) (edges_1o1 : Int) (x_2o2 : Int → Int) (y_2o2 : Int → Int) (left_2 : Int) (top_2 : Int) (width_2 : Int) (height_2 : Int) (nodes_2o1 : Int) (start_2 : Int) (tail_2o1 : Int → Int) (head_2o1 : Int → Int) (nameLength_2o1 : Int → Int) (edges_2o1 : Int) (x_3o2 : Int → Int) (y_3o2 : Int → Int) (left_3 : Int) (top_3 : Int) (width_3 : Int) (height_3 : Int) (nodes_3o1 : Int) (start_3 : Int) (tail_3o1 : Int → Int) (head_3o1 : Int → Int) (nameLength_3o1 : Int → Int) (edges_3o1 : Int) (x_4o2 : Int → Int) (y_4o2 : Int → Int) (left_4 : Int) (top_4 : Int) (width_4 : Int) (height_4 : Int) (nodes_4o1 : Int) (tail_4o1 : Int → Int) (head_4o1 : Int → Int) (nameLength_4o1 : Int → Int) (edges_4o1 : Int) (goal_1 : Int) (turns_1 : Int) (goal_2 : Int) (turns_2 : Int) (turns_3 : Int) (bends_0o2 : Int → Int) (bends_1o2 : Int → Int) (bends_2o2 : Int → Int) (bends_3o2 : Int → Int) (bends_4o2 : Int → Int) (k3 : 0 ≤ x3 ∧ x3 ≤ 47) (k11 : 0 ≤ x11 ∧ x11 ≤ 0) (k14 : 0 ≤ x14 ∧ x14 ≤ 0) (g1 : x11 = turns_0) (fe_0_2_1 : left_0 = left_1) (fe_0_3_1 : top_0 = top_1) (fe_0_4_1 : width_0 = width_1) (fe_0_5_1 : height_0 = height_1) (fe_0_6_1 : start_0 = start_1) (fe_0_7_1 : goal_0 = goal_1) (fe_0_17_1 : turns_0 = turns_1) (fe_1_0_1 : nodes_0o1 = nodes_1o1) (fe_1_1_1 : edges_0o1 = edges_1o1) (fe_0_2_2 : left_1 = left_2) (fe_0_3_2 : top_1 = top_2) (fe_0_4_2 : width_1 = width_2) (fe_0_5_2 : height_1 = height_2) (fe_0_6_2 : start_1 = start_2) (fe_0_7_2 : goal_1 = goal_2) (fe_1_0_2 : nodes_1o1 = nodes_2o1) (fe_1_1_2 : edges_1o1 = edges_2o1) (fe_0_2_3 : left_2 = left_3) (fe_0_3_3 : top_2 = top_3) (fe_0_4_3 : width_2 = width_3) (fe_0_5_3 : height_2 = height_3) (fe_0_6_3 : start_2 = start_3) (fe_0_17_3 : turns_2 = turns_3) (fe_1_0_3 : nodes_2o1 = nodes_3o1) (fe_1_1_3 : edges_2o1 = edges_3o1) (fe_0_2_4 : left_3 = left_4) (fe_0_3_4 : top_3 = top_4) (fe_0_4_4 : width_3 = width_4) (fe_0_5_4 : height_3 = height_4) (fe_1_0_4 : nodes_3o1 = nodes_4o1) (fe_1_1_4 : edges_3o1 = edges_4o1) (hE_1_4_1 : ∀ j : Int, nameLength_0o1 j = nameLength_1o1 j) (hE_1_4_2 : ∀ j : Int, nameLength_1o1 j = nameLength_2o1 j) (hE_1_4_3 : ∀ j : Int, nameLength_2o1 j = nameLength_3o1 j) (hE_1_4_4 : ∀ j : Int, nameLength_3o1 j = nameLength_4o1 j) (hE_1_7_1 : ∀ j : Int, tail_0o1 j = tail_1o1 j) (hE_1_7_2 : ∀ j : Int, tail_1o1 j = tail_2o1 j) (hE_1_7_3 : ∀ j : Int, tail_2o1 j = tail_3o1 j) (hE_1_7_4 : ∀ j : Int, tail_3o1 j = tail_4o1 j) (hE_1_8_1 : ∀ j : Int, head_0o1 j = head_1o1 j) (hE_1_8_2 : ∀ j : Int, head_1o1 j = head_2o1 j) (hE_1_8_3 : ∀ j : Int, head_2o1 j = head_3o1 j) (hE_1_8_4 : ∀ j : Int, head_3o1 j = head_4o1 j) (hE_2_2_1 : ∀ j : Int, x_0o2 j = x_1o2 j) (hE_2_2_2 : ∀ j : Int, x_1o2 j = x_2o2 j) (hE_2_2_3 : ∀ j : Int, x_2o2 j = x_3o2 j) (hE_2_2_4 : ∀ j : Int, x_3o2 j = x_4o2 j) (hE_2_3_1 : ∀ j : Int, y_0o2 j = y_1o2 j) (hE_2_3_2 : ∀ j : Int, y_1o2 j = y_2o2 j) (hE_2_3_3 : ∀ j : Int, y_2o2 j = y_3o2 j) (hE_2_3_4 : ∀ j : Int, y_3o2 j = y_4o2 j) (hE_2_4_1 : ∀ j : Int, 0 ≤ j → (j = x3 → bends_0o2 j = x14) ∧ (j ≠ x3 → bends_0o2 j = bends_1o2 j)) (hE_2_4_2 : ∀ j : Int, bends_1o2 j = bends_2o2 j) (hE_2_4_3 : ∀ j : Int, bends_2o2 j = bends_3o2 j) (hE_2_4_4 : ∀ j : Int, bends_3o2 j = bends_4o2 j) (kz_0_2 : (-40000011) ≤ left_0 ∧ left_0 ≤ 1000000000) (kz_0_3 : (-40000003) ≤ top_0 ∧ top_0 ≤ 1000000000) (kz_0_4 : (-2147483648) ≤ width_0 ∧ width_0 ≤ 2147483647) (kz_0_5 : (-2147483648) ≤ height_0 ∧ height_0 ≤ 2147483647) (kz_0_6 : 0 ≤ start_0 ∧ start_0 ≤ 5999) (kz_0_7 : 0 ≤ goal_0 ∧ goal_0 ≤ 5999) (kz_0_17 : 0 ≤ turns_0 ∧ turns_0 ≤ 6000) (kz_1_0 : 0 ≤ nodes_0o1 ∧ nodes_0o1 ≤ 24) (kz_1_1 : 0 ≤ edges_0o1 ∧ edges_0o1 ≤ 48) : turns_0 ≤ 24 := by
  subst fe_0_2_1
  subst fe_0_3_1
  subst fe_0_4_1
  subst fe_0_5_1
  subst fe_0_6_1
  subst fe_0_7_1
  subst fe_0_17_1
  subst fe_1_0_1
  subst fe_1_1_1
  subst fe_0_2_2
  subst fe_0_3_2
  subst fe_0_4_2
  subst fe_0_5_2
  subst fe_0_6_2
  subst fe_0_7_2
  subst fe_1_0_2
  subst fe_1_1_2
  subst fe_0_2_3
  subst fe_0_3_3
  subst fe_0_4_3
  subst fe_0_5_3
  subst fe_0_6_3
  subst fe_0_17_3
  subst fe_1_0_3
  subst fe_1_1_3
  subst fe_0_2_4
  subst fe_0_3_4
  subst fe_0_4_4
  subst fe_0_5_4
  subst fe_1_0_4
  subst fe_1_1_4
  have e_hE_1_4_1 := funext hE_1_4_1; subst e_hE_1_4_1
  have e_hE_1_4_2 := funext hE_1_4_2; subst e_hE_1_4_2
  have e_hE_1_4_3 := funext hE_1_4_3; subst e_hE_1_4_3
  have e_hE_1_4_4 := funext hE_1_4_4; subst e_hE_1_4_4
  have e_hE_1_7_1 := funext hE_1_7_1; subst e_hE_1_7_1
  have e_hE_1_7_2 := funext hE_1_7_2; subst e_hE_1_7_2
  have e_hE_1_7_3 := funext hE_1_7_3; subst e_hE_1_7_3
  have e_hE_1_7_4 := funext hE_1_7_4; subst e_hE_1_7_4
  have e_hE_1_8_1 := funext hE_1_8_1; subst e_hE_1_8_1
  have e_hE_1_8_2 := funext hE_1_8_2; subst e_hE_1_8_2
  have e_hE_1_8_3 := funext hE_1_8_3; subst e_hE_1_8_3
  have e_hE_1_8_4 := funext hE_1_8_4; subst e_hE_1_8_4
  have e_hE_2_2_1 := funext hE_2_2_1; subst e_hE_2_2_1
  have e_hE_2_2_2 := funext hE_2_2_2; subst e_hE_2_2_2
  have e_hE_2_2_3 := funext hE_2_2_3; subst e_hE_2_2_3
  have e_hE_2_2_4 := funext hE_2_2_4; subst e_hE_2_2_4
  have e_hE_2_3_1 := funext hE_2_3_1; subst e_hE_2_3_1
  have e_hE_2_3_2 := funext hE_2_3_2; subst e_hE_2_3_2
  have e_hE_2_3_3 := funext hE_2_3_3; subst e_hE_2_3_3
  have e_hE_2_3_4 := funext hE_2_3_4; subst e_hE_2_3_4
  have e_hE_2_4_2 := funext hE_2_4_2; subst e_hE_2_4_2
  have e_hE_2_4_3 := funext hE_2_4_3; subst e_hE_2_4_3
  have e_hE_2_4_4 := funext hE_2_4_4; subst e_hE_2_4_4
  first
    | omega
    | (have g := ‹GKE _ _ _ _› x3 (by omega) (by omega); omega)
    | assumption
    | (have e := (hE_2_4_1 x3 (by omega)).1 rfl; omega)
    | (have e := (hE_2_4_1 x3 (by omega)).1 (by omega); omega)
    | (have h := ‹FRM _ _ _ _ _ _ _ _›.1; exact h)
    | (have h := ‹FRM _ _ _ _ _ _ _ _›.1; omega)
  
def o_Ro_lead_6 : or_T := (131, 16, [(0, (2, 0, 0, [9])), (1, (2, 0, 0, [3])), (2, (2, 0, 0, [0])), (3, (0, 0, 47, [])), (4, (0, 1, 1, [])), (6, (0, 0, 23, [])), (7, (2, 0, 0, [53])), (8, (0, 0, 23, [])), (9, (0, 0, 5999, [])), (10, (0, 0, 5999, [])), (11, (0, 0, 0, [])), (12, (0, 24, 24, [])), (13, (2, 0, 0, [16])), (14, (0, 0, 0, [])), (15, (0, 0, 0, []))], [(9, [13, 2], [4]), (9, [11, 0], [17]), (9, [10, 0], [7]), (9, [9, 0], [6]), (9, [7, 1], [8]), (20, [0, 2, 8, 10], [60, 3, 2, 842, 2, 3, 4, 1002, 1003]), (20, [10, 0], [50, 2, 0, 1004, 1005, 2, 6, 0, 2, 0, 0, 1, 0, 0, 6, 4, 2, 1, 0, 0, 1, 6, 3, 2, 1, 4, 2, 1, 5]), (20, [8, 1], [50, 1, 0, 1000, 2, 6, 0, 2, 0, 0, 1, 0, 0, 6, 4, 2, 1, 0, 0, 1, 2, 1, 0]), (20, [0], [50, 3, 0, 6, 4, 5, 0, 7, 4, 3, 2, 0, 6, 0, 1, 6, 3, 2, 0, 4, 2, 0, 5]), (20, [0, 2, 6, 9], [60, 3, 2, 842, 2, 3, 4, 1002, 1003]), (20, [9, 0], [50, 2, 0, 1004, 1005, 2, 6, 0, 2, 0, 0, 1, 0, 0, 6, 4, 2, 1, 0, 0, 1, 6, 3, 2, 1, 4, 2, 1, 5]), (20, [6, 1], [50, 1, 0, 1000, 2, 6, 0, 2, 0, 0, 1, 0, 0, 6, 4, 2, 1, 0, 0, 1, 2, 1, 0]), (20, [6, 1, 3], [50, 0, 1, 1007, 1, 2, 1, 0, 3, 1, 7, 1, 2]), (20, [8, 1, 3], [50, 0, 1, 1008, 1, 2, 1, 0, 3, 1, 8, 1, 2]), (20, [0, 1, 2], [60, 5, 3, 839, 2, 3, 4, 5, 1000, 1004, 2002, 2003]), (20, [1], [50, 1, 0, 0, 0, 2, 0, 1, 2, 0, 0]), (20, [1], [60, 2, 2, 596, 0, 1, 7, 8]), (20, [3, 1], [50, 1, 0, 1001, 2, 6, 0, 2, 0, 0, 1, 0, 0, 6, 4, 2, 1, 0, 0, 1, 2, 1, 1]), (20, [0, 1, 2, 4], [60, 5, 3, 840, 2, 3, 4, 5, 1000, 1004, 2002, 2003]), (100, [13, 3, 14], []), (7, [11, 12], [5]), (7, [9, 10], [0]), (20, [0, 2, 8, 10], [60, 3, 2, 842, 2, 3, 4, 1002, 1003]), (20, [10, 0], [50, 2, 0, 1004, 1005, 2, 6, 0, 2, 0, 0, 1, 0, 0, 6, 4, 2, 1, 0, 0, 1, 6, 3, 2, 1, 4, 2, 1, 5]), (20, [8, 1], [50, 1, 0, 1000, 2, 6, 0, 2, 0, 0, 1, 0, 0, 6, 4, 2, 1, 0, 0, 1, 2, 1, 0]), (20, [0], [50, 3, 0, 6, 4, 5, 0, 7, 4, 3, 2, 0, 6, 0, 1, 6, 3, 2, 0, 4, 2, 0, 5]), (20, [0, 2, 6, 9], [60, 3, 2, 842, 2, 3, 4, 1002, 1003]), (20, [9, 0], [50, 2, 0, 1004, 1005, 2, 6, 0, 2, 0, 0, 1, 0, 0, 6, 4, 2, 1, 0, 0, 1, 6, 3, 2, 1, 4, 2, 1, 5]), (20, [6, 1], [50, 1, 0, 1000, 2, 6, 0, 2, 0, 0, 1, 0, 0, 6, 4, 2, 1, 0, 0, 1, 2, 1, 0]), (20, [6, 1, 3], [50, 0, 1, 1007, 1, 2, 1, 0, 3, 1, 7, 1, 2]), (20, [8, 1, 3], [50, 0, 1, 1008, 1, 2, 1, 0, 3, 1, 8, 1, 2]), (20, [0, 1, 2], [60, 5, 3, 839, 2, 3, 4, 5, 1000, 1004, 2002, 2003]), (20, [1], [50, 1, 0, 0, 0, 2, 0, 1, 2, 0, 0]), (20, [1], [60, 2, 2, 596, 0, 1, 7, 8]), (20, [3, 1], [50, 1, 0, 1001, 2, 6, 0, 2, 0, 0, 1, 0, 0, 6, 4, 2, 1, 0, 0, 1, 2, 1, 1]), (20, [0, 1, 2, 4], [60, 5, 3, 840, 2, 3, 4, 5, 1000, 1004, 2002, 2003]), (101, [0, 11], [17]), (20, [0, 2, 8, 10], [60, 3, 2, 842, 2, 3, 4, 1002, 1003]), (20, [10, 0], [50, 2, 0, 1004, 1005, 2, 6, 0, 2, 0, 0, 1, 0, 0, 6, 4, 2, 1, 0, 0, 1, 6, 3, 2, 1, 4, 2, 1, 5]), (20, [8, 1], [50, 1, 0, 1000, 2, 6, 0, 2, 0, 0, 1, 0, 0, 6, 4, 2, 1, 0, 0, 1, 2, 1, 0]), (20, [0], [50, 3, 0, 6, 4, 5, 0, 7, 4, 3, 2, 0, 6, 0, 1, 6, 3, 2, 0, 4, 2, 0, 5]), (20, [0, 2, 6, 9], [60, 3, 2, 842, 2, 3, 4, 1002, 1003]), (20, [9, 0], [50, 2, 0, 1004, 1005, 2, 6, 0, 2, 0, 0, 1, 0, 0, 6, 4, 2, 1, 0, 0, 1, 6, 3, 2, 1, 4, 2, 1, 5]), (20, [6, 1], [50, 1, 0, 1000, 2, 6, 0, 2, 0, 0, 1, 0, 0, 6, 4, 2, 1, 0, 0, 1, 2, 1, 0]), (20, [6, 1, 3], [50, 0, 1, 1007, 1, 2, 1, 0, 3, 1, 7, 1, 2]), (20, [8, 1, 3], [50, 0, 1, 1008, 1, 2, 1, 0, 3, 1, 8, 1, 2]), (20, [0, 1, 2], [60, 5, 3, 839, 2, 3, 4, 5, 1000, 1004, 2002, 2003]), (20, [1], [50, 1, 0, 0, 0, 2, 0, 1, 2, 0, 0]), (20, [1], [60, 2, 2, 596, 0, 1, 7, 8]), (20, [3, 1], [50, 1, 0, 1001, 2, 6, 0, 2, 0, 0, 1, 0, 0, 6, 4, 2, 1, 0, 0, 1, 2, 1, 1]), (20, [0, 1, 2, 4], [60, 5, 3, 840, 2, 3, 4, 5, 1000, 1004, 2002, 2003]), (101, [0, 10], [7]), (20, [0, 2, 8, 10], [60, 3, 2, 842, 2, 3, 4, 1002, 1003]), (20, [10, 0], [50, 2, 0, 1004, 1005, 2, 6, 0, 2, 0, 0, 1, 0, 0, 6, 4, 2, 1, 0, 0, 1, 6, 3, 2, 1, 4, 2, 1, 5]), (20, [8, 1], [50, 1, 0, 1000, 2, 6, 0, 2, 0, 0, 1, 0, 0, 6, 4, 2, 1, 0, 0, 1, 2, 1, 0]), (20, [0], [50, 3, 0, 6, 4, 5, 0, 7, 4, 3, 2, 0, 6, 0, 1, 6, 3, 2, 0, 4, 2, 0, 5]), (20, [0, 2, 6, 9], [60, 3, 2, 842, 2, 3, 4, 1002, 1003]), (20, [9, 0], [50, 2, 0, 1004, 1005, 2, 6, 0, 2, 0, 0, 1, 0, 0, 6, 4, 2, 1, 0, 0, 1, 6, 3, 2, 1, 4, 2, 1, 5]), (20, [6, 1], [50, 1, 0, 1000, 2, 6, 0, 2, 0, 0, 1, 0, 0, 6, 4, 2, 1, 0, 0, 1, 2, 1, 0]), (20, [6, 1, 3], [50, 0, 1, 1007, 1, 2, 1, 0, 3, 1, 7, 1, 2]), (20, [8, 1, 3], [50, 0, 1, 1008, 1, 2, 1, 0, 3, 1, 8, 1, 2]), (20, [0, 1, 2], [60, 5, 3, 839, 2, 3, 4, 5, 1000, 1004, 2002, 2003]), (20, [1], [50, 1, 0, 0, 0, 2, 0, 1, 2, 0, 0]), (20, [1], [60, 2, 2, 596, 0, 1, 7, 8]), (20, [3, 1], [50, 1, 0, 1001, 2, 6, 0, 2, 0, 0, 1, 0, 0, 6, 4, 2, 1, 0, 0, 1, 2, 1, 1]), (20, [0, 1, 2, 4], [60, 5, 3, 840, 2, 3, 4, 5, 1000, 1004, 2002, 2003]), (101, [0, 9], [6]), (20, [0, 2, 6, 9], [60, 3, 2, 842, 2, 3, 4, 1002, 1003]), (20, [9, 0], [50, 2, 0, 1004, 1005, 2, 6, 0, 2, 0, 0, 1, 0, 0, 6, 4, 2, 1, 0, 0, 1, 6, 3, 2, 1, 4, 2, 1, 5]), (20, [6, 1], [50, 1, 0, 1000, 2, 6, 0, 2, 0, 0, 1, 0, 0, 6, 4, 2, 1, 0, 0, 1, 2, 1, 0]), (20, [6, 1, 3], [50, 0, 1, 1007, 1, 2, 1, 0, 3, 1, 7, 1, 2]), (20, [8, 1, 3], [50, 0, 1, 1008, 1, 2, 1, 0, 3, 1, 8, 1, 2]), (20, [0, 1, 2], [60, 5, 3, 839, 2, 3, 4, 5, 1000, 1004, 2002, 2003]), (20, [1], [50, 1, 0, 0, 0, 2, 0, 1, 2, 0, 0]), (20, [1], [60, 2, 2, 596, 0, 1, 7, 8]), (20, [3, 1], [50, 1, 0, 1001, 2, 6, 0, 2, 0, 0, 1, 0, 0, 6, 4, 2, 1, 0, 0, 1, 2, 1, 1]), (20, [0, 1, 2, 4], [60, 5, 3, 840, 2, 3, 4, 5, 1000, 1004, 2002, 2003]), (102, [8], [2596148429267413814265248164610048]), (8, [4], [1])], [], [], [(20, [2, 3, 15], [50, 0, 1, 4, 0, 5, 3, 0, 4, 1, 1, 1, 2]), (20, [0], [50, 1, 0, 17, 0, 3, 2, 0, 17, 0, 24])], [], [(9, 10, 0, 0)])
theorem oo_Ro_lead_6 {kA : Nat → ClassId} : or_ok PRD kA GG o_Ro_lead_6 := by
  refine or_mk fun A ta ws vs hD hth hl => ?_
  intro t0 r0 t1 r1 t2 r2 t3 k3 t4 k4 t6 k6 t7 r7 t8 k8 t9 k9 t10 k10 t11 k11 t12 k12 t13 r13 t14 k14 t15 k15 d0 f0 f1 f2 f3 f4 f5 f6 f7 f8 f9 f10 f11 f12 f13 f14 f15 f16 f17 f18 ta1 w1 le1 s1 f20 f21 f22 f23 f24 f25 f26 f27 f28 f29 f30 f31 f32 f33 f34 f35 ta2 w2 le2 s2 f37 f38 f39 f40 f41 f42 f43 f44 f45 f46 f47 f48 f49 f50 ta3 w3 le3 s3 f52 f53 f54 f55 f56 f57 f58 f59 f60 f61 f62 f63 f64 f65 ta4 w4 le4 s4 f67 f68 f69 f70 f71 f72 f73 f74 f75 f76 ta5 w5 le5 s5 f78
  replace f0 := shm_108 f0
  replace f1 := shm_795 f1
  have s1 : (∀ b j, w_el ws b j = if b = v_ad (n_v vs 13) ∧ j = (v_iv (n_v vs 3)).toNat then v_iv (n_v vs 14) else w_el w1 b j) ∧ ∀ b k, w_fd ws b k = w_fd w1 b k := s1.2
  have s2 : (∀ b j, w_el w1 b j = w_el w2 b j) ∧ ∀ b j, w_fd w1 b j = if b = v_ad (n_v vs 0) ∧ j = 17 then n_v vs 11 else w_fd w2 b j := s2.2
  have s3 : (∀ b j, w_el w2 b j = w_el w3 b j) ∧ ∀ b j, w_fd w2 b j = if b = v_ad (n_v vs 0) ∧ j = 7 then n_v vs 10 else w_fd w3 b j := s3.2
  have s4 : (∀ b j, w_el w3 b j = w_el w4 b j) ∧ ∀ b j, w_fd w3 b j = if b = v_ad (n_v vs 0) ∧ j = 6 then n_v vs 9 else w_fd w4 b j := s4.2
  have cr_1_4 := fdq_4 hD hth r1
  have cr_1_7 := fdq_46 hD hth r1
  have cr_1_8 := fdq_47 hD hth r1
  have cr_2_2 := fdq_45 hD hth r2
  have cr_2_3 := fdq_48 hD hth r2
  have ad_13 : v_ad (n_v vs 13) = w_ar ws (n_v vs 2) 4 := congrArg v_ad f0
  have g1 : v_iv (n_v vs 11) = w_fi ws (n_v vs 0) 17 := congrArg v_iv f1
  have fe_0_2_1 : w_fi ws (n_v vs 0) 2 = w_fi w1 (n_v vs 0) 2 := congrArg v_iv (s1.2 _ _)
  have fe_0_3_1 : w_fi ws (n_v vs 0) 3 = w_fi w1 (n_v vs 0) 3 := congrArg v_iv (s1.2 _ _)
  have fe_0_4_1 : w_fi ws (n_v vs 0) 4 = w_fi w1 (n_v vs 0) 4 := congrArg v_iv (s1.2 _ _)
  have fe_0_5_1 : w_fi ws (n_v vs 0) 5 = w_fi w1 (n_v vs 0) 5 := congrArg v_iv (s1.2 _ _)
  have fe_0_6_1 : w_fi ws (n_v vs 0) 6 = w_fi w1 (n_v vs 0) 6 := congrArg v_iv (s1.2 _ _)
  have fe_0_7_1 : w_fi ws (n_v vs 0) 7 = w_fi w1 (n_v vs 0) 7 := congrArg v_iv (s1.2 _ _)
  have fe_0_17_1 : w_fi ws (n_v vs 0) 17 = w_fi w1 (n_v vs 0) 17 := congrArg v_iv (s1.2 _ _)
  have fe_1_0_1 : w_fi ws (n_v vs 1) 0 = w_fi w1 (n_v vs 1) 0 := congrArg v_iv (s1.2 _ _)
  have fe_1_1_1 : w_fi ws (n_v vs 1) 1 = w_fi w1 (n_v vs 1) 1 := congrArg v_iv (s1.2 _ _)
  have fe_0_2_2 : w_fi w1 (n_v vs 0) 2 = w_fi w2 (n_v vs 0) 2 := by show v_iv (w_fd _ _ _) = v_iv (w_fd _ _ _); rw [s2.2, if_neg (fun e => absurd e.2 (by decide))]
  have fe_0_3_2 : w_fi w1 (n_v vs 0) 3 = w_fi w2 (n_v vs 0) 3 := by show v_iv (w_fd _ _ _) = v_iv (w_fd _ _ _); rw [s2.2, if_neg (fun e => absurd e.2 (by decide))]
  have fe_0_4_2 : w_fi w1 (n_v vs 0) 4 = w_fi w2 (n_v vs 0) 4 := by show v_iv (w_fd _ _ _) = v_iv (w_fd _ _ _); rw [s2.2, if_neg (fun e => absurd e.2 (by decide))]
  have fe_0_5_2 : w_fi w1 (n_v vs 0) 5 = w_fi w2 (n_v vs 0) 5 := by show v_iv (w_fd _ _ _) = v_iv (w_fd _ _ _); rw [s2.2, if_neg (fun e => absurd e.2 (by decide))]
  have fe_0_6_2 : w_fi w1 (n_v vs 0) 6 = w_fi w2 (n_v vs 0) 6 := by show v_iv (w_fd _ _ _) = v_iv (w_fd _ _ _); rw [s2.2, if_neg (fun e => absurd e.2 (by decide))]
  have fe_0_7_2 : w_fi w1 (n_v vs 0) 7 = w_fi w2 (n_v vs 0) 7 := by show v_iv (w_fd _ _ _) = v_iv (w_fd _ _ _); rw [s2.2, if_neg (fun e => absurd e.2 (by decide))]
  have fe_1_0_2 : w_fi w1 (n_v vs 1) 0 = w_fi w2 (n_v vs 1) 0 := by show v_iv (w_fd _ _ _) = v_iv (w_fd _ _ _); rw [s2.2, if_neg (fun e => absurd e.2 (by decide))]
  have fe_1_1_2 : w_fi w1 (n_v vs 1) 1 = w_fi w2 (n_v vs 1) 1 := by show v_iv (w_fd _ _ _) = v_iv (w_fd _ _ _); rw [s2.2, if_neg (fun e => absurd e.2 (by decide))]
  have fe_0_2_3 : w_fi w2 (n_v vs 0) 2 = w_fi w3 (n_v vs 0) 2 := by show v_iv (w_fd _ _ _) = v_iv (w_fd _ _ _); rw [s3.2, if_neg (fun e => absurd e.2 (by decide))]
  have fe_0_3_3 : w_fi w2 (n_v vs 0) 3 = w_fi w3 (n_v vs 0) 3 := by show v_iv (w_fd _ _ _) = v_iv (w_fd _ _ _); rw [s3.2, if_neg (fun e => absurd e.2 (by decide))]
  have fe_0_4_3 : w_fi w2 (n_v vs 0) 4 = w_fi w3 (n_v vs 0) 4 := by show v_iv (w_fd _ _ _) = v_iv (w_fd _ _ _); rw [s3.2, if_neg (fun e => absurd e.2 (by decide))]
  have fe_0_5_3 : w_fi w2 (n_v vs 0) 5 = w_fi w3 (n_v vs 0) 5 := by show v_iv (w_fd _ _ _) = v_iv (w_fd _ _ _); rw [s3.2, if_neg (fun e => absurd e.2 (by decide))]
  have fe_0_6_3 : w_fi w2 (n_v vs 0) 6 = w_fi w3 (n_v vs 0) 6 := by show v_iv (w_fd _ _ _) = v_iv (w_fd _ _ _); rw [s3.2, if_neg (fun e => absurd e.2 (by decide))]
  have fe_0_17_3 : w_fi w2 (n_v vs 0) 17 = w_fi w3 (n_v vs 0) 17 := by show v_iv (w_fd _ _ _) = v_iv (w_fd _ _ _); rw [s3.2, if_neg (fun e => absurd e.2 (by decide))]
  have fe_1_0_3 : w_fi w2 (n_v vs 1) 0 = w_fi w3 (n_v vs 1) 0 := by show v_iv (w_fd _ _ _) = v_iv (w_fd _ _ _); rw [s3.2, if_neg (fun e => absurd e.2 (by decide))]
  have fe_1_1_3 : w_fi w2 (n_v vs 1) 1 = w_fi w3 (n_v vs 1) 1 := by show v_iv (w_fd _ _ _) = v_iv (w_fd _ _ _); rw [s3.2, if_neg (fun e => absurd e.2 (by decide))]
  have fe_0_2_4 : w_fi w3 (n_v vs 0) 2 = w_fi w4 (n_v vs 0) 2 := by show v_iv (w_fd _ _ _) = v_iv (w_fd _ _ _); rw [s4.2, if_neg (fun e => absurd e.2 (by decide))]
  have fe_0_3_4 : w_fi w3 (n_v vs 0) 3 = w_fi w4 (n_v vs 0) 3 := by show v_iv (w_fd _ _ _) = v_iv (w_fd _ _ _); rw [s4.2, if_neg (fun e => absurd e.2 (by decide))]
  have fe_0_4_4 : w_fi w3 (n_v vs 0) 4 = w_fi w4 (n_v vs 0) 4 := by show v_iv (w_fd _ _ _) = v_iv (w_fd _ _ _); rw [s4.2, if_neg (fun e => absurd e.2 (by decide))]
  have fe_0_5_4 : w_fi w3 (n_v vs 0) 5 = w_fi w4 (n_v vs 0) 5 := by show v_iv (w_fd _ _ _) = v_iv (w_fd _ _ _); rw [s4.2, if_neg (fun e => absurd e.2 (by decide))]
  have fe_1_0_4 : w_fi w3 (n_v vs 1) 0 = w_fi w4 (n_v vs 1) 0 := by show v_iv (w_fd _ _ _) = v_iv (w_fd _ _ _); rw [s4.2, if_neg (fun e => absurd e.2 (by decide))]
  have fe_1_1_4 : w_fi w3 (n_v vs 1) 1 = w_fi w4 (n_v vs 1) 1 := by show v_iv (w_fd _ _ _) = v_iv (w_fd _ _ _); rw [s4.2, if_neg (fun e => absurd e.2 (by decide))]
  have hE_1_4_1 : ∀ j : Int, w_ei ws (w_ar ws (n_v vs 1) 4) j = w_ei w1 (w_ar ws (n_v vs 1) 4) j := el_kp s1.1 r13 cr_1_4 (by decide)
  have hE_1_4_2 : ∀ j : Int, w_ei w1 (w_ar ws (n_v vs 1) 4) j = w_ei w2 (w_ar ws (n_v vs 1) 4) j := fun j => s2.1 _ _
  have hE_1_4_3 : ∀ j : Int, w_ei w2 (w_ar ws (n_v vs 1) 4) j = w_ei w3 (w_ar ws (n_v vs 1) 4) j := fun j => s3.1 _ _
  have hE_1_4_4 : ∀ j : Int, w_ei w3 (w_ar ws (n_v vs 1) 4) j = w_ei w4 (w_ar ws (n_v vs 1) 4) j := fun j => s4.1 _ _
  have hE_1_7_1 : ∀ j : Int, w_ei ws (w_ar ws (n_v vs 1) 7) j = w_ei w1 (w_ar ws (n_v vs 1) 7) j := el_kp s1.1 r13 cr_1_7 (by decide)
  have hE_1_7_2 : ∀ j : Int, w_ei w1 (w_ar ws (n_v vs 1) 7) j = w_ei w2 (w_ar ws (n_v vs 1) 7) j := fun j => s2.1 _ _
  have hE_1_7_3 : ∀ j : Int, w_ei w2 (w_ar ws (n_v vs 1) 7) j = w_ei w3 (w_ar ws (n_v vs 1) 7) j := fun j => s3.1 _ _
  have hE_1_7_4 : ∀ j : Int, w_ei w3 (w_ar ws (n_v vs 1) 7) j = w_ei w4 (w_ar ws (n_v vs 1) 7) j := fun j => s4.1 _ _
  have hE_1_8_1 : ∀ j : Int, w_ei ws (w_ar ws (n_v vs 1) 8) j = w_ei w1 (w_ar ws (n_v vs 1) 8) j := el_kp s1.1 r13 cr_1_8 (by decide)
  have hE_1_8_2 : ∀ j : Int, w_ei w1 (w_ar ws (n_v vs 1) 8) j = w_ei w2 (w_ar ws (n_v vs 1) 8) j := fun j => s2.1 _ _
  have hE_1_8_3 : ∀ j : Int, w_ei w2 (w_ar ws (n_v vs 1) 8) j = w_ei w3 (w_ar ws (n_v vs 1) 8) j := fun j => s3.1 _ _
  have hE_1_8_4 : ∀ j : Int, w_ei w3 (w_ar ws (n_v vs 1) 8) j = w_ei w4 (w_ar ws (n_v vs 1) 8) j := fun j => s4.1 _ _
  have hE_2_2_1 : ∀ j : Int, w_ei ws (w_ar ws (n_v vs 2) 2) j = w_ei w1 (w_ar ws (n_v vs 2) 2) j := el_kp s1.1 r13 cr_2_2 (by decide)
  have hE_2_2_2 : ∀ j : Int, w_ei w1 (w_ar ws (n_v vs 2) 2) j = w_ei w2 (w_ar ws (n_v vs 2) 2) j := fun j => s2.1 _ _
  have hE_2_2_3 : ∀ j : Int, w_ei w2 (w_ar ws (n_v vs 2) 2) j = w_ei w3 (w_ar ws (n_v vs 2) 2) j := fun j => s3.1 _ _
  have hE_2_2_4 : ∀ j : Int, w_ei w3 (w_ar ws (n_v vs 2) 2) j = w_ei w4 (w_ar ws (n_v vs 2) 2) j := fun j => s4.1 _ _
  have hE_2_3_1 : ∀ j : Int, w_ei ws (w_ar ws (n_v vs 2) 3) j = w_ei w1 (w_ar ws (n_v vs 2) 3) j := el_kp s1.1 r13 cr_2_3 (by decide)
  have hE_2_3_2 : ∀ j : Int, w_ei w1 (w_ar ws (n_v vs 2) 3) j = w_ei w2 (w_ar ws (n_v vs 2) 3) j := fun j => s2.1 _ _
  have hE_2_3_3 : ∀ j : Int, w_ei w2 (w_ar ws (n_v vs 2) 3) j = w_ei w3 (w_ar ws (n_v vs 2) 3) j := fun j => s3.1 _ _
  have hE_2_3_4 : ∀ j : Int, w_ei w3 (w_ar ws (n_v vs 2) 3) j = w_ei w4 (w_ar ws (n_v vs 2) 3) j := fun j => s4.1 _ _
  have hE_2_4_1 : ∀ j : Int, 0 ≤ j → (j = v_iv (n_v vs 3) → w_ei ws (w_ar ws (n_v vs 2) 4) j = v_iv (n_v vs 14)) ∧ (j ≠ v_iv (n_v vs 3) → w_ei ws (w_ar ws (n_v vs 2) 4) j = w_ei w1 (w_ar ws (n_v vs 2) 4) j) := fun j hj => ⟨fun h => by unfold w_ei; rw [s1.1, if_pos ⟨ad_13.symm, by rw [h]⟩], fun h => by unfold w_ei; rw [s1.1, if_neg (fun e => h (by have := e.2; omega))]⟩
  have hE_2_4_2 : ∀ j : Int, w_ei w1 (w_ar ws (n_v vs 2) 4) j = w_ei w2 (w_ar ws (n_v vs 2) 4) j := fun j => s2.1 _ _
  have hE_2_4_3 : ∀ j : Int, w_ei w2 (w_ar ws (n_v vs 2) 4) j = w_ei w3 (w_ar ws (n_v vs 2) 4) j := fun j => s3.1 _ _
  have hE_2_4_4 : ∀ j : Int, w_ei w3 (w_ar ws (n_v vs 2) 4) j = w_ei w4 (w_ar ws (n_v vs 2) 4) j := fun j => s4.1 _ _
  have kz_0_2 := fdq_106 hD hth r0
  have kz_0_3 := fdq_107 hD hth r0
  have kz_0_4 := fdq_103 hD hth r0
  have kz_0_5 := fdq_104 hD hth r0
  have kz_0_6 := fdq_267 hD hth r0
  have kz_0_7 := fdq_269 hD hth r0
  have kz_0_17 := fdq_268 hD hth r0
  have kz_1_0 := fdq_21 hD hth r1
  have kz_1_1 := fdq_30 hD hth r1
  have nf0 : fc_1 PRD (20, [2, 3, 15], [50, 0, 1, 4, 0, 5, 3, 0, 4, 1, 1, 1, 2]) ws (vs) := ⟨nf_in hl rfl, sgq_1609 (vc_Ro_lead_6_0 (v_iv (n_v vs 3)) (v_iv (n_v vs 14)) (v_iv (n_v vs 15)) (w_fi ws (n_v vs 0) 17) (w_fi ws (n_v vs 0) 7) (w_fi ws (n_v vs 0) 6) (w_ei ws (w_ar ws (n_v vs 2) 2)) (w_ei ws (w_ar ws (n_v vs 2) 3)) (w_fi ws (n_v vs 0) 2) (w_fi ws (n_v vs 0) 3) (w_fi ws (n_v vs 0) 4) (w_fi ws (n_v vs 0) 5) (w_fi ws (n_v vs 1) 0) (w_ei ws (w_ar ws (n_v vs 1) 7)) (w_ei ws (w_ar ws (n_v vs 1) 8)) (w_ei ws (w_ar ws (n_v vs 1) 4)) (w_fi ws (n_v vs 1) 1) (w_ei w1 (w_ar ws (n_v vs 2) 2)) (w_ei w1 (w_ar ws (n_v vs 2) 3)) (w_fi w1 (n_v vs 0) 2) (w_fi w1 (n_v vs 0) 3) (w_fi w1 (n_v vs 0) 4) (w_fi w1 (n_v vs 0) 5) (w_fi w1 (n_v vs 1) 0) (w_fi w1 (n_v vs 0) 6) (w_ei w1 (w_ar ws (n_v vs 1) 7)) (w_ei w1 (w_ar ws (n_v vs 1) 8)) (w_ei w1 (w_ar ws (n_v vs 1) 4)) (w_fi w1 (n_v vs 1) 1) (w_ei w2 (w_ar ws (n_v vs 2) 2)) (w_ei w2 (w_ar ws (n_v vs 2) 3)) (w_fi w2 (n_v vs 0) 2) (w_fi w2 (n_v vs 0) 3) (w_fi w2 (n_v vs 0) 4) (w_fi w2 (n_v vs 0) 5) (w_fi w2 (n_v vs 1) 0) (w_fi w2 (n_v vs 0) 6) (w_ei w2 (w_ar ws (n_v vs 1) 7)) (w_ei w2 (w_ar ws (n_v vs 1) 8)) (w_ei w2 (w_ar ws (n_v vs 1) 4)) (w_fi w2 (n_v vs 1) 1) (w_ei w3 (w_ar ws (n_v vs 2) 2)) (w_ei w3 (w_ar ws (n_v vs 2) 3)) (w_fi w3 (n_v vs 0) 2) (w_fi w3 (n_v vs 0) 3) (w_fi w3 (n_v vs 0) 4) (w_fi w3 (n_v vs 0) 5) (w_fi w3 (n_v vs 1) 0) (w_fi w3 (n_v vs 0) 6) (w_ei w3 (w_ar ws (n_v vs 1) 7)) (w_ei w3 (w_ar ws (n_v vs 1) 8)) (w_ei w3 (w_ar ws (n_v vs 1) 4)) (w_fi w3 (n_v vs 1) 1) (w_ei w4 (w_ar ws (n_v vs 2) 2)) (w_ei w4 (w_ar ws (n_v vs 2) 3)) (w_fi w4 (n_v vs 0) 2) (w_fi w4 (n_v vs 0) 3) (w_fi w4 (n_v vs 0) 4) (w_fi w4 (n_v vs 0) 5) (w_fi w4 (n_v vs 1) 0) (w_ei w4 (w_ar ws (n_v vs 1) 7)) (w_ei w4 (w_ar ws (n_v vs 1) 8)) (w_ei w4 (w_ar ws (n_v vs 1) 4)) (w_fi w4 (n_v vs 1) 1) (w_fi w1 (n_v vs 0) 7) (w_fi w1 (n_v vs 0) 17) (w_fi w2 (n_v vs 0) 7) (w_fi w2 (n_v vs 0) 17) (w_fi w3 (n_v vs 0) 17) (w_ei ws (w_ar ws (n_v vs 2) 4)) (w_ei w1 (w_ar ws (n_v vs 2) 4)) (w_ei w2 (w_ar ws (n_v vs 2) 4)) (w_ei w3 (w_ar ws (n_v vs 2) 4)) (w_ei w4 (w_ar ws (n_v vs 2) 4)) k3 k14 k15 fe_0_2_1 fe_0_3_1 fe_0_4_1 fe_0_5_1 fe_0_6_1 fe_0_7_1 fe_0_17_1 fe_1_0_1 fe_1_1_1 fe_0_2_2 fe_0_3_2 fe_0_4_2 fe_0_5_2 fe_0_6_2 fe_0_7_2 fe_1_0_2 fe_1_1_2 fe_0_2_3 fe_0_3_3 fe_0_4_3 fe_0_5_3 fe_0_6_3 fe_0_17_3 fe_1_0_3 fe_1_1_3 fe_0_2_4 fe_0_3_4 fe_0_4_4 fe_0_5_4 fe_1_0_4 fe_1_1_4 hE_1_4_1 hE_1_4_2 hE_1_4_3 hE_1_4_4 hE_1_7_1 hE_1_7_2 hE_1_7_3 hE_1_7_4 hE_1_8_1 hE_1_8_2 hE_1_8_3 hE_1_8_4 hE_2_2_1 hE_2_2_2 hE_2_2_3 hE_2_2_4 hE_2_3_1 hE_2_3_2 hE_2_3_3 hE_2_3_4 hE_2_4_1 hE_2_4_2 hE_2_4_3 hE_2_4_4 kz_0_2 kz_0_3 kz_0_4 kz_0_5 kz_0_6 kz_0_7 kz_0_17 kz_1_0 kz_1_1)⟩
  have nf1 : fc_1 PRD (20, [0], [50, 1, 0, 17, 0, 3, 2, 0, 17, 0, 24]) ws (vs) := ⟨nf_in hl rfl, sgq_1920 (vc_Ro_lead_6_1 (v_iv (n_v vs 3)) (v_iv (n_v vs 11)) (v_iv (n_v vs 14)) (w_fi ws (n_v vs 0) 17) (w_fi ws (n_v vs 0) 7) (w_fi ws (n_v vs 0) 6) (w_ei ws (w_ar ws (n_v vs 2) 2)) (w_ei ws (w_ar ws (n_v vs 2) 3)) (w_fi ws (n_v vs 0) 2) (w_fi ws (n_v vs 0) 3) (w_fi ws (n_v vs 0) 4) (w_fi ws (n_v vs 0) 5) (w_fi ws (n_v vs 1) 0) (w_ei ws (w_ar ws (n_v vs 1) 7)) (w_ei ws (w_ar ws (n_v vs 1) 8)) (w_ei ws (w_ar ws (n_v vs 1) 4)) (w_fi ws (n_v vs 1) 1) (w_ei w1 (w_ar ws (n_v vs 2) 2)) (w_ei w1 (w_ar ws (n_v vs 2) 3)) (w_fi w1 (n_v vs 0) 2) (w_fi w1 (n_v vs 0) 3) (w_fi w1 (n_v vs 0) 4) (w_fi w1 (n_v vs 0) 5) (w_fi w1 (n_v vs 1) 0) (w_fi w1 (n_v vs 0) 6) (w_ei w1 (w_ar ws (n_v vs 1) 7)) (w_ei w1 (w_ar ws (n_v vs 1) 8)) (w_ei w1 (w_ar ws (n_v vs 1) 4)) (w_fi w1 (n_v vs 1) 1) (w_ei w2 (w_ar ws (n_v vs 2) 2)) (w_ei w2 (w_ar ws (n_v vs 2) 3)) (w_fi w2 (n_v vs 0) 2) (w_fi w2 (n_v vs 0) 3) (w_fi w2 (n_v vs 0) 4) (w_fi w2 (n_v vs 0) 5) (w_fi w2 (n_v vs 1) 0) (w_fi w2 (n_v vs 0) 6) (w_ei w2 (w_ar ws (n_v vs 1) 7)) (w_ei w2 (w_ar ws (n_v vs 1) 8)) (w_ei w2 (w_ar ws (n_v vs 1) 4)) (w_fi w2 (n_v vs 1) 1) (w_ei w3 (w_ar ws (n_v vs 2) 2)) (w_ei w3 (w_ar ws (n_v vs 2) 3)) (w_fi w3 (n_v vs 0) 2) (w_fi w3 (n_v vs 0) 3) (w_fi w3 (n_v vs 0) 4) (w_fi w3 (n_v vs 0) 5) (w_fi w3 (n_v vs 1) 0) (w_fi w3 (n_v vs 0) 6) (w_ei w3 (w_ar ws (n_v vs 1) 7)) (w_ei w3 (w_ar ws (n_v vs 1) 8)) (w_ei w3 (w_ar ws (n_v vs 1) 4)) (w_fi w3 (n_v vs 1) 1) (w_ei w4 (w_ar ws (n_v vs 2) 2)) (w_ei w4 (w_ar ws (n_v vs 2) 3)) (w_fi w4 (n_v vs 0) 2) (w_fi w4 (n_v vs 0) 3) (w_fi w4 (n_v vs 0) 4) (w_fi w4 (n_v vs 0) 5) (w_fi w4 (n_v vs 1) 0) (w_ei w4 (w_ar ws (n_v vs 1) 7)) (w_ei w4 (w_ar ws (n_v vs 1) 8)) (w_ei w4 (w_ar ws (n_v vs 1) 4)) (w_fi w4 (n_v vs 1) 1) (w_fi w1 (n_v vs 0) 7) (w_fi w1 (n_v vs 0) 17) (w_fi w2 (n_v vs 0) 7) (w_fi w2 (n_v vs 0) 17) (w_fi w3 (n_v vs 0) 17) (w_ei ws (w_ar ws (n_v vs 2) 4)) (w_ei w1 (w_ar ws (n_v vs 2) 4)) (w_ei w2 (w_ar ws (n_v vs 2) 4)) (w_ei w3 (w_ar ws (n_v vs 2) 4)) (w_ei w4 (w_ar ws (n_v vs 2) 4)) k3 k11 k14 g1 fe_0_2_1 fe_0_3_1 fe_0_4_1 fe_0_5_1 fe_0_6_1 fe_0_7_1 fe_0_17_1 fe_1_0_1 fe_1_1_1 fe_0_2_2 fe_0_3_2 fe_0_4_2 fe_0_5_2 fe_0_6_2 fe_0_7_2 fe_1_0_2 fe_1_1_2 fe_0_2_3 fe_0_3_3 fe_0_4_3 fe_0_5_3 fe_0_6_3 fe_0_17_3 fe_1_0_3 fe_1_1_3 fe_0_2_4 fe_0_3_4 fe_0_4_4 fe_0_5_4 fe_1_0_4 fe_1_1_4 hE_1_4_1 hE_1_4_2 hE_1_4_3 hE_1_4_4 hE_1_7_1 hE_1_7_2 hE_1_7_3 hE_1_7_4 hE_1_8_1 hE_1_8_2 hE_1_8_3 hE_1_8_4 hE_2_2_1 hE_2_2_2 hE_2_2_3 hE_2_2_4 hE_2_3_1 hE_2_3_2 hE_2_3_3 hE_2_3_4 hE_2_4_1 hE_2_4_2 hE_2_4_3 hE_2_4_4 kz_0_2 kz_0_3 kz_0_4 kz_0_5 kz_0_6 kz_0_7 kz_0_17 kz_1_0 kz_1_1)⟩
  refine ⟨(fun _ h => (by cases h)), [], trivial, ?_, (fun _ h => (by cases h))⟩
  rw [List.append_nil]
  exact List.forall_mem_cons.mpr ⟨⟨show (20 : Nat) < 100 from by decide, nf0⟩, List.forall_mem_cons.mpr ⟨⟨show (20 : Nat) < 100 from by decide, nf1⟩, (fun _ h => (by cases h))⟩⟩
set_option maxHeartbeats 4000000 in
theorem vc_Ro_lead_7_0 (x3 : Int) (goal_0 : Int) (start_0 : Int) (x_0o2 : Int → Int) (y_0o2 : Int → Int) (left_0 : Int) (top_0 : Int) (width_0 : Int) (height_0 : Int) (nodes_0o1 : Int) (tail_0o1 : Int → Int) (head_0o1 : Int → Int) (nameLength_0o1 : Int → Int) (edges_0o1 : Int) (x_1o2 : Int → Int) (y_1o2 : Int → Int) (left_1 : Int) (top_1 : Int) (width_1 : Int) (height_1 : Int) (nodes_1o1 : Int) (start_1 : Int) (tail_1o1 : Int → Int) (head_1o1 : Int → Int) (nameLength_1o1 : Int → Int) (edges_1o1 : Int) (x_2o2 : Int → Int) (y_2o2 : Int → Int) (left_2 : Int) (top_2 : Int) (width_2 : Int) (height_2 : Int) (nodes_2o1 : Int) (start_2 : Int) (tail_2o1 : Int → Int) (head_2o1 : Int → Int) (nameLength_2o1 : Int → Int) (edges_2o1 : Int) (x_3o2 : Int → Int) (y_3o2 : Int → Int) (left_3 : Int) (top_3 : Int) (width_3 : Int) (height_3 : Int) (nodes_3o1 : Int) (tail_3o1 : Int → Int) (head_3o1 : Int → Int) (nameLength_3o1 : Int → Int) (edges_3o1 : Int) (goal_1 : Int) (turns_1 : Int) (turns_2 : Int) (f55 : FRM (left_3) (top_3) (width_3) (height_3) (nodes_3o1) (nameLength_3o1) (x_3o2) (y_3o2)) (fe_0_2_1 : left_0 = left_1) (fe_0_3_1 : top_0 = top_1) (fe_0_4_1 : width_0 = width_1) (fe_0_5_1 : height_0 = height_1) (fe_0_6_1 : start_0 = start_1) (fe_0_7_1 : goal_0 = goal_1) (fe_1_0_1 : nodes_0o1 = nodes_1o1) (fe_1_1_1 : edges_0o1 = edges_1o1) (fe_0_2_2 : left_1 = left_2) (fe_0_3_2 : top_1 = top_2) (fe_0_4_2 : width_1 = width_2) (fe_0_5_2 : height_1 = height_2) (fe_0_6_2 : start_1 = start_2) (fe_0_17_2 : turns_1 = turns_2) (fe_1_0_2 : nodes_1o1 = nodes_2o1) (fe_1_1_2 : edges_1o1 = edges_2o1) (fe_0_2_3 : left_2 = left_3) (fe_0_3_3 : top_2 = top_3) (fe_0_4_3 : width_2 = width_3) (fe_0_5_3 : height_2 = height_3) (fe_1_0_3 : nodes_2o1 = nodes_3o1) (fe_1_1_3 : edges_2o1 = edges_3o1) (hE_1_4_1 : ∀ j : Int, nameLength_0o1 j = nameLength_1o1 j) (hE_1_4_2 : ∀ j : Int, nameLength_1o1 j = nameLength_2o1 j) (hE_1_4_3 : ∀ j : Int, nameLength_2o1 j = nameLength_3o1 j) (hE_1_7_1 : ∀ j : Int, tail_0o1 j = tail_1o1 j) (hE_1_7_2 : ∀ j : Int, tail_1o1 j = tail_2o1 j) (hE_1_7_3 : ∀ j : Int, tail_2o1 j = tail_3o1 j) (hE_1_8_1 : ∀ j : Int, head_0o1 j = head_1o1 j) (hE_1_8_2 : ∀ j : Int, head_1o1 j = head_2o1 j) (hE_1_8_3 : ∀ j : Int, head_2o1 j = head_3o1 j) (hE_2_2_1 : ∀ j : Int, x_0o2 j = x_1o2 j) (hE_2_2_2 : ∀ j : Int, x_1o2 j = x_2o2 j) (hE_2_2_3 : ∀ j : Int, x_2o2 j = x_3o2 j) (hE_2_3_1 : ∀ j : Int, y_0o2 j = y_1o2 j) (hE_2_3_2 : ∀ j : Int, y_1o2 j = y_2o2 j) (hE_2_3_3 : ∀ j : Int, y_2o2 j = y_3o2 j) (kz_0_2 : (-40000011) ≤ left_0 ∧ left_0 ≤ 1000000000) (kz_0_3 : (-40000003) ≤ top_0 ∧ top_0 ≤ 1000000000) (kz_0_4 : (-2147483648) ≤ width_0 ∧ width_0 ≤ 2147483647) (kz_0_5 : (-2147483648) ≤ height_0 ∧ height_0 ≤ 2147483647) (kz_0_6 : 0 ≤ start_0 ∧ start_0 ≤ 5999) (kz_0_7 : 0 ≤ goal_0 ∧ goal_0 ≤ 5999) (kz_1_0 : 0 ≤ nodes_0o1 ∧ nodes_0o1 ≤ 24) (kz_1_1 : 0 ≤ edges_0o1 ∧ edges_0o1 ≤ 48) : (1 ≤ width_0) ∧ ((1 ≤ height_0) ∧ ((width_0 * height_0) ≤ 6000)) := by
  subst fe_0_2_1
  subst fe_0_3_1
  subst fe_0_4_1
  subst fe_0_5_1
  subst fe_0_6_1
  subst fe_0_7_1
  subst fe_1_0_1
  subst fe_1_1_1
  subst fe_0_2_2
  subst fe_0_3_2
  subst fe_0_4_2
  subst fe_0_5_2
  subst fe_0_6_2
  subst fe_0_17_2
  subst fe_1_0_2
  subst fe_1_1_2
  subst fe_0_2_3
  subst fe_0_3_3
  subst fe_0_4_3
  subst fe_0_5_3
  subst fe_1_0_3
  subst fe_1_1_3
  have e_hE_1_4_1 := funext hE_1_4_1; subst e_hE_1_4_1
  have e_hE_1_4_2 := funext hE_1_4_2; subst e_hE_1_4_2
  have e_hE_1_4_3 := funext hE_1_4_3; subst e_hE_1_4_3
  have e_hE_1_7_1 := funext hE_1_7_1; subst e_hE_1_7_1
  have e_hE_1_7_2 := funext hE_1_7_2; subst e_hE_1_7_2
  have e_hE_1_7_3 := funext hE_1_7_3; subst e_hE_1_7_3
  have e_hE_1_8_1 := funext hE_1_8_1; subst e_hE_1_8_1
  have e_hE_1_8_2 := funext hE_1_8_2; subst e_hE_1_8_2
  have e_hE_1_8_3 := funext hE_1_8_3; subst e_hE_1_8_3
  have e_hE_2_2_1 := funext hE_2_2_1; subst e_hE_2_2_1
  have e_hE_2_2_2 := funext hE_2_2_2; subst e_hE_2_2_2
  have e_hE_2_2_3 := funext hE_2_2_3; subst e_hE_2_2_3
  have e_hE_2_3_1 := funext hE_2_3_1; subst e_hE_2_3_1
  have e_hE_2_3_2 := funext hE_2_3_2; subst e_hE_2_3_2
  have e_hE_2_3_3 := funext hE_2_3_3; subst e_hE_2_3_3
  first
    | omega
    | (have g := ‹GKE _ _ _ _› x3 (by omega) (by omega); omega)
    | assumption
    | (have e := (hE_2_4_1 x3 (by omega)).1 rfl; omega)
    | (have e := (hE_2_4_1 x3 (by omega)).1 (by omega); omega)
    | (have h := ‹FRM _ _ _ _ _ _ _ _›.1; exact h)
    | (have h := ‹FRM _ _ _ _ _ _ _ _›.1; omega)
  
set_option maxHeartbeats 4000000 in
theorem vc_Ro_lead_7_1 (x3 : Int) (x10 : Int) (goal_0 : Int) (start_0 : Int) (x_0o2 : Int → Int) (y_0o2 : Int → Int) (left_0 : Int) (top_0 : Int) (width_0 : Int) (height_0 : Int) (nodes_0o1 : Int) (tail_0o1 : Int → Int) (head_0o1 : Int → Int) (nameLength_0o1 : Int → Int) (edges_0o1 : Int) (x_1o2 : Int → Int) (y_1o2 : Int → Int) (left_1 : Int) (top_1 : Int) (width_1 : Int) (height_1 : Int) (nodes_1o1 : Int) (start_1 : Int) (tail_1o1 : Int → Int) (head_1o1 : Int → Int) (nameLength_1o1 : Int → Int) (edges_1o1 : Int) (x_2o2 : Int → Int) (y_2o2 : Int → Int) (left_2 : Int) (top_2 : Int) (width_2 : Int) (height_2 : Int) (nodes_2o1 : Int) (start_2 : Int) (tail_2o1 : Int → Int) (head_2o1 : Int → Int) (nameLength_2o1 : Int → Int) (edges_2o1 : Int) (x_3o2 : Int → Int) (y_3o2 : Int → Int) (left_3 : Int) (top_3 : Int) (width_3 : Int) (height_3 : Int) (nodes_3o1 : Int) (tail_3o1 : Int → Int) (head_3o1 : Int → Int) (nameLength_3o1 : Int → Int) (edges_3o1 : Int) (goal_1 : Int) (turns_1 : Int) (turns_2 : Int) (k10 : 0 ≤ x10 ∧ x10 ≤ 5999) (g3 : x10 = goal_0) (f6 : (0 ≤ x10) ∧ ((x10 + 1) ≤ (width_0 * height_0))) (fe_0_2_1 : left_0 = left_1) (fe_0_3_1 : top_0 = top_1) (fe_0_4_1 : width_0 = width_1) (fe_0_5_1 : height_0 = height_1) (fe_0_6_1 : start_0 = start_1) (fe_0_7_1 : goal_0 = goal_1) (fe_1_0_1 : nodes_0o1 = nodes_1o1) (fe_1_1_1 : edges_0o1 = edges_1o1) (fe_0_2_2 : left_1 = left_2) (fe_0_3_2 : top_1 = top_2) (fe_0_4_2 : width_1 = width_2) (fe_0_5_2 : height_1 = height_2) (fe_0_6_2 : start_1 = start_2) (fe_0_17_2 : turns_1 = turns_2) (fe_1_0_2 : nodes_1o1 = nodes_2o1) (fe_1_1_2 : edges_1o1 = edges_2o1) (fe_0_2_3 : left_2 = left_3) (fe_0_3_3 : top_2 = top_3) (fe_0_4_3 : width_2 = width_3) (fe_0_5_3 : height_2 = height_3) (fe_1_0_3 : nodes_2o1 = nodes_3o1) (fe_1_1_3 : edges_2o1 = edges_3o1) (hE_1_4_1 : ∀ j : Int, nameLength_0o1 j = nameLength_1o1 j) (hE_1_4_2 : ∀ j : Int, nameLength_1o1 j = nameLength_2o1 j) (hE_1_4_3 : ∀ j : Int, nameLength_2o1 j = nameLength_3o1 j) (hE_1_7_1 : ∀ j : Int, tail_0o1 j = tail_1o1 j) (hE_1_7_2 : ∀ j : Int, tail_1o1 j = tail_2o1 j) (hE_1_7_3 : ∀ j : Int, tail_2o1 j = tail_3o1 j) (hE_1_8_1 : ∀ j : Int, head_0o1 j = head_1o1 j) (hE_1_8_2 : ∀ j : Int, head_1o1 j = head_2o1 j) (hE_1_8_3 : ∀ j : Int, head_2o1 j = head_3o1 j) (hE_2_2_1 : ∀ j : Int, x_0o2 j = x_1o2 j) (hE_2_2_2 : ∀ j : Int, x_1o2 j = x_2o2 j) (hE_2_2_3 : ∀ j : Int, x_2o2 j = x_3o2 j) (hE_2_3_1 : ∀ j : Int, y_0o2 j = y_1o2 j) (hE_2_3_2 : ∀ j : Int, y_1o2 j = y_2o2 j) (hE_2_3_3 : ∀ j : Int, y_2o2 j = y_3o2 j) (kz_0_2 : (-40000011) ≤ left_0 ∧ left_0 ≤ 1000000000) (kz_0_3 : (-40000003) ≤ top_0 ∧ top_0 ≤ 1000000000) (kz_0_4 : (-2147483648) ≤ width_0 ∧ width_0 ≤ 2147483647) (kz_0_5 : (-2147483648) ≤ height_0 ∧ height_0 ≤ 2147483647) (kz_0_6 : 0 ≤ start_0 ∧ start_0 ≤ 5999) (kz_0_7 : 0 ≤ goal_0 ∧ goal_0 ≤ 5999) (kz_1_0 : 0 ≤ nodes_0o1 ∧ nodes_0o1 ≤ 24) (kz_1_1 : 0 ≤ edges_0o1 ∧ edges_0o1 ≤ 48) : (goal_0 + 1) ≤ (width_0 * height_0) := by
  subst fe_0_2_1
  subst fe_0_3_1
  subst fe_0_4_1
  subst fe_0_5_1
  subst fe_0_6_1
  subst fe_0_7_1
  subst fe_1_0_1
  subst fe_1_1_1
  subst fe_0_2_2
  subst fe_0_3_2
  subst fe_0_4_2
  subst fe_0_5_2
  subst fe_0_6_2
  subst fe_0_17_2
  subst fe_1_0_2
  subst fe_1_1_2
  subst fe_0_2_3
  subst fe_0_3_3
  subst fe_0_4_3
  subst fe_0_5_3
  subst fe_1_0_3
  subst fe_1_1_3
  have e_hE_1_4_1 := funext hE_1_4_1; subst e_hE_1_4_1
  have e_hE_1_4_2 := funext hE_1_4_2; subst e_hE_1_4_2
  have e_hE_1_4_3 := funext hE_1_4_3; subst e_hE_1_4_3
  have e_hE_1_7_1 := funext hE_1_7_1; subst e_hE_1_7_1
  have e_hE_1_7_2 := funext hE_1_7_2; subst e_hE_1_7_2
  have e_hE_1_7_3 := funext hE_1_7_3; subst e_hE_1_7_3
  have e_hE_1_8_1 := funext hE_1_8_1; subst e_hE_1_8_1
  have e_hE_1_8_2 := funext hE_1_8_2; subst e_hE_1_8_2
  have e_hE_1_8_3 := funext hE_1_8_3; subst e_hE_1_8_3
  have e_hE_2_2_1 := funext hE_2_2_1; subst e_hE_2_2_1
  have e_hE_2_2_2 := funext hE_2_2_2; subst e_hE_2_2_2
  have e_hE_2_2_3 := funext hE_2_2_3; subst e_hE_2_2_3
  have e_hE_2_3_1 := funext hE_2_3_1; subst e_hE_2_3_1
  have e_hE_2_3_2 := funext hE_2_3_2; subst e_hE_2_3_2
  have e_hE_2_3_3 := funext hE_2_3_3; subst e_hE_2_3_3
  first
    | omega
    | (have g := ‹GKE _ _ _ _› x3 (by omega) (by omega); omega)
    | assumption
    | (have e := (hE_2_4_1 x3 (by omega)).1 rfl; omega)
    | (have e := (hE_2_4_1 x3 (by omega)).1 (by omega); omega)
    | (have h := ‹FRM _ _ _ _ _ _ _ _›.1; exact h)
    | (have h := ‹FRM _ _ _ _ _ _ _ _›.1; omega)
  
set_option maxHeartbeats 4000000 in
theorem vc_Ro_lead_7_2 (x3 : Int) (x11 : Int) (turns_0 : Int) (goal_0 : Int) (start_0 : Int) (x_0o2 : Int → Int) (y_0o2 : Int → Int) (left_0 : Int) (top_0 : Int) (width_0 : Int) (height_0 : Int) (nodes_0o1 : Int) (tail_0o1 : Int → Int) (head_0o1 : Int → Int) (nameLength_0o1 : Int → Int) (edges_0o1 : Int) (x_1o2 : Int → Int) (y_1o2 : Int → Int) (left_1 : Int) (top_1 : Int) (width_1 : Int) (height_1 : Int) (nodes_1o1 : Int) (start_1 : Int) (tail_1o1 : Int → Int) (head_1o1 : Int → Int) (nameLength_1o1 : Int → Int) (edges_1o1 : Int) (x_2o2 : Int → Int) (y_2o2 : Int → Int) (left_2 : Int) (top_2 : Int) (width_2 : Int) (height_2 : Int) (nodes_2o1 : Int) (start_2 : Int) (tail_2o1 : Int → Int) (head_2o1 : Int → Int) (nameLength_2o1 : Int → Int) (edges_2o1 : Int) (x_3o2 : Int → Int) (y_3o2 : Int → Int) (left_3 : Int) (top_3 : Int) (width_3 : Int) (height_3 : Int) (nodes_3o1 : Int) (tail_3o1 : Int → Int) (head_3o1 : Int → Int) (nameLength_3o1 : Int → Int) (edges_3o1 : Int) (goal_1 : Int) (turns_1 : Int) (turns_2 : Int) (k11 : 0 ≤ x11 ∧ x11 ≤ 0) (g0 : x11 = turns_0) (fe_0_2_1 : left_0 = left_1) (fe_0_3_1 : top_0 = top_1) (fe_0_4_1 : width_0 = width_1) (fe_0_5_1 : height_0 = height_1) (fe_0_6_1 : start_0 = start_1) (fe_0_7_1 : goal_0 = goal_1) (fe_1_0_1 : nodes_0o1 = nodes_1o1) (fe_1_1_1 : edges_0o1 = edges_1o1) (fe_0_2_2 : left_1 = left_2) (fe_0_3_2 : top_1 = top_2) (fe_0_4_2 : width_1 = width_2) (fe_0_5_2 : height_1 = height_2) (fe_0_6_2 : start_1 = start_2) (fe_0_17_2 : turns_1 = turns_2) (fe_1_0_2 : nodes_1o1 = nodes_2o1) (fe_1_1_2 : edges_1o1 = edges_2o1) (fe_0_2_3 : left_2 = left_3) (fe_0_3_3 : top_2 = top_3) (fe_0_4_3 : width_2 = width_3) (fe_0_5_3 : height_2 = height_3) (fe_1_0_3 : nodes_2o1 = nodes_3o1) (fe_1_1_3 : edges_2o1 = edges_3o1) (hE_1_4_1 : ∀ j : Int, nameLength_0o1 j = nameLength_1o1 j) (hE_1_4_2 : ∀ j : Int, nameLength_1o1 j = nameLength_2o1 j) (hE_1_4_3 : ∀ j : Int, nameLength_2o1 j = nameLength_3o1 j) (hE_1_7_1 : ∀ j : Int, tail_0o1 j = tail_1o1 j) (hE_1_7_2 : ∀ j : Int, tail_1o1 j = tail_2o1 j) (hE_1_7_3 : ∀ j : Int, tail_2o1 j = tail_3o1 j) (hE_1_8_1 : ∀ j : Int, head_0o1 j = head_1o1 j) (hE_1_8_2 : ∀ j : Int, head_1o1 j = head_2o1 j) (hE_1_8_3 : ∀ j : Int, head_2o1 j = head_3o1 j) (hE_2_2_1 : ∀ j : Int, x_0o2 j = x_1o2 j) (hE_2_2_2 : ∀ j : Int, x_1o2 j = x_2o2 j) (hE_2_2_3 : ∀ j : Int, x_2o2 j = x_3o2 j) (hE_2_3_1 : ∀ j : Int, y_0o2 j = y_1o2 j) (hE_2_3_2 : ∀ j : Int, y_1o2 j = y_2o2 j) (hE_2_3_3 : ∀ j : Int, y_2o2 j = y_3o2 j) (kz_0_2 : (-40000011) ≤ left_0 ∧ left_0 ≤ 1000000000) (kz_0_3 : (-40000003) ≤ top_0 ∧ top_0 ≤ 1000000000) (kz_0_4 : (-2147483648) ≤ width_0 ∧ width_0 ≤ 2147483647) (kz_0_5 : (-2147483648) ≤ height_0 ∧ height_0 ≤ 2147483647) (kz_0_6 : 0 ≤ start_0 ∧ start_0 ≤ 5999) (kz_0_7 : 0 ≤ goal_0 ∧ goal_0 ≤ 5999) (kz_0_17 : 0 ≤ turns_0 ∧ turns_0 ≤ 6000) (kz_1_0 : 0 ≤ nodes_0o1 ∧ nodes_0o1 ≤ 24) (kz_1_1 : 0 ≤ edges_0o1 ∧ edges_0o1 ≤ 48) : 1 * turns_0 + 0 ≤ 0 := by
  subst fe_0_2_1
  subst fe_0_3_1
  subst fe_0_4_1
  subst fe_0_5_1
  subst fe_0_6_1
  subst fe_0_7_1
  subst fe_1_0_1
  subst fe_1_1_1
  subst fe_0_2_2
  subst fe_0_3_2
  subst fe_0_4_2
  subst fe_0_5_2
  subst fe_0_6_2
  subst fe_0_17_2
  subst fe_1_0_2
  subst fe_1_1_2
  subst fe_0_2_3
  subst fe_0_3_3
  subst fe_0_4_3
  subst fe_0_5_3
  subst fe_1_0_3
  subst fe_1_1_3
  have e_hE_1_4_1 := funext hE_1_4_1; subst e_hE_1_4_1
  have e_hE_1_4_2 := funext hE_1_4_2; subst e_hE_1_4_2
  have e_hE_1_4_3 := funext hE_1_4_3; subst e_hE_1_4_3
  have e_hE_1_7_1 := funext hE_1_7_1; subst e_hE_1_7_1
  have e_hE_1_7_2 := funext hE_1_7_2; subst e_hE_1_7_2
  have e_hE_1_7_3 := funext hE_1_7_3; subst e_hE_1_7_3
  have e_hE_1_8_1 := funext hE_1_8_1; subst e_hE_1_8_1
  have e_hE_1_8_2 := funext hE_1_8_2; subst e_hE_1_8_2
  have e_hE_1_8_3 := funext hE_1_8_3; subst e_hE_1_8_3
  have e_hE_2_2_1 := funext hE_2_2_1; subst e_hE_2_2_1
  have e_hE_2_2_2 := funext hE_2_2_2; subst e_hE_2_2_2
  have e_hE_2_2_3 := funext hE_2_2_3; subst e_hE_2_2_3
  have e_hE_2_3_1 := funext hE_2_3_1; subst e_hE_2_3_1
  have e_hE_2_3_2 := funext hE_2_3_2; subst e_hE_2_3_2
  have e_hE_2_3_3 := funext hE_2_3_3; subst e_hE_2_3_3
  first
    | omega
    | (have g := ‹GKE _ _ _ _› x3 (by omega) (by omega); omega)
    | assumption
    | (have e := (hE_2_4_1 x3 (by omega)).1 rfl; omega)
    | (have e := (hE_2_4_1 x3 (by omega)).1 (by omega); omega)
    | (have h := ‹FRM _ _ _ _ _ _ _ _›.1; exact h)
    | (have h := ‹FRM _ _ _ _ _ _ _ _›.1; omega)
  
def o_Ro_lead_7 : or_T := (86, 12, [(0, (2, 0, 0, [9])), (1, (2, 0, 0, [3])), (10, (0, 0, 5999, [])), (11, (0, 0, 0, []))], [(9, [11, 0], [17]), (9, [10, 0], [7]), (20, [10, 0], [50, 2, 0, 1004, 1005, 2, 6, 0, 2, 0, 0, 1, 0, 0, 6, 4, 2, 1, 0, 0, 1, 6, 3, 2, 1, 4, 2, 1, 5]), (101, [0, 11], [17]), (101, [0, 10], [7]), (101, [0, 9], [6]), (20, [0, 1, 2], [60, 5, 3, 839, 2, 3, 4, 5, 1000, 1004, 2002, 2003])], [], [], [(20, [0], [50, 2, 0, 4, 5, 2, 7, 0, 2, 0, 1, 2, 0, 4, 2, 7, 0, 2, 0, 1, 2, 0, 5, 0, 8, 6, 3, 2, 0, 4, 2, 0, 5, 0, 6000]), (20, [0], [50, 3, 0, 7, 4, 5, 0, 7, 4, 3, 2, 0, 7, 0, 1, 6, 3, 2, 0, 4, 2, 0, 5]), (20, [0], [30, 0, 1, 1, 17])], [], [])
theorem oo_Ro_lead_7 {kA : Nat → ClassId} : or_ok PRD kA GG o_Ro_lead_7 := by
  refine or_mk fun A ta ws vs hD hth hl => ?_
  intro t0 r0 t1 r1 t10 k10 t11 k11 f0 f3 f6 ta1 w1 le1 s1 ta2 w2 le2 s2 ta3 w3 le3 s3 f55
  replace f0 := shm_795 f0
  replace f3 := shm_198 f3
  have s1 : (∀ b j, w_el ws b j = w_el w1 b j) ∧ ∀ b j, w_fd ws b j = if b = v_ad (n_v vs 0) ∧ j = 17 then n_v vs 11 else w_fd w1 b j := s1.2
  have s2 : (∀ b j, w_el w1 b j = w_el w2 b j) ∧ ∀ b j, w_fd w1 b j = if b = v_ad (n_v vs 0) ∧ j = 7 then n_v vs 10 else w_fd w2 b j := s2.2
  have s3 : (∀ b j, w_el w2 b j = w_el w3 b j) ∧ ∀ b j, w_fd w2 b j = if b = v_ad (n_v vs 0) ∧ j = 6 then n_v vs 9 else w_fd w3 b j := s3.2
  replace f55 := shm_471 f55
  have ar_1_4_1 : w_ar w1 (n_v vs 1) 4 = w_ar ws (n_v vs 1) 4 := by show v_ad (w_fd w1 _ _) = v_ad (w_fd ws _ _); rw [s1.2, if_neg (fun e => absurd e.2 (by decide))]
  have ar_1_4_2 : w_ar w2 (n_v vs 1) 4 = w_ar ws (n_v vs 1) 4 := by rw [← ar_1_4_1]; show v_ad (w_fd w2 _ _) = v_ad (w_fd w1 _ _); rw [s2.2, if_neg (fun e => absurd e.2 (by decide))]
  have ar_1_4_3 : w_ar w3 (n_v vs 1) 4 = w_ar ws (n_v vs 1) 4 := by rw [← ar_1_4_2]; show v_ad (w_fd w3 _ _) = v_ad (w_fd w2 _ _); rw [s3.2, if_neg (fun e => absurd e.2 (by decide))]
  have ar_1_7_1 : w_ar w1 (n_v vs 1) 7 = w_ar ws (n_v vs 1) 7 := by show v_ad (w_fd w1 _ _) = v_ad (w_fd ws _ _); rw [s1.2, if_neg (fun e => absurd e.2 (by decide))]
  have ar_1_7_2 : w_ar w2 (n_v vs 1) 7 = w_ar ws (n_v vs 1) 7 := by rw [← ar_1_7_1]; show v_ad (w_fd w2 _ _) = v_ad (w_fd w1 _ _); rw [s2.2, if_neg (fun e => by have e1 := e.1; have e2 := r1; rw [e1, r0] at e2; exact absurd (Option.some.inj e2) (by decide))]
  have ar_1_7_3 : w_ar w3 (n_v vs 1) 7 = w_ar ws (n_v vs 1) 7 := by rw [← ar_1_7_2]; show v_ad (w_fd w3 _ _) = v_ad (w_fd w2 _ _); rw [s3.2, if_neg (fun e => absurd e.2 (by decide))]
  have ar_1_8_1 : w_ar w1 (n_v vs 1) 8 = w_ar ws (n_v vs 1) 8 := by show v_ad (w_fd w1 _ _) = v_ad (w_fd ws _ _); rw [s1.2, if_neg (fun e => absurd e.2 (by decide))]
  have ar_1_8_2 : w_ar w2 (n_v vs 1) 8 = w_ar ws (n_v vs 1) 8 := by rw [← ar_1_8_1]; show v_ad (w_fd w2 _ _) = v_ad (w_fd w1 _ _); rw [s2.2, if_neg (fun e => absurd e.2 (by decide))]
  have ar_1_8_3 : w_ar w3 (n_v vs 1) 8 = w_ar ws (n_v vs 1) 8 := by rw [← ar_1_8_2]; show v_ad (w_fd w3 _ _) = v_ad (w_fd w2 _ _); rw [s3.2, if_neg (fun e => absurd e.2 (by decide))]
  have ar_2_2_1 : w_ar w1 (n_v vs 2) 2 = w_ar ws (n_v vs 2) 2 := by show v_ad (w_fd w1 _ _) = v_ad (w_fd ws _ _); rw [s1.2, if_neg (fun e => absurd e.2 (by decide))]
  have ar_2_2_2 : w_ar w2 (n_v vs 2) 2 = w_ar ws (n_v vs 2) 2 := by rw [← ar_2_2_1]; show v_ad (w_fd w2 _ _) = v_ad (w_fd w1 _ _); rw [s2.2, if_neg (fun e => absurd e.2 (by decide))]
  have ar_2_2_3 : w_ar w3 (n_v vs 2) 2 = w_ar ws (n_v vs 2) 2 := by rw [← ar_2_2_2]; show v_ad (w_fd w3 _ _) = v_ad (w_fd w2 _ _); rw [s3.2, if_neg (fun e => absurd e.2 (by decide))]
  have ar_2_3_1 : w_ar w1 (n_v vs 2) 3 = w_ar ws (n_v vs 2) 3 := by show v_ad (w_fd w1 _ _) = v_ad (w_fd ws _ _); rw [s1.2, if_neg (fun e => absurd e.2 (by decide))]
  have ar_2_3_2 : w_ar w2 (n_v vs 2) 3 = w_ar ws (n_v vs 2) 3 := by rw [← ar_2_3_1]; show v_ad (w_fd w2 _ _) = v_ad (w_fd w1 _ _); rw [s2.2, if_neg (fun e => absurd e.2 (by decide))]
  have ar_2_3_3 : w_ar w3 (n_v vs 2) 3 = w_ar ws (n_v vs 2) 3 := by rw [← ar_2_3_2]; show v_ad (w_fd w3 _ _) = v_ad (w_fd w2 _ _); rw [s3.2, if_neg (fun e => absurd e.2 (by decide))]
  have g0 : v_iv (n_v vs 11) = w_fi ws (n_v vs 0) 17 := congrArg v_iv f0
  have g3 : v_iv (n_v vs 10) = w_fi ws (n_v vs 0) 7 := congrArg v_iv f3
  simp only [ar_2_2_1, ar_2_3_1, ar_1_7_1, ar_1_8_1, ar_1_4_1, ar_2_2_2, ar_2_3_2, ar_1_7_2, ar_1_8_2, ar_1_4_2, ar_2_2_3, ar_2_3_3, ar_1_7_3, ar_1_8_3, ar_1_4_3] at f55
  have fe_0_2_1 : w_fi ws (n_v vs 0) 2 = w_fi w1 (n_v vs 0) 2 := by show v_iv (w_fd _ _ _) = v_iv (w_fd _ _ _); rw [s1.2, if_neg (fun e => absurd e.2 (by decide))]
  have fe_0_3_1 : w_fi ws (n_v vs 0) 3 = w_fi w1 (n_v vs 0) 3 := by show v_iv (w_fd _ _ _) = v_iv (w_fd _ _ _); rw [s1.2, if_neg (fun e => absurd e.2 (by decide))]
  have fe_0_4_1 : w_fi ws (n_v vs 0) 4 = w_fi w1 (n_v vs 0) 4 := by show v_iv (w_fd _ _ _) = v_iv (w_fd _ _ _); rw [s1.2, if_neg (fun e => absurd e.2 (by decide))]
  have fe_0_5_1 : w_fi ws (n_v vs 0) 5 = w_fi w1 (n_v vs 0) 5 := by show v_iv (w_fd _ _ _) = v_iv (w_fd _ _ _); rw [s1.2, if_neg (fun e => absurd e.2 (by decide))]
  have fe_0_6_1 : w_fi ws (n_v vs 0) 6 = w_fi w1 (n_v vs 0) 6 := by show v_iv (w_fd _ _ _) = v_iv (w_fd _ _ _); rw [s1.2, if_neg (fun e => absurd e.2 (by decide))]
  have fe_0_7_1 : w_fi ws (n_v vs 0) 7 = w_fi w1 (n_v vs 0) 7 := by show v_iv (w_fd _ _ _) = v_iv (w_fd _ _ _); rw [s1.2, if_neg (fun e => absurd e.2 (by decide))]
  have fe_1_0_1 : w_fi ws (n_v vs 1) 0 = w_fi w1 (n_v vs 1) 0 := by show v_iv (w_fd _ _ _) = v_iv (w_fd _ _ _); rw [s1.2, if_neg (fun e => absurd e.2 (by decide))]
  have fe_1_1_1 : w_fi ws (n_v vs 1) 1 = w_fi w1 (n_v vs 1) 1 := by show v_iv (w_fd _ _ _) = v_iv (w_fd _ _ _); rw [s1.2, if_neg (fun e => absurd e.2 (by decide))]
  have fe_0_2_2 : w_fi w1 (n_v vs 0) 2 = w_fi w2 (n_v vs 0) 2 := by show v_iv (w_fd _ _ _) = v_iv (w_fd _ _ _); rw [s2.2, if_neg (fun e => absurd e.2 (by decide))]
  have fe_0_3_2 : w_fi w1 (n_v vs 0) 3 = w_fi w2 (n_v vs 0) 3 := by show v_iv (w_fd _ _ _) = v_iv (w_fd _ _ _); rw [s2.2, if_neg (fun e => absurd e.2 (by decide))]
  have fe_0_4_2 : w_fi w1 (n_v vs 0) 4 = w_fi w2 (n_v vs 0) 4 := by show v_iv (w_fd _ _ _) = v_iv (w_fd _ _ _); rw [s2.2, if_neg (fun e => absurd e.2 (by decide))]
  have fe_0_5_2 : w_fi w1 (n_v vs 0) 5 = w_fi w2 (n_v vs 0) 5 := by show v_iv (w_fd _ _ _) = v_iv (w_fd _ _ _); rw [s2.2, if_neg (fun e => absurd e.2 (by decide))]
  have fe_0_6_2 : w_fi w1 (n_v vs 0) 6 = w_fi w2 (n_v vs 0) 6 := by show v_iv (w_fd _ _ _) = v_iv (w_fd _ _ _); rw [s2.2, if_neg (fun e => absurd e.2 (by decide))]
  have fe_0_17_2 : w_fi w1 (n_v vs 0) 17 = w_fi w2 (n_v vs 0) 17 := by show v_iv (w_fd _ _ _) = v_iv (w_fd _ _ _); rw [s2.2, if_neg (fun e => absurd e.2 (by decide))]
  have fe_1_0_2 : w_fi w1 (n_v vs 1) 0 = w_fi w2 (n_v vs 1) 0 := by show v_iv (w_fd _ _ _) = v_iv (w_fd _ _ _); rw [s2.2, if_neg (fun e => absurd e.2 (by decide))]
  have fe_1_1_2 : w_fi w1 (n_v vs 1) 1 = w_fi w2 (n_v vs 1) 1 := by show v_iv (w_fd _ _ _) = v_iv (w_fd _ _ _); rw [s2.2, if_neg (fun e => absurd e.2 (by decide))]
  have fe_0_2_3 : w_fi w2 (n_v vs 0) 2 = w_fi w3 (n_v vs 0) 2 := by show v_iv (w_fd _ _ _) = v_iv (w_fd _ _ _); rw [s3.2, if_neg (fun e => absurd e.2 (by decide))]
  have fe_0_3_3 : w_fi w2 (n_v vs 0) 3 = w_fi w3 (n_v vs 0) 3 := by show v_iv (w_fd _ _ _) = v_iv (w_fd _ _ _); rw [s3.2, if_neg (fun e => absurd e.2 (by decide))]
  have fe_0_4_3 : w_fi w2 (n_v vs 0) 4 = w_fi w3 (n_v vs 0) 4 := by show v_iv (w_fd _ _ _) = v_iv (w_fd _ _ _); rw [s3.2, if_neg (fun e => absurd e.2 (by decide))]
  have fe_0_5_3 : w_fi w2 (n_v vs 0) 5 = w_fi w3 (n_v vs 0) 5 := by show v_iv (w_fd _ _ _) = v_iv (w_fd _ _ _); rw [s3.2, if_neg (fun e => absurd e.2 (by decide))]
  have fe_1_0_3 : w_fi w2 (n_v vs 1) 0 = w_fi w3 (n_v vs 1) 0 := by show v_iv (w_fd _ _ _) = v_iv (w_fd _ _ _); rw [s3.2, if_neg (fun e => absurd e.2 (by decide))]
  have fe_1_1_3 : w_fi w2 (n_v vs 1) 1 = w_fi w3 (n_v vs 1) 1 := by show v_iv (w_fd _ _ _) = v_iv (w_fd _ _ _); rw [s3.2, if_neg (fun e => absurd e.2 (by decide))]
  have hE_1_4_1 : ∀ j : Int, w_ei ws (w_ar ws (n_v vs 1) 4) j = w_ei w1 (w_ar ws (n_v vs 1) 4) j := fun j => s1.1 _ _
  have hE_1_4_2 : ∀ j : Int, w_ei w1 (w_ar ws (n_v vs 1) 4) j = w_ei w2 (w_ar ws (n_v vs 1) 4) j := fun j => s2.1 _ _
  have hE_1_4_3 : ∀ j : Int, w_ei w2 (w_ar ws (n_v vs 1) 4) j = w_ei w3 (w_ar ws (n_v vs 1) 4) j := fun j => s3.1 _ _
  have hE_1_7_1 : ∀ j : Int, w_ei ws (w_ar ws (n_v vs 1) 7) j = w_ei w1 (w_ar ws (n_v vs 1) 7) j := fun j => s1.1 _ _
  have hE_1_7_2 : ∀ j : Int, w_ei w1 (w_ar ws (n_v vs 1) 7) j = w_ei w2 (w_ar ws (n_v vs 1) 7) j := fun j => s2.1 _ _
  have hE_1_7_3 : ∀ j : Int, w_ei w2 (w_ar ws (n_v vs 1) 7) j = w_ei w3 (w_ar ws (n_v vs 1) 7) j := fun j => s3.1 _ _
  have hE_1_8_1 : ∀ j : Int, w_ei ws (w_ar ws (n_v vs 1) 8) j = w_ei w1 (w_ar ws (n_v vs 1) 8) j := fun j => s1.1 _ _
  have hE_1_8_2 : ∀ j : Int, w_ei w1 (w_ar ws (n_v vs 1) 8) j = w_ei w2 (w_ar ws (n_v vs 1) 8) j := fun j => s2.1 _ _
  have hE_1_8_3 : ∀ j : Int, w_ei w2 (w_ar ws (n_v vs 1) 8) j = w_ei w3 (w_ar ws (n_v vs 1) 8) j := fun j => s3.1 _ _
  have hE_2_2_1 : ∀ j : Int, w_ei ws (w_ar ws (n_v vs 2) 2) j = w_ei w1 (w_ar ws (n_v vs 2) 2) j := fun j => s1.1 _ _
  have hE_2_2_2 : ∀ j : Int, w_ei w1 (w_ar ws (n_v vs 2) 2) j = w_ei w2 (w_ar ws (n_v vs 2) 2) j := fun j => s2.1 _ _
  have hE_2_2_3 : ∀ j : Int, w_ei w2 (w_ar ws (n_v vs 2) 2) j = w_ei w3 (w_ar ws (n_v vs 2) 2) j := fun j => s3.1 _ _
  have hE_2_3_1 : ∀ j : Int, w_ei ws (w_ar ws (n_v vs 2) 3) j = w_ei w1 (w_ar ws (n_v vs 2) 3) j := fun j => s1.1 _ _
  have hE_2_3_2 : ∀ j : Int, w_ei w1 (w_ar ws (n_v vs 2) 3) j = w_ei w2 (w_ar ws (n_v vs 2) 3) j := fun j => s2.1 _ _
  have hE_2_3_3 : ∀ j : Int, w_ei w2 (w_ar ws (n_v vs 2) 3) j = w_ei w3 (w_ar ws (n_v vs 2) 3) j := fun j => s3.1 _ _
  have kz_0_2 := fdq_106 hD hth r0
  have kz_0_3 := fdq_107 hD hth r0
  have kz_0_4 := fdq_103 hD hth r0
  have kz_0_5 := fdq_104 hD hth r0
  have kz_0_6 := fdq_267 hD hth r0
  have kz_0_7 := fdq_269 hD hth r0
  have kz_0_17 := fdq_268 hD hth r0
  have kz_1_0 := fdq_21 hD hth r1
  have kz_1_1 := fdq_30 hD hth r1
  have nf0 : fc_1 PRD (20, [0], [50, 2, 0, 4, 5, 2, 7, 0, 2, 0, 1, 2, 0, 4, 2, 7, 0, 2, 0, 1, 2, 0, 5, 0, 8, 6, 3, 2, 0, 4, 2, 0, 5, 0, 6000]) ws (vs) := ⟨nf_in hl rfl, sgq_466 (vc_Ro_lead_7_0 (v_iv (n_v vs 3)) (w_fi ws (n_v vs 0) 7) (w_fi ws (n_v vs 0) 6) (w_ei ws (w_ar ws (n_v vs 2) 2)) (w_ei ws (w_ar ws (n_v vs 2) 3)) (w_fi ws (n_v vs 0) 2) (w_fi ws (n_v vs 0) 3) (w_fi ws (n_v vs 0) 4) (w_fi ws (n_v vs 0) 5) (w_fi ws (n_v vs 1) 0) (w_ei ws (w_ar ws (n_v vs 1) 7)) (w_ei ws (w_ar ws (n_v vs 1) 8)) (w_ei ws (w_ar ws (n_v vs 1) 4)) (w_fi ws (n_v vs 1) 1) (w_ei w1 (w_ar ws (n_v vs 2) 2)) (w_ei w1 (w_ar ws (n_v vs 2) 3)) (w_fi w1 (n_v vs 0) 2) (w_fi w1 (n_v vs 0) 3) (w_fi w1 (n_v vs 0) 4) (w_fi w1 (n_v vs 0) 5) (w_fi w1 (n_v vs 1) 0) (w_fi w1 (n_v vs 0) 6) (w_ei w1 (w_ar ws (n_v vs 1) 7)) (w_ei w1 (w_ar ws (n_v vs 1) 8)) (w_ei w1 (w_ar ws (n_v vs 1) 4)) (w_fi w1 (n_v vs 1) 1) (w_ei w2 (w_ar ws (n_v vs 2) 2)) (w_ei w2 (w_ar ws (n_v vs 2) 3)) (w_fi w2 (n_v vs 0) 2) (w_fi w2 (n_v vs 0) 3) (w_fi w2 (n_v vs 0) 4) (w_fi w2 (n_v vs 0) 5) (w_fi w2 (n_v vs 1) 0) (w_fi w2 (n_v vs 0) 6) (w_ei w2 (w_ar ws (n_v vs 1) 7)) (w_ei w2 (w_ar ws (n_v vs 1) 8)) (w_ei w2 (w_ar ws (n_v vs 1) 4)) (w_fi w2 (n_v vs 1) 1) (w_ei w3 (w_ar ws (n_v vs 2) 2)) (w_ei w3 (w_ar ws (n_v vs 2) 3)) (w_fi w3 (n_v vs 0) 2) (w_fi w3 (n_v vs 0) 3) (w_fi w3 (n_v vs 0) 4) (w_fi w3 (n_v vs 0) 5) (w_fi w3 (n_v vs 1) 0) (w_ei w3 (w_ar ws (n_v vs 1) 7)) (w_ei w3 (w_ar ws (n_v vs 1) 8)) (w_ei w3 (w_ar ws (n_v vs 1) 4)) (w_fi w3 (n_v vs 1) 1) (w_fi w1 (n_v vs 0) 7) (w_fi w1 (n_v vs 0) 17) (w_fi w2 (n_v vs 0) 17) f55 fe_0_2_1 fe_0_3_1 fe_0_4_1 fe_0_5_1 fe_0_6_1 fe_0_7_1 fe_1_0_1 fe_1_1_1 fe_0_2_2 fe_0_3_2 fe_0_4_2 fe_0_5_2 fe_0_6_2 fe_0_17_2 fe_1_0_2 fe_1_1_2 fe_0_2_3 fe_0_3_3 fe_0_4_3 fe_0_5_3 fe_1_0_3 fe_1_1_3 hE_1_4_1 hE_1_4_2 hE_1_4_3 hE_1_7_1 hE_1_7_2 hE_1_7_3 hE_1_8_1 hE_1_8_2 hE_1_8_3 hE_2_2_1 hE_2_2_2 hE_2_2_3 hE_2_3_1 hE_2_3_2 hE_2_3_3 kz_0_2 kz_0_3 kz_0_4 kz_0_5 kz_0_6 kz_0_7 kz_1_0 kz_1_1)⟩
  have nf1 : fc_1 PRD (20, [0], [50, 3, 0, 7, 4, 5, 0, 7, 4, 3, 2, 0, 7, 0, 1, 6, 3, 2, 0, 4, 2, 0, 5]) ws (vs) := ⟨nf_in hl rfl, sgq_1535 (vc_Ro_lead_7_1 (v_iv (n_v vs 3)) (v_iv (n_v vs 10)) (w_fi ws (n_v vs 0) 7) (w_fi ws (n_v vs 0) 6) (w_ei ws (w_ar ws (n_v vs 2) 2)) (w_ei ws (w_ar ws (n_v vs 2) 3)) (w_fi ws (n_v vs 0) 2) (w_fi ws (n_v vs 0) 3) (w_fi ws (n_v vs 0) 4) (w_fi ws (n_v vs 0) 5) (w_fi ws (n_v vs 1) 0) (w_ei ws (w_ar ws (n_v vs 1) 7)) (w_ei ws (w_ar ws (n_v vs 1) 8)) (w_ei ws (w_ar ws (n_v vs 1) 4)) (w_fi ws (n_v vs 1) 1) (w_ei w1 (w_ar ws (n_v vs 2) 2)) (w_ei w1 (w_ar ws (n_v vs 2) 3)) (w_fi w1 (n_v vs 0) 2) (w_fi w1 (n_v vs 0) 3) (w_fi w1 (n_v vs 0) 4) (w_fi w1 (n_v vs 0) 5) (w_fi w1 (n_v vs 1) 0) (w_fi w1 (n_v vs 0) 6) (w_ei w1 (w_ar ws (n_v vs 1) 7)) (w_ei w1 (w_ar ws (n_v vs 1) 8)) (w_ei w1 (w_ar ws (n_v vs 1) 4)) (w_fi w1 (n_v vs 1) 1) (w_ei w2 (w_ar ws (n_v vs 2) 2)) (w_ei w2 (w_ar ws (n_v vs 2) 3)) (w_fi w2 (n_v vs 0) 2) (w_fi w2 (n_v vs 0) 3) (w_fi w2 (n_v vs 0) 4) (w_fi w2 (n_v vs 0) 5) (w_fi w2 (n_v vs 1) 0) (w_fi w2 (n_v vs 0) 6) (w_ei w2 (w_ar ws (n_v vs 1) 7)) (w_ei w2 (w_ar ws (n_v vs 1) 8)) (w_ei w2 (w_ar ws (n_v vs 1) 4)) (w_fi w2 (n_v vs 1) 1) (w_ei w3 (w_ar ws (n_v vs 2) 2)) (w_ei w3 (w_ar ws (n_v vs 2) 3)) (w_fi w3 (n_v vs 0) 2) (w_fi w3 (n_v vs 0) 3) (w_fi w3 (n_v vs 0) 4) (w_fi w3 (n_v vs 0) 5) (w_fi w3 (n_v vs 1) 0) (w_ei w3 (w_ar ws (n_v vs 1) 7)) (w_ei w3 (w_ar ws (n_v vs 1) 8)) (w_ei w3 (w_ar ws (n_v vs 1) 4)) (w_fi w3 (n_v vs 1) 1) (w_fi w1 (n_v vs 0) 7) (w_fi w1 (n_v vs 0) 17) (w_fi w2 (n_v vs 0) 17) k10 g3 (shm_473 f6) fe_0_2_1 fe_0_3_1 fe_0_4_1 fe_0_5_1 fe_0_6_1 fe_0_7_1 fe_1_0_1 fe_1_1_1 fe_0_2_2 fe_0_3_2 fe_0_4_2 fe_0_5_2 fe_0_6_2 fe_0_17_2 fe_1_0_2 fe_1_1_2 fe_0_2_3 fe_0_3_3 fe_0_4_3 fe_0_5_3 fe_1_0_3 fe_1_1_3 hE_1_4_1 hE_1_4_2 hE_1_4_3 hE_1_7_1 hE_1_7_2 hE_1_7_3 hE_1_8_1 hE_1_8_2 hE_1_8_3 hE_2_2_1 hE_2_2_2 hE_2_2_3 hE_2_3_1 hE_2_3_2 hE_2_3_3 kz_0_2 kz_0_3 kz_0_4 kz_0_5 kz_0_6 kz_0_7 kz_1_0 kz_1_1)⟩
  have nf2 : fc_1 PRD (20, [0], [30, 0, 1, 1, 17]) ws (vs) := ⟨nf_in hl rfl, sgq_1120 (vc_Ro_lead_7_2 (v_iv (n_v vs 3)) (v_iv (n_v vs 11)) (w_fi ws (n_v vs 0) 17) (w_fi ws (n_v vs 0) 7) (w_fi ws (n_v vs 0) 6) (w_ei ws (w_ar ws (n_v vs 2) 2)) (w_ei ws (w_ar ws (n_v vs 2) 3)) (w_fi ws (n_v vs 0) 2) (w_fi ws (n_v vs 0) 3) (w_fi ws (n_v vs 0) 4) (w_fi ws (n_v vs 0) 5) (w_fi ws (n_v vs 1) 0) (w_ei ws (w_ar ws (n_v vs 1) 7)) (w_ei ws (w_ar ws (n_v vs 1) 8)) (w_ei ws (w_ar ws (n_v vs 1) 4)) (w_fi ws (n_v vs 1) 1) (w_ei w1 (w_ar ws (n_v vs 2) 2)) (w_ei w1 (w_ar ws (n_v vs 2) 3)) (w_fi w1 (n_v vs 0) 2) (w_fi w1 (n_v vs 0) 3) (w_fi w1 (n_v vs 0) 4) (w_fi w1 (n_v vs 0) 5) (w_fi w1 (n_v vs 1) 0) (w_fi w1 (n_v vs 0) 6) (w_ei w1 (w_ar ws (n_v vs 1) 7)) (w_ei w1 (w_ar ws (n_v vs 1) 8)) (w_ei w1 (w_ar ws (n_v vs 1) 4)) (w_fi w1 (n_v vs 1) 1) (w_ei w2 (w_ar ws (n_v vs 2) 2)) (w_ei w2 (w_ar ws (n_v vs 2) 3)) (w_fi w2 (n_v vs 0) 2) (w_fi w2 (n_v vs 0) 3) (w_fi w2 (n_v vs 0) 4) (w_fi w2 (n_v vs 0) 5) (w_fi w2 (n_v vs 1) 0) (w_fi w2 (n_v vs 0) 6) (w_ei w2 (w_ar ws (n_v vs 1) 7)) (w_ei w2 (w_ar ws (n_v vs 1) 8)) (w_ei w2 (w_ar ws (n_v vs 1) 4)) (w_fi w2 (n_v vs 1) 1) (w_ei w3 (w_ar ws (n_v vs 2) 2)) (w_ei w3 (w_ar ws (n_v vs 2) 3)) (w_fi w3 (n_v vs 0) 2) (w_fi w3 (n_v vs 0) 3) (w_fi w3 (n_v vs 0) 4) (w_fi w3 (n_v vs 0) 5) (w_fi w3 (n_v vs 1) 0) (w_ei w3 (w_ar ws (n_v vs 1) 7)) (w_ei w3 (w_ar ws (n_v vs 1) 8)) (w_ei w3 (w_ar ws (n_v vs 1) 4)) (w_fi w3 (n_v vs 1) 1) (w_fi w1 (n_v vs 0) 7) (w_fi w1 (n_v vs 0) 17) (w_fi w2 (n_v vs 0) 17) k11 g0 fe_0_2_1 fe_0_3_1 fe_0_4_1 fe_0_5_1 fe_0_6_1 fe_0_7_1 fe_1_0_1 fe_1_1_1 fe_0_2_2 fe_0_3_2 fe_0_4_2 fe_0_5_2 fe_0_6_2 fe_0_17_2 fe_1_0_2 fe_1_1_2 fe_0_2_3 fe_0_3_3 fe_0_4_3 fe_0_5_3 fe_1_0_3 fe_1_1_3 hE_1_4_1 hE_1_4_2 hE_1_4_3 hE_1_7_1 hE_1_7_2 hE_1_7_3 hE_1_8_1 hE_1_8_2 hE_1_8_3 hE_2_2_1 hE_2_2_2 hE_2_2_3 hE_2_3_1 hE_2_3_2 hE_2_3_3 kz_0_2 kz_0_3 kz_0_4 kz_0_5 kz_0_6 kz_0_7 kz_0_17 kz_1_0 kz_1_1)⟩
  refine ⟨(fun _ h => (by cases h)), [], trivial, ?_, (fun _ h => (by cases h))⟩
  rw [List.append_nil]
  exact List.forall_mem_cons.mpr ⟨⟨show (20 : Nat) < 100 from by decide, nf0⟩, List.forall_mem_cons.mpr ⟨⟨show (20 : Nat) < 100 from by decide, nf1⟩, List.forall_mem_cons.mpr ⟨⟨show (20 : Nat) < 100 from by decide, nf2⟩, (fun _ h => (by cases h))⟩⟩⟩
set_option maxHeartbeats 4000000 in
theorem vc_Ro_lead_8_0 (x3 : Int) (x17 : Int) (x18 : Int) (goal_0 : Int) (start_0 : Int) (width_0 : Int) (height_0 : Int) (x_0o2 : Int → Int) (y_0o2 : Int → Int) (left_0 : Int) (top_0 : Int) (nodes_0o1 : Int) (tail_0o1 : Int → Int) (head_0o1 : Int → Int) (nameLength_0o1 : Int → Int) (edges_0o1 : Int) (width_1 : Int) (height_1 : Int) (goal_1 : Int) (x_1o2 : Int → Int) (y_1o2 : Int → Int) (left_1 : Int) (top_1 : Int) (nodes_1o1 : Int) (start_1 : Int) (tail_1o1 : Int → Int) (head_1o1 : Int → Int) (nameLength_1o1 : Int → Int) (edges_1o1 : Int) (bends_0o2 : Int → Int) (bends_1o2 : Int → Int) (k3 : 0 ≤ x3 ∧ x3 ≤ 47) (k17 : 0 ≤ x17 ∧ x17 ≤ 0) (k18 : 0 ≤ x18 ∧ x18 ≤ 0) (fe_0_2_1 : left_0 = left_1) (fe_0_3_1 : top_0 = top_1) (fe_0_4_1 : width_0 = width_1) (fe_0_5_1 : height_0 = height_1) (fe_0_6_1 : start_0 = start_1) (fe_0_7_1 : goal_0 = goal_1) (fe_1_0_1 : nodes_0o1 = nodes_1o1) (fe_1_1_1 : edges_0o1 = edges_1o1) (hE_1_4_1 : ∀ j : Int, nameLength_0o1 j = nameLength_1o1 j) (hE_1_7_1 : ∀ j : Int, tail_0o1 j = tail_1o1 j) (hE_1_8_1 : ∀ j : Int, head_0o1 j = head_1o1 j) (hE_2_2_1 : ∀ j : Int, x_0o2 j = x_1o2 j) (hE_2_3_1 : ∀ j : Int, y_0o2 j = y_1o2 j) (hE_2_4_1 : ∀ j : Int, 0 ≤ j → (j = x3 → bends_0o2 j = x17) ∧ (j ≠ x3 → bends_0o2 j = bends_1o2 j)) (kz_0_2 : (-40000011) ≤ left_0 ∧ left_0 ≤ 1000000000) (kz_0_3 : (-40000003) ≤ top_0 ∧ top_0 ≤ 1000000000) (kz_0_4 : (-2147483648) ≤ width_0 ∧ width_0 ≤ 2147483647) (kz_0_5 : (-2147483648) ≤ height_0 ∧ height_0 ≤ 2147483647) (kz_0_6 : 0 ≤ start_0 ∧ start_0 ≤ 5999) (kz_0_7 : 0 ≤ goal_0 ∧ goal_0 ≤ 5999) (kz_1_0 : 0 ≤ nodes_0o1 ∧ nodes_0o1 ≤ 24) (kz_1_1 : 0 ≤ edges_0o1 ∧ edges_0o1 ≤ 48) : bends_0o2 (x3) ≤ x18 := by
  subst fe_0_2_1
  subst fe_0_3_1
  subst fe_0_4_1
  subst fe_0_5_1
  subst fe_0_6_1
  subst fe_0_7_1
  subst fe_1_0_1
  subst fe_1_1_1
  have e_hE_1_4_1 := funext hE_1_4_1; subst e_hE_1_4_1
  have e_hE_1_7_1 := funext hE_1_7_1; subst e_hE_1_7_1
  have e_hE_1_8_1 := funext hE_1_8_1; subst e_hE_1_8_1
  have e_hE_2_2_1 := funext hE_2_2_1; subst e_hE_2_2_1
  have e_hE_2_3_1 := funext hE_2_3_1; subst e_hE_2_3_1
  first
    | omega
    | (have g := ‹GKE _ _ _ _› x3 (by omega) (by omega); omega)
    | assumption
    | (have e := (hE_2_4_1 x3 (by omega)).1 rfl; omega)
    | (have e := (hE_2_4_1 x3 (by omega)).1 (by omega); omega)
    | (have h := ‹FRM _ _ _ _ _ _ _ _›.1; exact h)
    | (have h := ‹FRM _ _ _ _ _ _ _ _›.1; omega)
  
set_option maxHeartbeats 4000000 in
theorem vc_Ro_lead_8_1 (x3 : Int) (x14 : Int) (x17 : Int) (turns_0 : Int) (goal_0 : Int) (start_0 : Int) (width_0 : Int) (height_0 : Int) (x_0o2 : Int → Int) (y_0o2 : Int → Int) (left_0 : Int) (top_0 : Int) (nodes_0o1 : Int) (tail_0o1 : Int → Int) (head_0o1 : Int → Int) (nameLength_0o1 : Int → Int) (edges_0o1 : Int) (width_1 : Int) (height_1 : Int) (goal_1 : Int) (x_1o2 : Int → Int) (y_1o2 : Int → Int) (left_1 : Int) (top_1 : Int) (nodes_1o1 : Int) (start_1 : Int) (tail_1o1 : Int → Int) (head_1o1 : Int → Int) (nameLength_1o1 : Int → Int) (edges_1o1 : Int) (bends_0o2 : Int → Int) (bends_1o2 : Int → Int) (k3 : 0 ≤ x3 ∧ x3 ≤ 47) (k14 : 0 ≤ x14 ∧ x14 ≤ 24) (k17 : 0 ≤ x17 ∧ x17 ≤ 0) (g1 : x14 = turns_0) (fe_0_2_1 : left_0 = left_1) (fe_0_3_1 : top_0 = top_1) (fe_0_4_1 : width_0 = width_1) (fe_0_5_1 : height_0 = height_1) (fe_0_6_1 : start_0 = start_1) (fe_0_7_1 : goal_0 = goal_1) (fe_1_0_1 : nodes_0o1 = nodes_1o1) (fe_1_1_1 : edges_0o1 = edges_1o1) (hE_1_4_1 : ∀ j : Int, nameLength_0o1 j = nameLength_1o1 j) (hE_1_7_1 : ∀ j : Int, tail_0o1 j = tail_1o1 j) (hE_1_8_1 : ∀ j : Int, head_0o1 j = head_1o1 j) (hE_2_2_1 : ∀ j : Int, x_0o2 j = x_1o2 j) (hE_2_3_1 : ∀ j : Int, y_0o2 j = y_1o2 j) (hE_2_4_1 : ∀ j : Int, 0 ≤ j → (j = x3 → bends_0o2 j = x17) ∧ (j ≠ x3 → bends_0o2 j = bends_1o2 j)) (kz_0_2 : (-40000011) ≤ left_0 ∧ left_0 ≤ 1000000000) (kz_0_3 : (-40000003) ≤ top_0 ∧ top_0 ≤ 1000000000) (kz_0_4 : (-2147483648) ≤ width_0 ∧ width_0 ≤ 2147483647) (kz_0_5 : (-2147483648) ≤ height_0 ∧ height_0 ≤ 2147483647) (kz_0_6 : 0 ≤ start_0 ∧ start_0 ≤ 5999) (kz_0_7 : 0 ≤ goal_0 ∧ goal_0 ≤ 5999) (kz_0_17 : 0 ≤ turns_0 ∧ turns_0 ≤ 6000) (kz_1_0 : 0 ≤ nodes_0o1 ∧ nodes_0o1 ≤ 24) (kz_1_1 : 0 ≤ edges_0o1 ∧ edges_0o1 ≤ 48) : turns_0 ≤ 24 := by
  subst fe_0_2_1
  subst fe_0_3_1
  subst fe_0_4_1
  subst fe_0_5_1
  subst fe_0_6_1
  subst fe_0_7_1
  subst fe_1_0_1
  subst fe_1_1_1
  have e_hE_1_4_1 := funext hE_1_4_1; subst e_hE_1_4_1
  have e_hE_1_7_1 := funext hE_1_7_1; subst e_hE_1_7_1
  have e_hE_1_8_1 := funext hE_1_8_1; subst e_hE_1_8_1
  have e_hE_2_2_1 := funext hE_2_2_1; subst e_hE_2_2_1
  have e_hE_2_3_1 := funext hE_2_3_1; subst e_hE_2_3_1
  first
    | omega
    | (have g := ‹GKE _ _ _ _› x3 (by omega) (by omega); omega)
    | assumption
    | (have e := (hE_2_4_1 x3 (by omega)).1 rfl; omega)
    | (have e := (hE_2_4_1 x3 (by omega)).1 (by omega); omega)
    | (have h := ‹FRM _ _ _ _ _ _ _ _›.1; exact h)
    | (have h := ‹FRM _ _ _ _ _ _ _ _›.1; omega)
  
def o_Ro_lead_8 : or_T := (131, 19, [(0, (2, 0, 0, [9])), (1, (2, 0, 0, [3])), (2, (2, 0, 0, [0])), (3, (0, 0, 47, [])), (14, (0, 0, 24, [])), (16, (2, 0, 0, [16])), (17, (0, 0, 0, [])), (18, (0, 0, 0, []))], [(9, [16, 2], [4]), (9, [14, 0], [17]), (100, [16, 3, 17], [])], [], [], [(20, [2, 3, 18], [50, 0, 1, 4, 0, 5, 3, 0, 4, 1, 1, 1, 2]), (20, [0], [50, 1, 0, 17, 0, 3, 2, 0, 17, 0, 24])], [], [])
theorem oo_Ro_lead_8 {kA : Nat → ClassId} : or_ok PRD kA GG o_Ro_lead_8 := by
  refine or_mk fun A ta ws vs hD hth hl => ?_
  intro t0 r0 t1 r1 t2 r2 t3 k3 t14 k14 t16 r16 t17 k17 t18 k18 f0 f1 ta1 w1 le1 s1
  replace f0 := shm_108 f0
  replace f1 := shm_795 f1
  have s1 : (∀ b j, w_el ws b j = if b = v_ad (n_v vs 16) ∧ j = (v_iv (n_v vs 3)).toNat then v_iv (n_v vs 17) else w_el w1 b j) ∧ ∀ b k, w_fd ws b k = w_fd w1 b k := s1.2
  have cr_1_4 := fdq_4 hD hth r1
  have cr_1_7 := fdq_46 hD hth r1
  have cr_1_8 := fdq_47 hD hth r1
  have cr_2_2 := fdq_45 hD hth r2
  have cr_2_3 := fdq_48 hD hth r2
  have ad_16 : v_ad (n_v vs 16) = w_ar ws (n_v vs 2) 4 := congrArg v_ad f0
  have g1 : v_iv (n_v vs 14) = w_fi ws (n_v vs 0) 17 := congrArg v_iv f1
  have fe_0_2_1 : w_fi ws (n_v vs 0) 2 = w_fi w1 (n_v vs 0) 2 := congrArg v_iv (s1.2 _ _)
  have fe_0_3_1 : w_fi ws (n_v vs 0) 3 = w_fi w1 (n_v vs 0) 3 := congrArg v_iv (s1.2 _ _)
  have fe_0_4_1 : w_fi ws (n_v vs 0) 4 = w_fi w1 (n_v vs 0) 4 := congrArg v_iv (s1.2 _ _)
  have fe_0_5_1 : w_fi ws (n_v vs 0) 5 = w_fi w1 (n_v vs 0) 5 := congrArg v_iv (s1.2 _ _)
  have fe_0_6_1 : w_fi ws (n_v vs 0) 6 = w_fi w1 (n_v vs 0) 6 := congrArg v_iv (s1.2 _ _)
  have fe_0_7_1 : w_fi ws (n_v vs 0) 7 = w_fi w1 (n_v vs 0) 7 := congrArg v_iv (s1.2 _ _)
  have fe_1_0_1 : w_fi ws (n_v vs 1) 0 = w_fi w1 (n_v vs 1) 0 := congrArg v_iv (s1.2 _ _)
  have fe_1_1_1 : w_fi ws (n_v vs 1) 1 = w_fi w1 (n_v vs 1) 1 := congrArg v_iv (s1.2 _ _)
  have hE_1_4_1 : ∀ j : Int, w_ei ws (w_ar ws (n_v vs 1) 4) j = w_ei w1 (w_ar ws (n_v vs 1) 4) j := el_kp s1.1 r16 cr_1_4 (by decide)
  have hE_1_7_1 : ∀ j : Int, w_ei ws (w_ar ws (n_v vs 1) 7) j = w_ei w1 (w_ar ws (n_v vs 1) 7) j := el_kp s1.1 r16 cr_1_7 (by decide)
  have hE_1_8_1 : ∀ j : Int, w_ei ws (w_ar ws (n_v vs 1) 8) j = w_ei w1 (w_ar ws (n_v vs 1) 8) j := el_kp s1.1 r16 cr_1_8 (by decide)
  have hE_2_2_1 : ∀ j : Int, w_ei ws (w_ar ws (n_v vs 2) 2) j = w_ei w1 (w_ar ws (n_v vs 2) 2) j := el_kp s1.1 r16 cr_2_2 (by decide)
  have hE_2_3_1 : ∀ j : Int, w_ei ws (w_ar ws (n_v vs 2) 3) j = w_ei w1 (w_ar ws (n_v vs 2) 3) j := el_kp s1.1 r16 cr_2_3 (by decide)
  have hE_2_4_1 : ∀ j : Int, 0 ≤ j → (j = v_iv (n_v vs 3) → w_ei ws (w_ar ws (n_v vs 2) 4) j = v_iv (n_v vs 17)) ∧ (j ≠ v_iv (n_v vs 3) → w_ei ws (w_ar ws (n_v vs 2) 4) j = w_ei w1 (w_ar ws (n_v vs 2) 4) j) := fun j hj => ⟨fun h => by unfold w_ei; rw [s1.1, if_pos ⟨ad_16.symm, by rw [h]⟩], fun h => by unfold w_ei; rw [s1.1, if_neg (fun e => h (by have := e.2; omega))]⟩
  have kz_0_2 := fdq_106 hD hth r0
  have kz_0_3 := fdq_107 hD hth r0
  have kz_0_4 := fdq_103 hD hth r0
  have kz_0_5 := fdq_104 hD hth r0
  have kz_0_6 := fdq_267 hD hth r0
  have kz_0_7 := fdq_269 hD hth r0
  have kz_0_17 := fdq_268 hD hth r0
  have kz_1_0 := fdq_21 hD hth r1
  have kz_1_1 := fdq_30 hD hth r1
  have nf0 : fc_1 PRD (20, [2, 3, 18], [50, 0, 1, 4, 0, 5, 3, 0, 4, 1, 1, 1, 2]) ws (vs) := ⟨nf_in hl rfl, sgq_1609 (vc_Ro_lead_8_0 (v_iv (n_v vs 3)) (v_iv (n_v vs 17)) (v_iv (n_v vs 18)) (w_fi ws (n_v vs 0) 7) (w_fi ws (n_v vs 0) 6) (w_fi ws (n_v vs 0) 4) (w_fi ws (n_v vs 0) 5) (w_ei ws (w_ar ws (n_v vs 2) 2)) (w_ei ws (w_ar ws (n_v vs 2) 3)) (w_fi ws (n_v vs 0) 2) (w_fi ws (n_v vs 0) 3) (w_fi ws (n_v vs 1) 0) (w_ei ws (w_ar ws (n_v vs 1) 7)) (w_ei ws (w_ar ws (n_v vs 1) 8)) (w_ei ws (w_ar ws (n_v vs 1) 4)) (w_fi ws (n_v vs 1) 1) (w_fi w1 (n_v vs 0) 4) (w_fi w1 (n_v vs 0) 5) (w_fi w1 (n_v vs 0) 7) (w_ei w1 (w_ar ws (n_v vs 2) 2)) (w_ei w1 (w_ar ws (n_v vs 2) 3)) (w_fi w1 (n_v vs 0) 2) (w_fi w1 (n_v vs 0) 3) (w_fi w1 (n_v vs 1) 0) (w_fi w1 (n_v vs 0) 6) (w_ei w1 (w_ar ws (n_v vs 1) 7)) (w_ei w1 (w_ar ws (n_v vs 1) 8)) (w_ei w1 (w_ar ws (n_v vs 1) 4)) (w_fi w1 (n_v vs 1) 1) (w_ei ws (w_ar ws (n_v vs 2) 4)) (w_ei w1 (w_ar ws (n_v vs 2) 4)) k3 k17 k18 fe_0_2_1 fe_0_3_1 fe_0_4_1 fe_0_5_1 fe_0_6_1 fe_0_7_1 fe_1_0_1 fe_1_1_1 hE_1_4_1 hE_1_7_1 hE_1_8_1 hE_2_2_1 hE_2_3_1 hE_2_4_1 kz_0_2 kz_0_3 kz_0_4 kz_0_5 kz_0_6 kz_0_7 kz_1_0 kz_1_1)⟩
  have nf1 : fc_1 PRD (20, [0], [50, 1, 0, 17, 0, 3, 2, 0, 17, 0, 24]) ws (vs) := ⟨nf_in hl rfl, sgq_1920 (vc_Ro_lead_8_1 (v_iv (n_v vs 3)) (v_iv (n_v vs 14)) (v_iv (n_v vs 17)) (w_fi ws (n_v vs 0) 17) (w_fi ws (n_v vs 0) 7) (w_fi ws (n_v vs 0) 6) (w_fi ws (n_v vs 0) 4) (w_fi ws (n_v vs 0) 5) (w_ei ws (w_ar ws (n_v vs 2) 2)) (w_ei ws (w_ar ws (n_v vs 2) 3)) (w_fi ws (n_v vs 0) 2) (w_fi ws (n_v vs 0) 3) (w_fi ws (n_v vs 1) 0) (w_ei ws (w_ar ws (n_v vs 1) 7)) (w_ei ws (w_ar ws (n_v vs 1) 8)) (w_ei ws (w_ar ws (n_v vs 1) 4)) (w_fi ws (n_v vs 1) 1) (w_fi w1 (n_v vs 0) 4) (w_fi w1 (n_v vs 0) 5) (w_fi w1 (n_v vs 0) 7) (w_ei w1 (w_ar ws (n_v vs 2) 2)) (w_ei w1 (w_ar ws (n_v vs 2) 3)) (w_fi w1 (n_v vs 0) 2) (w_fi w1 (n_v vs 0) 3) (w_fi w1 (n_v vs 1) 0) (w_fi w1 (n_v vs 0) 6) (w_ei w1 (w_ar ws (n_v vs 1) 7)) (w_ei w1 (w_ar ws (n_v vs 1) 8)) (w_ei w1 (w_ar ws (n_v vs 1) 4)) (w_fi w1 (n_v vs 1) 1) (w_ei ws (w_ar ws (n_v vs 2) 4)) (w_ei w1 (w_ar ws (n_v vs 2) 4)) k3 k14 k17 g1 fe_0_2_1 fe_0_3_1 fe_0_4_1 fe_0_5_1 fe_0_6_1 fe_0_7_1 fe_1_0_1 fe_1_1_1 hE_1_4_1 hE_1_7_1 hE_1_8_1 hE_2_2_1 hE_2_3_1 hE_2_4_1 kz_0_2 kz_0_3 kz_0_4 kz_0_5 kz_0_6 kz_0_7 kz_0_17 kz_1_0 kz_1_1)⟩
  refine ⟨(fun _ h => (by cases h)), [], trivial, ?_, (fun _ h => (by cases h))⟩
  rw [List.append_nil]
  exact List.forall_mem_cons.mpr ⟨⟨show (20 : Nat) < 100 from by decide, nf0⟩, List.forall_mem_cons.mpr ⟨⟨show (20 : Nat) < 100 from by decide, nf1⟩, (fun _ h => (by cases h))⟩⟩
set_option maxHeartbeats 4000000 in
theorem vc_Ro_lead_9_r0 (x3 : Int) (x6 : Int) (x9 : Int) (turns_0 : Int) (k6 : 0 ≤ x6 ∧ x6 ≤ 24) (k9 : 1 ≤ x9 ∧ x9 ≤ 6000) (d0 : x9 + (-4294967296) ≤ x6 ∧ x6 ≤ x9 + (-1)) (g1 : x9 = turns_0) (f3 : turns_0 ≤ 24) (kz_0_17 : 0 ≤ turns_0 ∧ turns_0 ≤ 6000) : 0 ≤ x6 ∧ x6 ≤ 23 := by
  first
    | omega
    | (have g := ‹GKE _ _ _ _› x3 (by omega) (by omega); omega)
    | assumption
    | (have e := (hE_2_4_1 x3 (by omega)).1 rfl; omega)
    | (have e := (hE_2_4_1 x3 (by omega)).1 (by omega); omega)
    | (have h := ‹FRM _ _ _ _ _ _ _ _›.1; exact h)
    | (have h := ‹FRM _ _ _ _ _ _ _ _›.1; omega)
  
def o_Ro_lead_9 : or_T := (151, 11, [(0, (2, 0, 0, [9])), (3, (0, 0, 47, [])), (6, (0, 0, 24, [])), (8, (2, 0, 0, [0])), (9, (0, 1, 6000, []))], [(7, [6, 9], [2]), (9, [9, 0], [17]), (20, [8, 3, 6], [50, 0, 1, 4, 0, 5, 3, 0, 4, 1, 1, 1, 2]), (20, [0], [50, 1, 0, 17, 0, 3, 2, 0, 17, 0, 24])], [(6, (0, 0, 23, []))], [], [], [], [(6, 9, -4294967296, -1)])
theorem oo_Ro_lead_9 {kA : Nat → ClassId} : or_ok PRD kA GG o_Ro_lead_9 := by
  refine or_mk fun A ta ws vs hD hth hl => ?_
  intro t0 r0 t3 k3 t6 k6 t8 r8 t9 k9 d0 f0 f1 f2 f3
  replace f1 := shm_795 f1
  have g1 : v_iv (n_v vs 9) = w_fi ws (n_v vs 0) 17 := congrArg v_iv f1
  have kz_0_17 := fdq_268 hD hth r0
  have hrf0 : 0 ≤ v_iv (n_v vs 6) ∧ v_iv (n_v vs 6) ≤ 23 := vc_Ro_lead_9_r0 (v_iv (n_v vs 3)) (v_iv (n_v vs 6)) (v_iv (n_v vs 9)) (w_fi ws (n_v vs 0) 17) k6 k9 d0 g1 (shm_1920 f3) kz_0_17
  have rf6 : tv_ok ta (0, 0, 23, []) (n_v vs 6) := tv_in t6 (by first | omega | grind) (by first | omega | grind)
  refine ⟨List.forall_mem_cons.mpr ⟨rf6, (fun _ h => (by cases h))⟩, [], trivial, ?_, (fun _ h => (by cases h))⟩
  rw [List.append_nil]
  exact (fun _ h => (by cases h))
set_option maxHeartbeats 4000000 in
theorem vc_Ro_lead_10_0 (x3 : Int) (bends_0o8 : Int → Int) (gx : Int) (k3 : 0 ≤ x3 ∧ x3 ≤ 47) (ex2 : gx = bends_0o8 (x3)) : 1 * bends_0o8 (x3) + ((-1) * gx + 0) ≤ 0 := by
  first
    | omega
    | (have g := ‹GKE _ _ _ _› x3 (by omega) (by omega); omega)
    | assumption
    | (have e := (hE_2_4_1 x3 (by omega)).1 rfl; omega)
    | (have e := (hE_2_4_1 x3 (by omega)).1 (by omega); omega)
    | (have h := ‹FRM _ _ _ _ _ _ _ _›.1; exact h)
    | (have h := ‹FRM _ _ _ _ _ _ _ _›.1; omega)
  
set_option maxHeartbeats 4000000 in
theorem vc_Ro_lead_10_1 (x3 : Int) (x6 : Int) (bends_0o8 : Int → Int) (gx : Int) (k3 : 0 ≤ x3 ∧ x3 ≤ 47) (k6 : 0 ≤ x6 ∧ x6 ≤ 23) (f2 : bends_0o8 (x3) ≤ x6) (ex2 : gx = bends_0o8 (x3)) : 1 * gx + ((-1) * x6 + 0) ≤ 0 := by
  first
    | omega
    | (have g := ‹GKE _ _ _ _› x3 (by omega) (by omega); omega)
    | assumption
    | (have e := (hE_2_4_1 x3 (by omega)).1 rfl; omega)
    | (have e := (hE_2_4_1 x3 (by omega)).1 (by omega); omega)
    | (have h := ‹FRM _ _ _ _ _ _ _ _›.1; exact h)
    | (have h := ‹FRM _ _ _ _ _ _ _ _›.1; omega)
  
def o_Ro_lead_10 : or_T := (159, 14, [(0, (2, 0, 0, [9])), (3, (0, 0, 47, [])), (6, (0, 0, 23, [])), (8, (2, 0, 0, [0])), (9, (0, 1, 6000, []))], [(7, [6, 9], [2]), (9, [9, 0], [17]), (20, [8, 3, 6], [50, 0, 1, 4, 0, 5, 3, 0, 4, 1, 1, 1, 2]), (20, [0], [50, 1, 0, 17, 0, 3, 2, 0, 17, 0, 24])], [], [(0, 0, 23, [])], [(20, [8, 3, 14], [30, 0, 1, 2, 4, -1, 0, 0]), (23, [14, 6], [0, 1, -1])], [], [(6, 9, -4294967296, -1)])
theorem oo_Ro_lead_10 {kA : Nat → ClassId} : or_ok PRD kA GG o_Ro_lead_10 := by
  refine or_mk fun A ta ws vs hD hth hl => ?_
  intro t0 r0 t3 k3 t6 k6 t8 r8 t9 k9 d0 f0 f1 f2 f3
  replace f0 := shm_6 f0
  replace f1 := shm_795 f1
  replace f2 := shm_1609 f2
  replace f3 := shm_1920 f3
  have cr_8_4 := fdq_1 hD hth r8
  have g1 : v_iv (n_v vs 9) = w_fi ws (n_v vs 0) 17 := congrArg v_iv f1
  have hK_8_4 := elq_0 hD hth cr_8_4
  have kz_0_17 := fdq_268 hD hth r0
  have kv0 := th_el hD hth cr_8_4 (kd := 0) (n := 48) (m := 48) (lo := 0) (hi := 24) (rs := []) (L := []) rfl (by decide) (j := (v_iv (n_v vs 3)).toNat) (by omega)
  have kw0 : w_el ws (w_ar ws (n_v vs 8) 4) (v_iv (n_v vs 3)).toNat = w_ei ws (w_ar ws (n_v vs 8) 4) (v_iv (n_v vs 3)) := rfl
  obtain ⟨x, ex, hx⟩ := iv_ex (ta := ta) (lo := 0) (hi := 23) (z := w_el ws (w_ar ws (n_v vs 8) 4) (v_iv (n_v vs 3)).toNat) (by omega) (by omega) (by omega) (by omega)
  have ex2 : v_iv (Value.int x) = w_el ws (w_ar ws (n_v vs 8) 4) (v_iv (n_v vs 3)).toNat := ex
  have ex3 : 0 ≤ v_iv (Value.int x) ∧ v_iv (Value.int x) ≤ 23 := tv_rng hx
  have e_3 : n_v (vs ++ [Value.int x]) 3 = n_v vs 3 := n_v_old (by rw [hl]; decide)
  have e_6 : n_v (vs ++ [Value.int x]) 6 = n_v vs 6 := n_v_old (by rw [hl]; decide)
  have e_8 : n_v (vs ++ [Value.int x]) 8 = n_v vs 8 := n_v_old (by rw [hl]; decide)
  have e_14 : n_v (vs ++ [Value.int x]) 14 = Value.int x := n_v_new hl
  have nf0 : fc_1 PRD (20, [8, 3, 14], [30, 0, 1, 2, 4, -1, 0, 0]) ws (vs ++ [Value.int x]) := by
    refine ⟨nf_inA hl rfl, sgq_109 ?_⟩
    · show 1 * w_el ws (w_ar ws (n_v (vs ++ [Value.int x]) 8) 4) (v_iv (n_v (vs ++ [Value.int x]) 3)).toNat + ((-1) * v_iv (n_v (vs ++ [Value.int x]) 14) + 0) ≤ 0
      simp only [e_3, e_8, e_14]
      exact vc_Ro_lead_10_0 (v_iv (n_v vs 3)) (w_ei ws (w_ar ws (n_v vs 8) 4)) (v_iv (Value.int x)) k3 ex2
  have nf1 : fc_1 PRD (23, [14, 6], [0, 1, -1]) ws (vs ++ [Value.int x]) := by
    refine ⟨nf_inA hl rfl, sgq_7 ?_⟩
    · show 1 * v_iv (n_v (vs ++ [Value.int x]) 14) + ((-1) * v_iv (n_v (vs ++ [Value.int x]) 6) + 0) ≤ 0
      simp only [e_6, e_14]
      exact vc_Ro_lead_10_1 (v_iv (n_v vs 3)) (v_iv (n_v vs 6)) (w_ei ws (w_ar ws (n_v vs 8) 4)) (v_iv (Value.int x)) k3 k6 f2 ex2
  exact ⟨(fun _ h => (by cases h)), [Value.int x], ag_one hx, List.forall_mem_cons.mpr ⟨⟨show (20 : Nat) < 100 from by decide, nf0⟩, List.forall_mem_cons.mpr ⟨⟨show (23 : Nat) < 100 from by decide, nf1⟩, (fun _ h => (by cases h))⟩⟩, (fun _ h => (by cases h))⟩
set_option maxHeartbeats 4000000 in
theorem vc_Ro_lead_11_0 (x3 : Int) (x6 : Int) (x14 : Int) (x15 : Int) (bends_0o8 : Int → Int) (k3 : 0 ≤ x3 ∧ x3 ≤ 47) (k6 : 0 ≤ x6 ∧ x6 ≤ 23) (k14 : 0 ≤ x14 ∧ x14 ≤ 23) (k15 : 1 ≤ x15 ∧ x15 ≤ 24) (d0 : x6 + 1 ≤ x15 ∧ x15 ≤ x6 + 1) (f2 : 1 * x14 + ((-1) * x6 + 0) ≤ 0) (f4 : 1 * bends_0o8 (x3) + ((-1) * x14 + 0) ≤ 1) : bends_0o8 (x3) ≤ x15 := by
  first
    | omega
    | (have g := ‹GKE _ _ _ _› x3 (by omega) (by omega); omega)
    | assumption
    | (have e := (hE_2_4_1 x3 (by omega)).1 rfl; omega)
    | (have e := (hE_2_4_1 x3 (by omega)).1 (by omega); omega)
    | (have h := ‹FRM _ _ _ _ _ _ _ _›.1; exact h)
    | (have h := ‹FRM _ _ _ _ _ _ _ _›.1; omega)
  
def o_Ro_lead_11 : or_T := (131, 16, [(0, (2, 0, 0, [9])), (3, (0, 0, 47, [])), (6, (0, 0, 23, [])), (8, (2, 0, 0, [0])), (9, (0, 1, 6000, [])), (14, (0, 0, 23, [])), (15, (0, 1, 24, []))], [(9, [9, 0], [17]), (6, [15, 6], [1]), (23, [14, 6], [0, 1, -1]), (20, [0], [50, 1, 0, 17, 0, 3, 2, 0, 17, 0, 24]), (20, [8, 3, 14], [30, 1, 1, 2, 4, -1, 0, 0]), (102, [14], [458752]), (23, [14, 6], [0, 1, -1]), (7, [6, 9], [2])], [], [], [(20, [8, 3, 15], [50, 0, 1, 4, 0, 5, 3, 0, 4, 1, 1, 1, 2])], [], [(15, 6, 1, 1), (15, 9, -4294967296, 0), (6, 9, -4294967296, -1)])
theorem oo_Ro_lead_11 {kA : Nat → ClassId} : or_ok PRD kA GG o_Ro_lead_11 := by
  refine or_mk fun A ta ws vs hD hth hl => ?_
  intro t0 r0 t3 k3 t6 k6 t8 r8 t9 k9 t14 k14 t15 k15 d0 d1 d2 f0 f1 f2 f3 f4 ta1 w1 le1 s1 f6 f7
  have nf0 : fc_1 PRD (20, [8, 3, 15], [50, 0, 1, 4, 0, 5, 3, 0, 4, 1, 1, 1, 2]) ws (vs) := ⟨nf_in hl rfl, sgq_1609 (vc_Ro_lead_11_0 (v_iv (n_v vs 3)) (v_iv (n_v vs 6)) (v_iv (n_v vs 14)) (v_iv (n_v vs 15)) (w_ei ws (w_ar ws (n_v vs 8) 4)) k3 k6 k14 k15 d0 (shm_7 f2) (shm_112 f4))⟩
  refine ⟨(fun _ h => (by cases h)), [], trivial, ?_, (fun _ h => (by cases h))⟩
  rw [List.append_nil]
  exact List.forall_mem_cons.mpr ⟨⟨show (20 : Nat) < 100 from by decide, nf0⟩, (fun _ h => (by cases h))⟩
def n_Ro_lead_an : List an_T := [(131, [(0, (2, 0, 0, [9])), (1, (2, 0, 0, [3])), (2, (2, 0, 0, [0])), (3, (0, 0, 47, [])), (4, (0, 0, 23, [])), (5, (0, 0, 23, [])), (6, (0, 0, 24, []))], [], (0, 0), [(0, 0, 99869), (1, 6, 24), (0, 0, 100000)], [], [((0, 0), (2, 0, 0, [3])), ((0, 1), (2, 0, 0, [0]))], [], 0, [], [(20, [8, 3, 6], [50, 0, 1, 4, 0, 5, 3, 0, 4, 1, 1, 1, 2]), (20, [0], [50, 1, 0, 17, 0, 3, 2, 0, 17, 0, 24])])]
def t_Ro_lead_ct : ct_L := [(1, 71, e_Ro_frame), (1, 83, e_Ro_bar), (1, 87, e_Ro_pointOf), (1, 91, e_Ro_findCosts), (1, 95, e_Ro_readWay), (481, 103, e_Dr_addBend_at_gr)]
set_option maxRecDepth 100000 in
theorem c_Ro_lead {l : Launch} {D : va_G} {kA : Nat → ClassId} (h_Dr_addBend_at_gr : ct_ok PRD l D kA GG y_Dr_addBend_at_gr z_Dr_addBend_at_gr e_Dr_addBend_at_gr) (h_Ro_bar : ct_ok PRD l D kA GG y_Ro_bar z_Ro_bar e_Ro_bar) (h_Ro_findCosts : ct_ok PRD l D kA GG y_Ro_findCosts z_Ro_findCosts e_Ro_findCosts) (h_Ro_frame : ct_ok PRD l D kA GG y_Ro_frame z_Ro_frame e_Ro_frame) (h_Ro_pointOf : ct_ok PRD l D kA GG y_Ro_pointOf z_Ro_pointOf e_Ro_pointOf) (h_Ro_readWay : ct_ok PRD l D kA GG y_Ro_readWay z_Ro_readWay e_Ro_readWay) : ct_ok PRD l D kA GG y_Ro_lead z_Ro_lead e_Ro_lead := chk_all_ok (FT := [(9, 9, 0), (15, 9, 1), (32, 9, 6), (35, 9, 7), (38, 9, 8), (62, 9, 15), (65, 9, 16), (68, 9, 17), (75, 3, 7), (80, 3, 8), (98, 0, 4)]) (PT := [(9, 9, 0, .object "DrawingHouse$Graph"), (15, 9, 1, .object "DrawingHouse$Drawing"), (32, 9, 6, .int), (35, 9, 7, .int), (68, 9, 17, .int)]) (CT := t_Ro_lead_ct) (KT := [(0, 94, .int (1000000000), (0, 1000000000, 1000000000, []))]) (NT := []) (AN := n_Ro_lead_an) (OT := [o_Ro_lead_0, o_Ro_lead_1, o_Ro_lead_2, o_Ro_lead_3, o_Ro_lead_4, o_Ro_lead_5, o_Ro_lead_6, o_Ro_lead_7, o_Ro_lead_8, o_Ro_lead_9, o_Ro_lead_10, o_Ro_lead_11]) 3 404 (List.forall_mem_cons.mpr ⟨oo_Ro_lead_0, List.forall_mem_cons.mpr ⟨oo_Ro_lead_1, List.forall_mem_cons.mpr ⟨oo_Ro_lead_2, List.forall_mem_cons.mpr ⟨oo_Ro_lead_3, List.forall_mem_cons.mpr ⟨oo_Ro_lead_4, List.forall_mem_cons.mpr ⟨oo_Ro_lead_5, List.forall_mem_cons.mpr ⟨oo_Ro_lead_6, List.forall_mem_cons.mpr ⟨oo_Ro_lead_7, List.forall_mem_cons.mpr ⟨oo_Ro_lead_8, List.forall_mem_cons.mpr ⟨oo_Ro_lead_9, List.forall_mem_cons.mpr ⟨oo_Ro_lead_10, List.forall_mem_cons.mpr ⟨oo_Ro_lead_11, List.forall_mem_nil _⟩⟩⟩⟩⟩⟩⟩⟩⟩⟩⟩⟩) (by decide +kernel) ⟨List.forall_mem_cons.mpr ⟨gf_Ro_9, List.forall_mem_cons.mpr ⟨gf_Ro_15, List.forall_mem_cons.mpr ⟨gf_Ro_32, List.forall_mem_cons.mpr ⟨gf_Ro_35, List.forall_mem_cons.mpr ⟨gf_Ro_38, List.forall_mem_cons.mpr ⟨gf_Ro_62, List.forall_mem_cons.mpr ⟨gf_Ro_65, List.forall_mem_cons.mpr ⟨gf_Ro_68, List.forall_mem_cons.mpr ⟨gf_Ro_75, List.forall_mem_cons.mpr ⟨gf_Ro_80, List.forall_mem_cons.mpr ⟨gf_Ro_98, List.forall_mem_nil _⟩⟩⟩⟩⟩⟩⟩⟩⟩⟩⟩, List.forall_mem_cons.mpr ⟨pf_Ro_9, List.forall_mem_cons.mpr ⟨pf_Ro_15, List.forall_mem_cons.mpr ⟨pf_Ro_32, List.forall_mem_cons.mpr ⟨pf_Ro_35, List.forall_mem_cons.mpr ⟨pf_Ro_68, List.forall_mem_nil _⟩⟩⟩⟩⟩, List.forall_mem_cons.mpr ⟨cl_virtual (y := y_Ro_frame) (ci := 9) rfl rfl ⟨_, _, rfl⟩ (by decide +kernel) h_Ro_frame wm_1929 wm_22 wm_1926 wm_1928 wv_9_0 ⟨by decide, by decide, by decide +kernel⟩ (by decide), List.forall_mem_cons.mpr ⟨cl_virtual (y := y_Ro_bar) (ci := 9) rfl rfl ⟨_, _, rfl⟩ (by decide +kernel) h_Ro_bar wm_1939 wm_22 wm_1936 wm_1938 wv_9_1 ⟨by decide, by decide, by decide +kernel⟩ (by decide), List.forall_mem_cons.mpr ⟨cl_virtual (y := y_Ro_pointOf) (ci := 9) rfl rfl ⟨_, _, rfl⟩ (by decide +kernel) h_Ro_pointOf wm_1943 wm_22 wm_1940 wm_1942 wv_9_2 ⟨by decide, by decide, by decide +kernel⟩ (by decide), List.forall_mem_cons.mpr ⟨cl_virtual (y := y_Ro_findCosts) (ci := 9) rfl rfl ⟨_, _, rfl⟩ (by decide +kernel) h_Ro_findCosts wm_1947 wm_22 wm_1944 wm_1946 wv_9_3 ⟨by decide, by decide, by decide +kernel⟩ (by decide), List.forall_mem_cons.mpr ⟨cl_virtual (y := y_Ro_readWay) (ci := 9) rfl rfl ⟨_, _, rfl⟩ (by decide +kernel) h_Ro_readWay wm_1965 wm_22 wm_1962 wm_1964 wv_9_7 ⟨by decide, by decide, by decide +kernel⟩ (by decide), List.forall_mem_cons.mpr ⟨cl_virtual (y := y_Dr_addBend_at_gr) (ci := 0) rfl rfl ⟨_, _, rfl⟩ (by decide +kernel) h_Dr_addBend_at_gr wm_1464 wm_8 wm_1970 wm_1462 wm_1463 ⟨by decide, by decide, by decide +kernel⟩ (by decide), List.forall_mem_nil _⟩⟩⟩⟩⟩⟩, List.forall_mem_cons.mpr ⟨kx_Ro_0_94, List.forall_mem_nil _⟩, List.forall_mem_nil _, GG_pl⟩ (by decide +kernel)
set_option maxHeartbeats 4000000 in
theorem vc_Mo_ofEdge_0_0 (x1 : Int) (x4 : Int) (x5 : Int) (x6 : Int) (bendMany_0 : Int → Int) (g0_0 : Int) (k1 : 0 ≤ x1 ∧ x1 ≤ 47) (k4 : 2 ≤ x4 ∧ x4 ≤ 26) (k5 : 1 ≤ x5 ∧ x5 ≤ 1) (k6 : 1 ≤ x6 ∧ x6 ≤ 25) (d0 : x4 + (-1) ≤ x6 ∧ x6 ≤ x4 + (-1)) (f0 : x6 = x4 - x5) (f1 : x4 = (bendMany_0 (((48 * g0_0) + x1)) + 2)) (hK_0_64 : ∀ j : Int, 0 ≤ j → j < 192 → 0 ≤ bendMany_0 j ∧ bendMany_0 j ≤ 24) (kz_0_139 : 0 ≤ g0_0 ∧ g0_0 ≤ 3) : x6 ≤ (bendMany_0 (((48 * g0_0) + x1)) + 1) := by
  first | assumption | (clear hK_0_64; omega) | omega | grind
def o_Mo_ofEdge_0 : or_T := (160, 10, [(0, (2, 0, 0, [165])), (1, (0, 0, 47, [])), (4, (0, 2, 26, [])), (5, (0, 1, 1, [])), (6, (0, 1, 25, []))], [(2, [6, 4, 5], []), (20, [4, 0, 1], [50, 1, 1, 1139, 1064, 1, 2, 1, 0, 4, 14, 3, 1, 64, 4, 7, 6, 2, 0, 48, 2, 1, 139, 1, 2, 0, 2])], [], [], [(20, [6, 0, 1], [50, 1, 1, 1139, 1064, 0, 2, 1, 0, 4, 14, 3, 1, 64, 4, 7, 6, 2, 0, 48, 2, 1, 139, 1, 2, 0, 1])], [], [(6, 4, -1, -1)])
theorem oo_Mo_ofEdge_0 {kA : Nat → ClassId} : or_ok PRD kA GG o_Mo_ofEdge_0 := by
  refine or_mk fun A ta ws vs hD hth hl => ?_
  intro t0 r0 t1 k1 t4 k4 t5 k5 t6 k6 d0 f0 f1
  have cr_0_64 := fdq_171 hD hth r0
  have hK_0_64 := elq_101 hD hth cr_0_64
  have kz_0_139 := fdq_172 hD hth r0
  have nf0 : fc_1 PRD (20, [6, 0, 1], [50, 1, 1, 1139, 1064, 0, 2, 1, 0, 4, 14, 3, 1, 64, 4, 7, 6, 2, 0, 48, 2, 1, 139, 1, 2, 0, 1]) ws (vs) := ⟨nf_in hl rfl, sgq_1421 (vc_Mo_ofEdge_0_0 (v_iv (n_v vs 1)) (v_iv (n_v vs 4)) (v_iv (n_v vs 5)) (v_iv (n_v vs 6)) (w_ei ws (w_ar ws (n_v vs 0) 64)) (w_fi ws (n_v vs 0) 139) k1 k4 k5 k6 d0 (shm_14 f0) (shm_683 f1) hK_0_64 kz_0_139)⟩
  refine ⟨(fun _ h => (by cases h)), [], trivial, ?_, (fun _ h => (by cases h))⟩
  rw [List.append_nil]
  exact List.forall_mem_cons.mpr ⟨⟨show (20 : Nat) < 100 from by decide, nf0⟩, (fun _ h => (by cases h))⟩
set_option maxHeartbeats 4000000 in
theorem vc_Mo_ofEdge_1_0 (x1 : Int) (x4 : Int) (x5 : Int) (x6 : Int) (bendMany_0 : Int → Int) (g0_0 : Int) (k1 : 0 ≤ x1 ∧ x1 ≤ 47) (k4 : 2 ≤ x4 ∧ x4 ≤ 26) (k5 : 1 ≤ x5 ∧ x5 ≤ 1) (k6 : 1 ≤ x6 ∧ x6 ≤ 25) (d0 : x4 + (-1) ≤ x6 ∧ x6 ≤ x4 + (-1)) (f0 : x6 = x4 - x5) (f1 : x4 = (bendMany_0 (((48 * g0_0) + x1)) + 2)) (hK_0_64 : ∀ j : Int, 0 ≤ j → j < 192 → 0 ≤ bendMany_0 j ∧ bendMany_0 j ≤ 24) (kz_0_139 : 0 ≤ g0_0 ∧ g0_0 ≤ 3) : x6 ≤ (bendMany_0 (((48 * g0_0) + x1)) + 1) := by
  first | assumption | (clear hK_0_64; omega) | omega | grind
def o_Mo_ofEdge_1 : or_T := (30, 10, [(0, (2, 0, 0, [165])), (1, (0, 0, 47, [])), (4, (0, 2, 26, [])), (5, (0, 1, 1, [])), (6, (0, 1, 25, []))], [(2, [6, 4, 5], []), (20, [4, 0, 1], [50, 1, 1, 1139, 1064, 1, 2, 1, 0, 4, 14, 3, 1, 64, 4, 7, 6, 2, 0, 48, 2, 1, 139, 1, 2, 0, 2])], [], [], [(20, [6, 0, 1], [50, 1, 1, 1139, 1064, 0, 2, 1, 0, 4, 14, 3, 1, 64, 4, 7, 6, 2, 0, 48, 2, 1, 139, 1, 2, 0, 1])], [], [(6, 4, -1, -1)])
theorem oo_Mo_ofEdge_1 {kA : Nat → ClassId} : or_ok PRD kA GG o_Mo_ofEdge_1 := by
  refine or_mk fun A ta ws vs hD hth hl => ?_
  intro t0 r0 t1 k1 t4 k4 t5 k5 t6 k6 d0 f0 f1
  have cr_0_64 := fdq_171 hD hth r0
  have hK_0_64 := elq_101 hD hth cr_0_64
  have kz_0_139 := fdq_172 hD hth r0
  have nf0 : fc_1 PRD (20, [6, 0, 1], [50, 1, 1, 1139, 1064, 0, 2, 1, 0, 4, 14, 3, 1, 64, 4, 7, 6, 2, 0, 48, 2, 1, 139, 1, 2, 0, 1]) ws (vs) := ⟨nf_in hl rfl, sgq_1421 (vc_Mo_ofEdge_1_0 (v_iv (n_v vs 1)) (v_iv (n_v vs 4)) (v_iv (n_v vs 5)) (v_iv (n_v vs 6)) (w_ei ws (w_ar ws (n_v vs 0) 64)) (w_fi ws (n_v vs 0) 139) k1 k4 k5 k6 d0 (shm_14 f0) (shm_683 f1) hK_0_64 kz_0_139)⟩
  refine ⟨(fun _ h => (by cases h)), [], trivial, ?_, (fun _ h => (by cases h))⟩
  rw [List.append_nil]
  exact List.forall_mem_cons.mpr ⟨⟨show (20 : Nat) < 100 from by decide, nf0⟩, (fun _ h => (by cases h))⟩
set_option maxHeartbeats 4000000 in
theorem vc_Mo_ofEdge_2_0 (x1 : Int) (x4 : Int) (x5 : Int) (x7 : Int) (x8 : Int) (x9 : Int) (x10 : Int) (x11 : Int) (x12 : Int) (nodeY_0 : Int → Int) (g0_0 : Int) (nodeX_0 : Int → Int) (all_0 : Int → Int) (r_0 : Int) (bendMany_0 : Int → Int) (k1 : 0 ≤ x1 ∧ x1 ≤ 47) (k4 : 1 ≤ x4 ∧ x4 ≤ 25) (k5 : 0 ≤ x5 ∧ x5 ≤ 23) (k7 : 0 ≤ x7 ∧ x7 ≤ 24) (k8 : 0 ≤ x8 ∧ x8 ≤ 0) (k9 : (-300000000) ≤ x9 ∧ x9 ≤ 300000000) (k10 : (-300000000) ≤ x10 ∧ x10 ≤ 300000000) (k11 : (-300000000) ≤ x11 ∧ x11 ≤ 300000000) (k12 : (-300000000) ≤ x12 ∧ x12 ≤ 300000000) (d0 : x4 + (-4294967296) ≤ x7 ∧ x7 ≤ x4 + (-1)) (d1 : x4 + (-4294967296) ≤ x7 ∧ x7 ≤ x4 + 0) (f0 : x12 = x11) (f1 : x11 = nodeY_0 (((24 * g0_0) + x5))) (f2 : x10 = x9) (f3 : x9 = nodeX_0 (((24 * g0_0) + x5))) (f4 : x8 = 0) (f5 : HSP (r_0) (all_0) (x1) (x5) (x8)) (f6 : x7 < x4) (f7 : x4 ≤ (bendMany_0 (((48 * g0_0) + x1)) + 1)) (hK_0_62 : ∀ j : Int, 0 ≤ j → j < 96 → (-300000000) ≤ nodeX_0 j ∧ nodeX_0 j ≤ 300000000) (hK_0_63 : ∀ j : Int, 0 ≤ j → j < 96 → (-300000000) ≤ nodeY_0 j ∧ nodeY_0 j ≤ 300000000) (hK_0_64 : ∀ j : Int, 0 ≤ j → j < 192 → 0 ≤ bendMany_0 j ∧ bendMany_0 j ≤ 24) (kz_0_139 : 0 ≤ g0_0 ∧ g0_0 ≤ 3) : x7 ≤ (bendMany_0 (((48 * g0_0) + x1)) + 1) := by
  first | assumption | (clear hK_0_62 hK_0_63 hK_0_64; omega) | omega | grind
def o_Mo_ofEdge_2 : or_T := (85, 13, [(0, (2, 0, 0, [165])), (1, (0, 0, 47, [])), (4, (0, 1, 25, [])), (5, (0, 0, 23, [])), (7, (0, 0, 24, [])), (8, (0, 0, 0, [])), (9, (0, -300000000, 300000000, [])), (10, (1, -300000000, 300000000, [])), (11, (0, -300000000, 300000000, [])), (12, (1, -300000000, 300000000, []))], [(22, [12, 11], []), (20, [11, 0, 5], [50, 1, 1, 1139, 1063, 1, 2, 1, 0, 3, 1, 63, 4, 7, 6, 2, 0, 24, 2, 1, 139, 1, 2]), (22, [10, 9], []), (20, [9, 0, 5], [50, 1, 1, 1139, 1062, 1, 2, 1, 0, 3, 1, 62, 4, 7, 6, 2, 0, 24, 2, 1, 139, 1, 2]), (8, [8], [0]), (20, [0, 1, 5, 8], [60, 1, 1, 204, 5, 2]), (7, [7, 4], [2]), (20, [4, 0, 1], [50, 1, 1, 1139, 1064, 0, 2, 1, 0, 4, 14, 3, 1, 64, 4, 7, 6, 2, 0, 48, 2, 1, 139, 1, 2, 0, 1])], [], [], [(20, [7, 0, 1], [50, 1, 1, 1139, 1064, 0, 2, 1, 0, 4, 14, 3, 1, 64, 4, 7, 6, 2, 0, 48, 2, 1, 139, 1, 2, 0, 1])], [], [(7, 4, -4294967296, -1), (7, 4, -4294967296, 0)])
theorem oo_Mo_ofEdge_2 {kA : Nat → ClassId} : or_ok PRD kA GG o_Mo_ofEdge_2 := by
  refine or_mk fun A ta ws vs hD hth hl => ?_
  intro t0 r0 t1 k1 t4 k4 t5 k5 t7 k7 t8 k8 t9 k9 t10 k10 t11 k11 t12 k12 d0 d1 f0 f1 f2 f3 f4 f5 f6 f7
  have cr_0_62 := fdq_173 hD hth r0
  have cr_0_63 := fdq_174 hD hth r0
  have cr_0_64 := fdq_171 hD hth r0
  have hK_0_62 := elq_102 hD hth cr_0_62
  have hK_0_63 := elq_103 hD hth cr_0_63
  have hK_0_64 := elq_101 hD hth cr_0_64
  have kz_0_139 := fdq_172 hD hth r0
  have nf0 : fc_1 PRD (20, [7, 0, 1], [50, 1, 1, 1139, 1064, 0, 2, 1, 0, 4, 14, 3, 1, 64, 4, 7, 6, 2, 0, 48, 2, 1, 139, 1, 2, 0, 1]) ws (vs) := ⟨nf_in hl rfl, sgq_1421 (vc_Mo_ofEdge_2_0 (v_iv (n_v vs 1)) (v_iv (n_v vs 4)) (v_iv (n_v vs 5)) (v_iv (n_v vs 7)) (v_iv (n_v vs 8)) (v_iv (n_v vs 9)) (v_iv (n_v vs 10)) (v_iv (n_v vs 11)) (v_iv (n_v vs 12)) (w_ei ws (w_ar ws (n_v vs 0) 63)) (w_fi ws (n_v vs 0) 139) (w_ei ws (w_ar ws (n_v vs 0) 62)) (w_ei ws (w_ar ws (n_v vs 0) 2)) (w_fi ws (n_v vs 0) 5) (w_ei ws (w_ar ws (n_v vs 0) 64)) k1 k4 k5 k7 k8 k9 k10 k11 k12 d0 d1 (shm_47 f0) (shm_700 f1) (shm_47 f2) (shm_698 f3) (shm_192 f4) (shm_1143 f5) (shm_6 f6) (shm_1421 f7) hK_0_62 hK_0_63 hK_0_64 kz_0_139)⟩
  refine ⟨(fun _ h => (by cases h)), [], trivial, ?_, (fun _ h => (by cases h))⟩
  rw [List.append_nil]
  exact List.forall_mem_cons.mpr ⟨⟨show (20 : Nat) < 100 from by decide, nf0⟩, (fun _ h => (by cases h))⟩
set_option maxHeartbeats 4000000 in
theorem vc_Mo_ofEdge_3_0 (x1 : Int) (x4 : Int) (x7 : Int) (bendMany_0 : Int → Int) (g0_0 : Int) (k1 : 0 ≤ x1 ∧ x1 ≤ 47) (k4 : 1 ≤ x4 ∧ x4 ≤ 25) (k7 : 0 ≤ x7 ∧ x7 ≤ 24) (d0 : x4 + (-4294967296) ≤ x7 ∧ x7 ≤ x4 + (-1)) (f0 : x4 ≤ (bendMany_0 (((48 * g0_0) + x1)) + 1)) (hK_0_64 : ∀ j : Int, 0 ≤ j → j < 192 → 0 ≤ bendMany_0 j ∧ bendMany_0 j ≤ 24) (kz_0_139 : 0 ≤ g0_0 ∧ g0_0 ≤ 3) : x7 ≤ (bendMany_0 (((48 * g0_0) + x1)) + 1) := by
  first | assumption | (clear hK_0_64; omega) | omega | grind
def o_Mo_ofEdge_3 : or_T := (93, 12, [(0, (2, 0, 0, [165])), (1, (0, 0, 47, [])), (4, (0, 1, 25, [])), (7, (0, 0, 24, []))], [(20, [4, 0, 1], [50, 1, 1, 1139, 1064, 0, 2, 1, 0, 4, 14, 3, 1, 64, 4, 7, 6, 2, 0, 48, 2, 1, 139, 1, 2, 0, 1])], [], [], [(20, [7, 0, 1], [50, 1, 1, 1139, 1064, 0, 2, 1, 0, 4, 14, 3, 1, 64, 4, 7, 6, 2, 0, 48, 2, 1, 139, 1, 2, 0, 1])], [], [(7, 4, -4294967296, -1)])
theorem oo_Mo_ofEdge_3 {kA : Nat → ClassId} : or_ok PRD kA GG o_Mo_ofEdge_3 := by
  refine or_mk fun A ta ws vs hD hth hl => ?_
  intro t0 r0 t1 k1 t4 k4 t7 k7 d0 f0
  have cr_0_64 := fdq_171 hD hth r0
  have hK_0_64 := elq_101 hD hth cr_0_64
  have kz_0_139 := fdq_172 hD hth r0
  have nf0 : fc_1 PRD (20, [7, 0, 1], [50, 1, 1, 1139, 1064, 0, 2, 1, 0, 4, 14, 3, 1, 64, 4, 7, 6, 2, 0, 48, 2, 1, 139, 1, 2, 0, 1]) ws (vs) := ⟨nf_in hl rfl, sgq_1421 (vc_Mo_ofEdge_3_0 (v_iv (n_v vs 1)) (v_iv (n_v vs 4)) (v_iv (n_v vs 7)) (w_ei ws (w_ar ws (n_v vs 0) 64)) (w_fi ws (n_v vs 0) 139) k1 k4 k7 d0 (shm_1421 f0) hK_0_64 kz_0_139)⟩
  refine ⟨(fun _ h => (by cases h)), [], trivial, ?_, (fun _ h => (by cases h))⟩
  rw [List.append_nil]
  exact List.forall_mem_cons.mpr ⟨⟨show (20 : Nat) < 100 from by decide, nf0⟩, (fun _ h => (by cases h))⟩
set_option maxHeartbeats 4000000 in
theorem vc_Mo_ofEdge_4_0 (x1 : Int) (x4 : Int) (x7 : Int) (x13 : Int) (x14 : Int) (bendMany_0 : Int → Int) (g0_0 : Int) (k1 : 0 ≤ x1 ∧ x1 ≤ 47) (k4 : 1 ≤ x4 ∧ x4 ≤ 25) (k7 : 0 ≤ x7 ∧ x7 ≤ 24) (k13 : 1 ≤ x13 ∧ x13 ≤ 1) (k14 : 1 ≤ x14 ∧ x14 ≤ 25) (d0 : x7 + 1 ≤ x14 ∧ x14 ≤ x7 + 1) (d1 : x4 + (-4294967296) ≤ x14 ∧ x14 ≤ x4 + 0) (d2 : x4 + (-4294967296) ≤ x7 ∧ x7 ≤ x4 + (-1)) (f0 : x14 = x7 + x13) (f1 : x4 ≤ (bendMany_0 (((48 * g0_0) + x1)) + 1)) (hK_0_64 : ∀ j : Int, 0 ≤ j → j < 192 → 0 ≤ bendMany_0 j ∧ bendMany_0 j ≤ 24) (kz_0_139 : 0 ≤ g0_0 ∧ g0_0 ≤ 3) : x14 ≤ (bendMany_0 (((48 * g0_0) + x1)) + 1) := by
  first | assumption | (clear hK_0_64; omega) | omega | grind
def o_Mo_ofEdge_4 : or_T := (103, 15, [(0, (2, 0, 0, [165])), (1, (0, 0, 47, [])), (4, (0, 1, 25, [])), (7, (0, 0, 24, [])), (13, (0, 1, 1, [])), (14, (0, 1, 25, []))], [(1, [14, 7, 13], []), (20, [4, 0, 1], [50, 1, 1, 1139, 1064, 0, 2, 1, 0, 4, 14, 3, 1, 64, 4, 7, 6, 2, 0, 48, 2, 1, 139, 1, 2, 0, 1])], [], [], [(20, [14, 0, 1], [50, 1, 1, 1139, 1064, 0, 2, 1, 0, 4, 14, 3, 1, 64, 4, 7, 6, 2, 0, 48, 2, 1, 139, 1, 2, 0, 1])], [], [(14, 7, 1, 1), (14, 4, -4294967296, 0), (7, 4, -4294967296, -1)])
theorem oo_Mo_ofEdge_4 {kA : Nat → ClassId} : or_ok PRD kA GG o_Mo_ofEdge_4 := by
  refine or_mk fun A ta ws vs hD hth hl => ?_
  intro t0 r0 t1 k1 t4 k4 t7 k7 t13 k13 t14 k14 d0 d1 d2 f0 f1
  have cr_0_64 := fdq_171 hD hth r0
  have hK_0_64 := elq_101 hD hth cr_0_64
  have kz_0_139 := fdq_172 hD hth r0
  have nf0 : fc_1 PRD (20, [14, 0, 1], [50, 1, 1, 1139, 1064, 0, 2, 1, 0, 4, 14, 3, 1, 64, 4, 7, 6, 2, 0, 48, 2, 1, 139, 1, 2, 0, 1]) ws (vs) := ⟨nf_in hl rfl, sgq_1421 (vc_Mo_ofEdge_4_0 (v_iv (n_v vs 1)) (v_iv (n_v vs 4)) (v_iv (n_v vs 7)) (v_iv (n_v vs 13)) (v_iv (n_v vs 14)) (w_ei ws (w_ar ws (n_v vs 0) 64)) (w_fi ws (n_v vs 0) 139) k1 k4 k7 k13 k14 d0 d1 d2 (shm_12 f0) (shm_1421 f1) hK_0_64 kz_0_139)⟩
  refine ⟨(fun _ h => (by cases h)), [], trivial, ?_, (fun _ h => (by cases h))⟩
  rw [List.append_nil]
  exact List.forall_mem_cons.mpr ⟨⟨show (20 : Nat) < 100 from by decide, nf0⟩, (fun _ h => (by cases h))⟩
set_option maxHeartbeats 4000000 in
theorem vc_Mo_ofEdge_5_0 (x1 : Int) (x4 : Int) (x7 : Int) (x14 : Int) (x15 : Int) (bendMany_0 : Int → Int) (g0_0 : Int) (k1 : 0 ≤ x1 ∧ x1 ≤ 47) (k4 : 1 ≤ x4 ∧ x4 ≤ 25) (k7 : 0 ≤ x7 ∧ x7 ≤ 24) (k14 : 1 ≤ x14 ∧ x14 ≤ 1) (k15 : 1 ≤ x15 ∧ x15 ≤ 25) (d0 : x7 + 1 ≤ x15 ∧ x15 ≤ x7 + 1) (d1 : x4 + (-4294967296) ≤ x15 ∧ x15 ≤ x4 + 0) (d2 : x4 + (-4294967296) ≤ x7 ∧ x7 ≤ x4 + (-1)) (f0 : x15 = x7 + x14) (f1 : x4 ≤ (bendMany_0 (((48 * g0_0) + x1)) + 1)) (hK_0_64 : ∀ j : Int, 0 ≤ j → j < 192 → 0 ≤ bendMany_0 j ∧ bendMany_0 j ≤ 24) (kz_0_139 : 0 ≤ g0_0 ∧ g0_0 ≤ 3) : x15 ≤ (bendMany_0 (((48 * g0_0) + x1)) + 1) := by
  first | assumption | (clear hK_0_64; omega) | omega | grind
def o_Mo_ofEdge_5 : or_T := (113, 16, [(0, (2, 0, 0, [165])), (1, (0, 0, 47, [])), (4, (0, 1, 25, [])), (7, (0, 0, 24, [])), (14, (0, 1, 1, [])), (15, (0, 1, 25, []))], [(1, [15, 7, 14], []), (20, [4, 0, 1], [50, 1, 1, 1139, 1064, 0, 2, 1, 0, 4, 14, 3, 1, 64, 4, 7, 6, 2, 0, 48, 2, 1, 139, 1, 2, 0, 1])], [], [], [(20, [15, 0, 1], [50, 1, 1, 1139, 1064, 0, 2, 1, 0, 4, 14, 3, 1, 64, 4, 7, 6, 2, 0, 48, 2, 1, 139, 1, 2, 0, 1])], [], [(15, 7, 1, 1), (15, 4, -4294967296, 0), (7, 4, -4294967296, -1)])
theorem oo_Mo_ofEdge_5 {kA : Nat → ClassId} : or_ok PRD kA GG o_Mo_ofEdge_5 := by
  refine or_mk fun A ta ws vs hD hth hl => ?_
  intro t0 r0 t1 k1 t4 k4 t7 k7 t14 k14 t15 k15 d0 d1 d2 f0 f1
  have cr_0_64 := fdq_171 hD hth r0
  have hK_0_64 := elq_101 hD hth cr_0_64
  have kz_0_139 := fdq_172 hD hth r0
  have nf0 : fc_1 PRD (20, [15, 0, 1], [50, 1, 1, 1139, 1064, 0, 2, 1, 0, 4, 14, 3, 1, 64, 4, 7, 6, 2, 0, 48, 2, 1, 139, 1, 2, 0, 1]) ws (vs) := ⟨nf_in hl rfl, sgq_1421 (vc_Mo_ofEdge_5_0 (v_iv (n_v vs 1)) (v_iv (n_v vs 4)) (v_iv (n_v vs 7)) (v_iv (n_v vs 14)) (v_iv (n_v vs 15)) (w_ei ws (w_ar ws (n_v vs 0) 64)) (w_fi ws (n_v vs 0) 139) k1 k4 k7 k14 k15 d0 d1 d2 (shm_12 f0) (shm_1421 f1) hK_0_64 kz_0_139)⟩
  refine ⟨(fun _ h => (by cases h)), [], trivial, ?_, (fun _ h => (by cases h))⟩
  rw [List.append_nil]
  exact List.forall_mem_cons.mpr ⟨⟨show (20 : Nat) < 100 from by decide, nf0⟩, (fun _ h => (by cases h))⟩
set_option maxHeartbeats 4000000 in
theorem vc_Mo_ofEdge_6_0 (x1 : Int) (x4 : Int) (x5 : Int) (bendMany_0 : Int → Int) (g0_0 : Int) (k1 : 0 ≤ x1 ∧ x1 ≤ 47) (k4 : 1 ≤ x4 ∧ x4 ≤ 25) (k5 : 0 ≤ x5 ∧ x5 ≤ 24) (d0 : x4 + (-4294967296) ≤ x5 ∧ x5 ≤ x4 + (-1)) (d1 : x4 + (-4294967296) ≤ x5 ∧ x5 ≤ x4 + 0) (f0 : x5 < x4) (f1 : x4 ≤ (bendMany_0 (((48 * g0_0) + x1)) + 1)) (hK_0_64 : ∀ j : Int, 0 ≤ j → j < 192 → 0 ≤ bendMany_0 j ∧ bendMany_0 j ≤ 24) (kz_0_139 : 0 ≤ g0_0 ∧ g0_0 ≤ 3) : x5 ≤ (bendMany_0 (((48 * g0_0) + x1)) + 1) := by
  first | assumption | (clear hK_0_64; omega) | omega | grind
def o_Mo_ofEdge_6 : or_T := (171, 6, [(0, (2, 0, 0, [165])), (1, (0, 0, 47, [])), (4, (0, 1, 25, [])), (5, (0, 0, 24, []))], [(7, [5, 4], [2]), (20, [4, 0, 1], [50, 1, 1, 1139, 1064, 0, 2, 1, 0, 4, 14, 3, 1, 64, 4, 7, 6, 2, 0, 48, 2, 1, 139, 1, 2, 0, 1])], [], [], [(20, [5, 0, 1], [50, 1, 1, 1139, 1064, 0, 2, 1, 0, 4, 14, 3, 1, 64, 4, 7, 6, 2, 0, 48, 2, 1, 139, 1, 2, 0, 1])], [], [(5, 4, -4294967296, -1), (5, 4, -4294967296, 0)])
theorem oo_Mo_ofEdge_6 {kA : Nat → ClassId} : or_ok PRD kA GG o_Mo_ofEdge_6 := by
  refine or_mk fun A ta ws vs hD hth hl => ?_
  intro t0 r0 t1 k1 t4 k4 t5 k5 d0 d1 f0 f1
  have cr_0_64 := fdq_171 hD hth r0
  have hK_0_64 := elq_101 hD hth cr_0_64
  have kz_0_139 := fdq_172 hD hth r0
  have nf0 : fc_1 PRD (20, [5, 0, 1], [50, 1, 1, 1139, 1064, 0, 2, 1, 0, 4, 14, 3, 1, 64, 4, 7, 6, 2, 0, 48, 2, 1, 139, 1, 2, 0, 1]) ws (vs) := ⟨nf_in hl rfl, sgq_1421 (vc_Mo_ofEdge_6_0 (v_iv (n_v vs 1)) (v_iv (n_v vs 4)) (v_iv (n_v vs 5)) (w_ei ws (w_ar ws (n_v vs 0) 64)) (w_fi ws (n_v vs 0) 139) k1 k4 k5 d0 d1 (shm_6 f0) (shm_1421 f1) hK_0_64 kz_0_139)⟩
  refine ⟨(fun _ h => (by cases h)), [], trivial, ?_, (fun _ h => (by cases h))⟩
  rw [List.append_nil]
  exact List.forall_mem_cons.mpr ⟨⟨show (20 : Nat) < 100 from by decide, nf0⟩, (fun _ h => (by cases h))⟩
set_option maxHeartbeats 4000000 in
theorem vc_Mo_ofEdge_7_0 (x1 : Int) (x4 : Int) (x5 : Int) (x8 : Int) (x9 : Int) (bendMany_0 : Int → Int) (g0_0 : Int) (k1 : 0 ≤ x1 ∧ x1 ≤ 47) (k4 : 1 ≤ x4 ∧ x4 ≤ 25) (k5 : 0 ≤ x5 ∧ x5 ≤ 24) (k8 : 1 ≤ x8 ∧ x8 ≤ 1) (k9 : 1 ≤ x9 ∧ x9 ≤ 25) (d0 : x5 + 1 ≤ x9 ∧ x9 ≤ x5 + 1) (d1 : x4 + (-4294967296) ≤ x9 ∧ x9 ≤ x4 + 0) (d2 : x4 + (-4294967296) ≤ x5 ∧ x5 ≤ x4 + (-1)) (f0 : x9 = x5 + x8) (f1 : x4 ≤ (bendMany_0 (((48 * g0_0) + x1)) + 1)) (hK_0_64 : ∀ j : Int, 0 ≤ j → j < 192 → 0 ≤ bendMany_0 j ∧ bendMany_0 j ≤ 24) (kz_0_139 : 0 ≤ g0_0 ∧ g0_0 ≤ 3) : x9 ≤ (bendMany_0 (((48 * g0_0) + x1)) + 1) := by
  first | assumption | (clear hK_0_64; omega) | omega | grind
def o_Mo_ofEdge_7 : or_T := (181, 10, [(0, (2, 0, 0, [165])), (1, (0, 0, 47, [])), (4, (0, 1, 25, [])), (5, (0, 0, 24, [])), (8, (0, 1, 1, [])), (9, (0, 1, 25, []))], [(1, [9, 5, 8], []), (20, [4, 0, 1], [50, 1, 1, 1139, 1064, 0, 2, 1, 0, 4, 14, 3, 1, 64, 4, 7, 6, 2, 0, 48, 2, 1, 139, 1, 2, 0, 1])], [], [], [(20, [9, 0, 1], [50, 1, 1, 1139, 1064, 0, 2, 1, 0, 4, 14, 3, 1, 64, 4, 7, 6, 2, 0, 48, 2, 1, 139, 1, 2, 0, 1])], [], [(9, 5, 1, 1), (9, 4, -4294967296, 0), (5, 4, -4294967296, -1)])
theorem oo_Mo_ofEdge_7 {kA : Nat → ClassId} : or_ok PRD kA GG o_Mo_ofEdge_7 := by
  refine or_mk fun A ta ws vs hD hth hl => ?_
  intro t0 r0 t1 k1 t4 k4 t5 k5 t8 k8 t9 k9 d0 d1 d2 f0 f1
  have cr_0_64 := fdq_171 hD hth r0
  have hK_0_64 := elq_101 hD hth cr_0_64
  have kz_0_139 := fdq_172 hD hth r0
  have nf0 : fc_1 PRD (20, [9, 0, 1], [50, 1, 1, 1139, 1064, 0, 2, 1, 0, 4, 14, 3, 1, 64, 4, 7, 6, 2, 0, 48, 2, 1, 139, 1, 2, 0, 1]) ws (vs) := ⟨nf_in hl rfl, sgq_1421 (vc_Mo_ofEdge_7_0 (v_iv (n_v vs 1)) (v_iv (n_v vs 4)) (v_iv (n_v vs 5)) (v_iv (n_v vs 8)) (v_iv (n_v vs 9)) (w_ei ws (w_ar ws (n_v vs 0) 64)) (w_fi ws (n_v vs 0) 139) k1 k4 k5 k8 k9 d0 d1 d2 (shm_12 f0) (shm_1421 f1) hK_0_64 kz_0_139)⟩
  refine ⟨(fun _ h => (by cases h)), [], trivial, ?_, (fun _ h => (by cases h))⟩
  rw [List.append_nil]
  exact List.forall_mem_cons.mpr ⟨⟨show (20 : Nat) < 100 from by decide, nf0⟩, (fun _ h => (by cases h))⟩
set_option maxHeartbeats 4000000 in
theorem vc_Mo_ofEdge_8_0 (x1 : Int) (x4 : Int) (x5 : Int) (bendMany_0 : Int → Int) (g0_0 : Int) (k1 : 0 ≤ x1 ∧ x1 ≤ 47) (k4 : 1 ≤ x4 ∧ x4 ≤ 25) (k5 : 0 ≤ x5 ∧ x5 ≤ 24) (d0 : x4 + (-4294967296) ≤ x5 ∧ x5 ≤ x4 + (-1)) (f0 : x4 ≤ (bendMany_0 (((48 * g0_0) + x1)) + 1)) (hK_0_64 : ∀ j : Int, 0 ≤ j → j < 192 → 0 ≤ bendMany_0 j ∧ bendMany_0 j ≤ 24) (kz_0_139 : 0 ≤ g0_0 ∧ g0_0 ≤ 3) : x5 ≤ (bendMany_0 (((48 * g0_0) + x1)) + 1) := by
  first | assumption | (clear hK_0_64; omega) | omega | grind
def o_Mo_ofEdge_8 : or_T := (195, 7, [(0, (2, 0, 0, [165])), (1, (0, 0, 47, [])), (4, (0, 1, 25, [])), (5, (0, 0, 24, []))], [(20, [4, 0, 1], [50, 1, 1, 1139, 1064, 0, 2, 1, 0, 4, 14, 3, 1, 64, 4, 7, 6, 2, 0, 48, 2, 1, 139, 1, 2, 0, 1])], [], [], [(20, [5, 0, 1], [50, 1, 1, 1139, 1064, 0, 2, 1, 0, 4, 14, 3, 1, 64, 4, 7, 6, 2, 0, 48, 2, 1, 139, 1, 2, 0, 1])], [], [(5, 4, -4294967296, -1)])
theorem oo_Mo_ofEdge_8 {kA : Nat → ClassId} : or_ok PRD kA GG o_Mo_ofEdge_8 := by
  refine or_mk fun A ta ws vs hD hth hl => ?_
  intro t0 r0 t1 k1 t4 k4 t5 k5 d0 f0
  have cr_0_64 := fdq_171 hD hth r0
  have hK_0_64 := elq_101 hD hth cr_0_64
  have kz_0_139 := fdq_172 hD hth r0
  have nf0 : fc_1 PRD (20, [5, 0, 1], [50, 1, 1, 1139, 1064, 0, 2, 1, 0, 4, 14, 3, 1, 64, 4, 7, 6, 2, 0, 48, 2, 1, 139, 1, 2, 0, 1]) ws (vs) := ⟨nf_in hl rfl, sgq_1421 (vc_Mo_ofEdge_8_0 (v_iv (n_v vs 1)) (v_iv (n_v vs 4)) (v_iv (n_v vs 5)) (w_ei ws (w_ar ws (n_v vs 0) 64)) (w_fi ws (n_v vs 0) 139) k1 k4 k5 d0 (shm_1421 f0) hK_0_64 kz_0_139)⟩
  refine ⟨(fun _ h => (by cases h)), [], trivial, ?_, (fun _ h => (by cases h))⟩
  rw [List.append_nil]
  exact List.forall_mem_cons.mpr ⟨⟨show (20 : Nat) < 100 from by decide, nf0⟩, (fun _ h => (by cases h))⟩
set_option maxHeartbeats 4000000 in
theorem vc_Mo_ofEdge_9_0 (x1 : Int) (x4 : Int) (x5 : Int) (x9 : Int) (x10 : Int) (bendMany_0 : Int → Int) (g0_0 : Int) (k1 : 0 ≤ x1 ∧ x1 ≤ 47) (k4 : 1 ≤ x4 ∧ x4 ≤ 25) (k5 : 0 ≤ x5 ∧ x5 ≤ 24) (k9 : 1 ≤ x9 ∧ x9 ≤ 1) (k10 : 1 ≤ x10 ∧ x10 ≤ 25) (d0 : x5 + 1 ≤ x10 ∧ x10 ≤ x5 + 1) (d1 : x4 + (-4294967296) ≤ x10 ∧ x10 ≤ x4 + 0) (d2 : x4 + (-4294967296) ≤ x5 ∧ x5 ≤ x4 + (-1)) (f0 : x10 = x5 + x9) (f1 : x4 ≤ (bendMany_0 (((48 * g0_0) + x1)) + 1)) (hK_0_64 : ∀ j : Int, 0 ≤ j → j < 192 → 0 ≤ bendMany_0 j ∧ bendMany_0 j ≤ 24) (kz_0_139 : 0 ≤ g0_0 ∧ g0_0 ≤ 3) : x10 ≤ (bendMany_0 (((48 * g0_0) + x1)) + 1) := by
  first | assumption | (clear hK_0_64; omega) | omega | grind
def o_Mo_ofEdge_9 : or_T := (205, 11, [(0, (2, 0, 0, [165])), (1, (0, 0, 47, [])), (4, (0, 1, 25, [])), (5, (0, 0, 24, [])), (9, (0, 1, 1, [])), (10, (0, 1, 25, []))], [(1, [10, 5, 9], []), (20, [4, 0, 1], [50, 1, 1, 1139, 1064, 0, 2, 1, 0, 4, 14, 3, 1, 64, 4, 7, 6, 2, 0, 48, 2, 1, 139, 1, 2, 0, 1])], [], [], [(20, [10, 0, 1], [50, 1, 1, 1139, 1064, 0, 2, 1, 0, 4, 14, 3, 1, 64, 4, 7, 6, 2, 0, 48, 2, 1, 139, 1, 2, 0, 1])], [], [(10, 5, 1, 1), (10, 4, -4294967296, 0), (5, 4, -4294967296, -1)])
theorem oo_Mo_ofEdge_9 {kA : Nat → ClassId} : or_ok PRD kA GG o_Mo_ofEdge_9 := by
  refine or_mk fun A ta ws vs hD hth hl => ?_
  intro t0 r0 t1 k1 t4 k4 t5 k5 t9 k9 t10 k10 d0 d1 d2 f0 f1
  have cr_0_64 := fdq_171 hD hth r0
  have hK_0_64 := elq_101 hD hth cr_0_64
  have kz_0_139 := fdq_172 hD hth r0
  have nf0 : fc_1 PRD (20, [10, 0, 1], [50, 1, 1, 1139, 1064, 0, 2, 1, 0, 4, 14, 3, 1, 64, 4, 7, 6, 2, 0, 48, 2, 1, 139, 1, 2, 0, 1]) ws (vs) := ⟨nf_in hl rfl, sgq_1421 (vc_Mo_ofEdge_9_0 (v_iv (n_v vs 1)) (v_iv (n_v vs 4)) (v_iv (n_v vs 5)) (v_iv (n_v vs 9)) (v_iv (n_v vs 10)) (w_ei ws (w_ar ws (n_v vs 0) 64)) (w_fi ws (n_v vs 0) 139) k1 k4 k5 k9 k10 d0 d1 d2 (shm_12 f0) (shm_1421 f1) hK_0_64 kz_0_139)⟩
  refine ⟨(fun _ h => (by cases h)), [], trivial, ?_, (fun _ h => (by cases h))⟩
  rw [List.append_nil]
  exact List.forall_mem_cons.mpr ⟨⟨show (20 : Nat) < 100 from by decide, nf0⟩, (fun _ h => (by cases h))⟩
set_option maxHeartbeats 4000000 in
theorem vc_Mo_ofEdge_10_0 (x1 : Int) (x4 : Int) (x5 : Int) (x9 : Int) (x10 : Int) (bendMany_0 : Int → Int) (g0_0 : Int) (k1 : 0 ≤ x1 ∧ x1 ≤ 47) (k4 : 1 ≤ x4 ∧ x4 ≤ 25) (k5 : 0 ≤ x5 ∧ x5 ≤ 24) (k9 : 1 ≤ x9 ∧ x9 ≤ 1) (k10 : 1 ≤ x10 ∧ x10 ≤ 25) (d0 : x5 + 1 ≤ x10 ∧ x10 ≤ x5 + 1) (d1 : x4 + (-4294967296) ≤ x10 ∧ x10 ≤ x4 + 0) (d2 : x4 + (-4294967296) ≤ x5 ∧ x5 ≤ x4 + (-1)) (f0 : x10 = x5 + x9) (f1 : x4 ≤ (bendMany_0 (((48 * g0_0) + x1)) + 1)) (hK_0_64 : ∀ j : Int, 0 ≤ j → j < 192 → 0 ≤ bendMany_0 j ∧ bendMany_0 j ≤ 24) (kz_0_139 : 0 ≤ g0_0 ∧ g0_0 ≤ 3) : x10 ≤ (bendMany_0 (((48 * g0_0) + x1)) + 1) := by
  first | assumption | (clear hK_0_64; omega) | omega | grind
def o_Mo_ofEdge_10 : or_T := (226, 11, [(0, (2, 0, 0, [165])), (1, (0, 0, 47, [])), (4, (0, 1, 25, [])), (5, (0, 0, 24, [])), (9, (0, 1, 1, [])), (10, (0, 1, 25, []))], [(1, [10, 5, 9], []), (20, [4, 0, 1], [50, 1, 1, 1139, 1064, 0, 2, 1, 0, 4, 14, 3, 1, 64, 4, 7, 6, 2, 0, 48, 2, 1, 139, 1, 2, 0, 1])], [], [], [(20, [10, 0, 1], [50, 1, 1, 1139, 1064, 0, 2, 1, 0, 4, 14, 3, 1, 64, 4, 7, 6, 2, 0, 48, 2, 1, 139, 1, 2, 0, 1])], [], [(10, 5, 1, 1), (10, 4, -4294967296, 0), (5, 4, -4294967296, -1)])
theorem oo_Mo_ofEdge_10 {kA : Nat → ClassId} : or_ok PRD kA GG o_Mo_ofEdge_10 := by
  refine or_mk fun A ta ws vs hD hth hl => ?_
  intro t0 r0 t1 k1 t4 k4 t5 k5 t9 k9 t10 k10 d0 d1 d2 f0 f1
  have cr_0_64 := fdq_171 hD hth r0
  have hK_0_64 := elq_101 hD hth cr_0_64
  have kz_0_139 := fdq_172 hD hth r0
  have nf0 : fc_1 PRD (20, [10, 0, 1], [50, 1, 1, 1139, 1064, 0, 2, 1, 0, 4, 14, 3, 1, 64, 4, 7, 6, 2, 0, 48, 2, 1, 139, 1, 2, 0, 1]) ws (vs) := ⟨nf_in hl rfl, sgq_1421 (vc_Mo_ofEdge_10_0 (v_iv (n_v vs 1)) (v_iv (n_v vs 4)) (v_iv (n_v vs 5)) (v_iv (n_v vs 9)) (v_iv (n_v vs 10)) (w_ei ws (w_ar ws (n_v vs 0) 64)) (w_fi ws (n_v vs 0) 139) k1 k4 k5 k9 k10 d0 d1 d2 (shm_12 f0) (shm_1421 f1) hK_0_64 kz_0_139)⟩
  refine ⟨(fun _ h => (by cases h)), [], trivial, ?_, (fun _ h => (by cases h))⟩
  rw [List.append_nil]
  exact List.forall_mem_cons.mpr ⟨⟨show (20 : Nat) < 100 from by decide, nf0⟩, (fun _ h => (by cases h))⟩
set_option maxHeartbeats 4000000 in
theorem vc_Mo_ofEdge_11_0 (x1 : Int) (x4 : Int) (x5 : Int) (x9 : Int) (x10 : Int) (x11 : Int) (nodeY_0 : Int → Int) (all_0 : Int → Int) (g0_0 : Int) (r_0 : Int) (bendMany_0 : Int → Int) (bendY_0 : Int → Int) (k1 : 0 ≤ x1 ∧ x1 ≤ 47) (k4 : 1 ≤ x4 ∧ x4 ≤ 25) (k5 : 0 ≤ x5 ∧ x5 ≤ 24) (k9 : 1 ≤ x9 ∧ x9 ≤ 1) (k10 : 1 ≤ x10 ∧ x10 ≤ 25) (k11 : (-900000000) ≤ x11 ∧ x11 ≤ 900000000) (d0 : x5 + 1 ≤ x10 ∧ x10 ≤ x5 + 1) (d1 : x4 + (-4294967296) ≤ x10 ∧ x10 ≤ x4 + 0) (d2 : x4 + (-4294967296) ≤ x5 ∧ x5 ≤ x4 + (-1)) (f0 : (x10 = 0) → (x11 = nodeY_0 (((24 * g0_0) + all_0 (((r_0 + 267) + x1)))))) (f1 : (x10 = (bendMany_0 (((48 * g0_0) + x1)) + 1)) → (x11 = nodeY_0 (((24 * g0_0) + all_0 (((r_0 + 315) + x1)))))) (f2 : (x10 = 0) ∨ ((x10 = (bendMany_0 (((48 * g0_0) + x1)) + 1)) ∨ (x11 = bendY_0 (((24 * ((48 * g0_0) + x1)) + (x10 - 1)))))) (f3 : x10 ≤ (bendMany_0 (((48 * g0_0) + x1)) + 1)) (f4 : x10 = x5 + x9) (f5 : x4 ≤ (bendMany_0 (((48 * g0_0) + x1)) + 1)) (hK_0_63 : ∀ j : Int, 0 ≤ j → j < 96 → (-300000000) ≤ nodeY_0 j ∧ nodeY_0 j ≤ 300000000) (hK_0_64 : ∀ j : Int, 0 ≤ j → j < 192 → 0 ≤ bendMany_0 j ∧ bendMany_0 j ≤ 24) (hK_0_66 : ∀ j : Int, 0 ≤ j → j < 4608 → (-900000000) ≤ bendY_0 j ∧ bendY_0 j ≤ 900000000) (kz_0_139 : 0 ≤ g0_0 ∧ g0_0 ≤ 3) : x5 ≤ (bendMany_0 (((48 * g0_0) + x1)) + 1) := by
  first | assumption | (clear f0 f1 f2 hK_0_63 hK_0_64 hK_0_66; omega) | (clear hK_0_63 hK_0_64 hK_0_66; grind) | omega | grind
def o_Mo_ofEdge_11 : or_T := (233, 12, [(0, (2, 0, 0, [165])), (1, (0, 0, 47, [])), (4, (0, 1, 25, [])), (5, (0, 0, 24, [])), (9, (0, 1, 1, [])), (10, (0, 1, 25, [])), (11, (0, -900000000, 900000000, []))], [(20, [10, 11, 0, 1], [50, 2, 2, 2139, 2005, 2063, 2002, 4, 6, 1, 2, 1, 0, 0, 0, 1, 2, 1, 1, 3, 2, 63, 4, 7, 6, 2, 0, 24, 2, 2, 139, 3, 2, 2, 4, 7, 4, 3, 2, 2, 5, 0, 267, 1, 3]), (20, [10, 0, 1, 11], [50, 2, 3, 1139, 1005, 1064, 1063, 1002, 4, 22, 1, 2, 1, 0, 4, 14, 3, 1, 64, 4, 7, 6, 2, 0, 48, 2, 1, 139, 1, 2, 0, 1, 1, 2, 1, 3, 3, 1, 63, 4, 7, 6, 2, 0, 24, 2, 1, 139, 3, 1, 2, 4, 7, 4, 3, 2, 1, 5, 0, 315, 1, 2]), (20, [10, 0, 1, 11], [50, 1, 2, 1139, 1064, 1066, 3, 6, 1, 2, 1, 0, 0, 0, 3, 22, 1, 2, 1, 0, 4, 14, 3, 1, 64, 4, 7, 6, 2, 0, 48, 2, 1, 139, 1, 2, 0, 1, 1, 2, 1, 3, 3, 1, 66, 4, 15, 6, 2, 0, 24, 4, 7, 6, 2, 0, 48, 2, 1, 139, 1, 2, 5, 2, 1, 0, 0, 1]), (20, [10, 0, 1], [50, 1, 1, 1139, 1064, 0, 2, 1, 0, 4, 14, 3, 1, 64, 4, 7, 6, 2, 0, 48, 2, 1, 139, 1, 2, 0, 1]), (1, [10, 5, 9], []), (20, [4, 0, 1], [50, 1, 1, 1139, 1064, 0, 2, 1, 0, 4, 14, 3, 1, 64, 4, 7, 6, 2, 0, 48, 2, 1, 139, 1, 2, 0, 1])], [], [], [(20, [5, 0, 1], [50, 1, 1, 1139, 1064, 0, 2, 1, 0, 4, 14, 3, 1, 64, 4, 7, 6, 2, 0, 48, 2, 1, 139, 1, 2, 0, 1])], [], [(10, 5, 1, 1), (10, 4, -4294967296, 0), (5, 4, -4294967296, -1)])
theorem oo_Mo_ofEdge_11 {kA : Nat → ClassId} : or_ok PRD kA GG o_Mo_ofEdge_11 := by
  refine or_mk fun A ta ws vs hD hth hl => ?_
  intro t0 r0 t1 k1 t4 k4 t5 k5 t9 k9 t10 k10 t11 k11 d0 d1 d2 f0 f1 f2 f3 f4 f5
  have cr_0_63 := fdq_174 hD hth r0
  have cr_0_64 := fdq_171 hD hth r0
  have cr_0_66 := fdq_293 hD hth r0
  have hK_0_63 := elq_103 hD hth cr_0_63
  have hK_0_64 := elq_101 hD hth cr_0_64
  have hK_0_66 := elq_185 hD hth cr_0_66
  have kz_0_139 := fdq_172 hD hth r0
  have nf0 : fc_1 PRD (20, [5, 0, 1], [50, 1, 1, 1139, 1064, 0, 2, 1, 0, 4, 14, 3, 1, 64, 4, 7, 6, 2, 0, 48, 2, 1, 139, 1, 2, 0, 1]) ws (vs) := ⟨nf_in hl rfl, sgq_1421 (vc_Mo_ofEdge_11_0 (v_iv (n_v vs 1)) (v_iv (n_v vs 4)) (v_iv (n_v vs 5)) (v_iv (n_v vs 9)) (v_iv (n_v vs 10)) (v_iv (n_v vs 11)) (w_ei ws (w_ar ws (n_v vs 0) 63)) (w_ei ws (w_ar ws (n_v vs 0) 2)) (w_fi ws (n_v vs 0) 139) (w_fi ws (n_v vs 0) 5) (w_ei ws (w_ar ws (n_v vs 0) 64)) (w_ei ws (w_ar ws (n_v vs 0) 66)) k1 k4 k5 k9 k10 k11 d0 d1 d2 (shm_1427 f0) (shm_1428 f1) (shm_1429 f2) (shm_1421 f3) (shm_12 f4) (shm_1421 f5) hK_0_63 hK_0_64 hK_0_66 kz_0_139)⟩
  refine ⟨(fun _ h => (by cases h)), [], trivial, ?_, (fun _ h => (by cases h))⟩
  rw [List.append_nil]
  exact List.forall_mem_cons.mpr ⟨⟨show (20 : Nat) < 100 from by decide, nf0⟩, (fun _ h => (by cases h))⟩
set_option maxHeartbeats 4000000 in
theorem vc_Mo_ofEdge_12_0 (x1 : Int) (x4 : Int) (x5 : Int) (x9 : Int) (x10 : Int) (x11 : Int) (nodeY_0 : Int → Int) (all_0 : Int → Int) (g0_0 : Int) (r_0 : Int) (bendMany_0 : Int → Int) (bendY_0 : Int → Int) (k1 : 0 ≤ x1 ∧ x1 ≤ 47) (k4 : 1 ≤ x4 ∧ x4 ≤ 25) (k5 : 0 ≤ x5 ∧ x5 ≤ 24) (k9 : 1 ≤ x9 ∧ x9 ≤ 1) (k10 : 1 ≤ x10 ∧ x10 ≤ 25) (k11 : (-300000000) ≤ x11 ∧ x11 ≤ 300000000) (d0 : x5 + 1 ≤ x10 ∧ x10 ≤ x5 + 1) (d1 : x4 + (-4294967296) ≤ x10 ∧ x10 ≤ x4 + 0) (d2 : x4 + (-4294967296) ≤ x5 ∧ x5 ≤ x4 + (-1)) (f0 : (x10 = 0) → (x11 = nodeY_0 (((24 * g0_0) + all_0 (((r_0 + 267) + x1)))))) (f1 : (x10 = (bendMany_0 (((48 * g0_0) + x1)) + 1)) → (x11 = nodeY_0 (((24 * g0_0) + all_0 (((r_0 + 315) + x1)))))) (f2 : (x10 = 0) ∨ ((x10 = (bendMany_0 (((48 * g0_0) + x1)) + 1)) ∨ (x11 = bendY_0 (((24 * ((48 * g0_0) + x1)) + (x10 - 1)))))) (f3 : x10 ≤ (bendMany_0 (((48 * g0_0) + x1)) + 1)) (f4 : x10 = x5 + x9) (f5 : x4 ≤ (bendMany_0 (((48 * g0_0) + x1)) + 1)) (hK_0_63 : ∀ j : Int, 0 ≤ j → j < 96 → (-300000000) ≤ nodeY_0 j ∧ nodeY_0 j ≤ 300000000) (hK_0_64 : ∀ j : Int, 0 ≤ j → j < 192 → 0 ≤ bendMany_0 j ∧ bendMany_0 j ≤ 24) (hK_0_66 : ∀ j : Int, 0 ≤ j → j < 4608 → (-900000000) ≤ bendY_0 j ∧ bendY_0 j ≤ 900000000) (kz_0_139 : 0 ≤ g0_0 ∧ g0_0 ≤ 3) : x5 ≤ (bendMany_0 (((48 * g0_0) + x1)) + 1) := by
  first | assumption | (clear f0 f1 f2 hK_0_63 hK_0_64 hK_0_66; omega) | (clear hK_0_63 hK_0_64 hK_0_66; grind) | omega | grind
def o_Mo_ofEdge_12 : or_T := (233, 12, [(0, (2, 0, 0, [165])), (1, (0, 0, 47, [])), (4, (0, 1, 25, [])), (5, (0, 0, 24, [])), (9, (0, 1, 1, [])), (10, (0, 1, 25, [])), (11, (0, -300000000, 300000000, []))], [(20, [10, 11, 0, 1], [50, 2, 2, 2139, 2005, 2063, 2002, 4, 6, 1, 2, 1, 0, 0, 0, 1, 2, 1, 1, 3, 2, 63, 4, 7, 6, 2, 0, 24, 2, 2, 139, 3, 2, 2, 4, 7, 4, 3, 2, 2, 5, 0, 267, 1, 3]), (20, [10, 0, 1, 11], [50, 2, 3, 1139, 1005, 1064, 1063, 1002, 4, 22, 1, 2, 1, 0, 4, 14, 3, 1, 64, 4, 7, 6, 2, 0, 48, 2, 1, 139, 1, 2, 0, 1, 1, 2, 1, 3, 3, 1, 63, 4, 7, 6, 2, 0, 24, 2, 1, 139, 3, 1, 2, 4, 7, 4, 3, 2, 1, 5, 0, 315, 1, 2]), (20, [10, 0, 1, 11], [50, 1, 2, 1139, 1064, 1066, 3, 6, 1, 2, 1, 0, 0, 0, 3, 22, 1, 2, 1, 0, 4, 14, 3, 1, 64, 4, 7, 6, 2, 0, 48, 2, 1, 139, 1, 2, 0, 1, 1, 2, 1, 3, 3, 1, 66, 4, 15, 6, 2, 0, 24, 4, 7, 6, 2, 0, 48, 2, 1, 139, 1, 2, 5, 2, 1, 0, 0, 1]), (20, [10, 0, 1], [50, 1, 1, 1139, 1064, 0, 2, 1, 0, 4, 14, 3, 1, 64, 4, 7, 6, 2, 0, 48, 2, 1, 139, 1, 2, 0, 1]), (1, [10, 5, 9], []), (20, [4, 0, 1], [50, 1, 1, 1139, 1064, 0, 2, 1, 0, 4, 14, 3, 1, 64, 4, 7, 6, 2, 0, 48, 2, 1, 139, 1, 2, 0, 1])], [], [], [(20, [5, 0, 1], [50, 1, 1, 1139, 1064, 0, 2, 1, 0, 4, 14, 3, 1, 64, 4, 7, 6, 2, 0, 48, 2, 1, 139, 1, 2, 0, 1])], [], [(10, 5, 1, 1), (10, 4, -4294967296, 0), (5, 4, -4294967296, -1)])
theorem oo_Mo_ofEdge_12 {kA : Nat → ClassId} : or_ok PRD kA GG o_Mo_ofEdge_12 := by
  refine or_mk fun A ta ws vs hD hth hl => ?_
  intro t0 r0 t1 k1 t4 k4 t5 k5 t9 k9 t10 k10 t11 k11 d0 d1 d2 f0 f1 f2 f3 f4 f5
  have cr_0_63 := fdq_174 hD hth r0
  have cr_0_64 := fdq_171 hD hth r0
  have cr_0_66 := fdq_293 hD hth r0
  have hK_0_63 := elq_103 hD hth cr_0_63
  have hK_0_64 := elq_101 hD hth cr_0_64
  have hK_0_66 := elq_185 hD hth cr_0_66
  have kz_0_139 := fdq_172 hD hth r0
  have nf0 : fc_1 PRD (20, [5, 0, 1], [50, 1, 1, 1139, 1064, 0, 2, 1, 0, 4, 14, 3, 1, 64, 4, 7, 6, 2, 0, 48, 2, 1, 139, 1, 2, 0, 1]) ws (vs) := ⟨nf_in hl rfl, sgq_1421 (vc_Mo_ofEdge_12_0 (v_iv (n_v vs 1)) (v_iv (n_v vs 4)) (v_iv (n_v vs 5)) (v_iv (n_v vs 9)) (v_iv (n_v vs 10)) (v_iv (n_v vs 11)) (w_ei ws (w_ar ws (n_v vs 0) 63)) (w_ei ws (w_ar ws (n_v vs 0) 2)) (w_fi ws (n_v vs 0) 139) (w_fi ws (n_v vs 0) 5) (w_ei ws (w_ar ws (n_v vs 0) 64)) (w_ei ws (w_ar ws (n_v vs 0) 66)) k1 k4 k5 k9 k10 k11 d0 d1 d2 (shm_1427 f0) (shm_1428 f1) (shm_1429 f2) (shm_1421 f3) (shm_12 f4) (shm_1421 f5) hK_0_63 hK_0_64 hK_0_66 kz_0_139)⟩
  refine ⟨(fun _ h => (by cases h)), [], trivial, ?_, (fun _ h => (by cases h))⟩
  rw [List.append_nil]
  exact List.forall_mem_cons.mpr ⟨⟨show (20 : Nat) < 100 from by decide, nf0⟩, (fun _ h => (by cases h))⟩
def n_Mo_ofEdge_an : List an_T := [(30, [(0, (2, 0, 0, [165])), (1, (0, 0, 47, [])), (2, (0, 2, 2, [])), (3, (1, (Int.negSucc 9223372036854775807), 9223372036854775807, [])), (5, (0, 1, 25, [])), (6, (0, 0, 24, []))], [], (0, 0), [(0, 0, 99970), (1, 5, 24), (0, 0, 100000), (0, 0, 0), (0, 0, 0)], [], [], [], 0, [], [(20, [4, 0, 1], [50, 1, 1, 1139, 1064, 0, 2, 1, 0, 4, 14, 3, 1, 64, 4, 7, 6, 2, 0, 48, 2, 1, 139, 1, 2, 0, 1])]), (45, [(0, (2, 0, 0, [165])), (1, (0, 0, 47, [])), (2, (0, 2, 2, [])), (3, (1, (Int.negSucc 9223372036854775807), 9223372036854775807, [])), (5, (0, 1, 25, [])), (6, (0, 0, 23, [])), (7, (0, 0, 1, [])), (8, (0, 0, 25, []))], [], (0, 0), [(0, 0, 99970), (1, 5, 24), (0, 0, 99955), (1, 7, 25), (0, 0, 100000)], [(6, 7, (Int.negSucc 999999999999), 0), (7, 4, (Int.negSucc 999999999999), 0)], [], [], 0, [], [(20, [4, 0, 1], [50, 1, 1, 1139, 1064, 0, 2, 1, 0, 4, 14, 3, 1, 64, 4, 7, 6, 2, 0, 48, 2, 1, 139, 1, 2, 0, 1])]), (88, [(0, (2, 0, 0, [165])), (1, (0, 0, 47, [])), (2, (0, 2, 2, [])), (3, (1, (Int.negSucc 9223372036854775807), 9223372036854775807, [])), (5, (0, 1, 25, [])), (6, (0, 0, 23, [])), (7, (0, 0, 0, [])), (8, (0, 0, 24, []))], [(0, (Int.negSucc 300000010), 300000000, []), (1, (Int.negSucc 299999999), 300000000, []), (1, (Int.negSucc 299999999), 300000000, [])], (0, 0), [(0, 0, 99970), (1, 5, 24), (0, 0, 99955), (1, 7, 25), (0, 0, 99912)], [(7, 4, (Int.negSucc 999999999999), (Int.negSucc 0))], [], [], 0, [], [(20, [4, 0, 1], [50, 1, 1, 1139, 1064, 0, 2, 1, 0, 4, 14, 3, 1, 64, 4, 7, 6, 2, 0, 48, 2, 1, 139, 1, 2, 0, 1])]), (96, [(0, (2, 0, 0, [165])), (1, (0, 0, 47, [])), (2, (0, 2, 2, [])), (3, (1, (Int.negSucc 9223372036854775807), 9223372036854775807, [])), (5, (0, 1, 25, [])), (6, (0, 0, 23, [])), (7, (0, 0, 0, [])), (8, (0, 0, 24, []))], [(0, (Int.negSucc 899999999), 900000000, []), (1, (Int.negSucc 300000010), 300000000, []), (1, (Int.negSucc 299999999), 300000000, []), (1, (Int.negSucc 299999999), 300000000, [])], (0, 0), [(0, 0, 99970), (1, 5, 24), (0, 0, 99955), (1, 7, 25), (0, 0, 99904)], [(7, 4, (Int.negSucc 999999999999), (Int.negSucc 0))], [], [], 0, [], [(20, [4, 0, 1], [50, 1, 1, 1139, 1064, 0, 2, 1, 0, 4, 14, 3, 1, 64, 4, 7, 6, 2, 0, 48, 2, 1, 139, 1, 2, 0, 1])]), (106, [(0, (2, 0, 0, [165])), (1, (0, 0, 47, [])), (2, (0, 2, 2, [])), (3, (1, (Int.negSucc 9223372036854775807), 9223372036854775807, [])), (5, (0, 1, 25, [])), (6, (0, 0, 23, [])), (7, (0, 0, 0, [])), (8, (0, 0, 24, []))], [(0, (Int.negSucc 300000010), 300000000, []), (1, (Int.negSucc 899999999), 900000000, []), (1, (Int.negSucc 300000010), 300000000, []), (1, (Int.negSucc 299999999), 300000000, []), (1, (Int.negSucc 299999999), 300000000, [])], (0, 0), [(0, 0, 99970), (1, 5, 24), (0, 0, 99955), (1, 7, 25), (0, 0, 99894)], [(7, 4, (Int.negSucc 999999999999), (Int.negSucc 0))], [], [], 0, [], [(20, [4, 0, 1], [50, 1, 1, 1139, 1064, 0, 2, 1, 0, 4, 14, 3, 1, 64, 4, 7, 6, 2, 0, 48, 2, 1, 139, 1, 2, 0, 1])]), (130, [(0, (2, 0, 0, [165])), (1, (0, 0, 47, [])), (2, (0, 2, 2, [])), (3, (1, (Int.negSucc 9223372036854775807), 9223372036854775807, [])), (5, (0, 1, 25, [])), (6, (0, 0, 23, [])), (7, (0, 0, 1, [])), (8, (0, 0, 24, []))], [], (0, 0), [(0, 0, 99970), (1, 5, 24), (0, 0, 99955), (1, 7, 25), (0, 0, 99870)], [(7, 4, (Int.negSucc 999999999999), (Int.negSucc 0))], [], [], 0, [], [(20, [4, 0, 1], [50, 1, 1, 1139, 1064, 0, 2, 1, 0, 4, 14, 3, 1, 64, 4, 7, 6, 2, 0, 48, 2, 1, 139, 1, 2, 0, 1])]), (160, [(0, (2, 0, 0, [165])), (1, (0, 0, 47, [])), (2, (0, 3, 8, [])), (3, (1, (Int.negSucc 9223372036854775807), 9223372036854775807, [])), (5, (0, 1, 25, [])), (6, (0, 0, 25, []))], [], (0, 0), [(0, 0, 99840), (1, 5, 25), (0, 0, 100000), (0, 0, 0), (0, 0, 0)], [(5, 4, (Int.negSucc 999999999999), 0)], [], [], 0, [], [(20, [4, 0, 1], [50, 1, 1, 1139, 1064, 0, 2, 1, 0, 4, 14, 3, 1, 64, 4, 7, 6, 2, 0, 48, 2, 1, 139, 1, 2, 0, 1])]), (174, [(0, (2, 0, 0, [165])), (1, (0, 0, 47, [])), (2, (0, 3, 8, [])), (3, (1, (Int.negSucc 9223372036854775807), 9223372036854775807, [])), (5, (0, 1, 25, [])), (6, (0, 0, 24, []))], [(0, (Int.negSucc 300000010), 300000000, [])], (0, 0), [(0, 0, 99840), (1, 5, 25), (0, 0, 99826), (0, 0, 0), (0, 0, 0)], [(5, 4, (Int.negSucc 999999999999), (Int.negSucc 0))], [], [], 0, [], [(20, [4, 0, 1], [50, 1, 1, 1139, 1064, 0, 2, 1, 0, 4, 14, 3, 1, 64, 4, 7, 6, 2, 0, 48, 2, 1, 139, 1, 2, 0, 1])]), (191, [(0, (2, 0, 0, [165])), (1, (0, 0, 47, [])), (2, (0, 3, 8, [])), (3, (1, (Int.negSucc 9223372036854775807), 9223372036854775807, [])), (5, (0, 1, 25, [])), (6, (0, 0, 24, [])), (7, (1, 0, 600000011, []))], [], (0, 0), [(0, 0, 99840), (1, 5, 25), (0, 0, 99809), (0, 0, 0), (0, 0, 0)], [(5, 4, (Int.negSucc 999999999999), (Int.negSucc 0))], [], [], 0, [], [(20, [4, 0, 1], [50, 1, 1, 1139, 1064, 0, 2, 1, 0, 4, 14, 3, 1, 64, 4, 7, 6, 2, 0, 48, 2, 1, 139, 1, 2, 0, 1])]), (198, [(0, (2, 0, 0, [165])), (1, (0, 0, 47, [])), (2, (0, 3, 8, [])), (3, (1, (Int.negSucc 9223372036854775807), 9223372036854775807, [])), (5, (0, 1, 25, [])), (6, (0, 0, 24, [])), (7, (1, 0, 600000011, []))], [(0, (Int.negSucc 899999999), 900000000, [])], (0, 0), [(0, 0, 99840), (1, 5, 25), (0, 0, 99802), (0, 0, 0), (0, 0, 0)], [(5, 4, (Int.negSucc 999999999999), (Int.negSucc 0))], [], [], 0, [], [(20, [4, 0, 1], [50, 1, 1, 1139, 1064, 0, 2, 1, 0, 4, 14, 3, 1, 64, 4, 7, 6, 2, 0, 48, 2, 1, 139, 1, 2, 0, 1])]), (215, [(0, (2, 0, 0, [165])), (1, (0, 0, 47, [])), (2, (0, 3, 8, [])), (3, (1, (Int.negSucc 9223372036854775807), 9223372036854775807, [])), (5, (0, 1, 25, [])), (6, (0, 0, 24, [])), (7, (1, 0, 600000011, [])), (9, (1, 0, 1800000000, []))], [], (0, 0), [(0, 0, 99840), (1, 5, 25), (0, 0, 99785), (0, 0, 0), (0, 0, 0)], [(5, 4, (Int.negSucc 999999999999), (Int.negSucc 0))], [], [], 0, [], [(20, [4, 0, 1], [50, 1, 1, 1139, 1064, 0, 2, 1, 0, 4, 14, 3, 1, 64, 4, 7, 6, 2, 0, 48, 2, 1, 139, 1, 2, 0, 1])]), (268, [(0, (2, 0, 0, [165])), (1, (0, 0, 47, [])), (2, (0, 3, 8, [])), (3, (1, (Int.negSucc 9223372036854775807), 9223372036854775807, [])), (5, (0, 1, 25, [])), (6, (0, 0, 24, [])), (7, (1, 0, 600000011, [])), (9, (1, 0, 1800000000, []))], [], (0, 0), [(0, 0, 99840), (1, 5, 25), (0, 0, 99732), (0, 0, 0), (0, 0, 0)], [(5, 4, (Int.negSucc 999999999999), (Int.negSucc 0))], [], [], 0, [], [(20, [4, 0, 1], [50, 1, 1, 1139, 1064, 0, 2, 1, 0, 4, 14, 3, 1, 64, 4, 7, 6, 2, 0, 48, 2, 1, 139, 1, 2, 0, 1])]), (282, [(0, (2, 0, 0, [165])), (1, (0, 0, 47, [])), (2, (0, 3, 8, [])), (3, (1, (Int.negSucc 9223372036854775807), 9223372036854775807, [])), (5, (0, 1, 25, [])), (6, (0, 0, 24, [])), (7, (1, 0, 600000011, [])), (9, (1, 0, 1800000000, []))], [], (0, 0), [(0, 0, 99840), (1, 5, 25), (0, 0, 99718), (0, 0, 0), (0, 0, 0)], [(5, 4, (Int.negSucc 999999999999), (Int.negSucc 0))], [], [], 0, [], [(20, [4, 0, 1], [50, 1, 1, 1139, 1064, 0, 2, 1, 0, 4, 14, 3, 1, 64, 4, 7, 6, 2, 0, 48, 2, 1, 139, 1, 2, 0, 1])])]
def t_Mo_ofEdge_ct : ct_L := [(0, 1107, e_Mo_isOn), (1, 405, e_Mo_has), (1, 475, e_Mo_nodes), (1, 1023, e_Mo_px), (1, 1026, e_Mo_pointsOf), (1, 1029, e_Mo_py), (1, 1085, e_Mo_ex), (1, 1088, e_Mo_ey), (561, 1137, e_jMath_abs2_v757), (561, 1137, e_jMath_abs2_v759), (561, 1137, e_jMath_abs2_v144), (561, 1137, e_jMath_abs2_v760), (633, 1137, e_jMath_abs2_v144), (633, 1137, e_jMath_abs2_v758), (633, 1137, e_jMath_abs2_v761)]
set_option maxRecDepth 100000 in
theorem c_Mo_ofEdge {l : Launch} {D : va_G} {kA : Nat → ClassId} (h_Mo_ex : ct_ok PRD l D kA GG y_Mo_ex z_Mo_ex e_Mo_ex) (h_Mo_ey : ct_ok PRD l D kA GG y_Mo_ey z_Mo_ey e_Mo_ey) (h_Mo_has : ct_ok PRD l D kA GG y_Mo_has z_Mo_has e_Mo_has) (h_Mo_isOn : ct_ok PRD l D kA GG y_Mo_isOn z_Mo_isOn e_Mo_isOn) (h_Mo_nodes : ct_ok PRD l D kA GG y_Mo_nodes z_Mo_nodes e_Mo_nodes) (h_Mo_pointsOf : ct_ok PRD l D kA GG y_Mo_pointsOf z_Mo_pointsOf e_Mo_pointsOf) (h_Mo_px : ct_ok PRD l D kA GG y_Mo_px z_Mo_px e_Mo_px) (h_Mo_py : ct_ok PRD l D kA GG y_Mo_py z_Mo_py e_Mo_py) : ct_ok PRD l D kA GG y_Mo_ofEdge z_Mo_ofEdge e_Mo_ofEdge := chk_all_ok (FT := []) (PT := []) (CT := t_Mo_ofEdge_ct) (KT := []) (NT := []) (AN := n_Mo_ofEdge_an) (OT := [o_Mo_ofEdge_0, o_Mo_ofEdge_1, o_Mo_ofEdge_2, o_Mo_ofEdge_3, o_Mo_ofEdge_4, o_Mo_ofEdge_5, o_Mo_ofEdge_6, o_Mo_ofEdge_7, o_Mo_ofEdge_8, o_Mo_ofEdge_9, o_Mo_ofEdge_10, o_Mo_ofEdge_11, o_Mo_ofEdge_12]) 5 1108 (List.forall_mem_cons.mpr ⟨oo_Mo_ofEdge_0, List.forall_mem_cons.mpr ⟨oo_Mo_ofEdge_1, List.forall_mem_cons.mpr ⟨oo_Mo_ofEdge_2, List.forall_mem_cons.mpr ⟨oo_Mo_ofEdge_3, List.forall_mem_cons.mpr ⟨oo_Mo_ofEdge_4, List.forall_mem_cons.mpr ⟨oo_Mo_ofEdge_5, List.forall_mem_cons.mpr ⟨oo_Mo_ofEdge_6, List.forall_mem_cons.mpr ⟨oo_Mo_ofEdge_7, List.forall_mem_cons.mpr ⟨oo_Mo_ofEdge_8, List.forall_mem_cons.mpr ⟨oo_Mo_ofEdge_9, List.forall_mem_cons.mpr ⟨oo_Mo_ofEdge_10, List.forall_mem_cons.mpr ⟨oo_Mo_ofEdge_11, List.forall_mem_cons.mpr ⟨oo_Mo_ofEdge_12, List.forall_mem_nil _⟩⟩⟩⟩⟩⟩⟩⟩⟩⟩⟩⟩⟩) (by decide +kernel) ⟨List.forall_mem_nil _, List.forall_mem_nil _, List.forall_mem_cons.mpr ⟨cl_static (y := y_Mo_isOn) h_Mo_isOn wm_3755 wm_9 wm_3753 wm_3754 ⟨by decide, by decide, by decide +kernel⟩ (by decide), List.forall_mem_cons.mpr ⟨cl_virtual (y := y_Mo_has) (ci := 13) rfl rfl ⟨_, _, rfl⟩ (by decide +kernel) h_Mo_has wm_3041 wm_9 wm_3038 wm_3040 wv_13_7 ⟨by decide, by decide, by decide +kernel⟩ (by decide), List.forall_mem_cons.mpr ⟨cl_virtual (y := y_Mo_nodes) (ci := 13) rfl rfl ⟨_, _, rfl⟩ (by decide +kernel) h_Mo_nodes wm_3025 wm_9 wm_3022 wm_3024 wv_13_3 ⟨by decide, by decide, by decide +kernel⟩ (by decide), List.forall_mem_cons.mpr ⟨cl_virtual (y := y_Mo_px) (ci := 13) rfl rfl ⟨_, _, rfl⟩ (by decide +kernel) h_Mo_px wm_3675 wm_9 wm_3672 wm_3674 wv_21_14 ⟨by decide, by decide, by decide +kernel⟩ (by decide), List.forall_mem_cons.mpr ⟨cl_virtual (y := y_Mo_pointsOf) (ci := 13) rfl rfl ⟨_, _, rfl⟩ (by decide +kernel) h_Mo_pointsOf wm_3726 wm_9 wm_3723 wm_3725 wv_22_8 ⟨by decide, by decide, by decide +kernel⟩ (by decide), List.forall_mem_cons.mpr ⟨cl_virtual (y := y_Mo_py) (ci := 13) rfl rfl ⟨_, _, rfl⟩ (by decide +kernel) h_Mo_py wm_3679 wm_9 wm_3676 wm_3678 wv_21_15 ⟨by decide, by decide, by decide +kernel⟩ (by decide), List.forall_mem_cons.mpr ⟨cl_virtual (y := y_Mo_ex) (ci := 13) rfl rfl ⟨_, _, rfl⟩ (by decide +kernel) h_Mo_ex wm_3730 wm_9 wm_3727 wm_3729 wv_22_9 ⟨by decide, by decide, by decide +kernel⟩ (by decide), List.forall_mem_cons.mpr ⟨cl_virtual (y := y_Mo_ey) (ci := 13) rfl rfl ⟨_, _, rfl⟩ (by decide +kernel) h_Mo_ey wm_3734 wm_9 wm_3731 wm_3733 wv_22_10 ⟨by decide, by decide, by decide +kernel⟩ (by decide), List.forall_mem_cons.mpr ⟨cl_static (y := y_jMath_abs2) c_jMath_abs2_v757 wm_2082 wm_10 wm_3769 wm_2081 ⟨by decide, by decide, by decide +kernel⟩ (by decide), List.forall_mem_cons.mpr ⟨cl_static (y := y_jMath_abs2) c_jMath_abs2_v759 wm_2082 wm_10 wm_3769 wm_2081 ⟨by decide, by decide, by decide +kernel⟩ (by decide), List.forall_mem_cons.mpr ⟨cl_static (y := y_jMath_abs2) c_jMath_abs2_v144 wm_2082 wm_10 wm_3769 wm_2081 ⟨by decide, by decide, by decide +kernel⟩ (by decide), List.forall_mem_cons.mpr ⟨cl_static (y := y_jMath_abs2) c_jMath_abs2_v760 wm_2082 wm_10 wm_3769 wm_2081 ⟨by decide, by decide, by decide +kernel⟩ (by decide), List.forall_mem_cons.mpr ⟨cl_static (y := y_jMath_abs2) c_jMath_abs2_v144 wm_2082 wm_10 wm_3769 wm_2081 ⟨by decide, by decide, by decide +kernel⟩ (by decide), List.forall_mem_cons.mpr ⟨cl_static (y := y_jMath_abs2) c_jMath_abs2_v758 wm_2082 wm_10 wm_3769 wm_2081 ⟨by decide, by decide, by decide +kernel⟩ (by decide), List.forall_mem_cons.mpr ⟨cl_static (y := y_jMath_abs2) c_jMath_abs2_v761 wm_2082 wm_10 wm_3769 wm_2081 ⟨by decide, by decide, by decide +kernel⟩ (by decide), List.forall_mem_nil _⟩⟩⟩⟩⟩⟩⟩⟩⟩⟩⟩⟩⟩⟩⟩, List.forall_mem_nil _, List.forall_mem_nil _, GG_pl⟩ (by decide +kernel)

set_option maxHeartbeats 4000000 in
theorem vc_Mo_writeDrawing_0_0 (x1 : Int) (x2 : Int) (texts_0 : Int) (k1 : 0 ≤ x1 ∧ x1 ≤ 99965512) (k2 : 0 ≤ x2 ∧ x2 ≤ 0) (f0 : 1 * texts_0 + ((-1) * x1 + 0) ≤ 0) (kz_0_170 : 0 ≤ texts_0 ∧ texts_0 ≤ 100000000) : 1 * texts_0 + ((-1) * x1 + ((-37) * x2 + 0)) ≤ 0 := by
  first | assumption | omega | grind
def o_Mo_writeDrawing_0 : or_T := (2, 3, [(0, (2, 0, 0, [165])), (1, (0, 0, 99965512, [])), (2, (0, 0, 0, []))], [(20, [0, 1], [30, 0, 1, 1, 170, -1, 0, 0])], [], [], [(20, [0, 1, 2], [30, 0, 1, 1, 170, -1, 0, 0, -37, 0, 0]), (24, [0, 0], [])], [], [])
theorem oo_Mo_writeDrawing_0 {kA : Nat → ClassId} : or_ok PRD kA GG o_Mo_writeDrawing_0 := by
  refine or_mk fun A ta ws vs hD hth hl => ?_
  intro t0 r0 t1 k1 t2 k2 f0
  have kz_0_170 := fdq_11 hD hth r0
  have nf0 : fc_1 PRD (20, [0, 1, 2], [30, 0, 1, 1, 170, -1, 0, 0, -37, 0, 0]) ws (vs) := ⟨nf_in hl rfl, sgq_1921 (vc_Mo_writeDrawing_0_0 (v_iv (n_v vs 1)) (v_iv (n_v vs 2)) (w_fi ws (n_v vs 0) 170) k1 k2 (shm_131 f0) kz_0_170)⟩
  have nf1 : fc_1 PRD (24, [0, 0], []) ws (vs) := by
    refine ⟨nf_in hl rfl, sgq_1 ?_⟩
    · show n_v vs 0 = n_v vs 0
      first | rfl | simp only [true_and]
  refine ⟨(fun _ h => (by cases h)), [], trivial, ?_, (fun _ h => (by cases h))⟩
  rw [List.append_nil]
  exact List.forall_mem_cons.mpr ⟨⟨show (20 : Nat) < 100 from by decide, nf0⟩, List.forall_mem_cons.mpr ⟨⟨show (24 : Nat) < 100 from by decide, nf1⟩, (fun _ h => (by cases h))⟩⟩
set_option maxHeartbeats 4000000 in
theorem vc_Mo_writeDrawing_1_0 (x1 : Int) (x3 : Int) (x4 : Int) (x5 : Int) (all_0 : Int → Int) (r_0 : Int) (texts_0 : Int) (k1 : 0 ≤ x1 ∧ x1 ≤ 99965512) (k3 : 0 ≤ x3 ∧ x3 ≤ 24) (k4 : 0 ≤ x4 ∧ x4 ≤ 24) (k5 : 0 ≤ x5 ∧ x5 ≤ 0) (d0 : x4 + 0 ≤ x3 ∧ x3 ≤ x4 + 4294967296) (f0 : x4 ≤ x3) (f1 : 1 * x4 + ((-1) * all_0 (r_0 + 0) + 0) ≤ 0) (f2 : (-1) * x4 + (1 * all_0 (r_0 + 0) + 0) ≤ 0) (f3 : 1 * texts_0 + ((-1) * x1 + ((-37) * x3 + 0)) ≤ 0) (kz_0_170 : 0 ≤ texts_0 ∧ texts_0 ≤ 100000000) : 1 * texts_0 + ((-1) * x1 + ((-700) * x5 + 0)) ≤ 888 := by
  first | assumption | omega | grind
def o_Mo_writeDrawing_1 : or_T := (59, 6, [(0, (2, 0, 0, [165])), (1, (0, 0, 99965512, [])), (3, (0, 0, 24, [])), (4, (0, 0, 24, [])), (5, (0, 0, 0, []))], [(7, [3, 4], [3]), (20, [4, 2], [30, 0, 1, 0, 0, -1, 3, 2005000]), (20, [4, 2], [30, 0, -1, 0, 0, 1, 3, 2005000]), (20, [2, 1, 3], [30, 0, 1, 1, 170, -1, 0, 0, -37, 0, 0]), (24, [0, 2], [])], [], [], [(20, [2, 1, 5], [30, 888, 1, 1, 170, -1, 0, 0, -700, 0, 0])], [], [(3, 4, 0, 4294967296)])
theorem oo_Mo_writeDrawing_1 {kA : Nat → ClassId} : or_ok PRD kA GG o_Mo_writeDrawing_1 := by
  refine or_mk fun A ta ws vs hD hth hl => ?_
  intro t0 r0 t1 k1 t3 k3 t4 k4 t5 k5 d0 f0 f1 f2 f3 f4
  replace f0 := shm_2 f0
  replace f1 := shm_126 f1
  replace f2 := shm_127 f2
  replace f3 := shm_1921 f3
  replace f4 := shm_5 f4
  have q2 : n_v vs 2 = n_v vs 0 := f4.symm
  simp only [q2] at f1 f2 f3
  have kz_0_170 := fdq_11 hD hth r0
  have nf0 : fc_1 PRD (20, [2, 1, 5], [30, 888, 1, 1, 170, -1, 0, 0, -700, 0, 0]) ws (vs) := by
    refine ⟨nf_in hl rfl, sgq_1922 ?_⟩
    · show 1 * w_fi ws (n_v vs 2) 170 + ((-1) * v_iv (n_v vs 1) + ((-700) * v_iv (n_v vs 5) + 0)) ≤ 888
      rw [q2]
      exact vc_Mo_writeDrawing_1_0 (v_iv (n_v vs 1)) (v_iv (n_v vs 3)) (v_iv (n_v vs 4)) (v_iv (n_v vs 5)) (w_ei ws (w_ar ws (n_v vs 0) 2)) (w_fi ws (n_v vs 0) 5) (w_fi ws (n_v vs 0) 170) k1 k3 k4 k5 d0 f0 f1 f2 f3 kz_0_170
  refine ⟨(fun _ h => (by cases h)), [], trivial, ?_, (fun _ h => (by cases h))⟩
  rw [List.append_nil]
  exact List.forall_mem_cons.mpr ⟨⟨show (20 : Nat) < 100 from by decide, nf0⟩, (fun _ h => (by cases h))⟩
set_option maxHeartbeats 4000000 in
theorem vc_Mo_writeDrawing_2_0 (x1 : Int) (x3 : Int) (x4 : Int) (all_0 : Int → Int) (r_0 : Int) (texts_0 : Int) (gx : Int) (k1 : 0 ≤ x1 ∧ x1 ≤ 99965512) (k3 : 0 ≤ x3 ∧ x3 ≤ 23) (k4 : 1 ≤ x4 ∧ x4 ≤ 24) (d0 : x4 + (-4294967296) ≤ x3 ∧ x3 ≤ x4 + (-1)) (f0 : x3 < x4) (f1 : 1 * x4 + ((-1) * all_0 (r_0 + 0) + 0) ≤ 0) (f2 : (-1) * x4 + (1 * all_0 (r_0 + 0) + 0) ≤ 0) (f3 : 1 * texts_0 + ((-1) * x1 + ((-37) * x3 + 0)) ≤ 0) (kz_0_170 : 0 ≤ texts_0 ∧ texts_0 ≤ 100000000) (ex2 : gx = texts_0) (ex3 : 0 ≤ gx ∧ gx ≤ 99999992) : 1 * texts_0 + ((-1) * gx + 0) ≤ 0 := by
  first | assumption | omega | grind
set_option maxHeartbeats 4000000 in
theorem vc_Mo_writeDrawing_2_1 (x1 : Int) (x3 : Int) (x4 : Int) (all_0 : Int → Int) (r_0 : Int) (texts_0 : Int) (gx : Int) (k1 : 0 ≤ x1 ∧ x1 ≤ 99965512) (k3 : 0 ≤ x3 ∧ x3 ≤ 23) (k4 : 1 ≤ x4 ∧ x4 ≤ 24) (d0 : x4 + (-4294967296) ≤ x3 ∧ x3 ≤ x4 + (-1)) (f0 : x3 < x4) (f1 : 1 * x4 + ((-1) * all_0 (r_0 + 0) + 0) ≤ 0) (f2 : (-1) * x4 + (1 * all_0 (r_0 + 0) + 0) ≤ 0) (f3 : 1 * texts_0 + ((-1) * x1 + ((-37) * x3 + 0)) ≤ 0) (kz_0_170 : 0 ≤ texts_0 ∧ texts_0 ≤ 100000000) (ex2 : gx = texts_0) (ex3 : 0 ≤ gx ∧ gx ≤ 99999992) : 1 * gx + ((-1) * x1 + ((-37) * x3 + 0)) ≤ 0 := by
  first | assumption | omega | grind
def o_Mo_writeDrawing_2 : or_T := (12, 5, [(0, (2, 0, 0, [165])), (1, (0, 0, 99965512, [])), (2, (2, 0, 0, [165])), (3, (0, 0, 23, [])), (4, (0, 1, 24, []))], [(7, [3, 4], [2]), (20, [4, 2], [30, 0, 1, 0, 0, -1, 3, 2005000]), (20, [4, 2], [30, 0, -1, 0, 0, 1, 3, 2005000]), (20, [2, 1, 3], [30, 0, 1, 1, 170, -1, 0, 0, -37, 0, 0]), (24, [0, 2], [])], [], [(0, 0, 99999992, [])], [(20, [2, 5], [30, 0, 1, 1, 170, -1, 0, 0]), (23, [5, 1, 3], [0, 1, -1, -37])], [], [(3, 4, -4294967296, -1)])
theorem oo_Mo_writeDrawing_2 {kA : Nat → ClassId} : or_ok PRD kA GG o_Mo_writeDrawing_2 := by
  refine or_mk fun A ta ws vs hD hth hl => ?_
  intro t0 r0 t1 k1 t2 r2 t3 k3 t4 k4 d0 f0 f1 f2 f3 f4
  replace f0 := shm_6 f0
  replace f1 := shm_126 f1
  replace f2 := shm_127 f2
  replace f3 := shm_1921 f3
  replace f4 := shm_5 f4
  have q2 : n_v vs 2 = n_v vs 0 := f4.symm
  simp only [q2] at f1 f2 f3
  have cr_0_2 := fdq_10 hD hth r0
  have kz_0_170 := fdq_11 hD hth r0
  have kv0 := fdq_11 hD hth r0
  obtain ⟨x, ex, hx⟩ := iv_ex (ta := ta) (lo := 0) (hi := 99999992) (z := w_fi ws (n_v vs 0) 170) (by omega) (by omega) (by omega) (by omega)
  have ex2 : v_iv (Value.int x) = w_fi ws (n_v vs 0) 170 := ex
  have ex3 : 0 ≤ v_iv (Value.int x) ∧ v_iv (Value.int x) ≤ 99999992 := tv_rng hx
  have e_1 : n_v (vs ++ [Value.int x]) 1 = n_v vs 1 := n_v_old (by rw [hl]; decide)
  have e_2 : n_v (vs ++ [Value.int x]) 2 = n_v vs 2 := n_v_old (by rw [hl]; decide)
  have e_3 : n_v (vs ++ [Value.int x]) 3 = n_v vs 3 := n_v_old (by rw [hl]; decide)
  have e_5 : n_v (vs ++ [Value.int x]) 5 = Value.int x := n_v_new hl
  have nf0 : fc_1 PRD (20, [2, 5], [30, 0, 1, 1, 170, -1, 0, 0]) ws (vs ++ [Value.int x]) := by
    refine ⟨nf_inA hl rfl, sgq_131 ?_⟩
    · show 1 * w_fi ws (n_v (vs ++ [Value.int x]) 2) 170 + ((-1) * v_iv (n_v (vs ++ [Value.int x]) 5) + 0) ≤ 0
      simp only [e_2, e_5, q2]
      exact vc_Mo_writeDrawing_2_0 (v_iv (n_v vs 1)) (v_iv (n_v vs 3)) (v_iv (n_v vs 4)) (w_ei ws (w_ar ws (n_v vs 0) 2)) (w_fi ws (n_v vs 0) 5) (w_fi ws (n_v vs 0) 170) (v_iv (Value.int x)) k1 k3 k4 d0 f0 f1 f2 f3 kz_0_170 ex2 ex3
  have nf1 : fc_1 PRD (23, [5, 1, 3], [0, 1, -1, -37]) ws (vs ++ [Value.int x]) := by
    refine ⟨nf_inA hl rfl, sgq_1923 ?_⟩
    · show 1 * v_iv (n_v (vs ++ [Value.int x]) 5) + ((-1) * v_iv (n_v (vs ++ [Value.int x]) 1) + ((-37) * v_iv (n_v (vs ++ [Value.int x]) 3) + 0)) ≤ 0
      simp only [e_1, e_3, e_5]
      exact vc_Mo_writeDrawing_2_1 (v_iv (n_v vs 1)) (v_iv (n_v vs 3)) (v_iv (n_v vs 4)) (w_ei ws (w_ar ws (n_v vs 0) 2)) (w_fi ws (n_v vs 0) 5) (w_fi ws (n_v vs 0) 170) (v_iv (Value.int x)) k1 k3 k4 d0 f0 f1 f2 f3 kz_0_170 ex2 ex3
  exact ⟨(fun _ h => (by cases h)), [Value.int x], ag_one hx, List.forall_mem_cons.mpr ⟨⟨show (20 : Nat) < 100 from by decide, nf0⟩, List.forall_mem_cons.mpr ⟨⟨show (23 : Nat) < 100 from by decide, nf1⟩, (fun _ h => (by cases h))⟩⟩, (fun _ h => (by cases h))⟩
set_option maxHeartbeats 4000000 in
theorem vc_Mo_writeDrawing_3_0 (x1 : Int) (x3 : Int) (x4 : Int) (x5 : Int) (all_0 : Int → Int) (r_0 : Int) (texts_0 : Int) (gx : Int) (k1 : 0 ≤ x1 ∧ x1 ≤ 99965512) (k3 : 0 ≤ x3 ∧ x3 ≤ 23) (k4 : 1 ≤ x4 ∧ x4 ≤ 24) (k5 : 0 ≤ x5 ∧ x5 ≤ 99999992) (d0 : x4 + (-4294967296) ≤ x3 ∧ x3 ≤ x4 + (-1)) (f0 : 1 * x5 + ((-1) * x1 + ((-37) * x3 + 0)) ≤ 0) (f1 : 1 * x4 + ((-1) * all_0 (r_0 + 0) + 0) ≤ 0) (f2 : (-1) * x4 + (1 * all_0 (r_0 + 0) + 0) ≤ 0) (f4 : 1 * texts_0 + ((-1) * x5 + 0) ≤ 8) (f6 : 1 * x5 + ((-1) * x1 + ((-37) * x3 + 0)) ≤ 0) (f7 : x3 < x4) (kz_0_170 : 0 ≤ texts_0 ∧ texts_0 ≤ 100000000) (ex2 : gx = texts_0) (ex3 : 0 ≤ gx ∧ gx ≤ 99999999) : 1 * texts_0 + ((-1) * gx + 0) ≤ 0 := by
  first | assumption | omega | grind
set_option maxHeartbeats 4000000 in
theorem vc_Mo_writeDrawing_3_1 (x1 : Int) (x3 : Int) (x4 : Int) (x5 : Int) (all_0 : Int → Int) (r_0 : Int) (texts_0 : Int) (gx : Int) (k1 : 0 ≤ x1 ∧ x1 ≤ 99965512) (k3 : 0 ≤ x3 ∧ x3 ≤ 23) (k4 : 1 ≤ x4 ∧ x4 ≤ 24) (k5 : 0 ≤ x5 ∧ x5 ≤ 99999992) (d0 : x4 + (-4294967296) ≤ x3 ∧ x3 ≤ x4 + (-1)) (f0 : 1 * x5 + ((-1) * x1 + ((-37) * x3 + 0)) ≤ 0) (f1 : 1 * x4 + ((-1) * all_0 (r_0 + 0) + 0) ≤ 0) (f2 : (-1) * x4 + (1 * all_0 (r_0 + 0) + 0) ≤ 0) (f4 : 1 * texts_0 + ((-1) * x5 + 0) ≤ 8) (f6 : 1 * x5 + ((-1) * x1 + ((-37) * x3 + 0)) ≤ 0) (f7 : x3 < x4) (kz_0_170 : 0 ≤ texts_0 ∧ texts_0 ≤ 100000000) (ex2 : gx = texts_0) (ex3 : 0 ≤ gx ∧ gx ≤ 99999999) : 1 * gx + ((-1) * x1 + ((-37) * x3 + 0)) ≤ 8 := by
  first | assumption | omega | grind
def o_Mo_writeDrawing_3 : or_T := (18, 7, [(0, (2, 0, 0, [165])), (1, (0, 0, 99965512, [])), (2, (2, 0, 0, [165])), (3, (0, 0, 23, [])), (4, (0, 1, 24, [])), (5, (0, 0, 99999992, []))], [(23, [5, 1, 3], [0, 1, -1, -37]), (20, [4, 2], [30, 0, 1, 0, 0, -1, 3, 2005000]), (20, [4, 2], [30, 0, -1, 0, 0, 1, 3, 2005000]), (24, [0, 2], []), (20, [2, 5], [30, 8, 1, 1, 170, -1, 0, 0]), (102, [5], [7770675568902916283677847627294075626569627356208558085007249638955617140820833992704, 165170]), (23, [5, 1, 3], [0, 1, -1, -37]), (7, [3, 4], [2])], [], [(0, 0, 99999999, [])], [(20, [2, 7], [30, 0, 1, 1, 170, -1, 0, 0]), (23, [7, 1, 3], [8, 1, -1, -37])], [], [(3, 4, -4294967296, -1)])
theorem oo_Mo_writeDrawing_3 {kA : Nat → ClassId} : or_ok PRD kA GG o_Mo_writeDrawing_3 := by
  refine or_mk fun A ta ws vs hD hth hl => ?_
  intro t0 r0 t1 k1 t2 r2 t3 k3 t4 k4 t5 k5 d0 f0 f1 f2 f3 f4 ta1 w1 le1 s1 f6 f7
  replace f0 := shm_1923 f0
  replace f1 := shm_126 f1
  replace f2 := shm_127 f2
  replace f3 := shm_5 f3
  replace f4 := shm_160 f4
  replace f6 := shm_1923 f6
  replace f7 := shm_6 f7
  have q2 : n_v vs 2 = n_v vs 0 := f3.symm
  simp only [q2] at f1 f2 f4
  have cr_0_2 := fdq_10 hD hth r0
  have kz_0_170 := fdq_11 hD hth r0
  have kv0 := fdq_11 hD hth r0
  obtain ⟨x, ex, hx⟩ := iv_ex (ta := ta) (lo := 0) (hi := 99999999) (z := w_fi ws (n_v vs 0) 170) (by omega) (by omega) (by omega) (by omega)
  have ex2 : v_iv (Value.int x) = w_fi ws (n_v vs 0) 170 := ex
  have ex3 : 0 ≤ v_iv (Value.int x) ∧ v_iv (Value.int x) ≤ 99999999 := tv_rng hx
  have e_1 : n_v (vs ++ [Value.int x]) 1 = n_v vs 1 := n_v_old (by rw [hl]; decide)
  have e_2 : n_v (vs ++ [Value.int x]) 2 = n_v vs 2 := n_v_old (by rw [hl]; decide)
  have e_3 : n_v (vs ++ [Value.int x]) 3 = n_v vs 3 := n_v_old (by rw [hl]; decide)
  have e_7 : n_v (vs ++ [Value.int x]) 7 = Value.int x := n_v_new hl
  have nf0 : fc_1 PRD (20, [2, 7], [30, 0, 1, 1, 170, -1, 0, 0]) ws (vs ++ [Value.int x]) := by
    refine ⟨nf_inA hl rfl, sgq_131 ?_⟩
    · show 1 * w_fi ws (n_v (vs ++ [Value.int x]) 2) 170 + ((-1) * v_iv (n_v (vs ++ [Value.int x]) 7) + 0) ≤ 0
      simp only [e_2, e_7, q2]
      exact vc_Mo_writeDrawing_3_0 (v_iv (n_v vs 1)) (v_iv (n_v vs 3)) (v_iv (n_v vs 4)) (v_iv (n_v vs 5)) (w_ei ws (w_ar ws (n_v vs 0) 2)) (w_fi ws (n_v vs 0) 5) (w_fi ws (n_v vs 0) 170) (v_iv (Value.int x)) k1 k3 k4 k5 d0 f0 f1 f2 f4 f6 f7 kz_0_170 ex2 ex3
  have nf1 : fc_1 PRD (23, [7, 1, 3], [8, 1, -1, -37]) ws (vs ++ [Value.int x]) := by
    refine ⟨nf_inA hl rfl, sgq_1924 ?_⟩
    · show 1 * v_iv (n_v (vs ++ [Value.int x]) 7) + ((-1) * v_iv (n_v (vs ++ [Value.int x]) 1) + ((-37) * v_iv (n_v (vs ++ [Value.int x]) 3) + 0)) ≤ 8
      simp only [e_1, e_3, e_7]
      exact vc_Mo_writeDrawing_3_1 (v_iv (n_v vs 1)) (v_iv (n_v vs 3)) (v_iv (n_v vs 4)) (v_iv (n_v vs 5)) (w_ei ws (w_ar ws (n_v vs 0) 2)) (w_fi ws (n_v vs 0) 5) (w_fi ws (n_v vs 0) 170) (v_iv (Value.int x)) k1 k3 k4 k5 d0 f0 f1 f2 f4 f6 f7 kz_0_170 ex2 ex3
  exact ⟨(fun _ h => (by cases h)), [Value.int x], ag_one hx, List.forall_mem_cons.mpr ⟨⟨show (20 : Nat) < 100 from by decide, nf0⟩, List.forall_mem_cons.mpr ⟨⟨show (23 : Nat) < 100 from by decide, nf1⟩, (fun _ h => (by cases h))⟩⟩, (fun _ h => (by cases h))⟩
set_option maxHeartbeats 4000000 in
theorem vc_Mo_writeDrawing_4_0 (x1 : Int) (x3 : Int) (x4 : Int) (x5 : Int) (x7 : Int) (x8 : Int) (nodeX_0 : Int → Int) (g0_0 : Int) (all_0 : Int → Int) (r_0 : Int) (texts_0 : Int) (gx : Int) (k1 : 0 ≤ x1 ∧ x1 ≤ 99965512) (k3 : 0 ≤ x3 ∧ x3 ≤ 23) (k4 : 1 ≤ x4 ∧ x4 ≤ 24) (k5 : 0 ≤ x5 ∧ x5 ≤ 99999992) (k7 : 0 ≤ x7 ∧ x7 ≤ 99999999) (k8 : (-300000000) ≤ x8 ∧ x8 ≤ 300000000) (d0 : x4 + (-4294967296) ≤ x3 ∧ x3 ≤ x4 + (-1)) (f0 : x8 = nodeX_0 (((24 * g0_0) + x3))) (f1 : 1 * x7 + ((-1) * x1 + ((-37) * x3 + 0)) ≤ 8) (f2 : 1 * x5 + ((-1) * x1 + ((-37) * x3 + 0)) ≤ 0) (f3 : 1 * x4 + ((-1) * all_0 (r_0 + 0) + 0) ≤ 0) (f4 : (-1) * x4 + (1 * all_0 (r_0 + 0) + 0) ≤ 0) (f6 : 1 * texts_0 + ((-1) * x7 + 0) ≤ 1) (f8 : 1 * x7 + ((-1) * x1 + ((-37) * x3 + 0)) ≤ 8) (f9 : 1 * x5 + ((-1) * x1 + ((-37) * x3 + 0)) ≤ 0) (f11 : 1 * x5 + ((-1) * x1 + ((-37) * x3 + 0)) ≤ 0) (f12 : x3 < x4) (hK_0_62 : ∀ j : Int, 0 ≤ j → j < 96 → (-300000000) ≤ nodeX_0 j ∧ nodeX_0 j ≤ 300000000) (kz_0_139 : 0 ≤ g0_0 ∧ g0_0 ≤ 3) (kz_0_170 : 0 ≤ texts_0 ∧ texts_0 ≤ 100000000) (ex2 : gx = texts_0) (ex3 : 0 ≤ gx ∧ gx ≤ 99999987) : 1 * texts_0 + ((-1) * gx + 0) ≤ 0 := by
  first | assumption | (clear hK_0_62; omega) | omega | grind
set_option maxHeartbeats 4000000 in
theorem vc_Mo_writeDrawing_4_1 (x1 : Int) (x3 : Int) (x4 : Int) (x5 : Int) (x7 : Int) (x8 : Int) (nodeX_0 : Int → Int) (g0_0 : Int) (all_0 : Int → Int) (r_0 : Int) (texts_0 : Int) (gx : Int) (k1 : 0 ≤ x1 ∧ x1 ≤ 99965512) (k3 : 0 ≤ x3 ∧ x3 ≤ 23) (k4 : 1 ≤ x4 ∧ x4 ≤ 24) (k5 : 0 ≤ x5 ∧ x5 ≤ 99999992) (k7 : 0 ≤ x7 ∧ x7 ≤ 99999999) (k8 : (-300000000) ≤ x8 ∧ x8 ≤ 300000000) (d0 : x4 + (-4294967296) ≤ x3 ∧ x3 ≤ x4 + (-1)) (f0 : x8 = nodeX_0 (((24 * g0_0) + x3))) (f1 : 1 * x7 + ((-1) * x1 + ((-37) * x3 + 0)) ≤ 8) (f2 : 1 * x5 + ((-1) * x1 + ((-37) * x3 + 0)) ≤ 0) (f3 : 1 * x4 + ((-1) * all_0 (r_0 + 0) + 0) ≤ 0) (f4 : (-1) * x4 + (1 * all_0 (r_0 + 0) + 0) ≤ 0) (f6 : 1 * texts_0 + ((-1) * x7 + 0) ≤ 1) (f8 : 1 * x7 + ((-1) * x1 + ((-37) * x3 + 0)) ≤ 8) (f9 : 1 * x5 + ((-1) * x1 + ((-37) * x3 + 0)) ≤ 0) (f11 : 1 * x5 + ((-1) * x1 + ((-37) * x3 + 0)) ≤ 0) (f12 : x3 < x4) (hK_0_62 : ∀ j : Int, 0 ≤ j → j < 96 → (-300000000) ≤ nodeX_0 j ∧ nodeX_0 j ≤ 300000000) (kz_0_139 : 0 ≤ g0_0 ∧ g0_0 ≤ 3) (kz_0_170 : 0 ≤ texts_0 ∧ texts_0 ≤ 100000000) (ex2 : gx = texts_0) (ex3 : 0 ≤ gx ∧ gx ≤ 99999987) : 1 * gx + ((-1) * x1 + ((-37) * x3 + 0)) ≤ 9 := by
  first | assumption | (clear hK_0_62; omega) | omega | grind
def o_Mo_writeDrawing_4 : or_T := (27, 9, [(0, (2, 0, 0, [165])), (1, (0, 0, 99965512, [])), (2, (2, 0, 0, [165])), (3, (0, 0, 23, [])), (4, (0, 1, 24, [])), (5, (0, 0, 99999992, [])), (7, (0, 0, 99999999, [])), (8, (0, -300000000, 300000000, []))], [(20, [8, 2, 3], [50, 1, 1, 1139, 1062, 1, 2, 1, 0, 3, 1, 62, 4, 7, 6, 2, 0, 24, 2, 1, 139, 1, 2]), (23, [7, 1, 3], [8, 1, -1, -37]), (23, [5, 1, 3], [0, 1, -1, -37]), (20, [4, 2], [30, 0, 1, 0, 0, -1, 3, 2005000]), (20, [4, 2], [30, 0, -1, 0, 0, 1, 3, 2005000]), (24, [0, 2], []), (20, [2, 7], [30, 1, 1, 1, 170, -1, 0, 0]), (102, [7], [7770675568902916283677847627294075626569627356208558085007249638955617140820833992704, 165170]), (23, [7, 1, 3], [8, 1, -1, -37]), (23, [5, 1, 3], [0, 1, -1, -37]), (102, [5], [7770675568902916283677847627294075626569627356208558085007249638955617140820833992704, 165170]), (23, [5, 1, 3], [0, 1, -1, -37]), (7, [3, 4], [2])], [], [(0, 0, 99999987, [])], [(20, [2, 9], [30, 0, 1, 1, 170, -1, 0, 0]), (23, [9, 1, 3], [9, 1, -1, -37])], [], [(3, 4, -4294967296, -1)])
theorem oo_Mo_writeDrawing_4 {kA : Nat → ClassId} : or_ok PRD kA GG o_Mo_writeDrawing_4 := by
  refine or_mk fun A ta ws vs hD hth hl => ?_
  intro t0 r0 t1 k1 t2 r2 t3 k3 t4 k4 t5 k5 t7 k7 t8 k8 d0 f0 f1 f2 f3 f4 f5 f6 ta1 w1 le1 s1 f8 f9 ta2 w2 le2 s2 f11 f12
  replace f0 := shm_698 f0
  replace f1 := shm_1924 f1
  replace f2 := shm_1923 f2
  replace f3 := shm_126 f3
  replace f4 := shm_127 f4
  replace f5 := shm_5 f5
  replace f6 := shm_132 f6
  replace f8 := shm_1924 f8
  replace f9 := shm_1923 f9
  replace f11 := shm_1923 f11
  replace f12 := shm_6 f12
  have q2 : n_v vs 2 = n_v vs 0 := f5.symm
  simp only [q2] at f0 f3 f4 f6
  have cr_0_2 := fdq_10 hD hth r0
  have cr_0_62 := fdq_173 hD hth r0
  have hK_0_62 := elq_102 hD hth cr_0_62
  have kz_0_139 := fdq_172 hD hth r0
  have kz_0_170 := fdq_11 hD hth r0
  have kv0 := fdq_11 hD hth r0
  obtain ⟨x, ex, hx⟩ := iv_ex (ta := ta) (lo := 0) (hi := 99999987) (z := w_fi ws (n_v vs 0) 170) (by omega) (by omega) (by omega) (by omega)
  have ex2 : v_iv (Value.int x) = w_fi ws (n_v vs 0) 170 := ex
  have ex3 : 0 ≤ v_iv (Value.int x) ∧ v_iv (Value.int x) ≤ 99999987 := tv_rng hx
  have e_1 : n_v (vs ++ [Value.int x]) 1 = n_v vs 1 := n_v_old (by rw [hl]; decide)
  have e_2 : n_v (vs ++ [Value.int x]) 2 = n_v vs 2 := n_v_old (by rw [hl]; decide)
  have e_3 : n_v (vs ++ [Value.int x]) 3 = n_v vs 3 := n_v_old (by rw [hl]; decide)
  have e_9 : n_v (vs ++ [Value.int x]) 9 = Value.int x := n_v_new hl
  have nf0 : fc_1 PRD (20, [2, 9], [30, 0, 1, 1, 170, -1, 0, 0]) ws (vs ++ [Value.int x]) := by
    refine ⟨nf_inA hl rfl, sgq_131 ?_⟩
    · show 1 * w_fi ws (n_v (vs ++ [Value.int x]) 2) 170 + ((-1) * v_iv (n_v (vs ++ [Value.int x]) 9) + 0) ≤ 0
      simp only [e_2, e_9, q2]
      exact vc_Mo_writeDrawing_4_0 (v_iv (n_v vs 1)) (v_iv (n_v vs 3)) (v_iv (n_v vs 4)) (v_iv (n_v vs 5)) (v_iv (n_v vs 7)) (v_iv (n_v vs 8)) (w_ei ws (w_ar ws (n_v vs 0) 62)) (w_fi ws (n_v vs 0) 139) (w_ei ws (w_ar ws (n_v vs 0) 2)) (w_fi ws (n_v vs 0) 5) (w_fi ws (n_v vs 0) 170) (v_iv (Value.int x)) k1 k3 k4 k5 k7 k8 d0 f0 f1 f2 f3 f4 f6 f8 f9 f11 f12 hK_0_62 kz_0_139 kz_0_170 ex2 ex3
  have nf1 : fc_1 PRD (23, [9, 1, 3], [9, 1, -1, -37]) ws (vs ++ [Value.int x]) := by
    refine ⟨nf_inA hl rfl, sgq_1925 ?_⟩
    · show 1 * v_iv (n_v (vs ++ [Value.int x]) 9) + ((-1) * v_iv (n_v (vs ++ [Value.int x]) 1) + ((-37) * v_iv (n_v (vs ++ [Value.int x]) 3) + 0)) ≤ 9
      simp only [e_1, e_3, e_9]
      exact vc_Mo_writeDrawing_4_1 (v_iv (n_v vs 1)) (v_iv (n_v vs 3)) (v_iv (n_v vs 4)) (v_iv (n_v vs 5)) (v_iv (n_v vs 7)) (v_iv (n_v vs 8)) (w_ei ws (w_ar ws (n_v vs 0) 62)) (w_fi ws (n_v vs 0) 139) (w_ei ws (w_ar ws (n_v vs 0) 2)) (w_fi ws (n_v vs 0) 5) (w_fi ws (n_v vs 0) 170) (v_iv (Value.int x)) k1 k3 k4 k5 k7 k8 d0 f0 f1 f2 f3 f4 f6 f8 f9 f11 f12 hK_0_62 kz_0_139 kz_0_170 ex2 ex3
  exact ⟨(fun _ h => (by cases h)), [Value.int x], ag_one hx, List.forall_mem_cons.mpr ⟨⟨show (20 : Nat) < 100 from by decide, nf0⟩, List.forall_mem_cons.mpr ⟨⟨show (23 : Nat) < 100 from by decide, nf1⟩, (fun _ h => (by cases h))⟩⟩, (fun _ h => (by cases h))⟩
set_option maxHeartbeats 4000000 in
theorem vc_Mo_writeDrawing_5_0 (x1 : Int) (x3 : Int) (x4 : Int) (x5 : Int) (x7 : Int) (x8 : Int) (x9 : Int) (nodeX_0 : Int → Int) (g0_0 : Int) (all_0 : Int → Int) (r_0 : Int) (texts_0 : Int) (gx : Int) (k1 : 0 ≤ x1 ∧ x1 ≤ 99965512) (k3 : 0 ≤ x3 ∧ x3 ≤ 23) (k4 : 1 ≤ x4 ∧ x4 ≤ 24) (k5 : 0 ≤ x5 ∧ x5 ≤ 99999992) (k7 : 0 ≤ x7 ∧ x7 ≤ 99999999) (k8 : (-300000000) ≤ x8 ∧ x8 ≤ 300000000) (k9 : 0 ≤ x9 ∧ x9 ≤ 99999987) (d0 : x4 + (-4294967296) ≤ x3 ∧ x3 ≤ x4 + (-1)) (f0 : 1 * x9 + ((-1) * x1 + ((-37) * x3 + 0)) ≤ 9) (f1 : x8 = nodeX_0 (((24 * g0_0) + x3))) (f2 : 1 * x7 + ((-1) * x1 + ((-37) * x3 + 0)) ≤ 8) (f3 : 1 * x5 + ((-1) * x1 + ((-37) * x3 + 0)) ≤ 0) (f4 : 1 * x4 + ((-1) * all_0 (r_0 + 0) + 0) ≤ 0) (f5 : (-1) * x4 + (1 * all_0 (r_0 + 0) + 0) ≤ 0) (f7 : 1 * texts_0 + ((-1) * x9 + 0) ≤ 13) (f9 : 1 * x9 + ((-1) * x1 + ((-37) * x3 + 0)) ≤ 9) (f10 : 1 * x7 + ((-1) * x1 + ((-37) * x3 + 0)) ≤ 8) (f11 : 1 * x5 + ((-1) * x1 + ((-37) * x3 + 0)) ≤ 0) (f13 : 1 * x7 + ((-1) * x1 + ((-37) * x3 + 0)) ≤ 8) (f14 : 1 * x5 + ((-1) * x1 + ((-37) * x3 + 0)) ≤ 0) (f16 : 1 * x5 + ((-1) * x1 + ((-37) * x3 + 0)) ≤ 0) (f17 : x3 < x4) (hK_0_62 : ∀ j : Int, 0 ≤ j → j < 96 → (-300000000) ≤ nodeX_0 j ∧ nodeX_0 j ≤ 300000000) (kz_0_139 : 0 ≤ g0_0 ∧ g0_0 ≤ 3) (kz_0_170 : 0 ≤ texts_0 ∧ texts_0 ≤ 100000000) (ex2 : gx = texts_0) (ex3 : 0 ≤ gx ∧ gx ≤ 99999999) : 1 * texts_0 + ((-1) * gx + 0) ≤ 0 := by
  first | assumption | (clear hK_0_62; omega) | omega | grind
set_option maxHeartbeats 4000000 in
theorem vc_Mo_writeDrawing_5_1 (x1 : Int) (x3 : Int) (x4 : Int) (x5 : Int) (x7 : Int) (x8 : Int) (x9 : Int) (nodeX_0 : Int → Int) (g0_0 : Int) (all_0 : Int → Int) (r_0 : Int) (texts_0 : Int) (gx : Int) (k1 : 0 ≤ x1 ∧ x1 ≤ 99965512) (k3 : 0 ≤ x3 ∧ x3 ≤ 23) (k4 : 1 ≤ x4 ∧ x4 ≤ 24) (k5 : 0 ≤ x5 ∧ x5 ≤ 99999992) (k7 : 0 ≤ x7 ∧ x7 ≤ 99999999) (k8 : (-300000000) ≤ x8 ∧ x8 ≤ 300000000) (k9 : 0 ≤ x9 ∧ x9 ≤ 99999987) (d0 : x4 + (-4294967296) ≤ x3 ∧ x3 ≤ x4 + (-1)) (f0 : 1 * x9 + ((-1) * x1 + ((-37) * x3 + 0)) ≤ 9) (f1 : x8 = nodeX_0 (((24 * g0_0) + x3))) (f2 : 1 * x7 + ((-1) * x1 + ((-37) * x3 + 0)) ≤ 8) (f3 : 1 * x5 + ((-1) * x1 + ((-37) * x3 + 0)) ≤ 0) (f4 : 1 * x4 + ((-1) * all_0 (r_0 + 0) + 0) ≤ 0) (f5 : (-1) * x4 + (1 * all_0 (r_0 + 0) + 0) ≤ 0) (f7 : 1 * texts_0 + ((-1) * x9 + 0) ≤ 13) (f9 : 1 * x9 + ((-1) * x1 + ((-37) * x3 + 0)) ≤ 9) (f10 : 1 * x7 + ((-1) * x1 + ((-37) * x3 + 0)) ≤ 8) (f11 : 1 * x5 + ((-1) * x1 + ((-37) * x3 + 0)) ≤ 0) (f13 : 1 * x7 + ((-1) * x1 + ((-37) * x3 + 0)) ≤ 8) (f14 : 1 * x5 + ((-1) * x1 + ((-37) * x3 + 0)) ≤ 0) (f16 : 1 * x5 + ((-1) * x1 + ((-37) * x3 + 0)) ≤ 0) (f17 : x3 < x4) (hK_0_62 : ∀ j : Int, 0 ≤ j → j < 96 → (-300000000) ≤ nodeX_0 j ∧ nodeX_0 j ≤ 300000000) (kz_0_139 : 0 ≤ g0_0 ∧ g0_0 ≤ 3) (kz_0_170 : 0 ≤ texts_0 ∧ texts_0 ≤ 100000000) (ex2 : gx = texts_0) (ex3 : 0 ≤ gx ∧ gx ≤ 99999999) : 1 * gx + ((-1) * x1 + ((-37) * x3 + 0)) ≤ 22 := by
  first | assumption | (clear hK_0_62; omega) | omega | grind
def o_Mo_writeDrawing_5 : or_T := (33, 11, [(0, (2, 0, 0, [165])), (1, (0, 0, 99965512, [])), (2, (2, 0, 0, [165])), (3, (0, 0, 23, [])), (4, (0, 1, 24, [])), (5, (0, 0, 99999992, [])), (7, (0, 0, 99999999, [])), (8, (0, -300000000, 300000000, [])), (9, (0, 0, 99999987, []))], [(23, [9, 1, 3], [9, 1, -1, -37]), (20, [8, 2, 3], [50, 1, 1, 1139, 1062, 1, 2, 1, 0, 3, 1, 62, 4, 7, 6, 2, 0, 24, 2, 1, 139, 1, 2]), (23, [7, 1, 3], [8, 1, -1, -37]), (23, [5, 1, 3], [0, 1, -1, -37]), (20, [4, 2], [30, 0, 1, 0, 0, -1, 3, 2005000]), (20, [4, 2], [30, 0, -1, 0, 0, 1, 3, 2005000]), (24, [0, 2], []), (20, [2, 9], [30, 13, 1, 1, 170, -1, 0, 0]), (102, [9], [7770675568902916283677847627294075626569627356208558085007249638955617140820833992704, 165170]), (23, [9, 1, 3], [9, 1, -1, -37]), (23, [7, 1, 3], [8, 1, -1, -37]), (23, [5, 1, 3], [0, 1, -1, -37]), (102, [7], [7770675568902916283677847627294075626569627356208558085007249638955617140820833992704, 165170]), (23, [7, 1, 3], [8, 1, -1, -37]), (23, [5, 1, 3], [0, 1, -1, -37]), (102, [5], [7770675568902916283677847627294075626569627356208558085007249638955617140820833992704, 165170]), (23, [5, 1, 3], [0, 1, -1, -37]), (7, [3, 4], [2])], [], [(0, 0, 99999999, [])], [(20, [2, 11], [30, 0, 1, 1, 170, -1, 0, 0]), (23, [11, 1, 3], [22, 1, -1, -37])], [], [(3, 4, -4294967296, -1)])
theorem oo_Mo_writeDrawing_5 {kA : Nat → ClassId} : or_ok PRD kA GG o_Mo_writeDrawing_5 := by
  refine or_mk fun A ta ws vs hD hth hl => ?_
  intro t0 r0 t1 k1 t2 r2 t3 k3 t4 k4 t5 k5 t7 k7 t8 k8 t9 k9 d0 f0 f1 f2 f3 f4 f5 f6 f7 ta1 w1 le1 s1 f9 f10 f11 ta2 w2 le2 s2 f13 f14 ta3 w3 le3 s3 f16 f17
  replace f0 := shm_1925 f0
  replace f1 := shm_698 f1
  replace f2 := shm_1924 f2
  replace f3 := shm_1923 f3
  replace f4 := shm_126 f4
  replace f5 := shm_127 f5
  replace f6 := shm_5 f6
  replace f7 := shm_1056 f7
  replace f9 := shm_1925 f9
  replace f10 := shm_1924 f10
  replace f11 := shm_1923 f11
  replace f13 := shm_1924 f13
  replace f14 := shm_1923 f14
  replace f16 := shm_1923 f16
  replace f17 := shm_6 f17
  have q2 : n_v vs 2 = n_v vs 0 := f6.symm
  simp only [q2] at f1 f4 f5 f7
  have cr_0_2 := fdq_10 hD hth r0
  have cr_0_62 := fdq_173 hD hth r0
  have hK_0_62 := elq_102 hD hth cr_0_62
  have kz_0_139 := fdq_172 hD hth r0
  have kz_0_170 := fdq_11 hD hth r0
  have kv0 := fdq_11 hD hth r0
  obtain ⟨x, ex, hx⟩ := iv_ex (ta := ta) (lo := 0) (hi := 99999999) (z := w_fi ws (n_v vs 0) 170) (by omega) (by omega) (by omega) (by omega)
  have ex2 : v_iv (Value.int x) = w_fi ws (n_v vs 0) 170 := ex
  have ex3 : 0 ≤ v_iv (Value.int x) ∧ v_iv (Value.int x) ≤ 99999999 := tv_rng hx
  have e_1 : n_v (vs ++ [Value.int x]) 1 = n_v vs 1 := n_v_old (by rw [hl]; decide)
  have e_2 : n_v (vs ++ [Value.int x]) 2 = n_v vs 2 := n_v_old (by rw [hl]; decide)
  have e_3 : n_v (vs ++ [Value.int x]) 3 = n_v vs 3 := n_v_old (by rw [hl]; decide)
  have e_11 : n_v (vs ++ [Value.int x]) 11 = Value.int x := n_v_new hl
  have nf0 : fc_1 PRD (20, [2, 11], [30, 0, 1, 1, 170, -1, 0, 0]) ws (vs ++ [Value.int x]) := by
    refine ⟨nf_inA hl rfl, sgq_131 ?_⟩
    · show 1 * w_fi ws (n_v (vs ++ [Value.int x]) 2) 170 + ((-1) * v_iv (n_v (vs ++ [Value.int x]) 11) + 0) ≤ 0
      simp only [e_2, e_11, q2]
      exact vc_Mo_writeDrawing_5_0 (v_iv (n_v vs 1)) (v_iv (n_v vs 3)) (v_iv (n_v vs 4)) (v_iv (n_v vs 5)) (v_iv (n_v vs 7)) (v_iv (n_v vs 8)) (v_iv (n_v vs 9)) (w_ei ws (w_ar ws (n_v vs 0) 62)) (w_fi ws (n_v vs 0) 139) (w_ei ws (w_ar ws (n_v vs 0) 2)) (w_fi ws (n_v vs 0) 5) (w_fi ws (n_v vs 0) 170) (v_iv (Value.int x)) k1 k3 k4 k5 k7 k8 k9 d0 f0 f1 f2 f3 f4 f5 f7 f9 f10 f11 f13 f14 f16 f17 hK_0_62 kz_0_139 kz_0_170 ex2 ex3
  have nf1 : fc_1 PRD (23, [11, 1, 3], [22, 1, -1, -37]) ws (vs ++ [Value.int x]) := by
    refine ⟨nf_inA hl rfl, sgq_1926 ?_⟩
    · show 1 * v_iv (n_v (vs ++ [Value.int x]) 11) + ((-1) * v_iv (n_v (vs ++ [Value.int x]) 1) + ((-37) * v_iv (n_v (vs ++ [Value.int x]) 3) + 0)) ≤ 22
      simp only [e_1, e_3, e_11]
      exact vc_Mo_writeDrawing_5_1 (v_iv (n_v vs 1)) (v_iv (n_v vs 3)) (v_iv (n_v vs 4)) (v_iv (n_v vs 5)) (v_iv (n_v vs 7)) (v_iv (n_v vs 8)) (v_iv (n_v vs 9)) (w_ei ws (w_ar ws (n_v vs 0) 62)) (w_fi ws (n_v vs 0) 139) (w_ei ws (w_ar ws (n_v vs 0) 2)) (w_fi ws (n_v vs 0) 5) (w_fi ws (n_v vs 0) 170) (v_iv (Value.int x)) k1 k3 k4 k5 k7 k8 k9 d0 f0 f1 f2 f3 f4 f5 f7 f9 f10 f11 f13 f14 f16 f17 hK_0_62 kz_0_139 kz_0_170 ex2 ex3
  exact ⟨(fun _ h => (by cases h)), [Value.int x], ag_one hx, List.forall_mem_cons.mpr ⟨⟨show (20 : Nat) < 100 from by decide, nf0⟩, List.forall_mem_cons.mpr ⟨⟨show (23 : Nat) < 100 from by decide, nf1⟩, (fun _ h => (by cases h))⟩⟩, (fun _ h => (by cases h))⟩
set_option maxHeartbeats 4000000 in
theorem vc_Mo_writeDrawing_6_0 (x1 : Int) (x3 : Int) (x4 : Int) (x5 : Int) (x7 : Int) (x8 : Int) (x9 : Int) (x11 : Int) (x12 : Int) (nodeY_0 : Int → Int) (g0_0 : Int) (nodeX_0 : Int → Int) (all_0 : Int → Int) (r_0 : Int) (texts_0 : Int) (gx : Int) (k1 : 0 ≤ x1 ∧ x1 ≤ 99965512) (k3 : 0 ≤ x3 ∧ x3 ≤ 23) (k4 : 1 ≤ x4 ∧ x4 ≤ 24) (k5 : 0 ≤ x5 ∧ x5 ≤ 99999992) (k7 : 0 ≤ x7 ∧ x7 ≤ 99999999) (k8 : (-300000000) ≤ x8 ∧ x8 ≤ 300000000) (k9 : 0 ≤ x9 ∧ x9 ≤ 99999987) (k11 : 0 ≤ x11 ∧ x11 ≤ 99999999) (k12 : (-300000000) ≤ x12 ∧ x12 ≤ 300000000) (d0 : x4 + (-4294967296) ≤ x3 ∧ x3 ≤ x4 + (-1)) (f0 : x12 = nodeY_0 (((24 * g0_0) + x3))) (f1 : 1 * x11 + ((-1) * x1 + ((-37) * x3 + 0)) ≤ 22) (f2 : 1 * x9 + ((-1) * x1 + ((-37) * x3 + 0)) ≤ 9) (f3 : x8 = nodeX_0 (((24 * g0_0) + x3))) (f4 : 1 * x7 + ((-1) * x1 + ((-37) * x3 + 0)) ≤ 8) (f5 : 1 * x5 + ((-1) * x1 + ((-37) * x3 + 0)) ≤ 0) (f6 : 1 * x4 + ((-1) * all_0 (r_0 + 0) + 0) ≤ 0) (f7 : (-1) * x4 + (1 * all_0 (r_0 + 0) + 0) ≤ 0) (f9 : 1 * texts_0 + ((-1) * x11 + 0) ≤ 1) (f11 : 1 * x11 + ((-1) * x1 + ((-37) * x3 + 0)) ≤ 22) (f12 : 1 * x9 + ((-1) * x1 + ((-37) * x3 + 0)) ≤ 9) (f13 : 1 * x7 + ((-1) * x1 + ((-37) * x3 + 0)) ≤ 8) (f14 : 1 * x5 + ((-1) * x1 + ((-37) * x3 + 0)) ≤ 0) (f16 : 1 * x9 + ((-1) * x1 + ((-37) * x3 + 0)) ≤ 9) (f17 : 1 * x7 + ((-1) * x1 + ((-37) * x3 + 0)) ≤ 8) (f18 : 1 * x5 + ((-1) * x1 + ((-37) * x3 + 0)) ≤ 0) (f20 : 1 * x7 + ((-1) * x1 + ((-37) * x3 + 0)) ≤ 8) (f21 : 1 * x5 + ((-1) * x1 + ((-37) * x3 + 0)) ≤ 0) (f23 : 1 * x5 + ((-1) * x1 + ((-37) * x3 + 0)) ≤ 0) (f24 : x3 < x4) (hK_0_62 : ∀ j : Int, 0 ≤ j → j < 96 → (-300000000) ≤ nodeX_0 j ∧ nodeX_0 j ≤ 300000000) (hK_0_63 : ∀ j : Int, 0 ≤ j → j < 96 → (-300000000) ≤ nodeY_0 j ∧ nodeY_0 j ≤ 300000000) (kz_0_139 : 0 ≤ g0_0 ∧ g0_0 ≤ 3) (kz_0_170 : 0 ≤ texts_0 ∧ texts_0 ≤ 100000000) (ex2 : gx = texts_0) (ex3 : 0 ≤ gx ∧ gx ≤ 99999987) : 1 * texts_0 + ((-1) * gx + 0) ≤ 0 := by
  first | assumption | (clear hK_0_62 hK_0_63; omega) | omega | grind
set_option maxHeartbeats 4000000 in
theorem vc_Mo_writeDrawing_6_1 (x1 : Int) (x3 : Int) (x4 : Int) (x5 : Int) (x7 : Int) (x8 : Int) (x9 : Int) (x11 : Int) (x12 : Int) (nodeY_0 : Int → Int) (g0_0 : Int) (nodeX_0 : Int → Int) (all_0 : Int → Int) (r_0 : Int) (texts_0 : Int) (gx : Int) (k1 : 0 ≤ x1 ∧ x1 ≤ 99965512) (k3 : 0 ≤ x3 ∧ x3 ≤ 23) (k4 : 1 ≤ x4 ∧ x4 ≤ 24) (k5 : 0 ≤ x5 ∧ x5 ≤ 99999992) (k7 : 0 ≤ x7 ∧ x7 ≤ 99999999) (k8 : (-300000000) ≤ x8 ∧ x8 ≤ 300000000) (k9 : 0 ≤ x9 ∧ x9 ≤ 99999987) (k11 : 0 ≤ x11 ∧ x11 ≤ 99999999) (k12 : (-300000000) ≤ x12 ∧ x12 ≤ 300000000) (d0 : x4 + (-4294967296) ≤ x3 ∧ x3 ≤ x4 + (-1)) (f0 : x12 = nodeY_0 (((24 * g0_0) + x3))) (f1 : 1 * x11 + ((-1) * x1 + ((-37) * x3 + 0)) ≤ 22) (f2 : 1 * x9 + ((-1) * x1 + ((-37) * x3 + 0)) ≤ 9) (f3 : x8 = nodeX_0 (((24 * g0_0) + x3))) (f4 : 1 * x7 + ((-1) * x1 + ((-37) * x3 + 0)) ≤ 8) (f5 : 1 * x5 + ((-1) * x1 + ((-37) * x3 + 0)) ≤ 0) (f6 : 1 * x4 + ((-1) * all_0 (r_0 + 0) + 0) ≤ 0) (f7 : (-1) * x4 + (1 * all_0 (r_0 + 0) + 0) ≤ 0) (f9 : 1 * texts_0 + ((-1) * x11 + 0) ≤ 1) (f11 : 1 * x11 + ((-1) * x1 + ((-37) * x3 + 0)) ≤ 22) (f12 : 1 * x9 + ((-1) * x1 + ((-37) * x3 + 0)) ≤ 9) (f13 : 1 * x7 + ((-1) * x1 + ((-37) * x3 + 0)) ≤ 8) (f14 : 1 * x5 + ((-1) * x1 + ((-37) * x3 + 0)) ≤ 0) (f16 : 1 * x9 + ((-1) * x1 + ((-37) * x3 + 0)) ≤ 9) (f17 : 1 * x7 + ((-1) * x1 + ((-37) * x3 + 0)) ≤ 8) (f18 : 1 * x5 + ((-1) * x1 + ((-37) * x3 + 0)) ≤ 0) (f20 : 1 * x7 + ((-1) * x1 + ((-37) * x3 + 0)) ≤ 8) (f21 : 1 * x5 + ((-1) * x1 + ((-37) * x3 + 0)) ≤ 0) (f23 : 1 * x5 + ((-1) * x1 + ((-37) * x3 + 0)) ≤ 0) (f24 : x3 < x4) (hK_0_62 : ∀ j : Int, 0 ≤ j → j < 96 → (-300000000) ≤ nodeX_0 j ∧ nodeX_0 j ≤ 300000000) (hK_0_63 : ∀ j : Int, 0 ≤ j → j < 96 → (-300000000) ≤ nodeY_0 j ∧ nodeY_0 j ≤ 300000000) (kz_0_139 : 0 ≤ g0_0 ∧ g0_0 ≤ 3) (kz_0_170 : 0 ≤ texts_0 ∧ texts_0 ≤ 100000000) (ex2 : gx = texts_0) (ex3 : 0 ≤ gx ∧ gx ≤ 99999987) : 1 * gx + ((-1) * x1 + ((-37) * x3 + 0)) ≤ 23 := by
  first | assumption | (clear hK_0_62 hK_0_63; omega) | omega | grind
def o_Mo_writeDrawing_6 : or_T := (42, 13, [(0, (2, 0, 0, [165])), (1, (0, 0, 99965512, [])), (2, (2, 0, 0, [165])), (3, (0, 0, 23, [])), (4, (0, 1, 24, [])), (5, (0, 0, 99999992, [])), (7, (0, 0, 99999999, [])), (8, (0, -300000000, 300000000, [])), (9, (0, 0, 99999987, [])), (11, (0, 0, 99999999, [])), (12, (0, -300000000, 300000000, []))], [(20, [12, 2, 3], [50, 1, 1, 1139, 1063, 1, 2, 1, 0, 3, 1, 63, 4, 7, 6, 2, 0, 24, 2, 1, 139, 1, 2]), (23, [11, 1, 3], [22, 1, -1, -37]), (23, [9, 1, 3], [9, 1, -1, -37]), (20, [8, 2, 3], [50, 1, 1, 1139, 1062, 1, 2, 1, 0, 3, 1, 62, 4, 7, 6, 2, 0, 24, 2, 1, 139, 1, 2]), (23, [7, 1, 3], [8, 1, -1, -37]), (23, [5, 1, 3], [0, 1, -1, -37]), (20, [4, 2], [30, 0, 1, 0, 0, -1, 3, 2005000]), (20, [4, 2], [30, 0, -1, 0, 0, 1, 3, 2005000]), (24, [0, 2], []), (20, [2, 11], [30, 1, 1, 1, 170, -1, 0, 0]), (102, [11], [7770675568902916283677847627294075626569627356208558085007249638955617140820833992704, 165170]), (23, [11, 1, 3], [22, 1, -1, -37]), (23, [9, 1, 3], [9, 1, -1, -37]), (23, [7, 1, 3], [8, 1, -1, -37]), (23, [5, 1, 3], [0, 1, -1, -37]), (102, [9], [7770675568902916283677847627294075626569627356208558085007249638955617140820833992704, 165170]), (23, [9, 1, 3], [9, 1, -1, -37]), (23, [7, 1, 3], [8, 1, -1, -37]), (23, [5, 1, 3], [0, 1, -1, -37]), (102, [7], [7770675568902916283677847627294075626569627356208558085007249638955617140820833992704, 165170]), (23, [7, 1, 3], [8, 1, -1, -37]), (23, [5, 1, 3], [0, 1, -1, -37]), (102, [5], [7770675568902916283677847627294075626569627356208558085007249638955617140820833992704, 165170]), (23, [5, 1, 3], [0, 1, -1, -37]), (7, [3, 4], [2])], [], [(0, 0, 99999987, [])], [(20, [2, 13], [30, 0, 1, 1, 170, -1, 0, 0]), (23, [13, 1, 3], [23, 1, -1, -37])], [], [(3, 4, -4294967296, -1)])
theorem oo_Mo_writeDrawing_6 {kA : Nat → ClassId} : or_ok PRD kA GG o_Mo_writeDrawing_6 := by
  refine or_mk fun A ta ws vs hD hth hl => ?_
  intro t0 r0 t1 k1 t2 r2 t3 k3 t4 k4 t5 k5 t7 k7 t8 k8 t9 k9 t11 k11 t12 k12 d0 f0 f1 f2 f3 f4 f5 f6 f7 f8 f9 ta1 w1 le1 s1 f11 f12 f13 f14 ta2 w2 le2 s2 f16 f17 f18 ta3 w3 le3 s3 f20 f21 ta4 w4 le4 s4 f23 f24
  replace f0 := shm_700 f0
  replace f1 := shm_1926 f1
  replace f2 := shm_1925 f2
  replace f3 := shm_698 f3
  replace f4 := shm_1924 f4
  replace f5 := shm_1923 f5
  replace f6 := shm_126 f6
  replace f7 := shm_127 f7
  replace f8 := shm_5 f8
  replace f9 := shm_132 f9
  replace f11 := shm_1926 f11
  replace f12 := shm_1925 f12
  replace f13 := shm_1924 f13
  replace f14 := shm_1923 f14
  replace f16 := shm_1925 f16
  replace f17 := shm_1924 f17
  replace f18 := shm_1923 f18
  replace f20 := shm_1924 f20
  replace f21 := shm_1923 f21
  replace f23 := shm_1923 f23
  replace f24 := shm_6 f24
  have q2 : n_v vs 2 = n_v vs 0 := f8.symm
  simp only [q2] at f0 f3 f6 f7 f9
  have cr_0_2 := fdq_10 hD hth r0
  have cr_0_62 := fdq_173 hD hth r0
  have cr_0_63 := fdq_174 hD hth r0
  have hK_0_62 := elq_102 hD hth cr_0_62
  have hK_0_63 := elq_103 hD hth cr_0_63
  have kz_0_139 := fdq_172 hD hth r0
  have kz_0_170 := fdq_11 hD hth r0
  have kv0 := fdq_11 hD hth r0
  obtain ⟨x, ex, hx⟩ := iv_ex (ta := ta) (lo := 0) (hi := 99999987) (z := w_fi ws (n_v vs 0) 170) (by omega) (by omega) (by omega) (by omega)
  have ex2 : v_iv (Value.int x) = w_fi ws (n_v vs 0) 170 := ex
  have ex3 : 0 ≤ v_iv (Value.int x) ∧ v_iv (Value.int x) ≤ 99999987 := tv_rng hx
  have e_1 : n_v (vs ++ [Value.int x]) 1 = n_v vs 1 := n_v_old (by rw [hl]; decide)
  have e_2 : n_v (vs ++ [Value.int x]) 2 = n_v vs 2 := n_v_old (by rw [hl]; decide)
  have e_3 : n_v (vs ++ [Value.int x]) 3 = n_v vs 3 := n_v_old (by rw [hl]; decide)
  have e_13 : n_v (vs ++ [Value.int x]) 13 = Value.int x := n_v_new hl
  have nf0 : fc_1 PRD (20, [2, 13], [30, 0, 1, 1, 170, -1, 0, 0]) ws (vs ++ [Value.int x]) := by
    refine ⟨nf_inA hl rfl, sgq_131 ?_⟩
    · show 1 * w_fi ws (n_v (vs ++ [Value.int x]) 2) 170 + ((-1) * v_iv (n_v (vs ++ [Value.int x]) 13) + 0) ≤ 0
      simp only [e_2, e_13, q2]
      exact vc_Mo_writeDrawing_6_0 (v_iv (n_v vs 1)) (v_iv (n_v vs 3)) (v_iv (n_v vs 4)) (v_iv (n_v vs 5)) (v_iv (n_v vs 7)) (v_iv (n_v vs 8)) (v_iv (n_v vs 9)) (v_iv (n_v vs 11)) (v_iv (n_v vs 12)) (w_ei ws (w_ar ws (n_v vs 0) 63)) (w_fi ws (n_v vs 0) 139) (w_ei ws (w_ar ws (n_v vs 0) 62)) (w_ei ws (w_ar ws (n_v vs 0) 2)) (w_fi ws (n_v vs 0) 5) (w_fi ws (n_v vs 0) 170) (v_iv (Value.int x)) k1 k3 k4 k5 k7 k8 k9 k11 k12 d0 f0 f1 f2 f3 f4 f5 f6 f7 f9 f11 f12 f13 f14 f16 f17 f18 f20 f21 f23 f24 hK_0_62 hK_0_63 kz_0_139 kz_0_170 ex2 ex3
  have nf1 : fc_1 PRD (23, [13, 1, 3], [23, 1, -1, -37]) ws (vs ++ [Value.int x]) := by
    refine ⟨nf_inA hl rfl, sgq_1927 ?_⟩
    · show 1 * v_iv (n_v (vs ++ [Value.int x]) 13) + ((-1) * v_iv (n_v (vs ++ [Value.int x]) 1) + ((-37) * v_iv (n_v (vs ++ [Value.int x]) 3) + 0)) ≤ 23
      simp only [e_1, e_3, e_13]
      exact vc_Mo_writeDrawing_6_1 (v_iv (n_v vs 1)) (v_iv (n_v vs 3)) (v_iv (n_v vs 4)) (v_iv (n_v vs 5)) (v_iv (n_v vs 7)) (v_iv (n_v vs 8)) (v_iv (n_v vs 9)) (v_iv (n_v vs 11)) (v_iv (n_v vs 12)) (w_ei ws (w_ar ws (n_v vs 0) 63)) (w_fi ws (n_v vs 0) 139) (w_ei ws (w_ar ws (n_v vs 0) 62)) (w_ei ws (w_ar ws (n_v vs 0) 2)) (w_fi ws (n_v vs 0) 5) (w_fi ws (n_v vs 0) 170) (v_iv (Value.int x)) k1 k3 k4 k5 k7 k8 k9 k11 k12 d0 f0 f1 f2 f3 f4 f5 f6 f7 f9 f11 f12 f13 f14 f16 f17 f18 f20 f21 f23 f24 hK_0_62 hK_0_63 kz_0_139 kz_0_170 ex2 ex3
  exact ⟨(fun _ h => (by cases h)), [Value.int x], ag_one hx, List.forall_mem_cons.mpr ⟨⟨show (20 : Nat) < 100 from by decide, nf0⟩, List.forall_mem_cons.mpr ⟨⟨show (23 : Nat) < 100 from by decide, nf1⟩, (fun _ h => (by cases h))⟩⟩, (fun _ h => (by cases h))⟩
set_option maxHeartbeats 4000000 in
theorem vc_Mo_writeDrawing_7_0 (x1 : Int) (x3 : Int) (x4 : Int) (x5 : Int) (x7 : Int) (x8 : Int) (x9 : Int) (x11 : Int) (x12 : Int) (x13 : Int) (nodeY_0 : Int → Int) (g0_0 : Int) (nodeX_0 : Int → Int) (all_0 : Int → Int) (r_0 : Int) (texts_0 : Int) (gx : Int) (k1 : 0 ≤ x1 ∧ x1 ≤ 99965512) (k3 : 0 ≤ x3 ∧ x3 ≤ 23) (k4 : 1 ≤ x4 ∧ x4 ≤ 24) (k5 : 0 ≤ x5 ∧ x5 ≤ 99999992) (k7 : 0 ≤ x7 ∧ x7 ≤ 99999999) (k8 : (-300000000) ≤ x8 ∧ x8 ≤ 300000000) (k9 : 0 ≤ x9 ∧ x9 ≤ 99999987) (k11 : 0 ≤ x11 ∧ x11 ≤ 99999999) (k12 : (-300000000) ≤ x12 ∧ x12 ≤ 300000000) (k13 : 0 ≤ x13 ∧ x13 ≤ 99999987) (d0 : x4 + (-4294967296) ≤ x3 ∧ x3 ≤ x4 + (-1)) (f0 : 1 * x13 + ((-1) * x1 + ((-37) * x3 + 0)) ≤ 23) (f1 : x12 = nodeY_0 (((24 * g0_0) + x3))) (f2 : 1 * x11 + ((-1) * x1 + ((-37) * x3 + 0)) ≤ 22) (f3 : 1 * x9 + ((-1) * x1 + ((-37) * x3 + 0)) ≤ 9) (f4 : x8 = nodeX_0 (((24 * g0_0) + x3))) (f5 : 1 * x7 + ((-1) * x1 + ((-37) * x3 + 0)) ≤ 8) (f6 : 1 * x5 + ((-1) * x1 + ((-37) * x3 + 0)) ≤ 0) (f7 : 1 * x4 + ((-1) * all_0 (r_0 + 0) + 0) ≤ 0) (f8 : (-1) * x4 + (1 * all_0 (r_0 + 0) + 0) ≤ 0) (f10 : 1 * texts_0 + ((-1) * x13 + 0) ≤ 13) (f12 : 1 * x13 + ((-1) * x1 + ((-37) * x3 + 0)) ≤ 23) (f13 : 1 * x11 + ((-1) * x1 + ((-37) * x3 + 0)) ≤ 22) (f14 : 1 * x9 + ((-1) * x1 + ((-37) * x3 + 0)) ≤ 9) (f15 : 1 * x7 + ((-1) * x1 + ((-37) * x3 + 0)) ≤ 8) (f16 : 1 * x5 + ((-1) * x1 + ((-37) * x3 + 0)) ≤ 0) (f18 : 1 * x11 + ((-1) * x1 + ((-37) * x3 + 0)) ≤ 22) (f19 : 1 * x9 + ((-1) * x1 + ((-37) * x3 + 0)) ≤ 9) (f20 : 1 * x7 + ((-1) * x1 + ((-37) * x3 + 0)) ≤ 8) (f21 : 1 * x5 + ((-1) * x1 + ((-37) * x3 + 0)) ≤ 0) (f23 : 1 * x9 + ((-1) * x1 + ((-37) * x3 + 0)) ≤ 9) (f24 : 1 * x7 + ((-1) * x1 + ((-37) * x3 + 0)) ≤ 8) (f25 : 1 * x5 + ((-1) * x1 + ((-37) * x3 + 0)) ≤ 0) (f27 : 1 * x7 + ((-1) * x1 + ((-37) * x3 + 0)) ≤ 8) (f28 : 1 * x5 + ((-1) * x1 + ((-37) * x3 + 0)) ≤ 0) (f30 : 1 * x5 + ((-1) * x1 + ((-37) * x3 + 0)) ≤ 0) (f31 : x3 < x4) (hK_0_62 : ∀ j : Int, 0 ≤ j → j < 96 → (-300000000) ≤ nodeX_0 j ∧ nodeX_0 j ≤ 300000000) (hK_0_63 : ∀ j : Int, 0 ≤ j → j < 96 → (-300000000) ≤ nodeY_0 j ∧ nodeY_0 j ≤ 300000000) (kz_0_139 : 0 ≤ g0_0 ∧ g0_0 ≤ 3) (kz_0_170 : 0 ≤ texts_0 ∧ texts_0 ≤ 100000000) (ex2 : gx = texts_0) (ex3 : 0 ≤ gx ∧ gx ≤ 99999999) : 1 * texts_0 + ((-1) * gx + 0) ≤ 0 := by
  first | assumption | (clear hK_0_62 hK_0_63; omega) | omega | grind
set_option maxHeartbeats 4000000 in
theorem vc_Mo_writeDrawing_7_1 (x1 : Int) (x3 : Int) (x4 : Int) (x5 : Int) (x7 : Int) (x8 : Int) (x9 : Int) (x11 : Int) (x12 : Int) (x13 : Int) (nodeY_0 : Int → Int) (g0_0 : Int) (nodeX_0 : Int → Int) (all_0 : Int → Int) (r_0 : Int) (texts_0 : Int) (gx : Int) (k1 : 0 ≤ x1 ∧ x1 ≤ 99965512) (k3 : 0 ≤ x3 ∧ x3 ≤ 23) (k4 : 1 ≤ x4 ∧ x4 ≤ 24) (k5 : 0 ≤ x5 ∧ x5 ≤ 99999992) (k7 : 0 ≤ x7 ∧ x7 ≤ 99999999) (k8 : (-300000000) ≤ x8 ∧ x8 ≤ 300000000) (k9 : 0 ≤ x9 ∧ x9 ≤ 99999987) (k11 : 0 ≤ x11 ∧ x11 ≤ 99999999) (k12 : (-300000000) ≤ x12 ∧ x12 ≤ 300000000) (k13 : 0 ≤ x13 ∧ x13 ≤ 99999987) (d0 : x4 + (-4294967296) ≤ x3 ∧ x3 ≤ x4 + (-1)) (f0 : 1 * x13 + ((-1) * x1 + ((-37) * x3 + 0)) ≤ 23) (f1 : x12 = nodeY_0 (((24 * g0_0) + x3))) (f2 : 1 * x11 + ((-1) * x1 + ((-37) * x3 + 0)) ≤ 22) (f3 : 1 * x9 + ((-1) * x1 + ((-37) * x3 + 0)) ≤ 9) (f4 : x8 = nodeX_0 (((24 * g0_0) + x3))) (f5 : 1 * x7 + ((-1) * x1 + ((-37) * x3 + 0)) ≤ 8) (f6 : 1 * x5 + ((-1) * x1 + ((-37) * x3 + 0)) ≤ 0) (f7 : 1 * x4 + ((-1) * all_0 (r_0 + 0) + 0) ≤ 0) (f8 : (-1) * x4 + (1 * all_0 (r_0 + 0) + 0) ≤ 0) (f10 : 1 * texts_0 + ((-1) * x13 + 0) ≤ 13) (f12 : 1 * x13 + ((-1) * x1 + ((-37) * x3 + 0)) ≤ 23) (f13 : 1 * x11 + ((-1) * x1 + ((-37) * x3 + 0)) ≤ 22) (f14 : 1 * x9 + ((-1) * x1 + ((-37) * x3 + 0)) ≤ 9) (f15 : 1 * x7 + ((-1) * x1 + ((-37) * x3 + 0)) ≤ 8) (f16 : 1 * x5 + ((-1) * x1 + ((-37) * x3 + 0)) ≤ 0) (f18 : 1 * x11 + ((-1) * x1 + ((-37) * x3 + 0)) ≤ 22) (f19 : 1 * x9 + ((-1) * x1 + ((-37) * x3 + 0)) ≤ 9) (f20 : 1 * x7 + ((-1) * x1 + ((-37) * x3 + 0)) ≤ 8) (f21 : 1 * x5 + ((-1) * x1 + ((-37) * x3 + 0)) ≤ 0) (f23 : 1 * x9 + ((-1) * x1 + ((-37) * x3 + 0)) ≤ 9) (f24 : 1 * x7 + ((-1) * x1 + ((-37) * x3 + 0)) ≤ 8) (f25 : 1 * x5 + ((-1) * x1 + ((-37) * x3 + 0)) ≤ 0) (f27 : 1 * x7 + ((-1) * x1 + ((-37) * x3 + 0)) ≤ 8) (f28 : 1 * x5 + ((-1) * x1 + ((-37) * x3 + 0)) ≤ 0) (f30 : 1 * x5 + ((-1) * x1 + ((-37) * x3 + 0)) ≤ 0) (f31 : x3 < x4) (hK_0_62 : ∀ j : Int, 0 ≤ j → j < 96 → (-300000000) ≤ nodeX_0 j ∧ nodeX_0 j ≤ 300000000) (hK_0_63 : ∀ j : Int, 0 ≤ j → j < 96 → (-300000000) ≤ nodeY_0 j ∧ nodeY_0 j ≤ 300000000) (kz_0_139 : 0 ≤ g0_0 ∧ g0_0 ≤ 3) (kz_0_170 : 0 ≤ texts_0 ∧ texts_0 ≤ 100000000) (ex2 : gx = texts_0) (ex3 : 0 ≤ gx ∧ gx ≤ 99999999) : 1 * gx + ((-1) * x1 + ((-37) * x3 + 0)) ≤ 36 := by
  first | assumption | (clear hK_0_62 hK_0_63; omega) | omega | grind
def o_Mo_writeDrawing_7 : or_T := (48, 15, [(0, (2, 0, 0, [165])), (1, (0, 0, 99965512, [])), (2, (2, 0, 0, [165])), (3, (0, 0, 23, [])), (4, (0, 1, 24, [])), (5, (0, 0, 99999992, [])), (7, (0, 0, 99999999, [])), (8, (0, -300000000, 300000000, [])), (9, (0, 0, 99999987, [])), (11, (0, 0, 99999999, [])), (12, (0, -300000000, 300000000, [])), (13, (0, 0, 99999987, []))], [(23, [13, 1, 3], [23, 1, -1, -37]), (20, [12, 2, 3], [50, 1, 1, 1139, 1063, 1, 2, 1, 0, 3, 1, 63, 4, 7, 6, 2, 0, 24, 2, 1, 139, 1, 2]), (23, [11, 1, 3], [22, 1, -1, -37]), (23, [9, 1, 3], [9, 1, -1, -37]), (20, [8, 2, 3], [50, 1, 1, 1139, 1062, 1, 2, 1, 0, 3, 1, 62, 4, 7, 6, 2, 0, 24, 2, 1, 139, 1, 2]), (23, [7, 1, 3], [8, 1, -1, -37]), (23, [5, 1, 3], [0, 1, -1, -37]), (20, [4, 2], [30, 0, 1, 0, 0, -1, 3, 2005000]), (20, [4, 2], [30, 0, -1, 0, 0, 1, 3, 2005000]), (24, [0, 2], []), (20, [2, 13], [30, 13, 1, 1, 170, -1, 0, 0]), (102, [13], [7770675568902916283677847627294075626569627356208558085007249638955617140820833992704, 165170]), (23, [13, 1, 3], [23, 1, -1, -37]), (23, [11, 1, 3], [22, 1, -1, -37]), (23, [9, 1, 3], [9, 1, -1, -37]), (23, [7, 1, 3], [8, 1, -1, -37]), (23, [5, 1, 3], [0, 1, -1, -37]), (102, [11], [7770675568902916283677847627294075626569627356208558085007249638955617140820833992704, 165170]), (23, [11, 1, 3], [22, 1, -1, -37]), (23, [9, 1, 3], [9, 1, -1, -37]), (23, [7, 1, 3], [8, 1, -1, -37]), (23, [5, 1, 3], [0, 1, -1, -37]), (102, [9], [7770675568902916283677847627294075626569627356208558085007249638955617140820833992704, 165170]), (23, [9, 1, 3], [9, 1, -1, -37]), (23, [7, 1, 3], [8, 1, -1, -37]), (23, [5, 1, 3], [0, 1, -1, -37]), (102, [7], [7770675568902916283677847627294075626569627356208558085007249638955617140820833992704, 165170]), (23, [7, 1, 3], [8, 1, -1, -37]), (23, [5, 1, 3], [0, 1, -1, -37]), (102, [5], [7770675568902916283677847627294075626569627356208558085007249638955617140820833992704, 165170]), (23, [5, 1, 3], [0, 1, -1, -37]), (7, [3, 4], [2])], [], [(0, 0, 99999999, [])], [(20, [2, 15], [30, 0, 1, 1, 170, -1, 0, 0]), (23, [15, 1, 3], [36, 1, -1, -37])], [], [(3, 4, -4294967296, -1)])
theorem oo_Mo_writeDrawing_7 {kA : Nat → ClassId} : or_ok PRD kA GG o_Mo_writeDrawing_7 := by
  refine or_mk fun A ta ws vs hD hth hl => ?_
  intro t0 r0 t1 k1 t2 r2 t3 k3 t4 k4 t5 k5 t7 k7 t8 k8 t9 k9 t11 k11 t12 k12 t13 k13 d0 f0 f1 f2 f3 f4 f5 f6 f7 f8 f9 f10 ta1 w1 le1 s1 f12 f13 f14 f15 f16 ta2 w2 le2 s2 f18 f19 f20 f21 ta3 w3 le3 s3 f23 f24 f25 ta4 w4 le4 s4 f27 f28 ta5 w5 le5 s5 f30 f31
  replace f0 := shm_1927 f0
  replace f1 := shm_700 f1
  replace f2 := shm_1926 f2
  replace f3 := shm_1925 f3
  replace f4 := shm_698 f4
  replace f5 := shm_1924 f5
  replace f6 := shm_1923 f6
  replace f7 := shm_126 f7
  replace f8 := shm_127 f8
  replace f9 := shm_5 f9
  replace f10 := shm_1056 f10
  replace f12 := shm_1927 f12
  replace f13 := shm_1926 f13
  replace f14 := shm_1925 f14
  replace f15 := shm_1924 f15
  replace f16 := shm_1923 f16
  replace f18 := shm_1926 f18
  replace f19 := shm_1925 f19
  replace f20 := shm_1924 f20
  replace f21 := shm_1923 f21
  replace f23 := shm_1925 f23
  replace f24 := shm_1924 f24
  replace f25 := shm_1923 f25
  replace f27 := shm_1924 f27
  replace f28 := shm_1923 f28
  replace f30 := shm_1923 f30
  replace f31 := shm_6 f31
  have q2 : n_v vs 2 = n_v vs 0 := f9.symm
  simp only [q2] at f1 f4 f7 f8 f10
  have cr_0_2 := fdq_10 hD hth r0
  have cr_0_62 := fdq_173 hD hth r0
  have cr_0_63 := fdq_174 hD hth r0
  have hK_0_62 := elq_102 hD hth cr_0_62
  have hK_0_63 := elq_103 hD hth cr_0_63
  have kz_0_139 := fdq_172 hD hth r0
  have kz_0_170 := fdq_11 hD hth r0
  have kv0 := fdq_11 hD hth r0
  obtain ⟨x, ex, hx⟩ := iv_ex (ta := ta) (lo := 0) (hi := 99999999) (z := w_fi ws (n_v vs 0) 170) (by omega) (by omega) (by omega) (by omega)
  have ex2 : v_iv (Value.int x) = w_fi ws (n_v vs 0) 170 := ex
  have ex3 : 0 ≤ v_iv (Value.int x) ∧ v_iv (Value.int x) ≤ 99999999 := tv_rng hx
  have e_1 : n_v (vs ++ [Value.int x]) 1 = n_v vs 1 := n_v_old (by rw [hl]; decide)
  have e_2 : n_v (vs ++ [Value.int x]) 2 = n_v vs 2 := n_v_old (by rw [hl]; decide)
  have e_3 : n_v (vs ++ [Value.int x]) 3 = n_v vs 3 := n_v_old (by rw [hl]; decide)
  have e_15 : n_v (vs ++ [Value.int x]) 15 = Value.int x := n_v_new hl
  have nf0 : fc_1 PRD (20, [2, 15], [30, 0, 1, 1, 170, -1, 0, 0]) ws (vs ++ [Value.int x]) := by
    refine ⟨nf_inA hl rfl, sgq_131 ?_⟩
    · show 1 * w_fi ws (n_v (vs ++ [Value.int x]) 2) 170 + ((-1) * v_iv (n_v (vs ++ [Value.int x]) 15) + 0) ≤ 0
      simp only [e_2, e_15, q2]
      exact vc_Mo_writeDrawing_7_0 (v_iv (n_v vs 1)) (v_iv (n_v vs 3)) (v_iv (n_v vs 4)) (v_iv (n_v vs 5)) (v_iv (n_v vs 7)) (v_iv (n_v vs 8)) (v_iv (n_v vs 9)) (v_iv (n_v vs 11)) (v_iv (n_v vs 12)) (v_iv (n_v vs 13)) (w_ei ws (w_ar ws (n_v vs 0) 63)) (w_fi ws (n_v vs 0) 139) (w_ei ws (w_ar ws (n_v vs 0) 62)) (w_ei ws (w_ar ws (n_v vs 0) 2)) (w_fi ws (n_v vs 0) 5) (w_fi ws (n_v vs 0) 170) (v_iv (Value.int x)) k1 k3 k4 k5 k7 k8 k9 k11 k12 k13 d0 f0 f1 f2 f3 f4 f5 f6 f7 f8 f10 f12 f13 f14 f15 f16 f18 f19 f20 f21 f23 f24 f25 f27 f28 f30 f31 hK_0_62 hK_0_63 kz_0_139 kz_0_170 ex2 ex3
  have nf1 : fc_1 PRD (23, [15, 1, 3], [36, 1, -1, -37]) ws (vs ++ [Value.int x]) := by
    refine ⟨nf_inA hl rfl, sgq_1928 ?_⟩
    · show 1 * v_iv (n_v (vs ++ [Value.int x]) 15) + ((-1) * v_iv (n_v (vs ++ [Value.int x]) 1) + ((-37) * v_iv (n_v (vs ++ [Value.int x]) 3) + 0)) ≤ 36
      simp only [e_1, e_3, e_15]
      exact vc_Mo_writeDrawing_7_1 (v_iv (n_v vs 1)) (v_iv (n_v vs 3)) (v_iv (n_v vs 4)) (v_iv (n_v vs 5)) (v_iv (n_v vs 7)) (v_iv (n_v vs 8)) (v_iv (n_v vs 9)) (v_iv (n_v vs 11)) (v_iv (n_v vs 12)) (v_iv (n_v vs 13)) (w_ei ws (w_ar ws (n_v vs 0) 63)) (w_fi ws (n_v vs 0) 139) (w_ei ws (w_ar ws (n_v vs 0) 62)) (w_ei ws (w_ar ws (n_v vs 0) 2)) (w_fi ws (n_v vs 0) 5) (w_fi ws (n_v vs 0) 170) (v_iv (Value.int x)) k1 k3 k4 k5 k7 k8 k9 k11 k12 k13 d0 f0 f1 f2 f3 f4 f5 f6 f7 f8 f10 f12 f13 f14 f15 f16 f18 f19 f20 f21 f23 f24 f25 f27 f28 f30 f31 hK_0_62 hK_0_63 kz_0_139 kz_0_170 ex2 ex3
  exact ⟨(fun _ h => (by cases h)), [Value.int x], ag_one hx, List.forall_mem_cons.mpr ⟨⟨show (20 : Nat) < 100 from by decide, nf0⟩, List.forall_mem_cons.mpr ⟨⟨show (23 : Nat) < 100 from by decide, nf1⟩, (fun _ h => (by cases h))⟩⟩, (fun _ h => (by cases h))⟩
set_option maxHeartbeats 4000000 in
theorem vc_Mo_writeDrawing_8_0 (x1 : Int) (x3 : Int) (x4 : Int) (x5 : Int) (x7 : Int) (x8 : Int) (x9 : Int) (x11 : Int) (x12 : Int) (x13 : Int) (x15 : Int) (x16 : Int) (nodeY_0 : Int → Int) (g0_0 : Int) (nodeX_0 : Int → Int) (all_0 : Int → Int) (r_0 : Int) (texts_0 : Int) (k1 : 0 ≤ x1 ∧ x1 ≤ 99965512) (k3 : 0 ≤ x3 ∧ x3 ≤ 23) (k4 : 1 ≤ x4 ∧ x4 ≤ 24) (k5 : 0 ≤ x5 ∧ x5 ≤ 99999992) (k7 : 0 ≤ x7 ∧ x7 ≤ 99999999) (k8 : (-300000000) ≤ x8 ∧ x8 ≤ 300000000) (k9 : 0 ≤ x9 ∧ x9 ≤ 99999987) (k11 : 0 ≤ x11 ∧ x11 ≤ 99999999) (k12 : (-300000000) ≤ x12 ∧ x12 ≤ 300000000) (k13 : 0 ≤ x13 ∧ x13 ≤ 99999987) (k15 : 0 ≤ x15 ∧ x15 ≤ 99999999) (k16 : 1 ≤ x16 ∧ x16 ≤ 24) (d0 : x3 + 1 ≤ x16 ∧ x16 ≤ x3 + 1) (d1 : x4 + (-4294967296) ≤ x16 ∧ x16 ≤ x4 + 0) (d2 : x4 + (-4294967296) ≤ x3 ∧ x3 ≤ x4 + (-1)) (f0 : x16 = x3 + 1) (f1 : 1 * x15 + ((-1) * x1 + ((-37) * x3 + 0)) ≤ 36) (f2 : 1 * x13 + ((-1) * x1 + ((-37) * x3 + 0)) ≤ 23) (f3 : x12 = nodeY_0 (((24 * g0_0) + x3))) (f4 : 1 * x11 + ((-1) * x1 + ((-37) * x3 + 0)) ≤ 22) (f5 : 1 * x9 + ((-1) * x1 + ((-37) * x3 + 0)) ≤ 9) (f6 : x8 = nodeX_0 (((24 * g0_0) + x3))) (f7 : 1 * x7 + ((-1) * x1 + ((-37) * x3 + 0)) ≤ 8) (f8 : 1 * x5 + ((-1) * x1 + ((-37) * x3 + 0)) ≤ 0) (f9 : 1 * x4 + ((-1) * all_0 (r_0 + 0) + 0) ≤ 0) (f10 : (-1) * x4 + (1 * all_0 (r_0 + 0) + 0) ≤ 0) (f12 : 1 * texts_0 + ((-1) * x15 + 0) ≤ 1) (f14 : 1 * x15 + ((-1) * x1 + ((-37) * x3 + 0)) ≤ 36) (f15 : 1 * x13 + ((-1) * x1 + ((-37) * x3 + 0)) ≤ 23) (f16 : 1 * x11 + ((-1) * x1 + ((-37) * x3 + 0)) ≤ 22) (f17 : 1 * x9 + ((-1) * x1 + ((-37) * x3 + 0)) ≤ 9) (f18 : 1 * x7 + ((-1) * x1 + ((-37) * x3 + 0)) ≤ 8) (f19 : 1 * x5 + ((-1) * x1 + ((-37) * x3 + 0)) ≤ 0) (f21 : 1 * x13 + ((-1) * x1 + ((-37) * x3 + 0)) ≤ 23) (f22 : 1 * x11 + ((-1) * x1 + ((-37) * x3 + 0)) ≤ 22) (f23 : 1 * x9 + ((-1) * x1 + ((-37) * x3 + 0)) ≤ 9) (f24 : 1 * x7 + ((-1) * x1 + ((-37) * x3 + 0)) ≤ 8) (f25 : 1 * x5 + ((-1) * x1 + ((-37) * x3 + 0)) ≤ 0) (f27 : 1 * x11 + ((-1) * x1 + ((-37) * x3 + 0)) ≤ 22) (f28 : 1 * x9 + ((-1) * x1 + ((-37) * x3 + 0)) ≤ 9) (f29 : 1 * x7 + ((-1) * x1 + ((-37) * x3 + 0)) ≤ 8) (f30 : 1 * x5 + ((-1) * x1 + ((-37) * x3 + 0)) ≤ 0) (f32 : 1 * x9 + ((-1) * x1 + ((-37) * x3 + 0)) ≤ 9) (f33 : 1 * x7 + ((-1) * x1 + ((-37) * x3 + 0)) ≤ 8) (f34 : 1 * x5 + ((-1) * x1 + ((-37) * x3 + 0)) ≤ 0) (f36 : 1 * x7 + ((-1) * x1 + ((-37) * x3 + 0)) ≤ 8) (f37 : 1 * x5 + ((-1) * x1 + ((-37) * x3 + 0)) ≤ 0) (f39 : 1 * x5 + ((-1) * x1 + ((-37) * x3 + 0)) ≤ 0) (f40 : x3 < x4) (hK_0_62 : ∀ j : Int, 0 ≤ j → j < 96 → (-300000000) ≤ nodeX_0 j ∧ nodeX_0 j ≤ 300000000) (hK_0_63 : ∀ j : Int, 0 ≤ j → j < 96 → (-300000000) ≤ nodeY_0 j ∧ nodeY_0 j ≤ 300000000) (kz_0_139 : 0 ≤ g0_0 ∧ g0_0 ≤ 3) (kz_0_170 : 0 ≤ texts_0 ∧ texts_0 ≤ 100000000) : 1 * texts_0 + ((-1) * x1 + ((-37) * x16 + 0)) ≤ 0 := by
  first | assumption | (clear hK_0_62 hK_0_63; omega) | omega | grind
def o_Mo_writeDrawing_8 : or_T := (2, 17, [(0, (2, 0, 0, [165])), (1, (0, 0, 99965512, [])), (3, (0, 0, 23, [])), (4, (0, 1, 24, [])), (5, (0, 0, 99999992, [])), (7, (0, 0, 99999999, [])), (8, (0, -300000000, 300000000, [])), (9, (0, 0, 99999987, [])), (11, (0, 0, 99999999, [])), (12, (0, -300000000, 300000000, [])), (13, (0, 0, 99999987, [])), (15, (0, 0, 99999999, [])), (16, (0, 1, 24, []))], [(6, [16, 3], [1]), (23, [15, 1, 3], [36, 1, -1, -37]), (23, [13, 1, 3], [23, 1, -1, -37]), (20, [12, 2, 3], [50, 1, 1, 1139, 1063, 1, 2, 1, 0, 3, 1, 63, 4, 7, 6, 2, 0, 24, 2, 1, 139, 1, 2]), (23, [11, 1, 3], [22, 1, -1, -37]), (23, [9, 1, 3], [9, 1, -1, -37]), (20, [8, 2, 3], [50, 1, 1, 1139, 1062, 1, 2, 1, 0, 3, 1, 62, 4, 7, 6, 2, 0, 24, 2, 1, 139, 1, 2]), (23, [7, 1, 3], [8, 1, -1, -37]), (23, [5, 1, 3], [0, 1, -1, -37]), (20, [4, 2], [30, 0, 1, 0, 0, -1, 3, 2005000]), (20, [4, 2], [30, 0, -1, 0, 0, 1, 3, 2005000]), (24, [0, 2], []), (20, [2, 15], [30, 1, 1, 1, 170, -1, 0, 0]), (102, [15], [7770675568902916283677847627294075626569627356208558085007249638955617140820833992704, 165170]), (23, [15, 1, 3], [36, 1, -1, -37]), (23, [13, 1, 3], [23, 1, -1, -37]), (23, [11, 1, 3], [22, 1, -1, -37]), (23, [9, 1, 3], [9, 1, -1, -37]), (23, [7, 1, 3], [8, 1, -1, -37]), (23, [5, 1, 3], [0, 1, -1, -37]), (102, [13], [7770675568902916283677847627294075626569627356208558085007249638955617140820833992704, 165170]), (23, [13, 1, 3], [23, 1, -1, -37]), (23, [11, 1, 3], [22, 1, -1, -37]), (23, [9, 1, 3], [9, 1, -1, -37]), (23, [7, 1, 3], [8, 1, -1, -37]), (23, [5, 1, 3], [0, 1, -1, -37]), (102, [11], [7770675568902916283677847627294075626569627356208558085007249638955617140820833992704, 165170]), (23, [11, 1, 3], [22, 1, -1, -37]), (23, [9, 1, 3], [9, 1, -1, -37]), (23, [7, 1, 3], [8, 1, -1, -37]), (23, [5, 1, 3], [0, 1, -1, -37]), (102, [9], [7770675568902916283677847627294075626569627356208558085007249638955617140820833992704, 165170]), (23, [9, 1, 3], [9, 1, -1, -37]), (23, [7, 1, 3], [8, 1, -1, -37]), (23, [5, 1, 3], [0, 1, -1, -37]), (102, [7], [7770675568902916283677847627294075626569627356208558085007249638955617140820833992704, 165170]), (23, [7, 1, 3], [8, 1, -1, -37]), (23, [5, 1, 3], [0, 1, -1, -37]), (102, [5], [7770675568902916283677847627294075626569627356208558085007249638955617140820833992704, 165170]), (23, [5, 1, 3], [0, 1, -1, -37]), (7, [3, 4], [2])], [], [], [(20, [2, 1, 16], [30, 0, 1, 1, 170, -1, 0, 0, -37, 0, 0])], [], [(16, 3, 1, 1), (16, 4, -4294967296, 0), (3, 4, -4294967296, -1)])
theorem oo_Mo_writeDrawing_8 {kA : Nat → ClassId} : or_ok PRD kA GG o_Mo_writeDrawing_8 := by
  refine or_mk fun A ta ws vs hD hth hl => ?_
  intro t0 r0 t1 k1 t3 k3 t4 k4 t5 k5 t7 k7 t8 k8 t9 k9 t11 k11 t12 k12 t13 k13 t15 k15 t16 k16 d0 d1 d2 f0 f1 f2 f3 f4 f5 f6 f7 f8 f9 f10 f11 f12 ta1 w1 le1 s1 f14 f15 f16 f17 f18 f19 ta2 w2 le2 s2 f21 f22 f23 f24 f25 ta3 w3 le3 s3 f27 f28 f29 f30 ta4 w4 le4 s4 f32 f33 f34 ta5 w5 le5 s5 f36 f37 ta6 w6 le6 s6 f39 f40
  replace f0 := shm_4 f0
  replace f1 := shm_1928 f1
  replace f2 := shm_1927 f2
  replace f3 := shm_700 f3
  replace f4 := shm_1926 f4
  replace f5 := shm_1925 f5
  replace f6 := shm_698 f6
  replace f7 := shm_1924 f7
  replace f8 := shm_1923 f8
  replace f9 := shm_126 f9
  replace f10 := shm_127 f10
  replace f11 := shm_5 f11
  replace f12 := shm_132 f12
  replace f14 := shm_1928 f14
  replace f15 := shm_1927 f15
  replace f16 := shm_1926 f16
  replace f17 := shm_1925 f17
  replace f18 := shm_1924 f18
  replace f19 := shm_1923 f19
  replace f21 := shm_1927 f21
  replace f22 := shm_1926 f22
  replace f23 := shm_1925 f23
  replace f24 := shm_1924 f24
  replace f25 := shm_1923 f25
  replace f27 := shm_1926 f27
  replace f28 := shm_1925 f28
  replace f29 := shm_1924 f29
  replace f30 := shm_1923 f30
  replace f32 := shm_1925 f32
  replace f33 := shm_1924 f33
  replace f34 := shm_1923 f34
  replace f36 := shm_1924 f36
  replace f37 := shm_1923 f37
  replace f39 := shm_1923 f39
  replace f40 := shm_6 f40
  have q2 : n_v vs 2 = n_v vs 0 := f11.symm
  simp only [q2] at f3 f6 f9 f10 f12
  have cr_0_62 := fdq_173 hD hth r0
  have cr_0_63 := fdq_174 hD hth r0
  have hK_0_62 := elq_102 hD hth cr_0_62
  have hK_0_63 := elq_103 hD hth cr_0_63
  have kz_0_139 := fdq_172 hD hth r0
  have kz_0_170 := fdq_11 hD hth r0
  have nf0 : fc_1 PRD (20, [2, 1, 16], [30, 0, 1, 1, 170, -1, 0, 0, -37, 0, 0]) ws (vs) := by
    refine ⟨nf_in hl rfl, sgq_1921 ?_⟩
    · show 1 * w_fi ws (n_v vs 2) 170 + ((-1) * v_iv (n_v vs 1) + ((-37) * v_iv (n_v vs 16) + 0)) ≤ 0
      rw [q2]
      exact vc_Mo_writeDrawing_8_0 (v_iv (n_v vs 1)) (v_iv (n_v vs 3)) (v_iv (n_v vs 4)) (v_iv (n_v vs 5)) (v_iv (n_v vs 7)) (v_iv (n_v vs 8)) (v_iv (n_v vs 9)) (v_iv (n_v vs 11)) (v_iv (n_v vs 12)) (v_iv (n_v vs 13)) (v_iv (n_v vs 15)) (v_iv (n_v vs 16)) (w_ei ws (w_ar ws (n_v vs 0) 63)) (w_fi ws (n_v vs 0) 139) (w_ei ws (w_ar ws (n_v vs 0) 62)) (w_ei ws (w_ar ws (n_v vs 0) 2)) (w_fi ws (n_v vs 0) 5) (w_fi ws (n_v vs 0) 170) k1 k3 k4 k5 k7 k8 k9 k11 k12 k13 k15 k16 d0 d1 d2 f0 f1 f2 f3 f4 f5 f6 f7 f8 f9 f10 f12 f14 f15 f16 f17 f18 f19 f21 f22 f23 f24 f25 f27 f28 f29 f30 f32 f33 f34 f36 f37 f39 f40 hK_0_62 hK_0_63 kz_0_139 kz_0_170
  refine ⟨(fun _ h => (by cases h)), [], trivial, ?_, (fun _ h => (by cases h))⟩
  rw [List.append_nil]
  exact List.forall_mem_cons.mpr ⟨⟨show (20 : Nat) < 100 from by decide, nf0⟩, (fun _ h => (by cases h))⟩
set_option maxHeartbeats 4000000 in
theorem vc_Mo_writeDrawing_9_0 (x1 : Int) (x3 : Int) (x4 : Int) (all_0 : Int → Int) (r_0 : Int) (texts_0 : Int) (k1 : 0 ≤ x1 ∧ x1 ≤ 99965512) (k3 : 0 ≤ x3 ∧ x3 ≤ 48) (k4 : 0 ≤ x4 ∧ x4 ≤ 48) (d0 : x4 + 0 ≤ x3 ∧ x3 ≤ x4 + 4294967296) (f0 : x4 ≤ x3) (f1 : 1 * x4 + ((-1) * all_0 (r_0 + 1) + 0) ≤ 0) (f2 : (-1) * x4 + (1 * all_0 (r_0 + 1) + 0) ≤ 0) (f3 : 1 * texts_0 + ((-1) * x1 + ((-700) * x3 + 0)) ≤ 888) (kz_0_170 : 0 ≤ texts_0 ∧ texts_0 ≤ 100000000) : 1 * texts_0 + ((-1) * x1 + 0) ≤ 34488 := by
  first | assumption | omega | grind
def o_Mo_writeDrawing_9 : or_T := (154, 5, [(0, (2, 0, 0, [165])), (1, (0, 0, 99965512, [])), (3, (0, 0, 48, [])), (4, (0, 0, 48, []))], [(7, [3, 4], [3]), (20, [4, 2], [30, 0, 1, 0, 0, -1, 3, 2005001]), (20, [4, 2], [30, 0, -1, 0, 0, 1, 3, 2005001]), (20, [2, 1, 3], [30, 888, 1, 1, 170, -1, 0, 0, -700, 0, 0]), (24, [0, 2], [])], [], [], [(20, [0, 1], [30, 34488, 1, 1, 170, -1, 0, 0])], [], [(3, 4, 0, 4294967296)])
theorem oo_Mo_writeDrawing_9 {kA : Nat → ClassId} : or_ok PRD kA GG o_Mo_writeDrawing_9 := by
  refine or_mk fun A ta ws vs hD hth hl => ?_
  intro t0 r0 t1 k1 t3 k3 t4 k4 d0 f0 f1 f2 f3 f4
  replace f1 := shm_121 f1
  replace f2 := shm_122 f2
  replace f3 := shm_1922 f3
  replace f4 := shm_5 f4
  have q2 : n_v vs 2 = n_v vs 0 := f4.symm
  simp only [q2] at f1 f2 f3
  have kz_0_170 := fdq_11 hD hth r0
  have nf0 : fc_1 PRD (20, [0, 1], [30, 34488, 1, 1, 170, -1, 0, 0]) ws (vs) := ⟨nf_in hl rfl, sgq_1929 (vc_Mo_writeDrawing_9_0 (v_iv (n_v vs 1)) (v_iv (n_v vs 3)) (v_iv (n_v vs 4)) (w_ei ws (w_ar ws (n_v vs 0) 2)) (w_fi ws (n_v vs 0) 5) (w_fi ws (n_v vs 0) 170) k1 k3 k4 d0 (shm_2 f0) f1 f2 f3 kz_0_170)⟩
  refine ⟨(fun _ h => (by cases h)), [], trivial, ?_, (fun _ h => (by cases h))⟩
  rw [List.append_nil]
  exact List.forall_mem_cons.mpr ⟨⟨show (20 : Nat) < 100 from by decide, nf0⟩, (fun _ h => (by cases h))⟩
set_option maxHeartbeats 4000000 in
theorem vc_Mo_writeDrawing_10_0 (x1 : Int) (x3 : Int) (x4 : Int) (x5 : Int) (all_0 : Int → Int) (r_0 : Int) (texts_0 : Int) (gx : Int) (k1 : 0 ≤ x1 ∧ x1 ≤ 99965512) (k3 : 0 ≤ x3 ∧ x3 ≤ 47) (k4 : 1 ≤ x4 ∧ x4 ≤ 48) (k5 : 0 ≤ x5 ∧ x5 ≤ 23) (d0 : x4 + (-4294967296) ≤ x3 ∧ x3 ≤ x4 + (-1)) (f0 : x5 = all_0 (((r_0 + 267) + x3))) (f1 : x3 < x4) (f2 : 1 * x4 + ((-1) * all_0 (r_0 + 1) + 0) ≤ 0) (f3 : (-1) * x4 + (1 * all_0 (r_0 + 1) + 0) ≤ 0) (f4 : 1 * texts_0 + ((-1) * x1 + ((-700) * x3 + 0)) ≤ 888) (kz_0_170 : 0 ≤ texts_0 ∧ texts_0 ≤ 100000000) (ex2 : gx = texts_0) (ex3 : 0 ≤ gx ∧ gx ≤ 99999987) : 1 * texts_0 + ((-1) * gx + 0) ≤ 0 := by
  first | assumption | omega | grind
set_option maxHeartbeats 4000000 in
theorem vc_Mo_writeDrawing_10_1 (x1 : Int) (x3 : Int) (x4 : Int) (x5 : Int) (all_0 : Int → Int) (r_0 : Int) (texts_0 : Int) (gx : Int) (k1 : 0 ≤ x1 ∧ x1 ≤ 99965512) (k3 : 0 ≤ x3 ∧ x3 ≤ 47) (k4 : 1 ≤ x4 ∧ x4 ≤ 48) (k5 : 0 ≤ x5 ∧ x5 ≤ 23) (d0 : x4 + (-4294967296) ≤ x3 ∧ x3 ≤ x4 + (-1)) (f0 : x5 = all_0 (((r_0 + 267) + x3))) (f1 : x3 < x4) (f2 : 1 * x4 + ((-1) * all_0 (r_0 + 1) + 0) ≤ 0) (f3 : (-1) * x4 + (1 * all_0 (r_0 + 1) + 0) ≤ 0) (f4 : 1 * texts_0 + ((-1) * x1 + ((-700) * x3 + 0)) ≤ 888) (kz_0_170 : 0 ≤ texts_0 ∧ texts_0 ≤ 100000000) (ex2 : gx = texts_0) (ex3 : 0 ≤ gx ∧ gx ≤ 99999987) : 1 * gx + ((-1) * x1 + ((-700) * x3 + 0)) ≤ 888 := by
  first | assumption | omega | grind
def o_Mo_writeDrawing_10 : or_T := (73, 6, [(0, (2, 0, 0, [165])), (1, (0, 0, 99965512, [])), (2, (2, 0, 0, [165])), (3, (0, 0, 47, [])), (4, (0, 1, 48, [])), (5, (0, 0, 23, []))], [(20, [5, 2, 3], [50, 1, 1, 1005, 1002, 1, 2, 1, 0, 3, 1, 2, 4, 7, 4, 3, 2, 1, 5, 0, 267, 1, 2]), (7, [3, 4], [2]), (20, [4, 2], [30, 0, 1, 0, 0, -1, 3, 2005001]), (20, [4, 2], [30, 0, -1, 0, 0, 1, 3, 2005001]), (20, [2, 1, 3], [30, 888, 1, 1, 170, -1, 0, 0, -700, 0, 0]), (24, [0, 2], [])], [], [(0, 0, 99999987, [])], [(20, [2, 6], [30, 0, 1, 1, 170, -1, 0, 0]), (23, [6, 1, 3], [888, 1, -1, -700])], [], [(3, 4, -4294967296, -1)])
theorem oo_Mo_writeDrawing_10 {kA : Nat → ClassId} : or_ok PRD kA GG o_Mo_writeDrawing_10 := by
  refine or_mk fun A ta ws vs hD hth hl => ?_
  intro t0 r0 t1 k1 t2 r2 t3 k3 t4 k4 t5 k5 d0 f0 f1 f2 f3 f4 f5
  replace f0 := shm_749 f0
  replace f1 := shm_6 f1
  replace f2 := shm_121 f2
  replace f3 := shm_122 f3
  replace f4 := shm_1922 f4
  replace f5 := shm_5 f5
  have q2 : n_v vs 2 = n_v vs 0 := f5.symm
  simp only [q2] at f0 f2 f3 f4
  have cr_0_2 := fdq_10 hD hth r0
  have br_0_2_F5_1_0 : w_ei ws (w_ar ws (n_v vs 0) 2) (w_fi ws (n_v vs 0) 5 + 1) = w_el ws (w_ar ws (n_v vs 0) 2) (w_fi ws (n_v vs 0) 5 + 1).toNat := rfl
  have kz_0_170 := fdq_11 hD hth r0
  have kv0 := fdq_11 hD hth r0
  obtain ⟨x, ex, hx⟩ := iv_ex (ta := ta) (lo := 0) (hi := 99999987) (z := w_fi ws (n_v vs 0) 170) (by omega) (by omega) (by omega) (by omega)
  have ex2 : v_iv (Value.int x) = w_fi ws (n_v vs 0) 170 := ex
  have ex3 : 0 ≤ v_iv (Value.int x) ∧ v_iv (Value.int x) ≤ 99999987 := tv_rng hx
  have e_1 : n_v (vs ++ [Value.int x]) 1 = n_v vs 1 := n_v_old (by rw [hl]; decide)
  have e_2 : n_v (vs ++ [Value.int x]) 2 = n_v vs 2 := n_v_old (by rw [hl]; decide)
  have e_3 : n_v (vs ++ [Value.int x]) 3 = n_v vs 3 := n_v_old (by rw [hl]; decide)
  have e_6 : n_v (vs ++ [Value.int x]) 6 = Value.int x := n_v_new hl
  have nf0 : fc_1 PRD (20, [2, 6], [30, 0, 1, 1, 170, -1, 0, 0]) ws (vs ++ [Value.int x]) := by
    refine ⟨nf_inA hl rfl, sgq_131 ?_⟩
    · show 1 * w_fi ws (n_v (vs ++ [Value.int x]) 2) 170 + ((-1) * v_iv (n_v (vs ++ [Value.int x]) 6) + 0) ≤ 0
      simp only [e_2, e_6, q2]
      exact vc_Mo_writeDrawing_10_0 (v_iv (n_v vs 1)) (v_iv (n_v vs 3)) (v_iv (n_v vs 4)) (v_iv (n_v vs 5)) (w_ei ws (w_ar ws (n_v vs 0) 2)) (w_fi ws (n_v vs 0) 5) (w_fi ws (n_v vs 0) 170) (v_iv (Value.int x)) k1 k3 k4 k5 d0 f0 f1 f2 f3 f4 kz_0_170 ex2 ex3
  have nf1 : fc_1 PRD (23, [6, 1, 3], [888, 1, -1, -700]) ws (vs ++ [Value.int x]) := by
    refine ⟨nf_inA hl rfl, sgq_1930 ?_⟩
    · show 1 * v_iv (n_v (vs ++ [Value.int x]) 6) + ((-1) * v_iv (n_v (vs ++ [Value.int x]) 1) + ((-700) * v_iv (n_v (vs ++ [Value.int x]) 3) + 0)) ≤ 888
      simp only [e_1, e_3, e_6]
      exact vc_Mo_writeDrawing_10_1 (v_iv (n_v vs 1)) (v_iv (n_v vs 3)) (v_iv (n_v vs 4)) (v_iv (n_v vs 5)) (w_ei ws (w_ar ws (n_v vs 0) 2)) (w_fi ws (n_v vs 0) 5) (w_fi ws (n_v vs 0) 170) (v_iv (Value.int x)) k1 k3 k4 k5 d0 f0 f1 f2 f3 f4 kz_0_170 ex2 ex3
  exact ⟨(fun _ h => (by cases h)), [Value.int x], ag_one hx, List.forall_mem_cons.mpr ⟨⟨show (20 : Nat) < 100 from by decide, nf0⟩, List.forall_mem_cons.mpr ⟨⟨show (23 : Nat) < 100 from by decide, nf1⟩, (fun _ h => (by cases h))⟩⟩, (fun _ h => (by cases h))⟩
set_option maxHeartbeats 4000000 in
theorem vc_Mo_writeDrawing_11_0 (x1 : Int) (x3 : Int) (x4 : Int) (x5 : Int) (x6 : Int) (all_0 : Int → Int) (r_0 : Int) (texts_0 : Int) (gx : Int) (k1 : 0 ≤ x1 ∧ x1 ≤ 99965512) (k3 : 0 ≤ x3 ∧ x3 ≤ 47) (k4 : 1 ≤ x4 ∧ x4 ≤ 48) (k5 : 0 ≤ x5 ∧ x5 ≤ 23) (k6 : 0 ≤ x6 ∧ x6 ≤ 99999987) (d0 : x4 + (-4294967296) ≤ x3 ∧ x3 ≤ x4 + (-1)) (f0 : 1 * x6 + ((-1) * x1 + ((-700) * x3 + 0)) ≤ 888) (f1 : x5 = all_0 (((r_0 + 267) + x3))) (f2 : 1 * x4 + ((-1) * all_0 (r_0 + 1) + 0) ≤ 0) (f3 : (-1) * x4 + (1 * all_0 (r_0 + 1) + 0) ≤ 0) (f5 : 1 * texts_0 + ((-1) * x6 + 0) ≤ 13) (f7 : 1 * x6 + ((-1) * x1 + ((-700) * x3 + 0)) ≤ 888) (f8 : x3 < x4) (kz_0_170 : 0 ≤ texts_0 ∧ texts_0 ≤ 100000000) (ex2 : gx = texts_0) (ex3 : 0 ≤ gx ∧ gx ≤ 99999999) : 1 * texts_0 + ((-1) * gx + 0) ≤ 0 := by
  first | assumption | omega | grind
set_option maxHeartbeats 4000000 in
theorem vc_Mo_writeDrawing_11_1 (x1 : Int) (x3 : Int) (x4 : Int) (x5 : Int) (x6 : Int) (all_0 : Int → Int) (r_0 : Int) (texts_0 : Int) (gx : Int) (k1 : 0 ≤ x1 ∧ x1 ≤ 99965512) (k3 : 0 ≤ x3 ∧ x3 ≤ 47) (k4 : 1 ≤ x4 ∧ x4 ≤ 48) (k5 : 0 ≤ x5 ∧ x5 ≤ 23) (k6 : 0 ≤ x6 ∧ x6 ≤ 99999987) (d0 : x4 + (-4294967296) ≤ x3 ∧ x3 ≤ x4 + (-1)) (f0 : 1 * x6 + ((-1) * x1 + ((-700) * x3 + 0)) ≤ 888) (f1 : x5 = all_0 (((r_0 + 267) + x3))) (f2 : 1 * x4 + ((-1) * all_0 (r_0 + 1) + 0) ≤ 0) (f3 : (-1) * x4 + (1 * all_0 (r_0 + 1) + 0) ≤ 0) (f5 : 1 * texts_0 + ((-1) * x6 + 0) ≤ 13) (f7 : 1 * x6 + ((-1) * x1 + ((-700) * x3 + 0)) ≤ 888) (f8 : x3 < x4) (kz_0_170 : 0 ≤ texts_0 ∧ texts_0 ≤ 100000000) (ex2 : gx = texts_0) (ex3 : 0 ≤ gx ∧ gx ≤ 99999999) : 1 * gx + ((-1) * x1 + ((-700) * x3 + 0)) ≤ 901 := by
  first | assumption | omega | grind
def o_Mo_writeDrawing_11 : or_T := (79, 8, [(0, (2, 0, 0, [165])), (1, (0, 0, 99965512, [])), (2, (2, 0, 0, [165])), (3, (0, 0, 47, [])), (4, (0, 1, 48, [])), (5, (0, 0, 23, [])), (6, (0, 0, 99999987, []))], [(23, [6, 1, 3], [888, 1, -1, -700]), (20, [5, 2, 3], [50, 1, 1, 1005, 1002, 1, 2, 1, 0, 3, 1, 2, 4, 7, 4, 3, 2, 1, 5, 0, 267, 1, 2]), (20, [4, 2], [30, 0, 1, 0, 0, -1, 3, 2005001]), (20, [4, 2], [30, 0, -1, 0, 0, 1, 3, 2005001]), (24, [0, 2], []), (20, [2, 6], [30, 13, 1, 1, 170, -1, 0, 0]), (102, [6], [7770675568902916283677847627294075626569627356208558085007249638955617140820833992704, 165170]), (23, [6, 1, 3], [888, 1, -1, -700]), (7, [3, 4], [2])], [], [(0, 0, 99999999, [])], [(20, [2, 8], [30, 0, 1, 1, 170, -1, 0, 0]), (23, [8, 1, 3], [901, 1, -1, -700])], [], [(3, 4, -4294967296, -1)])
theorem oo_Mo_writeDrawing_11 {kA : Nat → ClassId} : or_ok PRD kA GG o_Mo_writeDrawing_11 := by
  refine or_mk fun A ta ws vs hD hth hl => ?_
  intro t0 r0 t1 k1 t2 r2 t3 k3 t4 k4 t5 k5 t6 k6 d0 f0 f1 f2 f3 f4 f5 ta1 w1 le1 s1 f7 f8
  replace f0 := shm_1930 f0
  replace f1 := shm_749 f1
  replace f2 := shm_121 f2
  replace f3 := shm_122 f3
  replace f4 := shm_5 f4
  replace f5 := shm_1056 f5
  replace f7 := shm_1930 f7
  replace f8 := shm_6 f8
  have q2 : n_v vs 2 = n_v vs 0 := f4.symm
  simp only [q2] at f1 f2 f3 f5
  have cr_0_2 := fdq_10 hD hth r0
  have br_0_2_F5_1_0 : w_ei ws (w_ar ws (n_v vs 0) 2) (w_fi ws (n_v vs 0) 5 + 1) = w_el ws (w_ar ws (n_v vs 0) 2) (w_fi ws (n_v vs 0) 5 + 1).toNat := rfl
  have kz_0_170 := fdq_11 hD hth r0
  have kv0 := fdq_11 hD hth r0
  obtain ⟨x, ex, hx⟩ := iv_ex (ta := ta) (lo := 0) (hi := 99999999) (z := w_fi ws (n_v vs 0) 170) (by omega) (by omega) (by omega) (by omega)
  have ex2 : v_iv (Value.int x) = w_fi ws (n_v vs 0) 170 := ex
  have ex3 : 0 ≤ v_iv (Value.int x) ∧ v_iv (Value.int x) ≤ 99999999 := tv_rng hx
  have e_1 : n_v (vs ++ [Value.int x]) 1 = n_v vs 1 := n_v_old (by rw [hl]; decide)
  have e_2 : n_v (vs ++ [Value.int x]) 2 = n_v vs 2 := n_v_old (by rw [hl]; decide)
  have e_3 : n_v (vs ++ [Value.int x]) 3 = n_v vs 3 := n_v_old (by rw [hl]; decide)
  have e_8 : n_v (vs ++ [Value.int x]) 8 = Value.int x := n_v_new hl
  have nf0 : fc_1 PRD (20, [2, 8], [30, 0, 1, 1, 170, -1, 0, 0]) ws (vs ++ [Value.int x]) := by
    refine ⟨nf_inA hl rfl, sgq_131 ?_⟩
    · show 1 * w_fi ws (n_v (vs ++ [Value.int x]) 2) 170 + ((-1) * v_iv (n_v (vs ++ [Value.int x]) 8) + 0) ≤ 0
      simp only [e_2, e_8, q2]
      exact vc_Mo_writeDrawing_11_0 (v_iv (n_v vs 1)) (v_iv (n_v vs 3)) (v_iv (n_v vs 4)) (v_iv (n_v vs 5)) (v_iv (n_v vs 6)) (w_ei ws (w_ar ws (n_v vs 0) 2)) (w_fi ws (n_v vs 0) 5) (w_fi ws (n_v vs 0) 170) (v_iv (Value.int x)) k1 k3 k4 k5 k6 d0 f0 f1 f2 f3 f5 f7 f8 kz_0_170 ex2 ex3
  have nf1 : fc_1 PRD (23, [8, 1, 3], [901, 1, -1, -700]) ws (vs ++ [Value.int x]) := by
    refine ⟨nf_inA hl rfl, sgq_1931 ?_⟩
    · show 1 * v_iv (n_v (vs ++ [Value.int x]) 8) + ((-1) * v_iv (n_v (vs ++ [Value.int x]) 1) + ((-700) * v_iv (n_v (vs ++ [Value.int x]) 3) + 0)) ≤ 901
      simp only [e_1, e_3, e_8]
      exact vc_Mo_writeDrawing_11_1 (v_iv (n_v vs 1)) (v_iv (n_v vs 3)) (v_iv (n_v vs 4)) (v_iv (n_v vs 5)) (v_iv (n_v vs 6)) (w_ei ws (w_ar ws (n_v vs 0) 2)) (w_fi ws (n_v vs 0) 5) (w_fi ws (n_v vs 0) 170) (v_iv (Value.int x)) k1 k3 k4 k5 k6 d0 f0 f1 f2 f3 f5 f7 f8 kz_0_170 ex2 ex3
  exact ⟨(fun _ h => (by cases h)), [Value.int x], ag_one hx, List.forall_mem_cons.mpr ⟨⟨show (20 : Nat) < 100 from by decide, nf0⟩, List.forall_mem_cons.mpr ⟨⟨show (23 : Nat) < 100 from by decide, nf1⟩, (fun _ h => (by cases h))⟩⟩, (fun _ h => (by cases h))⟩
set_option maxHeartbeats 4000000 in
theorem vc_Mo_writeDrawing_12_0 (x1 : Int) (x3 : Int) (x4 : Int) (x5 : Int) (x6 : Int) (x8 : Int) (x9 : Int) (all_0 : Int → Int) (r_0 : Int) (texts_0 : Int) (gx : Int) (k1 : 0 ≤ x1 ∧ x1 ≤ 99965512) (k3 : 0 ≤ x3 ∧ x3 ≤ 47) (k4 : 1 ≤ x4 ∧ x4 ≤ 48) (k5 : 0 ≤ x5 ∧ x5 ≤ 23) (k6 : 0 ≤ x6 ∧ x6 ≤ 99999987) (k8 : 0 ≤ x8 ∧ x8 ≤ 99999999) (k9 : 0 ≤ x9 ∧ x9 ≤ 23) (d0 : x4 + (-4294967296) ≤ x3 ∧ x3 ≤ x4 + (-1)) (f0 : x9 = all_0 (((r_0 + 315) + x3))) (f1 : 1 * x8 + ((-1) * x1 + ((-700) * x3 + 0)) ≤ 901) (f2 : 1 * x6 + ((-1) * x1 + ((-700) * x3 + 0)) ≤ 888) (f3 : x5 = all_0 (((r_0 + 267) + x3))) (f4 : 1 * x4 + ((-1) * all_0 (r_0 + 1) + 0) ≤ 0) (f5 : (-1) * x4 + (1 * all_0 (r_0 + 1) + 0) ≤ 0) (f7 : 1 * texts_0 + ((-1) * x8 + 0) ≤ 1) (f9 : 1 * x8 + ((-1) * x1 + ((-700) * x3 + 0)) ≤ 901) (f10 : 1 * x6 + ((-1) * x1 + ((-700) * x3 + 0)) ≤ 888) (f12 : 1 * x6 + ((-1) * x1 + ((-700) * x3 + 0)) ≤ 888) (f13 : x3 < x4) (kz_0_170 : 0 ≤ texts_0 ∧ texts_0 ≤ 100000000) (ex2 : gx = texts_0) (ex3 : 0 ≤ gx ∧ gx ≤ 99999987) : 1 * texts_0 + ((-1) * gx + 0) ≤ 0 := by
  first | assumption | omega | grind
set_option maxHeartbeats 4000000 in
theorem vc_Mo_writeDrawing_12_1 (x1 : Int) (x3 : Int) (x4 : Int) (x5 : Int) (x6 : Int) (x8 : Int) (x9 : Int) (all_0 : Int → Int) (r_0 : Int) (texts_0 : Int) (gx : Int) (k1 : 0 ≤ x1 ∧ x1 ≤ 99965512) (k3 : 0 ≤ x3 ∧ x3 ≤ 47) (k4 : 1 ≤ x4 ∧ x4 ≤ 48) (k5 : 0 ≤ x5 ∧ x5 ≤ 23) (k6 : 0 ≤ x6 ∧ x6 ≤ 99999987) (k8 : 0 ≤ x8 ∧ x8 ≤ 99999999) (k9 : 0 ≤ x9 ∧ x9 ≤ 23) (d0 : x4 + (-4294967296) ≤ x3 ∧ x3 ≤ x4 + (-1)) (f0 : x9 = all_0 (((r_0 + 315) + x3))) (f1 : 1 * x8 + ((-1) * x1 + ((-700) * x3 + 0)) ≤ 901) (f2 : 1 * x6 + ((-1) * x1 + ((-700) * x3 + 0)) ≤ 888) (f3 : x5 = all_0 (((r_0 + 267) + x3))) (f4 : 1 * x4 + ((-1) * all_0 (r_0 + 1) + 0) ≤ 0) (f5 : (-1) * x4 + (1 * all_0 (r_0 + 1) + 0) ≤ 0) (f7 : 1 * texts_0 + ((-1) * x8 + 0) ≤ 1) (f9 : 1 * x8 + ((-1) * x1 + ((-700) * x3 + 0)) ≤ 901) (f10 : 1 * x6 + ((-1) * x1 + ((-700) * x3 + 0)) ≤ 888) (f12 : 1 * x6 + ((-1) * x1 + ((-700) * x3 + 0)) ≤ 888) (f13 : x3 < x4) (kz_0_170 : 0 ≤ texts_0 ∧ texts_0 ≤ 100000000) (ex2 : gx = texts_0) (ex3 : 0 ≤ gx ∧ gx ≤ 99999987) : 1 * gx + ((-1) * x1 + ((-700) * x3 + 0)) ≤ 902 := by
  first | assumption | omega | grind
def o_Mo_writeDrawing_12 : or_T := (88, 10, [(0, (2, 0, 0, [165])), (1, (0, 0, 99965512, [])), (2, (2, 0, 0, [165])), (3, (0, 0, 47, [])), (4, (0, 1, 48, [])), (5, (0, 0, 23, [])), (6, (0, 0, 99999987, [])), (8, (0, 0, 99999999, [])), (9, (0, 0, 23, []))], [(20, [9, 2, 3], [50, 1, 1, 1005, 1002, 1, 2, 1, 0, 3, 1, 2, 4, 7, 4, 3, 2, 1, 5, 0, 315, 1, 2]), (23, [8, 1, 3], [901, 1, -1, -700]), (23, [6, 1, 3], [888, 1, -1, -700]), (20, [5, 2, 3], [50, 1, 1, 1005, 1002, 1, 2, 1, 0, 3, 1, 2, 4, 7, 4, 3, 2, 1, 5, 0, 267, 1, 2]), (20, [4, 2], [30, 0, 1, 0, 0, -1, 3, 2005001]), (20, [4, 2], [30, 0, -1, 0, 0, 1, 3, 2005001]), (24, [0, 2], []), (20, [2, 8], [30, 1, 1, 1, 170, -1, 0, 0]), (102, [8], [7770675568902916283677847627294075626569627356208558085007249638955617140820833992704, 165170]), (23, [8, 1, 3], [901, 1, -1, -700]), (23, [6, 1, 3], [888, 1, -1, -700]), (102, [6], [7770675568902916283677847627294075626569627356208558085007249638955617140820833992704, 165170]), (23, [6, 1, 3], [888, 1, -1, -700]), (7, [3, 4], [2])], [], [(0, 0, 99999987, [])], [(20, [2, 10], [30, 0, 1, 1, 170, -1, 0, 0]), (23, [10, 1, 3], [902, 1, -1, -700])], [], [(3, 4, -4294967296, -1)])
theorem oo_Mo_writeDrawing_12 {kA : Nat → ClassId} : or_ok PRD kA GG o_Mo_writeDrawing_12 := by
  refine or_mk fun A ta ws vs hD hth hl => ?_
  intro t0 r0 t1 k1 t2 r2 t3 k3 t4 k4 t5 k5 t6 k6 t8 k8 t9 k9 d0 f0 f1 f2 f3 f4 f5 f6 f7 ta1 w1 le1 s1 f9 f10 ta2 w2 le2 s2 f12 f13
  replace f0 := shm_603 f0
  replace f1 := shm_1931 f1
  replace f2 := shm_1930 f2
  replace f3 := shm_749 f3
  replace f4 := shm_121 f4
  replace f5 := shm_122 f5
  replace f6 := shm_5 f6
  replace f7 := shm_132 f7
  replace f9 := shm_1931 f9
  replace f10 := shm_1930 f10
  replace f12 := shm_1930 f12
  replace f13 := shm_6 f13
  have q2 : n_v vs 2 = n_v vs 0 := f6.symm
  simp only [q2] at f0 f3 f4 f5 f7
  have cr_0_2 := fdq_10 hD hth r0
  have br_0_2_F5_1_0 : w_ei ws (w_ar ws (n_v vs 0) 2) (w_fi ws (n_v vs 0) 5 + 1) = w_el ws (w_ar ws (n_v vs 0) 2) (w_fi ws (n_v vs 0) 5 + 1).toNat := rfl
  have kz_0_170 := fdq_11 hD hth r0
  have kv0 := fdq_11 hD hth r0
  obtain ⟨x, ex, hx⟩ := iv_ex (ta := ta) (lo := 0) (hi := 99999987) (z := w_fi ws (n_v vs 0) 170) (by omega) (by omega) (by omega) (by omega)
  have ex2 : v_iv (Value.int x) = w_fi ws (n_v vs 0) 170 := ex
  have ex3 : 0 ≤ v_iv (Value.int x) ∧ v_iv (Value.int x) ≤ 99999987 := tv_rng hx
  have e_1 : n_v (vs ++ [Value.int x]) 1 = n_v vs 1 := n_v_old (by rw [hl]; decide)
  have e_2 : n_v (vs ++ [Value.int x]) 2 = n_v vs 2 := n_v_old (by rw [hl]; decide)
  have e_3 : n_v (vs ++ [Value.int x]) 3 = n_v vs 3 := n_v_old (by rw [hl]; decide)
  have e_10 : n_v (vs ++ [Value.int x]) 10 = Value.int x := n_v_new hl
  have nf0 : fc_1 PRD (20, [2, 10], [30, 0, 1, 1, 170, -1, 0, 0]) ws (vs ++ [Value.int x]) := by
    refine ⟨nf_inA hl rfl, sgq_131 ?_⟩
    · show 1 * w_fi ws (n_v (vs ++ [Value.int x]) 2) 170 + ((-1) * v_iv (n_v (vs ++ [Value.int x]) 10) + 0) ≤ 0
      simp only [e_2, e_10, q2]
      exact vc_Mo_writeDrawing_12_0 (v_iv (n_v vs 1)) (v_iv (n_v vs 3)) (v_iv (n_v vs 4)) (v_iv (n_v vs 5)) (v_iv (n_v vs 6)) (v_iv (n_v vs 8)) (v_iv (n_v vs 9)) (w_ei ws (w_ar ws (n_v vs 0) 2)) (w_fi ws (n_v vs 0) 5) (w_fi ws (n_v vs 0) 170) (v_iv (Value.int x)) k1 k3 k4 k5 k6 k8 k9 d0 f0 f1 f2 f3 f4 f5 f7 f9 f10 f12 f13 kz_0_170 ex2 ex3
  have nf1 : fc_1 PRD (23, [10, 1, 3], [902, 1, -1, -700]) ws (vs ++ [Value.int x]) := by
    refine ⟨nf_inA hl rfl, sgq_1932 ?_⟩
    · show 1 * v_iv (n_v (vs ++ [Value.int x]) 10) + ((-1) * v_iv (n_v (vs ++ [Value.int x]) 1) + ((-700) * v_iv (n_v (vs ++ [Value.int x]) 3) + 0)) ≤ 902
      simp only [e_1, e_3, e_10]
      exact vc_Mo_writeDrawing_12_1 (v_iv (n_v vs 1)) (v_iv (n_v vs 3)) (v_iv (n_v vs 4)) (v_iv (n_v vs 5)) (v_iv (n_v vs 6)) (v_iv (n_v vs 8)) (v_iv (n_v vs 9)) (w_ei ws (w_ar ws (n_v vs 0) 2)) (w_fi ws (n_v vs 0) 5) (w_fi ws (n_v vs 0) 170) (v_iv (Value.int x)) k1 k3 k4 k5 k6 k8 k9 d0 f0 f1 f2 f3 f4 f5 f7 f9 f10 f12 f13 kz_0_170 ex2 ex3
  exact ⟨(fun _ h => (by cases h)), [Value.int x], ag_one hx, List.forall_mem_cons.mpr ⟨⟨show (20 : Nat) < 100 from by decide, nf0⟩, List.forall_mem_cons.mpr ⟨⟨show (23 : Nat) < 100 from by decide, nf1⟩, (fun _ h => (by cases h))⟩⟩, (fun _ h => (by cases h))⟩
set_option maxHeartbeats 4000000 in
theorem vc_Mo_writeDrawing_13_0 (x1 : Int) (x3 : Int) (x4 : Int) (x5 : Int) (x6 : Int) (x8 : Int) (x9 : Int) (x10 : Int) (x11 : Int) (all_0 : Int → Int) (r_0 : Int) (texts_0 : Int) (k1 : 0 ≤ x1 ∧ x1 ≤ 99965512) (k3 : 0 ≤ x3 ∧ x3 ≤ 47) (k4 : 1 ≤ x4 ∧ x4 ≤ 48) (k5 : 0 ≤ x5 ∧ x5 ≤ 23) (k6 : 0 ≤ x6 ∧ x6 ≤ 99999987) (k8 : 0 ≤ x8 ∧ x8 ≤ 99999999) (k9 : 0 ≤ x9 ∧ x9 ≤ 23) (k10 : 0 ≤ x10 ∧ x10 ≤ 99999987) (k11 : 1 ≤ x11 ∧ x11 ≤ 1) (d0 : x4 + (-4294967296) ≤ x3 ∧ x3 ≤ x4 + (-1)) (f0 : 1 * x10 + ((-1) * x1 + ((-700) * x3 + 0)) ≤ 902) (f1 : x9 = all_0 (((r_0 + 315) + x3))) (f2 : 1 * x8 + ((-1) * x1 + ((-700) * x3 + 0)) ≤ 901) (f3 : 1 * x6 + ((-1) * x1 + ((-700) * x3 + 0)) ≤ 888) (f4 : x5 = all_0 (((r_0 + 267) + x3))) (f5 : 1 * x4 + ((-1) * all_0 (r_0 + 1) + 0) ≤ 0) (f6 : (-1) * x4 + (1 * all_0 (r_0 + 1) + 0) ≤ 0) (f8 : 1 * texts_0 + ((-1) * x10 + 0) ≤ 13) (f10 : 1 * x10 + ((-1) * x1 + ((-700) * x3 + 0)) ≤ 902) (f11 : 1 * x8 + ((-1) * x1 + ((-700) * x3 + 0)) ≤ 901) (f12 : 1 * x6 + ((-1) * x1 + ((-700) * x3 + 0)) ≤ 888) (f14 : 1 * x8 + ((-1) * x1 + ((-700) * x3 + 0)) ≤ 901) (f15 : 1 * x6 + ((-1) * x1 + ((-700) * x3 + 0)) ≤ 888) (f17 : 1 * x6 + ((-1) * x1 + ((-700) * x3 + 0)) ≤ 888) (f18 : x3 < x4) (kz_0_170 : 0 ≤ texts_0 ∧ texts_0 ≤ 100000000) : 1 * texts_0 + ((-1) * x1 + ((-700) * x3 + ((-28) * x11 + 0))) ≤ 887 := by
  first | assumption | omega | grind
def o_Mo_writeDrawing_13 : or_T := (93, 12, [(0, (2, 0, 0, [165])), (1, (0, 0, 99965512, [])), (3, (0, 0, 47, [])), (4, (0, 1, 48, [])), (5, (0, 0, 23, [])), (6, (0, 0, 99999987, [])), (8, (0, 0, 99999999, [])), (9, (0, 0, 23, [])), (10, (0, 0, 99999987, [])), (11, (0, 1, 1, []))], [(23, [10, 1, 3], [902, 1, -1, -700]), (20, [9, 2, 3], [50, 1, 1, 1005, 1002, 1, 2, 1, 0, 3, 1, 2, 4, 7, 4, 3, 2, 1, 5, 0, 315, 1, 2]), (23, [8, 1, 3], [901, 1, -1, -700]), (23, [6, 1, 3], [888, 1, -1, -700]), (20, [5, 2, 3], [50, 1, 1, 1005, 1002, 1, 2, 1, 0, 3, 1, 2, 4, 7, 4, 3, 2, 1, 5, 0, 267, 1, 2]), (20, [4, 2], [30, 0, 1, 0, 0, -1, 3, 2005001]), (20, [4, 2], [30, 0, -1, 0, 0, 1, 3, 2005001]), (24, [0, 2], []), (20, [2, 10], [30, 13, 1, 1, 170, -1, 0, 0]), (102, [10], [7770675568902916283677847627294075626569627356208558085007249638955617140820833992704, 165170]), (23, [10, 1, 3], [902, 1, -1, -700]), (23, [8, 1, 3], [901, 1, -1, -700]), (23, [6, 1, 3], [888, 1, -1, -700]), (102, [8], [7770675568902916283677847627294075626569627356208558085007249638955617140820833992704, 165170]), (23, [8, 1, 3], [901, 1, -1, -700]), (23, [6, 1, 3], [888, 1, -1, -700]), (102, [6], [7770675568902916283677847627294075626569627356208558085007249638955617140820833992704, 165170]), (23, [6, 1, 3], [888, 1, -1, -700]), (7, [3, 4], [2])], [], [], [(20, [2, 1, 3, 11], [30, 887, 1, 1, 170, -1, 0, 0, -700, 0, 0, -28, 0, 0])], [], [(3, 4, -4294967296, -1)])
theorem oo_Mo_writeDrawing_13 {kA : Nat → ClassId} : or_ok PRD kA GG o_Mo_writeDrawing_13 := by
  refine or_mk fun A ta ws vs hD hth hl => ?_
  intro t0 r0 t1 k1 t3 k3 t4 k4 t5 k5 t6 k6 t8 k8 t9 k9 t10 k10 t11 k11 d0 f0 f1 f2 f3 f4 f5 f6 f7 f8 ta1 w1 le1 s1 f10 f11 f12 ta2 w2 le2 s2 f14 f15 ta3 w3 le3 s3 f17 f18
  replace f0 := shm_1932 f0
  replace f1 := shm_603 f1
  replace f2 := shm_1931 f2
  replace f3 := shm_1930 f3
  replace f4 := shm_749 f4
  replace f5 := shm_121 f5
  replace f6 := shm_122 f6
  replace f7 := shm_5 f7
  replace f8 := shm_1056 f8
  replace f10 := shm_1932 f10
  replace f11 := shm_1931 f11
  replace f12 := shm_1930 f12
  replace f14 := shm_1931 f14
  replace f15 := shm_1930 f15
  replace f17 := shm_1930 f17
  replace f18 := shm_6 f18
  have q2 : n_v vs 2 = n_v vs 0 := f7.symm
  simp only [q2] at f1 f4 f5 f6 f8
  have kz_0_170 := fdq_11 hD hth r0
  have nf0 : fc_1 PRD (20, [2, 1, 3, 11], [30, 887, 1, 1, 170, -1, 0, 0, -700, 0, 0, -28, 0, 0]) ws (vs) := by
    refine ⟨nf_in hl rfl, sgq_1933 ?_⟩
    · show 1 * w_fi ws (n_v vs 2) 170 + ((-1) * v_iv (n_v vs 1) + ((-700) * v_iv (n_v vs 3) + ((-28) * v_iv (n_v vs 11) + 0))) ≤ 887
      rw [q2]
      exact vc_Mo_writeDrawing_13_0 (v_iv (n_v vs 1)) (v_iv (n_v vs 3)) (v_iv (n_v vs 4)) (v_iv (n_v vs 5)) (v_iv (n_v vs 6)) (v_iv (n_v vs 8)) (v_iv (n_v vs 9)) (v_iv (n_v vs 10)) (v_iv (n_v vs 11)) (w_ei ws (w_ar ws (n_v vs 0) 2)) (w_fi ws (n_v vs 0) 5) (w_fi ws (n_v vs 0) 170) k1 k3 k4 k5 k6 k8 k9 k10 k11 d0 f0 f1 f2 f3 f4 f5 f6 f8 f10 f11 f12 f14 f15 f17 f18 kz_0_170
  refine ⟨(fun _ h => (by cases h)), [], trivial, ?_, (fun _ h => (by cases h))⟩
  rw [List.append_nil]
  exact List.forall_mem_cons.mpr ⟨⟨show (20 : Nat) < 100 from by decide, nf0⟩, (fun _ h => (by cases h))⟩
set_option maxHeartbeats 4000000 in
theorem vc_Mo_writeDrawing_14_0 (x1 : Int) (x3 : Int) (x4 : Int) (x5 : Int) (x6 : Int) (x7 : Int) (bendMany_0 : Int → Int) (g0_0 : Int) (texts_0 : Int) (gx : Int) (k1 : 0 ≤ x1 ∧ x1 ≤ 99965512) (k3 : 0 ≤ x3 ∧ x3 ≤ 47) (k4 : 1 ≤ x4 ∧ x4 ≤ 25) (k5 : 1 ≤ x5 ∧ x5 ≤ 1) (k6 : 2 ≤ x6 ∧ x6 ≤ 26) (k7 : 2 ≤ x7 ∧ x7 ≤ 26) (d0 : x7 + 0 ≤ x6 ∧ x6 ≤ x7 + 4294967296) (d1 : x4 + 1 ≤ x6 ∧ x6 ≤ x4 + 1) (f0 : x7 ≤ x6) (f1 : x7 = (bendMany_0 (((48 * g0_0) + x3)) + 2)) (f2 : x6 = x4 + x5) (f3 : 1 * texts_0 + ((-1) * x1 + ((-700) * x3 + ((-28) * x4 + 0))) ≤ 887) (hK_0_64 : ∀ j : Int, 0 ≤ j → j < 192 → 0 ≤ bendMany_0 j ∧ bendMany_0 j ≤ 24) (kz_0_139 : 0 ≤ g0_0 ∧ g0_0 ≤ 3) (kz_0_170 : 0 ≤ texts_0 ∧ texts_0 ≤ 100000000) (ex2 : gx = texts_0) (ex3 : 0 ≤ gx ∧ gx ≤ 99999999) : 1 * texts_0 + ((-1) * gx + 0) ≤ 0 := by
  first | assumption | (clear hK_0_64; omega) | omega | grind
set_option maxHeartbeats 4000000 in
theorem vc_Mo_writeDrawing_14_1 (x1 : Int) (x3 : Int) (x4 : Int) (x5 : Int) (x6 : Int) (x7 : Int) (bendMany_0 : Int → Int) (g0_0 : Int) (texts_0 : Int) (gx : Int) (k1 : 0 ≤ x1 ∧ x1 ≤ 99965512) (k3 : 0 ≤ x3 ∧ x3 ≤ 47) (k4 : 1 ≤ x4 ∧ x4 ≤ 25) (k5 : 1 ≤ x5 ∧ x5 ≤ 1) (k6 : 2 ≤ x6 ∧ x6 ≤ 26) (k7 : 2 ≤ x7 ∧ x7 ≤ 26) (d0 : x7 + 0 ≤ x6 ∧ x6 ≤ x7 + 4294967296) (d1 : x4 + 1 ≤ x6 ∧ x6 ≤ x4 + 1) (f0 : x7 ≤ x6) (f1 : x7 = (bendMany_0 (((48 * g0_0) + x3)) + 2)) (f2 : x6 = x4 + x5) (f3 : 1 * texts_0 + ((-1) * x1 + ((-700) * x3 + ((-28) * x4 + 0))) ≤ 887) (hK_0_64 : ∀ j : Int, 0 ≤ j → j < 192 → 0 ≤ bendMany_0 j ∧ bendMany_0 j ≤ 24) (kz_0_139 : 0 ≤ g0_0 ∧ g0_0 ≤ 3) (kz_0_170 : 0 ≤ texts_0 ∧ texts_0 ≤ 100000000) (ex2 : gx = texts_0) (ex3 : 0 ≤ gx ∧ gx ≤ 99999999) : 1 * gx + ((-1) * x1 + ((-700) * x3 + 0)) ≤ 1587 := by
  first | assumption | (clear hK_0_64; omega) | omega | grind
def o_Mo_writeDrawing_14 : or_T := (145, 9, [(0, (2, 0, 0, [165])), (1, (0, 0, 99965512, [])), (2, (2, 0, 0, [165])), (3, (0, 0, 47, [])), (4, (0, 1, 25, [])), (5, (0, 1, 1, [])), (6, (0, 2, 26, [])), (7, (0, 2, 26, []))], [(7, [6, 7], [3]), (20, [7, 2, 3], [50, 1, 1, 1139, 1064, 1, 2, 1, 0, 4, 14, 3, 1, 64, 4, 7, 6, 2, 0, 48, 2, 1, 139, 1, 2, 0, 2]), (1, [6, 4, 5], []), (20, [2, 1, 3, 4], [30, 887, 1, 1, 170, -1, 0, 0, -700, 0, 0, -28, 0, 0]), (24, [0, 2], [])], [], [(0, 0, 99999999, [])], [(20, [2, 9], [30, 0, 1, 1, 170, -1, 0, 0]), (23, [9, 1, 3], [1587, 1, -1, -700])], [], [(6, 7, 0, 4294967296), (6, 4, 1, 1)])
theorem oo_Mo_writeDrawing_14 {kA : Nat → ClassId} : or_ok PRD kA GG o_Mo_writeDrawing_14 := by
  refine or_mk fun A ta ws vs hD hth hl => ?_
  intro t0 r0 t1 k1 t2 r2 t3 k3 t4 k4 t5 k5 t6 k6 t7 k7 d0 d1 f0 f1 f2 f3 f4
  replace f0 := shm_2 f0
  replace f1 := shm_683 f1
  replace f2 := shm_12 f2
  replace f3 := shm_1933 f3
  replace f4 := shm_5 f4
  have q2 : n_v vs 2 = n_v vs 0 := f4.symm
  simp only [q2] at f1 f3
  have cr_0_64 := fdq_171 hD hth r0
  have hK_0_64 := elq_101 hD hth cr_0_64
  have kz_0_139 := fdq_172 hD hth r0
  have kz_0_170 := fdq_11 hD hth r0
  have kv0 := fdq_11 hD hth r0
  obtain ⟨x, ex, hx⟩ := iv_ex (ta := ta) (lo := 0) (hi := 99999999) (z := w_fi ws (n_v vs 0) 170) (by omega) (by omega) (by omega) (by omega)
  have ex2 : v_iv (Value.int x) = w_fi ws (n_v vs 0) 170 := ex
  have ex3 : 0 ≤ v_iv (Value.int x) ∧ v_iv (Value.int x) ≤ 99999999 := tv_rng hx
  have e_1 : n_v (vs ++ [Value.int x]) 1 = n_v vs 1 := n_v_old (by rw [hl]; decide)
  have e_2 : n_v (vs ++ [Value.int x]) 2 = n_v vs 2 := n_v_old (by rw [hl]; decide)
  have e_3 : n_v (vs ++ [Value.int x]) 3 = n_v vs 3 := n_v_old (by rw [hl]; decide)
  have e_9 : n_v (vs ++ [Value.int x]) 9 = Value.int x := n_v_new hl
  have nf0 : fc_1 PRD (20, [2, 9], [30, 0, 1, 1, 170, -1, 0, 0]) ws (vs ++ [Value.int x]) := by
    refine ⟨nf_inA hl rfl, sgq_131 ?_⟩
    · show 1 * w_fi ws (n_v (vs ++ [Value.int x]) 2) 170 + ((-1) * v_iv (n_v (vs ++ [Value.int x]) 9) + 0) ≤ 0
      simp only [e_2, e_9, q2]
      exact vc_Mo_writeDrawing_14_0 (v_iv (n_v vs 1)) (v_iv (n_v vs 3)) (v_iv (n_v vs 4)) (v_iv (n_v vs 5)) (v_iv (n_v vs 6)) (v_iv (n_v vs 7)) (w_ei ws (w_ar ws (n_v vs 0) 64)) (w_fi ws (n_v vs 0) 139) (w_fi ws (n_v vs 0) 170) (v_iv (Value.int x)) k1 k3 k4 k5 k6 k7 d0 d1 f0 f1 f2 f3 hK_0_64 kz_0_139 kz_0_170 ex2 ex3
  have nf1 : fc_1 PRD (23, [9, 1, 3], [1587, 1, -1, -700]) ws (vs ++ [Value.int x]) := by
    refine ⟨nf_inA hl rfl, sgq_1934 ?_⟩
    · show 1 * v_iv (n_v (vs ++ [Value.int x]) 9) + ((-1) * v_iv (n_v (vs ++ [Value.int x]) 1) + ((-700) * v_iv (n_v (vs ++ [Value.int x]) 3) + 0)) ≤ 1587
      simp only [e_1, e_3, e_9]
      exact vc_Mo_writeDrawing_14_1 (v_iv (n_v vs 1)) (v_iv (n_v vs 3)) (v_iv (n_v vs 4)) (v_iv (n_v vs 5)) (v_iv (n_v vs 6)) (v_iv (n_v vs 7)) (w_ei ws (w_ar ws (n_v vs 0) 64)) (w_fi ws (n_v vs 0) 139) (w_fi ws (n_v vs 0) 170) (v_iv (Value.int x)) k1 k3 k4 k5 k6 k7 d0 d1 f0 f1 f2 f3 hK_0_64 kz_0_139 kz_0_170 ex2 ex3
  exact ⟨(fun _ h => (by cases h)), [Value.int x], ag_one hx, List.forall_mem_cons.mpr ⟨⟨show (20 : Nat) < 100 from by decide, nf0⟩, List.forall_mem_cons.mpr ⟨⟨show (23 : Nat) < 100 from by decide, nf1⟩, (fun _ h => (by cases h))⟩⟩, (fun _ h => (by cases h))⟩
set_option maxHeartbeats 4000000 in
theorem vc_Mo_writeDrawing_15_0 (x1 : Int) (x3 : Int) (x4 : Int) (x5 : Int) (x6 : Int) (x7 : Int) (x9 : Int) (x10 : Int) (bendMany_0 : Int → Int) (g0_0 : Int) (texts_0 : Int) (k1 : 0 ≤ x1 ∧ x1 ≤ 99965512) (k3 : 0 ≤ x3 ∧ x3 ≤ 47) (k4 : 1 ≤ x4 ∧ x4 ≤ 25) (k5 : 1 ≤ x5 ∧ x5 ≤ 1) (k6 : 2 ≤ x6 ∧ x6 ≤ 26) (k7 : 2 ≤ x7 ∧ x7 ≤ 26) (k9 : 0 ≤ x9 ∧ x9 ≤ 99999999) (k10 : 1 ≤ x10 ∧ x10 ≤ 48) (d0 : x3 + 1 ≤ x10 ∧ x10 ≤ x3 + 1) (d1 : x7 + 0 ≤ x6 ∧ x6 ≤ x7 + 4294967296) (d2 : x4 + 1 ≤ x6 ∧ x6 ≤ x4 + 1) (f0 : x10 = x3 + 1) (f1 : 1 * x9 + ((-1) * x1 + ((-700) * x3 + 0)) ≤ 1587) (f2 : x7 = (bendMany_0 (((48 * g0_0) + x3)) + 2)) (f4 : 1 * texts_0 + ((-1) * x9 + 0) ≤ 1) (f6 : 1 * x9 + ((-1) * x1 + ((-700) * x3 + 0)) ≤ 1587) (f7 : x7 ≤ x6) (f8 : x6 = x4 + x5) (hK_0_64 : ∀ j : Int, 0 ≤ j → j < 192 → 0 ≤ bendMany_0 j ∧ bendMany_0 j ≤ 24) (kz_0_139 : 0 ≤ g0_0 ∧ g0_0 ≤ 3) (kz_0_170 : 0 ≤ texts_0 ∧ texts_0 ≤ 100000000) : 1 * texts_0 + ((-1) * x1 + ((-700) * x10 + 0)) ≤ 888 := by
  first | assumption | (clear hK_0_64; omega) | omega | grind
def o_Mo_writeDrawing_15 : or_T := (59, 11, [(0, (2, 0, 0, [165])), (1, (0, 0, 99965512, [])), (3, (0, 0, 47, [])), (4, (0, 1, 25, [])), (5, (0, 1, 1, [])), (6, (0, 2, 26, [])), (7, (0, 2, 26, [])), (9, (0, 0, 99999999, [])), (10, (0, 1, 48, []))], [(6, [10, 3], [1]), (23, [9, 1, 3], [1587, 1, -1, -700]), (20, [7, 2, 3], [50, 1, 1, 1139, 1064, 1, 2, 1, 0, 4, 14, 3, 1, 64, 4, 7, 6, 2, 0, 48, 2, 1, 139, 1, 2, 0, 2]), (24, [0, 2], []), (20, [2, 9], [30, 1, 1, 1, 170, -1, 0, 0]), (102, [9], [7770675568902916283677847627294075626569627356208558085007249638955617140820833992704, 165170]), (23, [9, 1, 3], [1587, 1, -1, -700]), (7, [6, 7], [3]), (1, [6, 4, 5], [])], [], [], [(20, [2, 1, 10], [30, 888, 1, 1, 170, -1, 0, 0, -700, 0, 0])], [], [(10, 3, 1, 1), (6, 7, 0, 4294967296), (6, 4, 1, 1)])
theorem oo_Mo_writeDrawing_15 {kA : Nat → ClassId} : or_ok PRD kA GG o_Mo_writeDrawing_15 := by
  refine or_mk fun A ta ws vs hD hth hl => ?_
  intro t0 r0 t1 k1 t3 k3 t4 k4 t5 k5 t6 k6 t7 k7 t9 k9 t10 k10 d0 d1 d2 f0 f1 f2 f3 f4 ta1 w1 le1 s1 f6 f7 f8
  replace f0 := shm_4 f0
  replace f1 := shm_1934 f1
  replace f2 := shm_683 f2
  replace f3 := shm_5 f3
  replace f4 := shm_132 f4
  replace f6 := shm_1934 f6
  replace f7 := shm_2 f7
  replace f8 := shm_12 f8
  have q2 : n_v vs 2 = n_v vs 0 := f3.symm
  simp only [q2] at f2 f4
  have cr_0_64 := fdq_171 hD hth r0
  have hK_0_64 := elq_101 hD hth cr_0_64
  have kz_0_139 := fdq_172 hD hth r0
  have kz_0_170 := fdq_11 hD hth r0
  have nf0 : fc_1 PRD (20, [2, 1, 10], [30, 888, 1, 1, 170, -1, 0, 0, -700, 0, 0]) ws (vs) := by
    refine ⟨nf_in hl rfl, sgq_1922 ?_⟩
    · show 1 * w_fi ws (n_v vs 2) 170 + ((-1) * v_iv (n_v vs 1) + ((-700) * v_iv (n_v vs 10) + 0)) ≤ 888
      rw [q2]
      exact vc_Mo_writeDrawing_15_0 (v_iv (n_v vs 1)) (v_iv (n_v vs 3)) (v_iv (n_v vs 4)) (v_iv (n_v vs 5)) (v_iv (n_v vs 6)) (v_iv (n_v vs 7)) (v_iv (n_v vs 9)) (v_iv (n_v vs 10)) (w_ei ws (w_ar ws (n_v vs 0) 64)) (w_fi ws (n_v vs 0) 139) (w_fi ws (n_v vs 0) 170) k1 k3 k4 k5 k6 k7 k9 k10 d0 d1 d2 f0 f1 f2 f4 f6 f7 f8 hK_0_64 kz_0_139 kz_0_170
  refine ⟨(fun _ h => (by cases h)), [], trivial, ?_, (fun _ h => (by cases h))⟩
  rw [List.append_nil]
  exact List.forall_mem_cons.mpr ⟨⟨show (20 : Nat) < 100 from by decide, nf0⟩, (fun _ h => (by cases h))⟩
set_option maxHeartbeats 4000000 in
theorem vc_Mo_writeDrawing_16_0 (x1 : Int) (x3 : Int) (x4 : Int) (x5 : Int) (x6 : Int) (x7 : Int) (bendMany_0 : Int → Int) (g0_0 : Int) (texts_0 : Int) (gx : Int) (k1 : 0 ≤ x1 ∧ x1 ≤ 99965512) (k3 : 0 ≤ x3 ∧ x3 ≤ 47) (k4 : 1 ≤ x4 ∧ x4 ≤ 24) (k5 : 1 ≤ x5 ∧ x5 ≤ 1) (k6 : 2 ≤ x6 ∧ x6 ≤ 25) (k7 : 3 ≤ x7 ∧ x7 ≤ 26) (d0 : x7 + (-4294967296) ≤ x6 ∧ x6 ≤ x7 + (-1)) (d1 : x4 + 1 ≤ x6 ∧ x6 ≤ x4 + 1) (f0 : x6 < x7) (f1 : x7 = (bendMany_0 (((48 * g0_0) + x3)) + 2)) (f2 : x6 = x4 + x5) (f3 : 1 * texts_0 + ((-1) * x1 + ((-700) * x3 + ((-28) * x4 + 0))) ≤ 887) (hK_0_64 : ∀ j : Int, 0 ≤ j → j < 192 → 0 ≤ bendMany_0 j ∧ bendMany_0 j ≤ 24) (kz_0_139 : 0 ≤ g0_0 ∧ g0_0 ≤ 3) (kz_0_170 : 0 ≤ texts_0 ∧ texts_0 ≤ 100000000) (ex2 : gx = texts_0) (ex3 : 0 ≤ gx ∧ gx ≤ 99999999) : 1 * texts_0 + ((-1) * gx + 0) ≤ 0 := by
  first | assumption | (clear hK_0_64; omega) | omega | grind
set_option maxHeartbeats 4000000 in
theorem vc_Mo_writeDrawing_16_1 (x1 : Int) (x3 : Int) (x4 : Int) (x5 : Int) (x6 : Int) (x7 : Int) (bendMany_0 : Int → Int) (g0_0 : Int) (texts_0 : Int) (gx : Int) (k1 : 0 ≤ x1 ∧ x1 ≤ 99965512) (k3 : 0 ≤ x3 ∧ x3 ≤ 47) (k4 : 1 ≤ x4 ∧ x4 ≤ 24) (k5 : 1 ≤ x5 ∧ x5 ≤ 1) (k6 : 2 ≤ x6 ∧ x6 ≤ 25) (k7 : 3 ≤ x7 ∧ x7 ≤ 26) (d0 : x7 + (-4294967296) ≤ x6 ∧ x6 ≤ x7 + (-1)) (d1 : x4 + 1 ≤ x6 ∧ x6 ≤ x4 + 1) (f0 : x6 < x7) (f1 : x7 = (bendMany_0 (((48 * g0_0) + x3)) + 2)) (f2 : x6 = x4 + x5) (f3 : 1 * texts_0 + ((-1) * x1 + ((-700) * x3 + ((-28) * x4 + 0))) ≤ 887) (hK_0_64 : ∀ j : Int, 0 ≤ j → j < 192 → 0 ≤ bendMany_0 j ∧ bendMany_0 j ≤ 24) (kz_0_139 : 0 ≤ g0_0 ∧ g0_0 ≤ 3) (kz_0_170 : 0 ≤ texts_0 ∧ texts_0 ≤ 100000000) (ex2 : gx = texts_0) (ex3 : 0 ≤ gx ∧ gx ≤ 99999999) : 1 * gx + ((-1) * x1 + ((-700) * x3 + ((-28) * x4 + 0))) ≤ 887 := by
  first | assumption | (clear hK_0_64; omega) | omega | grind
def o_Mo_writeDrawing_16 : or_T := (107, 9, [(0, (2, 0, 0, [165])), (1, (0, 0, 99965512, [])), (2, (2, 0, 0, [165])), (3, (0, 0, 47, [])), (4, (0, 1, 24, [])), (5, (0, 1, 1, [])), (6, (0, 2, 25, [])), (7, (0, 3, 26, []))], [(7, [6, 7], [2]), (20, [7, 2, 3], [50, 1, 1, 1139, 1064, 1, 2, 1, 0, 4, 14, 3, 1, 64, 4, 7, 6, 2, 0, 48, 2, 1, 139, 1, 2, 0, 2]), (1, [6, 4, 5], []), (20, [2, 1, 3, 4], [30, 887, 1, 1, 170, -1, 0, 0, -700, 0, 0, -28, 0, 0]), (24, [0, 2], [])], [], [(0, 0, 99999999, [])], [(20, [2, 9], [30, 0, 1, 1, 170, -1, 0, 0]), (23, [9, 1, 3, 4], [887, 1, -1, -700, -28])], [], [(6, 7, -4294967296, -1), (6, 4, 1, 1)])
theorem oo_Mo_writeDrawing_16 {kA : Nat → ClassId} : or_ok PRD kA GG o_Mo_writeDrawing_16 := by
  refine or_mk fun A ta ws vs hD hth hl => ?_
  intro t0 r0 t1 k1 t2 r2 t3 k3 t4 k4 t5 k5 t6 k6 t7 k7 d0 d1 f0 f1 f2 f3 f4
  replace f0 := shm_6 f0
  replace f1 := shm_683 f1
  replace f2 := shm_12 f2
  replace f3 := shm_1933 f3
  replace f4 := shm_5 f4
  have q2 : n_v vs 2 = n_v vs 0 := f4.symm
  simp only [q2] at f1 f3
  have cr_0_64 := fdq_171 hD hth r0
  have hK_0_64 := elq_101 hD hth cr_0_64
  have kz_0_139 := fdq_172 hD hth r0
  have kz_0_170 := fdq_11 hD hth r0
  have kv0 := fdq_11 hD hth r0
  obtain ⟨x, ex, hx⟩ := iv_ex (ta := ta) (lo := 0) (hi := 99999999) (z := w_fi ws (n_v vs 0) 170) (by omega) (by omega) (by omega) (by omega)
  have ex2 : v_iv (Value.int x) = w_fi ws (n_v vs 0) 170 := ex
  have ex3 : 0 ≤ v_iv (Value.int x) ∧ v_iv (Value.int x) ≤ 99999999 := tv_rng hx
  have e_1 : n_v (vs ++ [Value.int x]) 1 = n_v vs 1 := n_v_old (by rw [hl]; decide)
  have e_2 : n_v (vs ++ [Value.int x]) 2 = n_v vs 2 := n_v_old (by rw [hl]; decide)
  have e_3 : n_v (vs ++ [Value.int x]) 3 = n_v vs 3 := n_v_old (by rw [hl]; decide)
  have e_4 : n_v (vs ++ [Value.int x]) 4 = n_v vs 4 := n_v_old (by rw [hl]; decide)
  have e_9 : n_v (vs ++ [Value.int x]) 9 = Value.int x := n_v_new hl
  have nf0 : fc_1 PRD (20, [2, 9], [30, 0, 1, 1, 170, -1, 0, 0]) ws (vs ++ [Value.int x]) := by
    refine ⟨nf_inA hl rfl, sgq_131 ?_⟩
    · show 1 * w_fi ws (n_v (vs ++ [Value.int x]) 2) 170 + ((-1) * v_iv (n_v (vs ++ [Value.int x]) 9) + 0) ≤ 0
      simp only [e_2, e_9, q2]
      exact vc_Mo_writeDrawing_16_0 (v_iv (n_v vs 1)) (v_iv (n_v vs 3)) (v_iv (n_v vs 4)) (v_iv (n_v vs 5)) (v_iv (n_v vs 6)) (v_iv (n_v vs 7)) (w_ei ws (w_ar ws (n_v vs 0) 64)) (w_fi ws (n_v vs 0) 139) (w_fi ws (n_v vs 0) 170) (v_iv (Value.int x)) k1 k3 k4 k5 k6 k7 d0 d1 f0 f1 f2 f3 hK_0_64 kz_0_139 kz_0_170 ex2 ex3
  have nf1 : fc_1 PRD (23, [9, 1, 3, 4], [887, 1, -1, -700, -28]) ws (vs ++ [Value.int x]) := by
    refine ⟨nf_inA hl rfl, sgq_1935 ?_⟩
    · show 1 * v_iv (n_v (vs ++ [Value.int x]) 9) + ((-1) * v_iv (n_v (vs ++ [Value.int x]) 1) + ((-700) * v_iv (n_v (vs ++ [Value.int x]) 3) + ((-28) * v_iv (n_v (vs ++ [Value.int x]) 4) + 0))) ≤ 887
      simp only [e_1, e_3, e_4, e_9]
      exact vc_Mo_writeDrawing_16_1 (v_iv (n_v vs 1)) (v_iv (n_v vs 3)) (v_iv (n_v vs 4)) (v_iv (n_v vs 5)) (v_iv (n_v vs 6)) (v_iv (n_v vs 7)) (w_ei ws (w_ar ws (n_v vs 0) 64)) (w_fi ws (n_v vs 0) 139) (w_fi ws (n_v vs 0) 170) (v_iv (Value.int x)) k1 k3 k4 k5 k6 k7 d0 d1 f0 f1 f2 f3 hK_0_64 kz_0_139 kz_0_170 ex2 ex3
  exact ⟨(fun _ h => (by cases h)), [Value.int x], ag_one hx, List.forall_mem_cons.mpr ⟨⟨show (20 : Nat) < 100 from by decide, nf0⟩, List.forall_mem_cons.mpr ⟨⟨show (23 : Nat) < 100 from by decide, nf1⟩, (fun _ h => (by cases h))⟩⟩, (fun _ h => (by cases h))⟩
set_option maxHeartbeats 4000000 in
theorem vc_Mo_writeDrawing_17_0 (x1 : Int) (x3 : Int) (x4 : Int) (x5 : Int) (x6 : Int) (x7 : Int) (x9 : Int) (bendMany_0 : Int → Int) (g0_0 : Int) (texts_0 : Int) (k1 : 0 ≤ x1 ∧ x1 ≤ 99965512) (k3 : 0 ≤ x3 ∧ x3 ≤ 47) (k4 : 1 ≤ x4 ∧ x4 ≤ 24) (k5 : 1 ≤ x5 ∧ x5 ≤ 1) (k6 : 2 ≤ x6 ∧ x6 ≤ 25) (k7 : 3 ≤ x7 ∧ x7 ≤ 26) (k9 : 0 ≤ x9 ∧ x9 ≤ 99999999) (d0 : x7 + (-4294967296) ≤ x6 ∧ x6 ≤ x7 + (-1)) (d1 : x4 + 1 ≤ x6 ∧ x6 ≤ x4 + 1) (f0 : 1 * x9 + ((-1) * x1 + ((-700) * x3 + ((-28) * x4 + 0))) ≤ 887) (f1 : x7 = (bendMany_0 (((48 * g0_0) + x3)) + 2)) (f3 : 1 * texts_0 + ((-1) * x9 + 0) ≤ 1) (f5 : 1 * x9 + ((-1) * x1 + ((-700) * x3 + ((-28) * x4 + 0))) ≤ 887) (f6 : x6 < x7) (f7 : x6 = x4 + x5) (hK_0_64 : ∀ j : Int, 0 ≤ j → j < 192 → 0 ≤ bendMany_0 j ∧ bendMany_0 j ≤ 24) (kz_0_139 : 0 ≤ g0_0 ∧ g0_0 ≤ 3) (kz_0_170 : 0 ≤ texts_0 ∧ texts_0 ≤ 100000000) : x4 ≤ (bendMany_0 (((48 * g0_0) + x3)) + 1) := by
  first | assumption | (clear hK_0_64; omega) | omega | grind
def o_Mo_writeDrawing_17 : or_T := (114, 10, [(0, (2, 0, 0, [165])), (1, (0, 0, 99965512, [])), (3, (0, 0, 47, [])), (4, (0, 1, 24, [])), (5, (0, 1, 1, [])), (6, (0, 2, 25, [])), (7, (0, 3, 26, [])), (9, (0, 0, 99999999, []))], [(23, [9, 1, 3, 4], [887, 1, -1, -700, -28]), (20, [7, 2, 3], [50, 1, 1, 1139, 1064, 1, 2, 1, 0, 4, 14, 3, 1, 64, 4, 7, 6, 2, 0, 48, 2, 1, 139, 1, 2, 0, 2]), (24, [0, 2], []), (20, [2, 9], [30, 1, 1, 1, 170, -1, 0, 0]), (102, [9], [7770675568902916283677847627294075626569627356208558085007249638955617140820833992704, 165170]), (23, [9, 1, 3, 4], [887, 1, -1, -700, -28]), (7, [6, 7], [2]), (1, [6, 4, 5], [])], [], [], [(20, [4, 2, 3], [50, 1, 1, 1139, 1064, 0, 2, 1, 0, 4, 14, 3, 1, 64, 4, 7, 6, 2, 0, 48, 2, 1, 139, 1, 2, 0, 1])], [], [(6, 7, -4294967296, -1), (6, 4, 1, 1)])
theorem oo_Mo_writeDrawing_17 {kA : Nat → ClassId} : or_ok PRD kA GG o_Mo_writeDrawing_17 := by
  refine or_mk fun A ta ws vs hD hth hl => ?_
  intro t0 r0 t1 k1 t3 k3 t4 k4 t5 k5 t6 k6 t7 k7 t9 k9 d0 d1 f0 f1 f2 f3 ta1 w1 le1 s1 f5 f6 f7
  replace f0 := shm_1935 f0
  replace f1 := shm_683 f1
  replace f2 := shm_5 f2
  replace f3 := shm_132 f3
  replace f5 := shm_1935 f5
  replace f6 := shm_6 f6
  replace f7 := shm_12 f7
  have q2 : n_v vs 2 = n_v vs 0 := f2.symm
  simp only [q2] at f1 f3
  have cr_0_64 := fdq_171 hD hth r0
  have hK_0_64 := elq_101 hD hth cr_0_64
  have kz_0_139 := fdq_172 hD hth r0
  have kz_0_170 := fdq_11 hD hth r0
  have nf0 : fc_1 PRD (20, [4, 2, 3], [50, 1, 1, 1139, 1064, 0, 2, 1, 0, 4, 14, 3, 1, 64, 4, 7, 6, 2, 0, 48, 2, 1, 139, 1, 2, 0, 1]) ws (vs) := by
    refine ⟨nf_in hl rfl, sgq_1421 ?_⟩
    · show v_iv (n_v vs 4) ≤ (w_ei ws (w_ar ws (n_v vs 2) 64) (((48 * w_fi ws (n_v vs 2) 139) + v_iv (n_v vs 3))) + 1)
      rw [q2]
      exact vc_Mo_writeDrawing_17_0 (v_iv (n_v vs 1)) (v_iv (n_v vs 3)) (v_iv (n_v vs 4)) (v_iv (n_v vs 5)) (v_iv (n_v vs 6)) (v_iv (n_v vs 7)) (v_iv (n_v vs 9)) (w_ei ws (w_ar ws (n_v vs 0) 64)) (w_fi ws (n_v vs 0) 139) (w_fi ws (n_v vs 0) 170) k1 k3 k4 k5 k6 k7 k9 d0 d1 f0 f1 f3 f5 f6 f7 hK_0_64 kz_0_139 kz_0_170
  refine ⟨(fun _ h => (by cases h)), [], trivial, ?_, (fun _ h => (by cases h))⟩
  rw [List.append_nil]
  exact List.forall_mem_cons.mpr ⟨⟨show (20 : Nat) < 100 from by decide, nf0⟩, (fun _ h => (by cases h))⟩
set_option maxHeartbeats 4000000 in
theorem vc_Mo_writeDrawing_18_0 (x1 : Int) (x3 : Int) (x4 : Int) (x5 : Int) (x6 : Int) (x7 : Int) (x9 : Int) (x10 : Int) (nodeX_0 : Int → Int) (all_0 : Int → Int) (g0_0 : Int) (r_0 : Int) (bendMany_0 : Int → Int) (bendX_0 : Int → Int) (texts_0 : Int) (gx : Int) (k1 : 0 ≤ x1 ∧ x1 ≤ 99965512) (k3 : 0 ≤ x3 ∧ x3 ≤ 47) (k4 : 1 ≤ x4 ∧ x4 ≤ 24) (k5 : 1 ≤ x5 ∧ x5 ≤ 1) (k6 : 2 ≤ x6 ∧ x6 ≤ 25) (k7 : 3 ≤ x7 ∧ x7 ≤ 26) (k9 : 0 ≤ x9 ∧ x9 ≤ 99999999) (k10 : (-300000011) ≤ x10 ∧ x10 ≤ 221100000) (d0 : x7 + (-4294967296) ≤ x6 ∧ x6 ≤ x7 + (-1)) (d1 : x4 + 1 ≤ x6 ∧ x6 ≤ x4 + 1) (f0 : (x4 = 0) → (x10 = nodeX_0 (((24 * g0_0) + all_0 (((r_0 + 267) + x3)))))) (f1 : (x4 = (bendMany_0 (((48 * g0_0) + x3)) + 1)) → (x10 = nodeX_0 (((24 * g0_0) + all_0 (((r_0 + 315) + x3)))))) (f2 : (x4 = 0) ∨ ((x4 = (bendMany_0 (((48 * g0_0) + x3)) + 1)) ∨ (x10 = bendX_0 (((24 * ((48 * g0_0) + x3)) + (x4 - 1)))))) (f3 : x4 ≤ (bendMany_0 (((48 * g0_0) + x3)) + 1)) (f4 : 1 * x9 + ((-1) * x1 + ((-700) * x3 + ((-28) * x4 + 0))) ≤ 887) (f5 : x7 = (bendMany_0 (((48 * g0_0) + x3)) + 2)) (f7 : 1 * texts_0 + ((-1) * x9 + 0) ≤ 1) (f9 : 1 * x9 + ((-1) * x1 + ((-700) * x3 + ((-28) * x4 + 0))) ≤ 887) (f10 : x6 < x7) (f11 : x6 = x4 + x5) (hK_0_62 : ∀ j : Int, 0 ≤ j → j < 96 → (-300000000) ≤ nodeX_0 j ∧ nodeX_0 j ≤ 300000000) (hK_0_64 : ∀ j : Int, 0 ≤ j → j < 192 → 0 ≤ bendMany_0 j ∧ bendMany_0 j ≤ 24) (hK_0_65 : ∀ j : Int, 0 ≤ j → j < 4608 → (-300000011) ≤ bendX_0 j ∧ bendX_0 j ≤ 221100000) (kz_0_139 : 0 ≤ g0_0 ∧ g0_0 ≤ 3) (kz_0_170 : 0 ≤ texts_0 ∧ texts_0 ≤ 100000000) (ex2 : gx = texts_0) (ex3 : 0 ≤ gx ∧ gx ≤ 99999987) : 1 * texts_0 + ((-1) * gx + 0) ≤ 0 := by
  first | assumption | (clear f0 f1 f2 hK_0_62 hK_0_64 hK_0_65; omega) | (clear hK_0_62 hK_0_64 hK_0_65; grind) | omega | grind
set_option maxHeartbeats 4000000 in
theorem vc_Mo_writeDrawing_18_1 (x1 : Int) (x3 : Int) (x4 : Int) (x5 : Int) (x6 : Int) (x7 : Int) (x9 : Int) (x10 : Int) (nodeX_0 : Int → Int) (all_0 : Int → Int) (g0_0 : Int) (r_0 : Int) (bendMany_0 : Int → Int) (bendX_0 : Int → Int) (texts_0 : Int) (gx : Int) (k1 : 0 ≤ x1 ∧ x1 ≤ 99965512) (k3 : 0 ≤ x3 ∧ x3 ≤ 47) (k4 : 1 ≤ x4 ∧ x4 ≤ 24) (k5 : 1 ≤ x5 ∧ x5 ≤ 1) (k6 : 2 ≤ x6 ∧ x6 ≤ 25) (k7 : 3 ≤ x7 ∧ x7 ≤ 26) (k9 : 0 ≤ x9 ∧ x9 ≤ 99999999) (k10 : (-300000011) ≤ x10 ∧ x10 ≤ 221100000) (d0 : x7 + (-4294967296) ≤ x6 ∧ x6 ≤ x7 + (-1)) (d1 : x4 + 1 ≤ x6 ∧ x6 ≤ x4 + 1) (f0 : (x4 = 0) → (x10 = nodeX_0 (((24 * g0_0) + all_0 (((r_0 + 267) + x3)))))) (f1 : (x4 = (bendMany_0 (((48 * g0_0) + x3)) + 1)) → (x10 = nodeX_0 (((24 * g0_0) + all_0 (((r_0 + 315) + x3)))))) (f2 : (x4 = 0) ∨ ((x4 = (bendMany_0 (((48 * g0_0) + x3)) + 1)) ∨ (x10 = bendX_0 (((24 * ((48 * g0_0) + x3)) + (x4 - 1)))))) (f3 : x4 ≤ (bendMany_0 (((48 * g0_0) + x3)) + 1)) (f4 : 1 * x9 + ((-1) * x1 + ((-700) * x3 + ((-28) * x4 + 0))) ≤ 887) (f5 : x7 = (bendMany_0 (((48 * g0_0) + x3)) + 2)) (f7 : 1 * texts_0 + ((-1) * x9 + 0) ≤ 1) (f9 : 1 * x9 + ((-1) * x1 + ((-700) * x3 + ((-28) * x4 + 0))) ≤ 887) (f10 : x6 < x7) (f11 : x6 = x4 + x5) (hK_0_62 : ∀ j : Int, 0 ≤ j → j < 96 → (-300000000) ≤ nodeX_0 j ∧ nodeX_0 j ≤ 300000000) (hK_0_64 : ∀ j : Int, 0 ≤ j → j < 192 → 0 ≤ bendMany_0 j ∧ bendMany_0 j ≤ 24) (hK_0_65 : ∀ j : Int, 0 ≤ j → j < 4608 → (-300000011) ≤ bendX_0 j ∧ bendX_0 j ≤ 221100000) (kz_0_139 : 0 ≤ g0_0 ∧ g0_0 ≤ 3) (kz_0_170 : 0 ≤ texts_0 ∧ texts_0 ≤ 100000000) (ex2 : gx = texts_0) (ex3 : 0 ≤ gx ∧ gx ≤ 99999987) : 1 * gx + ((-1) * x1 + ((-700) * x3 + ((-28) * x4 + 0))) ≤ 888 := by
  first | assumption | (clear f0 f1 f2 hK_0_62 hK_0_64 hK_0_65; omega) | (clear hK_0_62 hK_0_64 hK_0_65; grind) | omega | grind
def o_Mo_writeDrawing_18 : or_T := (117, 11, [(0, (2, 0, 0, [165])), (1, (0, 0, 99965512, [])), (2, (2, 0, 0, [165])), (3, (0, 0, 47, [])), (4, (0, 1, 24, [])), (5, (0, 1, 1, [])), (6, (0, 2, 25, [])), (7, (0, 3, 26, [])), (9, (0, 0, 99999999, [])), (10, (0, -300000011, 221100000, []))], [(20, [4, 10, 2, 3], [50, 2, 2, 2139, 2005, 2062, 2002, 4, 6, 1, 2, 1, 0, 0, 0, 1, 2, 1, 1, 3, 2, 62, 4, 7, 6, 2, 0, 24, 2, 2, 139, 3, 2, 2, 4, 7, 4, 3, 2, 2, 5, 0, 267, 1, 3]), (20, [4, 2, 3, 10], [50, 2, 3, 1139, 1005, 1064, 1062, 1002, 4, 22, 1, 2, 1, 0, 4, 14, 3, 1, 64, 4, 7, 6, 2, 0, 48, 2, 1, 139, 1, 2, 0, 1, 1, 2, 1, 3, 3, 1, 62, 4, 7, 6, 2, 0, 24, 2, 1, 139, 3, 1, 2, 4, 7, 4, 3, 2, 1, 5, 0, 315, 1, 2]), (20, [4, 2, 3, 10], [50, 1, 2, 1139, 1064, 1065, 3, 6, 1, 2, 1, 0, 0, 0, 3, 22, 1, 2, 1, 0, 4, 14, 3, 1, 64, 4, 7, 6, 2, 0, 48, 2, 1, 139, 1, 2, 0, 1, 1, 2, 1, 3, 3, 1, 65, 4, 15, 6, 2, 0, 24, 4, 7, 6, 2, 0, 48, 2, 1, 139, 1, 2, 5, 2, 1, 0, 0, 1]), (20, [4, 2, 3], [50, 1, 1, 1139, 1064, 0, 2, 1, 0, 4, 14, 3, 1, 64, 4, 7, 6, 2, 0, 48, 2, 1, 139, 1, 2, 0, 1]), (23, [9, 1, 3, 4], [887, 1, -1, -700, -28]), (20, [7, 2, 3], [50, 1, 1, 1139, 1064, 1, 2, 1, 0, 4, 14, 3, 1, 64, 4, 7, 6, 2, 0, 48, 2, 1, 139, 1, 2, 0, 2]), (24, [0, 2], []), (20, [2, 9], [30, 1, 1, 1, 170, -1, 0, 0]), (102, [9], [7770675568902916283677847627294075626569627356208558085007249638955617140820833992704, 165170]), (23, [9, 1, 3, 4], [887, 1, -1, -700, -28]), (7, [6, 7], [2]), (1, [6, 4, 5], [])], [], [(0, 0, 99999987, [])], [(20, [2, 11], [30, 0, 1, 1, 170, -1, 0, 0]), (23, [11, 1, 3, 4], [888, 1, -1, -700, -28])], [], [(6, 7, -4294967296, -1), (6, 4, 1, 1)])
theorem oo_Mo_writeDrawing_18 {kA : Nat → ClassId} : or_ok PRD kA GG o_Mo_writeDrawing_18 := by
  refine or_mk fun A ta ws vs hD hth hl => ?_
  intro t0 r0 t1 k1 t2 r2 t3 k3 t4 k4 t5 k5 t6 k6 t7 k7 t9 k9 t10 k10 d0 d1 f0 f1 f2 f3 f4 f5 f6 f7 ta1 w1 le1 s1 f9 f10 f11
  replace f0 := shm_1423 f0
  replace f1 := shm_1424 f1
  replace f2 := shm_1425 f2
  replace f3 := shm_1421 f3
  replace f4 := shm_1935 f4
  replace f5 := shm_683 f5
  replace f6 := shm_5 f6
  replace f7 := shm_132 f7
  replace f9 := shm_1935 f9
  replace f10 := shm_6 f10
  replace f11 := shm_12 f11
  have q2 : n_v vs 2 = n_v vs 0 := f6.symm
  simp only [q2] at f0 f1 f2 f3 f5 f7
  have cr_0_2 := fdq_10 hD hth r0
  have cr_0_62 := fdq_173 hD hth r0
  have cr_0_64 := fdq_171 hD hth r0
  have cr_0_65 := fdq_292 hD hth r0
  have hK_0_62 := elq_102 hD hth cr_0_62
  have hK_0_64 := elq_101 hD hth cr_0_64
  have hK_0_65 := elq_184 hD hth cr_0_65
  have kz_0_139 := fdq_172 hD hth r0
  have kz_0_170 := fdq_11 hD hth r0
  have kv0 := fdq_11 hD hth r0
  obtain ⟨x, ex, hx⟩ := iv_ex (ta := ta) (lo := 0) (hi := 99999987) (z := w_fi ws (n_v vs 0) 170) (by omega) (by omega) (by omega) (by omega)
  have ex2 : v_iv (Value.int x) = w_fi ws (n_v vs 0) 170 := ex
  have ex3 : 0 ≤ v_iv (Value.int x) ∧ v_iv (Value.int x) ≤ 99999987 := tv_rng hx
  have e_1 : n_v (vs ++ [Value.int x]) 1 = n_v vs 1 := n_v_old (by rw [hl]; decide)
  have e_2 : n_v (vs ++ [Value.int x]) 2 = n_v vs 2 := n_v_old (by rw [hl]; decide)
  have e_3 : n_v (vs ++ [Value.int x]) 3 = n_v vs 3 := n_v_old (by rw [hl]; decide)
  have e_4 : n_v (vs ++ [Value.int x]) 4 = n_v vs 4 := n_v_old (by rw [hl]; decide)
  have e_11 : n_v (vs ++ [Value.int x]) 11 = Value.int x := n_v_new hl
  have nf0 : fc_1 PRD (20, [2, 11], [30, 0, 1, 1, 170, -1, 0, 0]) ws (vs ++ [Value.int x]) := by
    refine ⟨nf_inA hl rfl, sgq_131 ?_⟩
    · show 1 * w_fi ws (n_v (vs ++ [Value.int x]) 2) 170 + ((-1) * v_iv (n_v (vs ++ [Value.int x]) 11) + 0) ≤ 0
      simp only [e_2, e_11, q2]
      exact vc_Mo_writeDrawing_18_0 (v_iv (n_v vs 1)) (v_iv (n_v vs 3)) (v_iv (n_v vs 4)) (v_iv (n_v vs 5)) (v_iv (n_v vs 6)) (v_iv (n_v vs 7)) (v_iv (n_v vs 9)) (v_iv (n_v vs 10)) (w_ei ws (w_ar ws (n_v vs 0) 62)) (w_ei ws (w_ar ws (n_v vs 0) 2)) (w_fi ws (n_v vs 0) 139) (w_fi ws (n_v vs 0) 5) (w_ei ws (w_ar ws (n_v vs 0) 64)) (w_ei ws (w_ar ws (n_v vs 0) 65)) (w_fi ws (n_v vs 0) 170) (v_iv (Value.int x)) k1 k3 k4 k5 k6 k7 k9 k10 d0 d1 f0 f1 f2 f3 f4 f5 f7 f9 f10 f11 hK_0_62 hK_0_64 hK_0_65 kz_0_139 kz_0_170 ex2 ex3
  have nf1 : fc_1 PRD (23, [11, 1, 3, 4], [888, 1, -1, -700, -28]) ws (vs ++ [Value.int x]) := by
    refine ⟨nf_inA hl rfl, sgq_1936 ?_⟩
    · show 1 * v_iv (n_v (vs ++ [Value.int x]) 11) + ((-1) * v_iv (n_v (vs ++ [Value.int x]) 1) + ((-700) * v_iv (n_v (vs ++ [Value.int x]) 3) + ((-28) * v_iv (n_v (vs ++ [Value.int x]) 4) + 0))) ≤ 888
      simp only [e_1, e_3, e_4, e_11]
      exact vc_Mo_writeDrawing_18_1 (v_iv (n_v vs 1)) (v_iv (n_v vs 3)) (v_iv (n_v vs 4)) (v_iv (n_v vs 5)) (v_iv (n_v vs 6)) (v_iv (n_v vs 7)) (v_iv (n_v vs 9)) (v_iv (n_v vs 10)) (w_ei ws (w_ar ws (n_v vs 0) 62)) (w_ei ws (w_ar ws (n_v vs 0) 2)) (w_fi ws (n_v vs 0) 139) (w_fi ws (n_v vs 0) 5) (w_ei ws (w_ar ws (n_v vs 0) 64)) (w_ei ws (w_ar ws (n_v vs 0) 65)) (w_fi ws (n_v vs 0) 170) (v_iv (Value.int x)) k1 k3 k4 k5 k6 k7 k9 k10 d0 d1 f0 f1 f2 f3 f4 f5 f7 f9 f10 f11 hK_0_62 hK_0_64 hK_0_65 kz_0_139 kz_0_170 ex2 ex3
  exact ⟨(fun _ h => (by cases h)), [Value.int x], ag_one hx, List.forall_mem_cons.mpr ⟨⟨show (20 : Nat) < 100 from by decide, nf0⟩, List.forall_mem_cons.mpr ⟨⟨show (23 : Nat) < 100 from by decide, nf1⟩, (fun _ h => (by cases h))⟩⟩, (fun _ h => (by cases h))⟩
set_option maxHeartbeats 4000000 in
theorem vc_Mo_writeDrawing_19_0 (x1 : Int) (x3 : Int) (x4 : Int) (x5 : Int) (x6 : Int) (x7 : Int) (x9 : Int) (x10 : Int) (x11 : Int) (nodeX_0 : Int → Int) (all_0 : Int → Int) (g0_0 : Int) (r_0 : Int) (bendMany_0 : Int → Int) (bendX_0 : Int → Int) (texts_0 : Int) (gx : Int) (k1 : 0 ≤ x1 ∧ x1 ≤ 99965512) (k3 : 0 ≤ x3 ∧ x3 ≤ 47) (k4 : 1 ≤ x4 ∧ x4 ≤ 24) (k5 : 1 ≤ x5 ∧ x5 ≤ 1) (k6 : 2 ≤ x6 ∧ x6 ≤ 25) (k7 : 3 ≤ x7 ∧ x7 ≤ 26) (k9 : 0 ≤ x9 ∧ x9 ≤ 99999999) (k10 : (-300000011) ≤ x10 ∧ x10 ≤ 221100000) (k11 : 0 ≤ x11 ∧ x11 ≤ 99999987) (d0 : x7 + (-4294967296) ≤ x6 ∧ x6 ≤ x7 + (-1)) (d1 : x4 + 1 ≤ x6 ∧ x6 ≤ x4 + 1) (f0 : 1 * x11 + ((-1) * x1 + ((-700) * x3 + ((-28) * x4 + 0))) ≤ 888) (f1 : (x4 = 0) → (x10 = nodeX_0 (((24 * g0_0) + all_0 (((r_0 + 267) + x3)))))) (f2 : (x4 = (bendMany_0 (((48 * g0_0) + x3)) + 1)) → (x10 = nodeX_0 (((24 * g0_0) + all_0 (((r_0 + 315) + x3)))))) (f3 : (x4 = 0) ∨ ((x4 = (bendMany_0 (((48 * g0_0) + x3)) + 1)) ∨ (x10 = bendX_0 (((24 * ((48 * g0_0) + x3)) + (x4 - 1)))))) (f4 : x4 ≤ (bendMany_0 (((48 * g0_0) + x3)) + 1)) (f5 : 1 * x9 + ((-1) * x1 + ((-700) * x3 + ((-28) * x4 + 0))) ≤ 887) (f6 : x7 = (bendMany_0 (((48 * g0_0) + x3)) + 2)) (f8 : 1 * texts_0 + ((-1) * x11 + 0) ≤ 13) (f10 : 1 * x11 + ((-1) * x1 + ((-700) * x3 + ((-28) * x4 + 0))) ≤ 888) (f11 : 1 * x9 + ((-1) * x1 + ((-700) * x3 + ((-28) * x4 + 0))) ≤ 887) (f13 : 1 * x9 + ((-1) * x1 + ((-700) * x3 + ((-28) * x4 + 0))) ≤ 887) (f14 : x6 < x7) (f15 : x6 = x4 + x5) (hK_0_62 : ∀ j : Int, 0 ≤ j → j < 96 → (-300000000) ≤ nodeX_0 j ∧ nodeX_0 j ≤ 300000000) (hK_0_64 : ∀ j : Int, 0 ≤ j → j < 192 → 0 ≤ bendMany_0 j ∧ bendMany_0 j ≤ 24) (hK_0_65 : ∀ j : Int, 0 ≤ j → j < 4608 → (-300000011) ≤ bendX_0 j ∧ bendX_0 j ≤ 221100000) (kz_0_139 : 0 ≤ g0_0 ∧ g0_0 ≤ 3) (kz_0_170 : 0 ≤ texts_0 ∧ texts_0 ≤ 100000000) (ex2 : gx = texts_0) (ex3 : 0 ≤ gx ∧ gx ≤ 99999999) : 1 * texts_0 + ((-1) * gx + 0) ≤ 0 := by
  first | assumption | (clear f1 f2 f3 hK_0_62 hK_0_64 hK_0_65; omega) | (clear hK_0_62 hK_0_64 hK_0_65; grind) | omega | grind
set_option maxHeartbeats 4000000 in
theorem vc_Mo_writeDrawing_19_1 (x1 : Int) (x3 : Int) (x4 : Int) (x5 : Int) (x6 : Int) (x7 : Int) (x9 : Int) (x10 : Int) (x11 : Int) (nodeX_0 : Int → Int) (all_0 : Int → Int) (g0_0 : Int) (r_0 : Int) (bendMany_0 : Int → Int) (bendX_0 : Int → Int) (texts_0 : Int) (gx : Int) (k1 : 0 ≤ x1 ∧ x1 ≤ 99965512) (k3 : 0 ≤ x3 ∧ x3 ≤ 47) (k4 : 1 ≤ x4 ∧ x4 ≤ 24) (k5 : 1 ≤ x5 ∧ x5 ≤ 1) (k6 : 2 ≤ x6 ∧ x6 ≤ 25) (k7 : 3 ≤ x7 ∧ x7 ≤ 26) (k9 : 0 ≤ x9 ∧ x9 ≤ 99999999) (k10 : (-300000011) ≤ x10 ∧ x10 ≤ 221100000) (k11 : 0 ≤ x11 ∧ x11 ≤ 99999987) (d0 : x7 + (-4294967296) ≤ x6 ∧ x6 ≤ x7 + (-1)) (d1 : x4 + 1 ≤ x6 ∧ x6 ≤ x4 + 1) (f0 : 1 * x11 + ((-1) * x1 + ((-700) * x3 + ((-28) * x4 + 0))) ≤ 888) (f1 : (x4 = 0) → (x10 = nodeX_0 (((24 * g0_0) + all_0 (((r_0 + 267) + x3)))))) (f2 : (x4 = (bendMany_0 (((48 * g0_0) + x3)) + 1)) → (x10 = nodeX_0 (((24 * g0_0) + all_0 (((r_0 + 315) + x3)))))) (f3 : (x4 = 0) ∨ ((x4 = (bendMany_0 (((48 * g0_0) + x3)) + 1)) ∨ (x10 = bendX_0 (((24 * ((48 * g0_0) + x3)) + (x4 - 1)))))) (f4 : x4 ≤ (bendMany_0 (((48 * g0_0) + x3)) + 1)) (f5 : 1 * x9 + ((-1) * x1 + ((-700) * x3 + ((-28) * x4 + 0))) ≤ 887) (f6 : x7 = (bendMany_0 (((48 * g0_0) + x3)) + 2)) (f8 : 1 * texts_0 + ((-1) * x11 + 0) ≤ 13) (f10 : 1 * x11 + ((-1) * x1 + ((-700) * x3 + ((-28) * x4 + 0))) ≤ 888) (f11 : 1 * x9 + ((-1) * x1 + ((-700) * x3 + ((-28) * x4 + 0))) ≤ 887) (f13 : 1 * x9 + ((-1) * x1 + ((-700) * x3 + ((-28) * x4 + 0))) ≤ 887) (f14 : x6 < x7) (f15 : x6 = x4 + x5) (hK_0_62 : ∀ j : Int, 0 ≤ j → j < 96 → (-300000000) ≤ nodeX_0 j ∧ nodeX_0 j ≤ 300000000) (hK_0_64 : ∀ j : Int, 0 ≤ j → j < 192 → 0 ≤ bendMany_0 j ∧ bendMany_0 j ≤ 24) (hK_0_65 : ∀ j : Int, 0 ≤ j → j < 4608 → (-300000011) ≤ bendX_0 j ∧ bendX_0 j ≤ 221100000) (kz_0_139 : 0 ≤ g0_0 ∧ g0_0 ≤ 3) (kz_0_170 : 0 ≤ texts_0 ∧ texts_0 ≤ 100000000) (ex2 : gx = texts_0) (ex3 : 0 ≤ gx ∧ gx ≤ 99999999) : 1 * gx + ((-1) * x1 + ((-700) * x3 + ((-28) * x4 + 0))) ≤ 901 := by
  first | assumption | (clear f1 f2 f3 hK_0_62 hK_0_64 hK_0_65; omega) | (clear hK_0_62 hK_0_64 hK_0_65; grind) | omega | grind
def o_Mo_writeDrawing_19 : or_T := (123, 13, [(0, (2, 0, 0, [165])), (1, (0, 0, 99965512, [])), (2, (2, 0, 0, [165])), (3, (0, 0, 47, [])), (4, (0, 1, 24, [])), (5, (0, 1, 1, [])), (6, (0, 2, 25, [])), (7, (0, 3, 26, [])), (9, (0, 0, 99999999, [])), (10, (0, -300000011, 221100000, [])), (11, (0, 0, 99999987, []))], [(23, [11, 1, 3, 4], [888, 1, -1, -700, -28]), (20, [4, 10, 2, 3], [50, 2, 2, 2139, 2005, 2062, 2002, 4, 6, 1, 2, 1, 0, 0, 0, 1, 2, 1, 1, 3, 2, 62, 4, 7, 6, 2, 0, 24, 2, 2, 139, 3, 2, 2, 4, 7, 4, 3, 2, 2, 5, 0, 267, 1, 3]), (20, [4, 2, 3, 10], [50, 2, 3, 1139, 1005, 1064, 1062, 1002, 4, 22, 1, 2, 1, 0, 4, 14, 3, 1, 64, 4, 7, 6, 2, 0, 48, 2, 1, 139, 1, 2, 0, 1, 1, 2, 1, 3, 3, 1, 62, 4, 7, 6, 2, 0, 24, 2, 1, 139, 3, 1, 2, 4, 7, 4, 3, 2, 1, 5, 0, 315, 1, 2]), (20, [4, 2, 3, 10], [50, 1, 2, 1139, 1064, 1065, 3, 6, 1, 2, 1, 0, 0, 0, 3, 22, 1, 2, 1, 0, 4, 14, 3, 1, 64, 4, 7, 6, 2, 0, 48, 2, 1, 139, 1, 2, 0, 1, 1, 2, 1, 3, 3, 1, 65, 4, 15, 6, 2, 0, 24, 4, 7, 6, 2, 0, 48, 2, 1, 139, 1, 2, 5, 2, 1, 0, 0, 1]), (20, [4, 2, 3], [50, 1, 1, 1139, 1064, 0, 2, 1, 0, 4, 14, 3, 1, 64, 4, 7, 6, 2, 0, 48, 2, 1, 139, 1, 2, 0, 1]), (23, [9, 1, 3, 4], [887, 1, -1, -700, -28]), (20, [7, 2, 3], [50, 1, 1, 1139, 1064, 1, 2, 1, 0, 4, 14, 3, 1, 64, 4, 7, 6, 2, 0, 48, 2, 1, 139, 1, 2, 0, 2]), (24, [0, 2], []), (20, [2, 11], [30, 13, 1, 1, 170, -1, 0, 0]), (102, [11], [7770675568902916283677847627294075626569627356208558085007249638955617140820833992704, 165170]), (23, [11, 1, 3, 4], [888, 1, -1, -700, -28]), (23, [9, 1, 3, 4], [887, 1, -1, -700, -28]), (102, [9], [7770675568902916283677847627294075626569627356208558085007249638955617140820833992704, 165170]), (23, [9, 1, 3, 4], [887, 1, -1, -700, -28]), (7, [6, 7], [2]), (1, [6, 4, 5], [])], [], [(0, 0, 99999999, [])], [(20, [2, 13], [30, 0, 1, 1, 170, -1, 0, 0]), (23, [13, 1, 3, 4], [901, 1, -1, -700, -28])], [], [(6, 7, -4294967296, -1), (6, 4, 1, 1)])
theorem oo_Mo_writeDrawing_19 {kA : Nat → ClassId} : or_ok PRD kA GG o_Mo_writeDrawing_19 := by
  refine or_mk fun A ta ws vs hD hth hl => ?_
  intro t0 r0 t1 k1 t2 r2 t3 k3 t4 k4 t5 k5 t6 k6 t7 k7 t9 k9 t10 k10 t11 k11 d0 d1 f0 f1 f2 f3 f4 f5 f6 f7 f8 ta1 w1 le1 s1 f10 f11 ta2 w2 le2 s2 f13 f14 f15
  replace f0 := shm_1936 f0
  replace f1 := shm_1423 f1
  replace f2 := shm_1424 f2
  replace f3 := shm_1425 f3
  replace f4 := shm_1421 f4
  replace f5 := shm_1935 f5
  replace f6 := shm_683 f6
  replace f7 := shm_5 f7
  replace f8 := shm_1056 f8
  replace f10 := shm_1936 f10
  replace f11 := shm_1935 f11
  replace f13 := shm_1935 f13
  replace f14 := shm_6 f14
  replace f15 := shm_12 f15
  have q2 : n_v vs 2 = n_v vs 0 := f7.symm
  simp only [q2] at f1 f2 f3 f4 f6 f8
  have cr_0_2 := fdq_10 hD hth r0
  have cr_0_62 := fdq_173 hD hth r0
  have cr_0_64 := fdq_171 hD hth r0
  have cr_0_65 := fdq_292 hD hth r0
  have hK_0_62 := elq_102 hD hth cr_0_62
  have hK_0_64 := elq_101 hD hth cr_0_64
  have hK_0_65 := elq_184 hD hth cr_0_65
  have kz_0_139 := fdq_172 hD hth r0
  have kz_0_170 := fdq_11 hD hth r0
  have kv0 := fdq_11 hD hth r0
  obtain ⟨x, ex, hx⟩ := iv_ex (ta := ta) (lo := 0) (hi := 99999999) (z := w_fi ws (n_v vs 0) 170) (by omega) (by omega) (by omega) (by omega)
  have ex2 : v_iv (Value.int x) = w_fi ws (n_v vs 0) 170 := ex
  have ex3 : 0 ≤ v_iv (Value.int x) ∧ v_iv (Value.int x) ≤ 99999999 := tv_rng hx
  have e_1 : n_v (vs ++ [Value.int x]) 1 = n_v vs 1 := n_v_old (by rw [hl]; decide)
  have e_2 : n_v (vs ++ [Value.int x]) 2 = n_v vs 2 := n_v_old (by rw [hl]; decide)
  have e_3 : n_v (vs ++ [Value.int x]) 3 = n_v vs 3 := n_v_old (by rw [hl]; decide)
  have e_4 : n_v (vs ++ [Value.int x]) 4 = n_v vs 4 := n_v_old (by rw [hl]; decide)
  have e_13 : n_v (vs ++ [Value.int x]) 13 = Value.int x := n_v_new hl
  have nf0 : fc_1 PRD (20, [2, 13], [30, 0, 1, 1, 170, -1, 0, 0]) ws (vs ++ [Value.int x]) := by
    refine ⟨nf_inA hl rfl, sgq_131 ?_⟩
    · show 1 * w_fi ws (n_v (vs ++ [Value.int x]) 2) 170 + ((-1) * v_iv (n_v (vs ++ [Value.int x]) 13) + 0) ≤ 0
      simp only [e_2, e_13, q2]
      exact vc_Mo_writeDrawing_19_0 (v_iv (n_v vs 1)) (v_iv (n_v vs 3)) (v_iv (n_v vs 4)) (v_iv (n_v vs 5)) (v_iv (n_v vs 6)) (v_iv (n_v vs 7)) (v_iv (n_v vs 9)) (v_iv (n_v vs 10)) (v_iv (n_v vs 11)) (w_ei ws (w_ar ws (n_v vs 0) 62)) (w_ei ws (w_ar ws (n_v vs 0) 2)) (w_fi ws (n_v vs 0) 139) (w_fi ws (n_v vs 0) 5) (w_ei ws (w_ar ws (n_v vs 0) 64)) (w_ei ws (w_ar ws (n_v vs 0) 65)) (w_fi ws (n_v vs 0) 170) (v_iv (Value.int x)) k1 k3 k4 k5 k6 k7 k9 k10 k11 d0 d1 f0 f1 f2 f3 f4 f5 f6 f8 f10 f11 f13 f14 f15 hK_0_62 hK_0_64 hK_0_65 kz_0_139 kz_0_170 ex2 ex3
  have nf1 : fc_1 PRD (23, [13, 1, 3, 4], [901, 1, -1, -700, -28]) ws (vs ++ [Value.int x]) := by
    refine ⟨nf_inA hl rfl, sgq_1937 ?_⟩
    · show 1 * v_iv (n_v (vs ++ [Value.int x]) 13) + ((-1) * v_iv (n_v (vs ++ [Value.int x]) 1) + ((-700) * v_iv (n_v (vs ++ [Value.int x]) 3) + ((-28) * v_iv (n_v (vs ++ [Value.int x]) 4) + 0))) ≤ 901
      simp only [e_1, e_3, e_4, e_13]
      exact vc_Mo_writeDrawing_19_1 (v_iv (n_v vs 1)) (v_iv (n_v vs 3)) (v_iv (n_v vs 4)) (v_iv (n_v vs 5)) (v_iv (n_v vs 6)) (v_iv (n_v vs 7)) (v_iv (n_v vs 9)) (v_iv (n_v vs 10)) (v_iv (n_v vs 11)) (w_ei ws (w_ar ws (n_v vs 0) 62)) (w_ei ws (w_ar ws (n_v vs 0) 2)) (w_fi ws (n_v vs 0) 139) (w_fi ws (n_v vs 0) 5) (w_ei ws (w_ar ws (n_v vs 0) 64)) (w_ei ws (w_ar ws (n_v vs 0) 65)) (w_fi ws (n_v vs 0) 170) (v_iv (Value.int x)) k1 k3 k4 k5 k6 k7 k9 k10 k11 d0 d1 f0 f1 f2 f3 f4 f5 f6 f8 f10 f11 f13 f14 f15 hK_0_62 hK_0_64 hK_0_65 kz_0_139 kz_0_170 ex2 ex3
  exact ⟨(fun _ h => (by cases h)), [Value.int x], ag_one hx, List.forall_mem_cons.mpr ⟨⟨show (20 : Nat) < 100 from by decide, nf0⟩, List.forall_mem_cons.mpr ⟨⟨show (23 : Nat) < 100 from by decide, nf1⟩, (fun _ h => (by cases h))⟩⟩, (fun _ h => (by cases h))⟩
set_option maxHeartbeats 4000000 in
theorem vc_Mo_writeDrawing_20_0 (x1 : Int) (x3 : Int) (x4 : Int) (x5 : Int) (x6 : Int) (x7 : Int) (x9 : Int) (x10 : Int) (x11 : Int) (x13 : Int) (x14 : Int) (nodeY_0 : Int → Int) (all_0 : Int → Int) (g0_0 : Int) (r_0 : Int) (bendMany_0 : Int → Int) (bendY_0 : Int → Int) (nodeX_0 : Int → Int) (bendX_0 : Int → Int) (texts_0 : Int) (gx : Int) (k1 : 0 ≤ x1 ∧ x1 ≤ 99965512) (k3 : 0 ≤ x3 ∧ x3 ≤ 47) (k4 : 1 ≤ x4 ∧ x4 ≤ 24) (k5 : 1 ≤ x5 ∧ x5 ≤ 1) (k6 : 2 ≤ x6 ∧ x6 ≤ 25) (k7 : 3 ≤ x7 ∧ x7 ≤ 26) (k9 : 0 ≤ x9 ∧ x9 ≤ 99999999) (k10 : (-300000011) ≤ x10 ∧ x10 ≤ 221100000) (k11 : 0 ≤ x11 ∧ x11 ≤ 99999987) (k13 : 0 ≤ x13 ∧ x13 ≤ 99999999) (k14 : (-900000000) ≤ x14 ∧ x14 ≤ 900000000) (d0 : x7 + (-4294967296) ≤ x6 ∧ x6 ≤ x7 + (-1)) (d1 : x4 + 1 ≤ x6 ∧ x6 ≤ x4 + 1) (f0 : (x4 = 0) → (x14 = nodeY_0 (((24 * g0_0) + all_0 (((r_0 + 267) + x3)))))) (f1 : (x4 = (bendMany_0 (((48 * g0_0) + x3)) + 1)) → (x14 = nodeY_0 (((24 * g0_0) + all_0 (((r_0 + 315) + x3)))))) (f2 : (x4 = 0) ∨ ((x4 = (bendMany_0 (((48 * g0_0) + x3)) + 1)) ∨ (x14 = bendY_0 (((24 * ((48 * g0_0) + x3)) + (x4 - 1)))))) (f3 : 1 * x13 + ((-1) * x1 + ((-700) * x3 + ((-28) * x4 + 0))) ≤ 901) (f4 : 1 * x11 + ((-1) * x1 + ((-700) * x3 + ((-28) * x4 + 0))) ≤ 888) (f5 : (x4 = 0) → (x10 = nodeX_0 (((24 * g0_0) + all_0 (((r_0 + 267) + x3)))))) (f6 : (x4 = (bendMany_0 (((48 * g0_0) + x3)) + 1)) → (x10 = nodeX_0 (((24 * g0_0) + all_0 (((r_0 + 315) + x3)))))) (f7 : (x4 = 0) ∨ ((x4 = (bendMany_0 (((48 * g0_0) + x3)) + 1)) ∨ (x10 = bendX_0 (((24 * ((48 * g0_0) + x3)) + (x4 - 1)))))) (f8 : x4 ≤ (bendMany_0 (((48 * g0_0) + x3)) + 1)) (f9 : 1 * x9 + ((-1) * x1 + ((-700) * x3 + ((-28) * x4 + 0))) ≤ 887) (f10 : x7 = (bendMany_0 (((48 * g0_0) + x3)) + 2)) (f12 : 1 * texts_0 + ((-1) * x13 + 0) ≤ 1) (f14 : 1 * x13 + ((-1) * x1 + ((-700) * x3 + ((-28) * x4 + 0))) ≤ 901) (f15 : 1 * x11 + ((-1) * x1 + ((-700) * x3 + ((-28) * x4 + 0))) ≤ 888) (f16 : 1 * x9 + ((-1) * x1 + ((-700) * x3 + ((-28) * x4 + 0))) ≤ 887) (f18 : 1 * x11 + ((-1) * x1 + ((-700) * x3 + ((-28) * x4 + 0))) ≤ 888) (f19 : 1 * x9 + ((-1) * x1 + ((-700) * x3 + ((-28) * x4 + 0))) ≤ 887) (f21 : 1 * x9 + ((-1) * x1 + ((-700) * x3 + ((-28) * x4 + 0))) ≤ 887) (f22 : x6 < x7) (f23 : x6 = x4 + x5) (hK_0_62 : ∀ j : Int, 0 ≤ j → j < 96 → (-300000000) ≤ nodeX_0 j ∧ nodeX_0 j ≤ 300000000) (hK_0_63 : ∀ j : Int, 0 ≤ j → j < 96 → (-300000000) ≤ nodeY_0 j ∧ nodeY_0 j ≤ 300000000) (hK_0_64 : ∀ j : Int, 0 ≤ j → j < 192 → 0 ≤ bendMany_0 j ∧ bendMany_0 j ≤ 24) (hK_0_65 : ∀ j : Int, 0 ≤ j → j < 4608 → (-300000011) ≤ bendX_0 j ∧ bendX_0 j ≤ 221100000) (hK_0_66 : ∀ j : Int, 0 ≤ j → j < 4608 → (-900000000) ≤ bendY_0 j ∧ bendY_0 j ≤ 900000000) (kz_0_139 : 0 ≤ g0_0 ∧ g0_0 ≤ 3) (kz_0_170 : 0 ≤ texts_0 ∧ texts_0 ≤ 100000000) (ex2 : gx = texts_0) (ex3 : 0 ≤ gx ∧ gx ≤ 99999987) : 1 * texts_0 + ((-1) * gx + 0) ≤ 0 := by
  first | assumption | (clear f0 f1 f2 f5 f6 f7 hK_0_62 hK_0_63 hK_0_64 hK_0_65 hK_0_66; omega) | (clear hK_0_62 hK_0_63 hK_0_64 hK_0_65 hK_0_66; grind) | omega | grind
set_option maxHeartbeats 4000000 in
theorem vc_Mo_writeDrawing_20_1 (x1 : Int) (x3 : Int) (x4 : Int) (x5 : Int) (x6 : Int) (x7 : Int) (x9 : Int) (x10 : Int) (x11 : Int) (x13 : Int) (x14 : Int) (nodeY_0 : Int → Int) (all_0 : Int → Int) (g0_0 : Int) (r_0 : Int) (bendMany_0 : Int → Int) (bendY_0 : Int → Int) (nodeX_0 : Int → Int) (bendX_0 : Int → Int) (texts_0 : Int) (gx : Int) (k1 : 0 ≤ x1 ∧ x1 ≤ 99965512) (k3 : 0 ≤ x3 ∧ x3 ≤ 47) (k4 : 1 ≤ x4 ∧ x4 ≤ 24) (k5 : 1 ≤ x5 ∧ x5 ≤ 1) (k6 : 2 ≤ x6 ∧ x6 ≤ 25) (k7 : 3 ≤ x7 ∧ x7 ≤ 26) (k9 : 0 ≤ x9 ∧ x9 ≤ 99999999) (k10 : (-300000011) ≤ x10 ∧ x10 ≤ 221100000) (k11 : 0 ≤ x11 ∧ x11 ≤ 99999987) (k13 : 0 ≤ x13 ∧ x13 ≤ 99999999) (k14 : (-900000000) ≤ x14 ∧ x14 ≤ 900000000) (d0 : x7 + (-4294967296) ≤ x6 ∧ x6 ≤ x7 + (-1)) (d1 : x4 + 1 ≤ x6 ∧ x6 ≤ x4 + 1) (f0 : (x4 = 0) → (x14 = nodeY_0 (((24 * g0_0) + all_0 (((r_0 + 267) + x3)))))) (f1 : (x4 = (bendMany_0 (((48 * g0_0) + x3)) + 1)) → (x14 = nodeY_0 (((24 * g0_0) + all_0 (((r_0 + 315) + x3)))))) (f2 : (x4 = 0) ∨ ((x4 = (bendMany_0 (((48 * g0_0) + x3)) + 1)) ∨ (x14 = bendY_0 (((24 * ((48 * g0_0) + x3)) + (x4 - 1)))))) (f3 : 1 * x13 + ((-1) * x1 + ((-700) * x3 + ((-28) * x4 + 0))) ≤ 901) (f4 : 1 * x11 + ((-1) * x1 + ((-700) * x3 + ((-28) * x4 + 0))) ≤ 888) (f5 : (x4 = 0) → (x10 = nodeX_0 (((24 * g0_0) + all_0 (((r_0 + 267) + x3)))))) (f6 : (x4 = (bendMany_0 (((48 * g0_0) + x3)) + 1)) → (x10 = nodeX_0 (((24 * g0_0) + all_0 (((r_0 + 315) + x3)))))) (f7 : (x4 = 0) ∨ ((x4 = (bendMany_0 (((48 * g0_0) + x3)) + 1)) ∨ (x10 = bendX_0 (((24 * ((48 * g0_0) + x3)) + (x4 - 1)))))) (f8 : x4 ≤ (bendMany_0 (((48 * g0_0) + x3)) + 1)) (f9 : 1 * x9 + ((-1) * x1 + ((-700) * x3 + ((-28) * x4 + 0))) ≤ 887) (f10 : x7 = (bendMany_0 (((48 * g0_0) + x3)) + 2)) (f12 : 1 * texts_0 + ((-1) * x13 + 0) ≤ 1) (f14 : 1 * x13 + ((-1) * x1 + ((-700) * x3 + ((-28) * x4 + 0))) ≤ 901) (f15 : 1 * x11 + ((-1) * x1 + ((-700) * x3 + ((-28) * x4 + 0))) ≤ 888) (f16 : 1 * x9 + ((-1) * x1 + ((-700) * x3 + ((-28) * x4 + 0))) ≤ 887) (f18 : 1 * x11 + ((-1) * x1 + ((-700) * x3 + ((-28) * x4 + 0))) ≤ 888) (f19 : 1 * x9 + ((-1) * x1 + ((-700) * x3 + ((-28) * x4 + 0))) ≤ 887) (f21 : 1 * x9 + ((-1) * x1 + ((-700) * x3 + ((-28) * x4 + 0))) ≤ 887) (f22 : x6 < x7) (f23 : x6 = x4 + x5) (hK_0_62 : ∀ j : Int, 0 ≤ j → j < 96 → (-300000000) ≤ nodeX_0 j ∧ nodeX_0 j ≤ 300000000) (hK_0_63 : ∀ j : Int, 0 ≤ j → j < 96 → (-300000000) ≤ nodeY_0 j ∧ nodeY_0 j ≤ 300000000) (hK_0_64 : ∀ j : Int, 0 ≤ j → j < 192 → 0 ≤ bendMany_0 j ∧ bendMany_0 j ≤ 24) (hK_0_65 : ∀ j : Int, 0 ≤ j → j < 4608 → (-300000011) ≤ bendX_0 j ∧ bendX_0 j ≤ 221100000) (hK_0_66 : ∀ j : Int, 0 ≤ j → j < 4608 → (-900000000) ≤ bendY_0 j ∧ bendY_0 j ≤ 900000000) (kz_0_139 : 0 ≤ g0_0 ∧ g0_0 ≤ 3) (kz_0_170 : 0 ≤ texts_0 ∧ texts_0 ≤ 100000000) (ex2 : gx = texts_0) (ex3 : 0 ≤ gx ∧ gx ≤ 99999987) : 1 * gx + ((-1) * x1 + ((-700) * x3 + ((-28) * x4 + 0))) ≤ 902 := by
  first | assumption | (clear f0 f1 f2 f5 f6 f7 hK_0_62 hK_0_63 hK_0_64 hK_0_65 hK_0_66; omega) | (clear hK_0_62 hK_0_63 hK_0_64 hK_0_65 hK_0_66; grind) | omega | grind
def o_Mo_writeDrawing_20 : or_T := (133, 15, [(0, (2, 0, 0, [165])), (1, (0, 0, 99965512, [])), (2, (2, 0, 0, [165])), (3, (0, 0, 47, [])), (4, (0, 1, 24, [])), (5, (0, 1, 1, [])), (6, (0, 2, 25, [])), (7, (0, 3, 26, [])), (9, (0, 0, 99999999, [])), (10, (0, -300000011, 221100000, [])), (11, (0, 0, 99999987, [])), (13, (0, 0, 99999999, [])), (14, (0, -900000000, 900000000, []))], [(20, [4, 14, 2, 3], [50, 2, 2, 2139, 2005, 2063, 2002, 4, 6, 1, 2, 1, 0, 0, 0, 1, 2, 1, 1, 3, 2, 63, 4, 7, 6, 2, 0, 24, 2, 2, 139, 3, 2, 2, 4, 7, 4, 3, 2, 2, 5, 0, 267, 1, 3]), (20, [4, 2, 3, 14], [50, 2, 3, 1139, 1005, 1064, 1063, 1002, 4, 22, 1, 2, 1, 0, 4, 14, 3, 1, 64, 4, 7, 6, 2, 0, 48, 2, 1, 139, 1, 2, 0, 1, 1, 2, 1, 3, 3, 1, 63, 4, 7, 6, 2, 0, 24, 2, 1, 139, 3, 1, 2, 4, 7, 4, 3, 2, 1, 5, 0, 315, 1, 2]), (20, [4, 2, 3, 14], [50, 1, 2, 1139, 1064, 1066, 3, 6, 1, 2, 1, 0, 0, 0, 3, 22, 1, 2, 1, 0, 4, 14, 3, 1, 64, 4, 7, 6, 2, 0, 48, 2, 1, 139, 1, 2, 0, 1, 1, 2, 1, 3, 3, 1, 66, 4, 15, 6, 2, 0, 24, 4, 7, 6, 2, 0, 48, 2, 1, 139, 1, 2, 5, 2, 1, 0, 0, 1]), (23, [13, 1, 3, 4], [901, 1, -1, -700, -28]), (23, [11, 1, 3, 4], [888, 1, -1, -700, -28]), (20, [4, 10, 2, 3], [50, 2, 2, 2139, 2005, 2062, 2002, 4, 6, 1, 2, 1, 0, 0, 0, 1, 2, 1, 1, 3, 2, 62, 4, 7, 6, 2, 0, 24, 2, 2, 139, 3, 2, 2, 4, 7, 4, 3, 2, 2, 5, 0, 267, 1, 3]), (20, [4, 2, 3, 10], [50, 2, 3, 1139, 1005, 1064, 1062, 1002, 4, 22, 1, 2, 1, 0, 4, 14, 3, 1, 64, 4, 7, 6, 2, 0, 48, 2, 1, 139, 1, 2, 0, 1, 1, 2, 1, 3, 3, 1, 62, 4, 7, 6, 2, 0, 24, 2, 1, 139, 3, 1, 2, 4, 7, 4, 3, 2, 1, 5, 0, 315, 1, 2]), (20, [4, 2, 3, 10], [50, 1, 2, 1139, 1064, 1065, 3, 6, 1, 2, 1, 0, 0, 0, 3, 22, 1, 2, 1, 0, 4, 14, 3, 1, 64, 4, 7, 6, 2, 0, 48, 2, 1, 139, 1, 2, 0, 1, 1, 2, 1, 3, 3, 1, 65, 4, 15, 6, 2, 0, 24, 4, 7, 6, 2, 0, 48, 2, 1, 139, 1, 2, 5, 2, 1, 0, 0, 1]), (20, [4, 2, 3], [50, 1, 1, 1139, 1064, 0, 2, 1, 0, 4, 14, 3, 1, 64, 4, 7, 6, 2, 0, 48, 2, 1, 139, 1, 2, 0, 1]), (23, [9, 1, 3, 4], [887, 1, -1, -700, -28]), (20, [7, 2, 3], [50, 1, 1, 1139, 1064, 1, 2, 1, 0, 4, 14, 3, 1, 64, 4, 7, 6, 2, 0, 48, 2, 1, 139, 1, 2, 0, 2]), (24, [0, 2], []), (20, [2, 13], [30, 1, 1, 1, 170, -1, 0, 0]), (102, [13], [7770675568902916283677847627294075626569627356208558085007249638955617140820833992704, 165170]), (23, [13, 1, 3, 4], [901, 1, -1, -700, -28]), (23, [11, 1, 3, 4], [888, 1, -1, -700, -28]), (23, [9, 1, 3, 4], [887, 1, -1, -700, -28]), (102, [11], [7770675568902916283677847627294075626569627356208558085007249638955617140820833992704, 165170]), (23, [11, 1, 3, 4], [888, 1, -1, -700, -28]), (23, [9, 1, 3, 4], [887, 1, -1, -700, -28]), (102, [9], [7770675568902916283677847627294075626569627356208558085007249638955617140820833992704, 165170]), (23, [9, 1, 3, 4], [887, 1, -1, -700, -28]), (7, [6, 7], [2]), (1, [6, 4, 5], [])], [], [(0, 0, 99999987, [])], [(20, [2, 15], [30, 0, 1, 1, 170, -1, 0, 0]), (23, [15, 1, 3, 4], [902, 1, -1, -700, -28])], [], [(6, 7, -4294967296, -1), (6, 4, 1, 1)])
theorem oo_Mo_writeDrawing_20 {kA : Nat → ClassId} : or_ok PRD kA GG o_Mo_writeDrawing_20 := by
  refine or_mk fun A ta ws vs hD hth hl => ?_
  intro t0 r0 t1 k1 t2 r2 t3 k3 t4 k4 t5 k5 t6 k6 t7 k7 t9 k9 t10 k10 t11 k11 t13 k13 t14 k14 d0 d1 f0 f1 f2 f3 f4 f5 f6 f7 f8 f9 f10 f11 f12 ta1 w1 le1 s1 f14 f15 f16 ta2 w2 le2 s2 f18 f19 ta3 w3 le3 s3 f21 f22 f23
  replace f0 := shm_1427 f0
  replace f1 := shm_1428 f1
  replace f2 := shm_1429 f2
  replace f3 := shm_1937 f3
  replace f4 := shm_1936 f4
  replace f5 := shm_1423 f5
  replace f6 := shm_1424 f6
  replace f7 := shm_1425 f7
  replace f8 := shm_1421 f8
  replace f9 := shm_1935 f9
  replace f10 := shm_683 f10
  replace f11 := shm_5 f11
  replace f12 := shm_132 f12
  replace f14 := shm_1937 f14
  replace f15 := shm_1936 f15
  replace f16 := shm_1935 f16
  replace f18 := shm_1936 f18
  replace f19 := shm_1935 f19
  replace f21 := shm_1935 f21
  replace f22 := shm_6 f22
  replace f23 := shm_12 f23
  have q2 : n_v vs 2 = n_v vs 0 := f11.symm
  simp only [q2] at f0 f1 f2 f5 f6 f7 f8 f10 f12
  have cr_0_2 := fdq_10 hD hth r0
  have cr_0_62 := fdq_173 hD hth r0
  have cr_0_63 := fdq_174 hD hth r0
  have cr_0_64 := fdq_171 hD hth r0
  have cr_0_65 := fdq_292 hD hth r0
  have cr_0_66 := fdq_293 hD hth r0
  have hK_0_62 := elq_102 hD hth cr_0_62
  have hK_0_63 := elq_103 hD hth cr_0_63
  have hK_0_64 := elq_101 hD hth cr_0_64
  have hK_0_65 := elq_184 hD hth cr_0_65
  have hK_0_66 := elq_185 hD hth cr_0_66
  have kz_0_139 := fdq_172 hD hth r0
  have kz_0_170 := fdq_11 hD hth r0
  have kv0 := fdq_11 hD hth r0
  obtain ⟨x, ex, hx⟩ := iv_ex (ta := ta) (lo := 0) (hi := 99999987) (z := w_fi ws (n_v vs 0) 170) (by omega) (by omega) (by omega) (by omega)
  have ex2 : v_iv (Value.int x) = w_fi ws (n_v vs 0) 170 := ex
  have ex3 : 0 ≤ v_iv (Value.int x) ∧ v_iv (Value.int x) ≤ 99999987 := tv_rng hx
  have e_1 : n_v (vs ++ [Value.int x]) 1 = n_v vs 1 := n_v_old (by rw [hl]; decide)
  have e_2 : n_v (vs ++ [Value.int x]) 2 = n_v vs 2 := n_v_old (by rw [hl]; decide)
  have e_3 : n_v (vs ++ [Value.int x]) 3 = n_v vs 3 := n_v_old (by rw [hl]; decide)
  have e_4 : n_v (vs ++ [Value.int x]) 4 = n_v vs 4 := n_v_old (by rw [hl]; decide)
  have e_15 : n_v (vs ++ [Value.int x]) 15 = Value.int x := n_v_new hl
  have nf0 : fc_1 PRD (20, [2, 15], [30, 0, 1, 1, 170, -1, 0, 0]) ws (vs ++ [Value.int x]) := by
    refine ⟨nf_inA hl rfl, sgq_131 ?_⟩
    · show 1 * w_fi ws (n_v (vs ++ [Value.int x]) 2) 170 + ((-1) * v_iv (n_v (vs ++ [Value.int x]) 15) + 0) ≤ 0
      simp only [e_2, e_15, q2]
      exact vc_Mo_writeDrawing_20_0 (v_iv (n_v vs 1)) (v_iv (n_v vs 3)) (v_iv (n_v vs 4)) (v_iv (n_v vs 5)) (v_iv (n_v vs 6)) (v_iv (n_v vs 7)) (v_iv (n_v vs 9)) (v_iv (n_v vs 10)) (v_iv (n_v vs 11)) (v_iv (n_v vs 13)) (v_iv (n_v vs 14)) (w_ei ws (w_ar ws (n_v vs 0) 63)) (w_ei ws (w_ar ws (n_v vs 0) 2)) (w_fi ws (n_v vs 0) 139) (w_fi ws (n_v vs 0) 5) (w_ei ws (w_ar ws (n_v vs 0) 64)) (w_ei ws (w_ar ws (n_v vs 0) 66)) (w_ei ws (w_ar ws (n_v vs 0) 62)) (w_ei ws (w_ar ws (n_v vs 0) 65)) (w_fi ws (n_v vs 0) 170) (v_iv (Value.int x)) k1 k3 k4 k5 k6 k7 k9 k10 k11 k13 k14 d0 d1 f0 f1 f2 f3 f4 f5 f6 f7 f8 f9 f10 f12 f14 f15 f16 f18 f19 f21 f22 f23 hK_0_62 hK_0_63 hK_0_64 hK_0_65 hK_0_66 kz_0_139 kz_0_170 ex2 ex3
  have nf1 : fc_1 PRD (23, [15, 1, 3, 4], [902, 1, -1, -700, -28]) ws (vs ++ [Value.int x]) := by
    refine ⟨nf_inA hl rfl, sgq_1938 ?_⟩
    · show 1 * v_iv (n_v (vs ++ [Value.int x]) 15) + ((-1) * v_iv (n_v (vs ++ [Value.int x]) 1) + ((-700) * v_iv (n_v (vs ++ [Value.int x]) 3) + ((-28) * v_iv (n_v (vs ++ [Value.int x]) 4) + 0))) ≤ 902
      simp only [e_1, e_3, e_4, e_15]
      exact vc_Mo_writeDrawing_20_1 (v_iv (n_v vs 1)) (v_iv (n_v vs 3)) (v_iv (n_v vs 4)) (v_iv (n_v vs 5)) (v_iv (n_v vs 6)) (v_iv (n_v vs 7)) (v_iv (n_v vs 9)) (v_iv (n_v vs 10)) (v_iv (n_v vs 11)) (v_iv (n_v vs 13)) (v_iv (n_v vs 14)) (w_ei ws (w_ar ws (n_v vs 0) 63)) (w_ei ws (w_ar ws (n_v vs 0) 2)) (w_fi ws (n_v vs 0) 139) (w_fi ws (n_v vs 0) 5) (w_ei ws (w_ar ws (n_v vs 0) 64)) (w_ei ws (w_ar ws (n_v vs 0) 66)) (w_ei ws (w_ar ws (n_v vs 0) 62)) (w_ei ws (w_ar ws (n_v vs 0) 65)) (w_fi ws (n_v vs 0) 170) (v_iv (Value.int x)) k1 k3 k4 k5 k6 k7 k9 k10 k11 k13 k14 d0 d1 f0 f1 f2 f3 f4 f5 f6 f7 f8 f9 f10 f12 f14 f15 f16 f18 f19 f21 f22 f23 hK_0_62 hK_0_63 hK_0_64 hK_0_65 hK_0_66 kz_0_139 kz_0_170 ex2 ex3
  exact ⟨(fun _ h => (by cases h)), [Value.int x], ag_one hx, List.forall_mem_cons.mpr ⟨⟨show (20 : Nat) < 100 from by decide, nf0⟩, List.forall_mem_cons.mpr ⟨⟨show (23 : Nat) < 100 from by decide, nf1⟩, (fun _ h => (by cases h))⟩⟩, (fun _ h => (by cases h))⟩
set_option maxHeartbeats 4000000 in
theorem vc_Mo_writeDrawing_21_0 (x1 : Int) (x3 : Int) (x4 : Int) (x5 : Int) (x6 : Int) (x7 : Int) (x9 : Int) (x10 : Int) (x11 : Int) (x13 : Int) (x14 : Int) (x15 : Int) (x16 : Int) (nodeY_0 : Int → Int) (all_0 : Int → Int) (g0_0 : Int) (r_0 : Int) (bendMany_0 : Int → Int) (bendY_0 : Int → Int) (nodeX_0 : Int → Int) (bendX_0 : Int → Int) (texts_0 : Int) (k1 : 0 ≤ x1 ∧ x1 ≤ 99965512) (k3 : 0 ≤ x3 ∧ x3 ≤ 47) (k4 : 1 ≤ x4 ∧ x4 ≤ 24) (k5 : 1 ≤ x5 ∧ x5 ≤ 1) (k6 : 2 ≤ x6 ∧ x6 ≤ 25) (k7 : 3 ≤ x7 ∧ x7 ≤ 26) (k9 : 0 ≤ x9 ∧ x9 ≤ 99999999) (k10 : (-300000011) ≤ x10 ∧ x10 ≤ 221100000) (k11 : 0 ≤ x11 ∧ x11 ≤ 99999987) (k13 : 0 ≤ x13 ∧ x13 ≤ 99999999) (k14 : (-900000000) ≤ x14 ∧ x14 ≤ 900000000) (k15 : 0 ≤ x15 ∧ x15 ≤ 99999987) (k16 : 2 ≤ x16 ∧ x16 ≤ 25) (d0 : x4 + 1 ≤ x16 ∧ x16 ≤ x4 + 1) (d1 : x7 + (-4294967296) ≤ x6 ∧ x6 ≤ x7 + (-1)) (d2 : x4 + 1 ≤ x6 ∧ x6 ≤ x4 + 1) (f0 : x16 = x4 + 1) (f1 : 1 * x15 + ((-1) * x1 + ((-700) * x3 + ((-28) * x4 + 0))) ≤ 902) (f2 : (x4 = 0) → (x14 = nodeY_0 (((24 * g0_0) + all_0 (((r_0 + 267) + x3)))))) (f3 : (x4 = (bendMany_0 (((48 * g0_0) + x3)) + 1)) → (x14 = nodeY_0 (((24 * g0_0) + all_0 (((r_0 + 315) + x3)))))) (f4 : (x4 = 0) ∨ ((x4 = (bendMany_0 (((48 * g0_0) + x3)) + 1)) ∨ (x14 = bendY_0 (((24 * ((48 * g0_0) + x3)) + (x4 - 1)))))) (f5 : 1 * x13 + ((-1) * x1 + ((-700) * x3 + ((-28) * x4 + 0))) ≤ 901) (f6 : 1 * x11 + ((-1) * x1 + ((-700) * x3 + ((-28) * x4 + 0))) ≤ 888) (f7 : (x4 = 0) → (x10 = nodeX_0 (((24 * g0_0) + all_0 (((r_0 + 267) + x3)))))) (f8 : (x4 = (bendMany_0 (((48 * g0_0) + x3)) + 1)) → (x10 = nodeX_0 (((24 * g0_0) + all_0 (((r_0 + 315) + x3)))))) (f9 : (x4 = 0) ∨ ((x4 = (bendMany_0 (((48 * g0_0) + x3)) + 1)) ∨ (x10 = bendX_0 (((24 * ((48 * g0_0) + x3)) + (x4 - 1)))))) (f10 : x4 ≤ (bendMany_0 (((48 * g0_0) + x3)) + 1)) (f11 : 1 * x9 + ((-1) * x1 + ((-700) * x3 + ((-28) * x4 + 0))) ≤ 887) (f12 : x7 = (bendMany_0 (((48 * g0_0) + x3)) + 2)) (f14 : 1 * texts_0 + ((-1) * x15 + 0) ≤ 13) (f16 : 1 * x15 + ((-1) * x1 + ((-700) * x3 + ((-28) * x4 + 0))) ≤ 902) (f17 : 1 * x13 + ((-1) * x1 + ((-700) * x3 + ((-28) * x4 + 0))) ≤ 901) (f18 : 1 * x11 + ((-1) * x1 + ((-700) * x3 + ((-28) * x4 + 0))) ≤ 888) (f19 : 1 * x9 + ((-1) * x1 + ((-700) * x3 + ((-28) * x4 + 0))) ≤ 887) (f21 : 1 * x13 + ((-1) * x1 + ((-700) * x3 + ((-28) * x4 + 0))) ≤ 901) (f22 : 1 * x11 + ((-1) * x1 + ((-700) * x3 + ((-28) * x4 + 0))) ≤ 888) (f23 : 1 * x9 + ((-1) * x1 + ((-700) * x3 + ((-28) * x4 + 0))) ≤ 887) (f25 : 1 * x11 + ((-1) * x1 + ((-700) * x3 + ((-28) * x4 + 0))) ≤ 888) (f26 : 1 * x9 + ((-1) * x1 + ((-700) * x3 + ((-28) * x4 + 0))) ≤ 887) (f28 : 1 * x9 + ((-1) * x1 + ((-700) * x3 + ((-28) * x4 + 0))) ≤ 887) (f29 : x6 < x7) (f30 : x6 = x4 + x5) (hK_0_62 : ∀ j : Int, 0 ≤ j → j < 96 → (-300000000) ≤ nodeX_0 j ∧ nodeX_0 j ≤ 300000000) (hK_0_63 : ∀ j : Int, 0 ≤ j → j < 96 → (-300000000) ≤ nodeY_0 j ∧ nodeY_0 j ≤ 300000000) (hK_0_64 : ∀ j : Int, 0 ≤ j → j < 192 → 0 ≤ bendMany_0 j ∧ bendMany_0 j ≤ 24) (hK_0_65 : ∀ j : Int, 0 ≤ j → j < 4608 → (-300000011) ≤ bendX_0 j ∧ bendX_0 j ≤ 221100000) (hK_0_66 : ∀ j : Int, 0 ≤ j → j < 4608 → (-900000000) ≤ bendY_0 j ∧ bendY_0 j ≤ 900000000) (kz_0_139 : 0 ≤ g0_0 ∧ g0_0 ≤ 3) (kz_0_170 : 0 ≤ texts_0 ∧ texts_0 ≤ 100000000) : 1 * texts_0 + ((-1) * x1 + ((-700) * x3 + ((-28) * x16 + 0))) ≤ 887 := by
  first | assumption | (clear f2 f3 f4 f7 f8 f9 hK_0_62 hK_0_63 hK_0_64 hK_0_65 hK_0_66; omega) | (clear hK_0_62 hK_0_63 hK_0_64 hK_0_65 hK_0_66; grind) | omega | grind
def o_Mo_writeDrawing_21 : or_T := (93, 17, [(0, (2, 0, 0, [165])), (1, (0, 0, 99965512, [])), (2, (2, 0, 0, [165])), (3, (0, 0, 47, [])), (4, (0, 1, 24, [])), (5, (0, 1, 1, [])), (6, (0, 2, 25, [])), (7, (0, 3, 26, [])), (9, (0, 0, 99999999, [])), (10, (0, -300000011, 221100000, [])), (11, (0, 0, 99999987, [])), (13, (0, 0, 99999999, [])), (14, (0, -900000000, 900000000, [])), (15, (0, 0, 99999987, [])), (16, (0, 2, 25, []))], [(6, [16, 4], [1]), (23, [15, 1, 3, 4], [902, 1, -1, -700, -28]), (20, [4, 14, 2, 3], [50, 2, 2, 2139, 2005, 2063, 2002, 4, 6, 1, 2, 1, 0, 0, 0, 1, 2, 1, 1, 3, 2, 63, 4, 7, 6, 2, 0, 24, 2, 2, 139, 3, 2, 2, 4, 7, 4, 3, 2, 2, 5, 0, 267, 1, 3]), (20, [4, 2, 3, 14], [50, 2, 3, 1139, 1005, 1064, 1063, 1002, 4, 22, 1, 2, 1, 0, 4, 14, 3, 1, 64, 4, 7, 6, 2, 0, 48, 2, 1, 139, 1, 2, 0, 1, 1, 2, 1, 3, 3, 1, 63, 4, 7, 6, 2, 0, 24, 2, 1, 139, 3, 1, 2, 4, 7, 4, 3, 2, 1, 5, 0, 315, 1, 2]), (20, [4, 2, 3, 14], [50, 1, 2, 1139, 1064, 1066, 3, 6, 1, 2, 1, 0, 0, 0, 3, 22, 1, 2, 1, 0, 4, 14, 3, 1, 64, 4, 7, 6, 2, 0, 48, 2, 1, 139, 1, 2, 0, 1, 1, 2, 1, 3, 3, 1, 66, 4, 15, 6, 2, 0, 24, 4, 7, 6, 2, 0, 48, 2, 1, 139, 1, 2, 5, 2, 1, 0, 0, 1]), (23, [13, 1, 3, 4], [901, 1, -1, -700, -28]), (23, [11, 1, 3, 4], [888, 1, -1, -700, -28]), (20, [4, 10, 2, 3], [50, 2, 2, 2139, 2005, 2062, 2002, 4, 6, 1, 2, 1, 0, 0, 0, 1, 2, 1, 1, 3, 2, 62, 4, 7, 6, 2, 0, 24, 2, 2, 139, 3, 2, 2, 4, 7, 4, 3, 2, 2, 5, 0, 267, 1, 3]), (20, [4, 2, 3, 10], [50, 2, 3, 1139, 1005, 1064, 1062, 1002, 4, 22, 1, 2, 1, 0, 4, 14, 3, 1, 64, 4, 7, 6, 2, 0, 48, 2, 1, 139, 1, 2, 0, 1, 1, 2, 1, 3, 3, 1, 62, 4, 7, 6, 2, 0, 24, 2, 1, 139, 3, 1, 2, 4, 7, 4, 3, 2, 1, 5, 0, 315, 1, 2]), (20, [4, 2, 3, 10], [50, 1, 2, 1139, 1064, 1065, 3, 6, 1, 2, 1, 0, 0, 0, 3, 22, 1, 2, 1, 0, 4, 14, 3, 1, 64, 4, 7, 6, 2, 0, 48, 2, 1, 139, 1, 2, 0, 1, 1, 2, 1, 3, 3, 1, 65, 4, 15, 6, 2, 0, 24, 4, 7, 6, 2, 0, 48, 2, 1, 139, 1, 2, 5, 2, 1, 0, 0, 1]), (20, [4, 2, 3], [50, 1, 1, 1139, 1064, 0, 2, 1, 0, 4, 14, 3, 1, 64, 4, 7, 6, 2, 0, 48, 2, 1, 139, 1, 2, 0, 1]), (23, [9, 1, 3, 4], [887, 1, -1, -700, -28]), (20, [7, 2, 3], [50, 1, 1, 1139, 1064, 1, 2, 1, 0, 4, 14, 3, 1, 64, 4, 7, 6, 2, 0, 48, 2, 1, 139, 1, 2, 0, 2]), (24, [0, 2], []), (20, [2, 15], [30, 13, 1, 1, 170, -1, 0, 0]), (102, [15], [7770675568902916283677847627294075626569627356208558085007249638955617140820833992704, 165170]), (23, [15, 1, 3, 4], [902, 1, -1, -700, -28]), (23, [13, 1, 3, 4], [901, 1, -1, -700, -28]), (23, [11, 1, 3, 4], [888, 1, -1, -700, -28]), (23, [9, 1, 3, 4], [887, 1, -1, -700, -28]), (102, [13], [7770675568902916283677847627294075626569627356208558085007249638955617140820833992704, 165170]), (23, [13, 1, 3, 4], [901, 1, -1, -700, -28]), (23, [11, 1, 3, 4], [888, 1, -1, -700, -28]), (23, [9, 1, 3, 4], [887, 1, -1, -700, -28]), (102, [11], [7770675568902916283677847627294075626569627356208558085007249638955617140820833992704, 165170]), (23, [11, 1, 3, 4], [888, 1, -1, -700, -28]), (23, [9, 1, 3, 4], [887, 1, -1, -700, -28]), (102, [9], [7770675568902916283677847627294075626569627356208558085007249638955617140820833992704, 165170]), (23, [9, 1, 3, 4], [887, 1, -1, -700, -28]), (7, [6, 7], [2]), (1, [6, 4, 5], [])], [], [], [(20, [2, 1, 3, 16], [30, 887, 1, 1, 170, -1, 0, 0, -700, 0, 0, -28, 0, 0])], [], [(16, 4, 1, 1), (6, 7, -4294967296, -1), (6, 4, 1, 1)])
theorem oo_Mo_writeDrawing_21 {kA : Nat → ClassId} : or_ok PRD kA GG o_Mo_writeDrawing_21 := by
  refine or_mk fun A ta ws vs hD hth hl => ?_
  intro t0 r0 t1 k1 t2 r2 t3 k3 t4 k4 t5 k5 t6 k6 t7 k7 t9 k9 t10 k10 t11 k11 t13 k13 t14 k14 t15 k15 t16 k16 d0 d1 d2 f0 f1 f2 f3 f4 f5 f6 f7 f8 f9 f10 f11 f12 f13 f14 ta1 w1 le1 s1 f16 f17 f18 f19 ta2 w2 le2 s2 f21 f22 f23 ta3 w3 le3 s3 f25 f26 ta4 w4 le4 s4 f28 f29 f30
  replace f0 := shm_4 f0
  replace f1 := shm_1938 f1
  replace f2 := shm_1427 f2
  replace f3 := shm_1428 f3
  replace f4 := shm_1429 f4
  replace f5 := shm_1937 f5
  replace f6 := shm_1936 f6
  replace f7 := shm_1423 f7
  replace f8 := shm_1424 f8
  replace f9 := shm_1425 f9
  replace f10 := shm_1421 f10
  replace f11 := shm_1935 f11
  replace f12 := shm_683 f12
  replace f13 := shm_5 f13
  replace f14 := shm_1056 f14
  replace f16 := shm_1938 f16
  replace f17 := shm_1937 f17
  replace f18 := shm_1936 f18
  replace f19 := shm_1935 f19
  replace f21 := shm_1937 f21
  replace f22 := shm_1936 f22
  replace f23 := shm_1935 f23
  replace f25 := shm_1936 f25
  replace f26 := shm_1935 f26
  replace f28 := shm_1935 f28
  replace f29 := shm_6 f29
  replace f30 := shm_12 f30
  have q2 : n_v vs 2 = n_v vs 0 := f13.symm
  simp only [q2] at f2 f3 f4 f7 f8 f9 f10 f12 f14
  have cr_0_62 := fdq_173 hD hth r0
  have cr_0_63 := fdq_174 hD hth r0
  have cr_0_64 := fdq_171 hD hth r0
  have cr_0_65 := fdq_292 hD hth r0
  have cr_0_66 := fdq_293 hD hth r0
  have hK_0_62 := elq_102 hD hth cr_0_62
  have hK_0_63 := elq_103 hD hth cr_0_63
  have hK_0_64 := elq_101 hD hth cr_0_64
  have hK_0_65 := elq_184 hD hth cr_0_65
  have hK_0_66 := elq_185 hD hth cr_0_66
  have kz_0_139 := fdq_172 hD hth r0
  have kz_0_170 := fdq_11 hD hth r0
  have nf0 : fc_1 PRD (20, [2, 1, 3, 16], [30, 887, 1, 1, 170, -1, 0, 0, -700, 0, 0, -28, 0, 0]) ws (vs) := by
    refine ⟨nf_in hl rfl, sgq_1933 ?_⟩
    · show 1 * w_fi ws (n_v vs 2) 170 + ((-1) * v_iv (n_v vs 1) + ((-700) * v_iv (n_v vs 3) + ((-28) * v_iv (n_v vs 16) + 0))) ≤ 887
      rw [q2]
      exact vc_Mo_writeDrawing_21_0 (v_iv (n_v vs 1)) (v_iv (n_v vs 3)) (v_iv (n_v vs 4)) (v_iv (n_v vs 5)) (v_iv (n_v vs 6)) (v_iv (n_v vs 7)) (v_iv (n_v vs 9)) (v_iv (n_v vs 10)) (v_iv (n_v vs 11)) (v_iv (n_v vs 13)) (v_iv (n_v vs 14)) (v_iv (n_v vs 15)) (v_iv (n_v vs 16)) (w_ei ws (w_ar ws (n_v vs 0) 63)) (w_ei ws (w_ar ws (n_v vs 0) 2)) (w_fi ws (n_v vs 0) 139) (w_fi ws (n_v vs 0) 5) (w_ei ws (w_ar ws (n_v vs 0) 64)) (w_ei ws (w_ar ws (n_v vs 0) 66)) (w_ei ws (w_ar ws (n_v vs 0) 62)) (w_ei ws (w_ar ws (n_v vs 0) 65)) (w_fi ws (n_v vs 0) 170) k1 k3 k4 k5 k6 k7 k9 k10 k11 k13 k14 k15 k16 d0 d1 d2 f0 f1 f2 f3 f4 f5 f6 f7 f8 f9 f10 f11 f12 f14 f16 f17 f18 f19 f21 f22 f23 f25 f26 f28 f29 f30 hK_0_62 hK_0_63 hK_0_64 hK_0_65 hK_0_66 kz_0_139 kz_0_170
  refine ⟨(fun _ h => (by cases h)), [], trivial, ?_, (fun _ h => (by cases h))⟩
  rw [List.append_nil]
  exact List.forall_mem_cons.mpr ⟨⟨show (20 : Nat) < 100 from by decide, nf0⟩, (fun _ h => (by cases h))⟩
set_option maxHeartbeats 4000000 in
theorem vc_Mo_writeDrawing_22_0 (x1 : Int) (x3 : Int) (x4 : Int) (x5 : Int) (x6 : Int) (x7 : Int) (x9 : Int) (x10 : Int) (x11 : Int) (x13 : Int) (x14 : Int) (nodeY_0 : Int → Int) (all_0 : Int → Int) (g0_0 : Int) (r_0 : Int) (bendMany_0 : Int → Int) (bendY_0 : Int → Int) (nodeX_0 : Int → Int) (bendX_0 : Int → Int) (texts_0 : Int) (gx : Int) (k1 : 0 ≤ x1 ∧ x1 ≤ 99965512) (k3 : 0 ≤ x3 ∧ x3 ≤ 47) (k4 : 1 ≤ x4 ∧ x4 ≤ 24) (k5 : 1 ≤ x5 ∧ x5 ≤ 1) (k6 : 2 ≤ x6 ∧ x6 ≤ 25) (k7 : 3 ≤ x7 ∧ x7 ≤ 26) (k9 : 0 ≤ x9 ∧ x9 ≤ 99999999) (k10 : (-300000011) ≤ x10 ∧ x10 ≤ 221100000) (k11 : 0 ≤ x11 ∧ x11 ≤ 99999987) (k13 : 0 ≤ x13 ∧ x13 ≤ 99999999) (k14 : (-300000000) ≤ x14 ∧ x14 ≤ 300000000) (d0 : x7 + (-4294967296) ≤ x6 ∧ x6 ≤ x7 + (-1)) (d1 : x4 + 1 ≤ x6 ∧ x6 ≤ x4 + 1) (f0 : (x4 = 0) → (x14 = nodeY_0 (((24 * g0_0) + all_0 (((r_0 + 267) + x3)))))) (f1 : (x4 = (bendMany_0 (((48 * g0_0) + x3)) + 1)) → (x14 = nodeY_0 (((24 * g0_0) + all_0 (((r_0 + 315) + x3)))))) (f2 : (x4 = 0) ∨ ((x4 = (bendMany_0 (((48 * g0_0) + x3)) + 1)) ∨ (x14 = bendY_0 (((24 * ((48 * g0_0) + x3)) + (x4 - 1)))))) (f3 : 1 * x13 + ((-1) * x1 + ((-700) * x3 + ((-28) * x4 + 0))) ≤ 901) (f4 : 1 * x11 + ((-1) * x1 + ((-700) * x3 + ((-28) * x4 + 0))) ≤ 888) (f5 : (x4 = 0) → (x10 = nodeX_0 (((24 * g0_0) + all_0 (((r_0 + 267) + x3)))))) (f6 : (x4 = (bendMany_0 (((48 * g0_0) + x3)) + 1)) → (x10 = nodeX_0 (((24 * g0_0) + all_0 (((r_0 + 315) + x3)))))) (f7 : (x4 = 0) ∨ ((x4 = (bendMany_0 (((48 * g0_0) + x3)) + 1)) ∨ (x10 = bendX_0 (((24 * ((48 * g0_0) + x3)) + (x4 - 1)))))) (f8 : x4 ≤ (bendMany_0 (((48 * g0_0) + x3)) + 1)) (f9 : 1 * x9 + ((-1) * x1 + ((-700) * x3 + ((-28) * x4 + 0))) ≤ 887) (f10 : x7 = (bendMany_0 (((48 * g0_0) + x3)) + 2)) (f12 : 1 * texts_0 + ((-1) * x13 + 0) ≤ 1) (f14 : 1 * x13 + ((-1) * x1 + ((-700) * x3 + ((-28) * x4 + 0))) ≤ 901) (f15 : 1 * x11 + ((-1) * x1 + ((-700) * x3 + ((-28) * x4 + 0))) ≤ 888) (f16 : 1 * x9 + ((-1) * x1 + ((-700) * x3 + ((-28) * x4 + 0))) ≤ 887) (f18 : 1 * x11 + ((-1) * x1 + ((-700) * x3 + ((-28) * x4 + 0))) ≤ 888) (f19 : 1 * x9 + ((-1) * x1 + ((-700) * x3 + ((-28) * x4 + 0))) ≤ 887) (f21 : 1 * x9 + ((-1) * x1 + ((-700) * x3 + ((-28) * x4 + 0))) ≤ 887) (f22 : x6 < x7) (f23 : x6 = x4 + x5) (hK_0_62 : ∀ j : Int, 0 ≤ j → j < 96 → (-300000000) ≤ nodeX_0 j ∧ nodeX_0 j ≤ 300000000) (hK_0_63 : ∀ j : Int, 0 ≤ j → j < 96 → (-300000000) ≤ nodeY_0 j ∧ nodeY_0 j ≤ 300000000) (hK_0_64 : ∀ j : Int, 0 ≤ j → j < 192 → 0 ≤ bendMany_0 j ∧ bendMany_0 j ≤ 24) (hK_0_65 : ∀ j : Int, 0 ≤ j → j < 4608 → (-300000011) ≤ bendX_0 j ∧ bendX_0 j ≤ 221100000) (hK_0_66 : ∀ j : Int, 0 ≤ j → j < 4608 → (-900000000) ≤ bendY_0 j ∧ bendY_0 j ≤ 900000000) (kz_0_139 : 0 ≤ g0_0 ∧ g0_0 ≤ 3) (kz_0_170 : 0 ≤ texts_0 ∧ texts_0 ≤ 100000000) (ex2 : gx = texts_0) (ex3 : 0 ≤ gx ∧ gx ≤ 99999987) : 1 * texts_0 + ((-1) * gx + 0) ≤ 0 := by
  first | assumption | (clear f0 f1 f2 f5 f6 f7 hK_0_62 hK_0_63 hK_0_64 hK_0_65 hK_0_66; omega) | (clear hK_0_62 hK_0_63 hK_0_64 hK_0_65 hK_0_66; grind) | omega | grind
set_option maxHeartbeats 4000000 in
theorem vc_Mo_writeDrawing_22_1 (x1 : Int) (x3 : Int) (x4 : Int) (x5 : Int) (x6 : Int) (x7 : Int) (x9 : Int) (x10 : Int) (x11 : Int) (x13 : Int) (x14 : Int) (nodeY_0 : Int → Int) (all_0 : Int → Int) (g0_0 : Int) (r_0 : Int) (bendMany_0 : Int → Int) (bendY_0 : Int → Int) (nodeX_0 : Int → Int) (bendX_0 : Int → Int) (texts_0 : Int) (gx : Int) (k1 : 0 ≤ x1 ∧ x1 ≤ 99965512) (k3 : 0 ≤ x3 ∧ x3 ≤ 47) (k4 : 1 ≤ x4 ∧ x4 ≤ 24) (k5 : 1 ≤ x5 ∧ x5 ≤ 1) (k6 : 2 ≤ x6 ∧ x6 ≤ 25) (k7 : 3 ≤ x7 ∧ x7 ≤ 26) (k9 : 0 ≤ x9 ∧ x9 ≤ 99999999) (k10 : (-300000011) ≤ x10 ∧ x10 ≤ 221100000) (k11 : 0 ≤ x11 ∧ x11 ≤ 99999987) (k13 : 0 ≤ x13 ∧ x13 ≤ 99999999) (k14 : (-300000000) ≤ x14 ∧ x14 ≤ 300000000) (d0 : x7 + (-4294967296) ≤ x6 ∧ x6 ≤ x7 + (-1)) (d1 : x4 + 1 ≤ x6 ∧ x6 ≤ x4 + 1) (f0 : (x4 = 0) → (x14 = nodeY_0 (((24 * g0_0) + all_0 (((r_0 + 267) + x3)))))) (f1 : (x4 = (bendMany_0 (((48 * g0_0) + x3)) + 1)) → (x14 = nodeY_0 (((24 * g0_0) + all_0 (((r_0 + 315) + x3)))))) (f2 : (x4 = 0) ∨ ((x4 = (bendMany_0 (((48 * g0_0) + x3)) + 1)) ∨ (x14 = bendY_0 (((24 * ((48 * g0_0) + x3)) + (x4 - 1)))))) (f3 : 1 * x13 + ((-1) * x1 + ((-700) * x3 + ((-28) * x4 + 0))) ≤ 901) (f4 : 1 * x11 + ((-1) * x1 + ((-700) * x3 + ((-28) * x4 + 0))) ≤ 888) (f5 : (x4 = 0) → (x10 = nodeX_0 (((24 * g0_0) + all_0 (((r_0 + 267) + x3)))))) (f6 : (x4 = (bendMany_0 (((48 * g0_0) + x3)) + 1)) → (x10 = nodeX_0 (((24 * g0_0) + all_0 (((r_0 + 315) + x3)))))) (f7 : (x4 = 0) ∨ ((x4 = (bendMany_0 (((48 * g0_0) + x3)) + 1)) ∨ (x10 = bendX_0 (((24 * ((48 * g0_0) + x3)) + (x4 - 1)))))) (f8 : x4 ≤ (bendMany_0 (((48 * g0_0) + x3)) + 1)) (f9 : 1 * x9 + ((-1) * x1 + ((-700) * x3 + ((-28) * x4 + 0))) ≤ 887) (f10 : x7 = (bendMany_0 (((48 * g0_0) + x3)) + 2)) (f12 : 1 * texts_0 + ((-1) * x13 + 0) ≤ 1) (f14 : 1 * x13 + ((-1) * x1 + ((-700) * x3 + ((-28) * x4 + 0))) ≤ 901) (f15 : 1 * x11 + ((-1) * x1 + ((-700) * x3 + ((-28) * x4 + 0))) ≤ 888) (f16 : 1 * x9 + ((-1) * x1 + ((-700) * x3 + ((-28) * x4 + 0))) ≤ 887) (f18 : 1 * x11 + ((-1) * x1 + ((-700) * x3 + ((-28) * x4 + 0))) ≤ 888) (f19 : 1 * x9 + ((-1) * x1 + ((-700) * x3 + ((-28) * x4 + 0))) ≤ 887) (f21 : 1 * x9 + ((-1) * x1 + ((-700) * x3 + ((-28) * x4 + 0))) ≤ 887) (f22 : x6 < x7) (f23 : x6 = x4 + x5) (hK_0_62 : ∀ j : Int, 0 ≤ j → j < 96 → (-300000000) ≤ nodeX_0 j ∧ nodeX_0 j ≤ 300000000) (hK_0_63 : ∀ j : Int, 0 ≤ j → j < 96 → (-300000000) ≤ nodeY_0 j ∧ nodeY_0 j ≤ 300000000) (hK_0_64 : ∀ j : Int, 0 ≤ j → j < 192 → 0 ≤ bendMany_0 j ∧ bendMany_0 j ≤ 24) (hK_0_65 : ∀ j : Int, 0 ≤ j → j < 4608 → (-300000011) ≤ bendX_0 j ∧ bendX_0 j ≤ 221100000) (hK_0_66 : ∀ j : Int, 0 ≤ j → j < 4608 → (-900000000) ≤ bendY_0 j ∧ bendY_0 j ≤ 900000000) (kz_0_139 : 0 ≤ g0_0 ∧ g0_0 ≤ 3) (kz_0_170 : 0 ≤ texts_0 ∧ texts_0 ≤ 100000000) (ex2 : gx = texts_0) (ex3 : 0 ≤ gx ∧ gx ≤ 99999987) : 1 * gx + ((-1) * x1 + ((-700) * x3 + ((-28) * x4 + 0))) ≤ 902 := by
  first | assumption | (clear f0 f1 f2 f5 f6 f7 hK_0_62 hK_0_63 hK_0_64 hK_0_65 hK_0_66; omega) | (clear hK_0_62 hK_0_63 hK_0_64 hK_0_65 hK_0_66; grind) | omega | grind
def o_Mo_writeDrawing_22 : or_T := (133, 15, [(0, (2, 0, 0, [165])), (1, (0, 0, 99965512, [])), (2, (2, 0, 0, [165])), (3, (0, 0, 47, [])), (4, (0, 1, 24, [])), (5, (0, 1, 1, [])), (6, (0, 2, 25, [])), (7, (0, 3, 26, [])), (9, (0, 0, 99999999, [])), (10, (0, -300000011, 221100000, [])), (11, (0, 0, 99999987, [])), (13, (0, 0, 99999999, [])), (14, (0, -300000000, 300000000, []))], [(20, [4, 14, 2, 3], [50, 2, 2, 2139, 2005, 2063, 2002, 4, 6, 1, 2, 1, 0, 0, 0, 1, 2, 1, 1, 3, 2, 63, 4, 7, 6, 2, 0, 24, 2, 2, 139, 3, 2, 2, 4, 7, 4, 3, 2, 2, 5, 0, 267, 1, 3]), (20, [4, 2, 3, 14], [50, 2, 3, 1139, 1005, 1064, 1063, 1002, 4, 22, 1, 2, 1, 0, 4, 14, 3, 1, 64, 4, 7, 6, 2, 0, 48, 2, 1, 139, 1, 2, 0, 1, 1, 2, 1, 3, 3, 1, 63, 4, 7, 6, 2, 0, 24, 2, 1, 139, 3, 1, 2, 4, 7, 4, 3, 2, 1, 5, 0, 315, 1, 2]), (20, [4, 2, 3, 14], [50, 1, 2, 1139, 1064, 1066, 3, 6, 1, 2, 1, 0, 0, 0, 3, 22, 1, 2, 1, 0, 4, 14, 3, 1, 64, 4, 7, 6, 2, 0, 48, 2, 1, 139, 1, 2, 0, 1, 1, 2, 1, 3, 3, 1, 66, 4, 15, 6, 2, 0, 24, 4, 7, 6, 2, 0, 48, 2, 1, 139, 1, 2, 5, 2, 1, 0, 0, 1]), (23, [13, 1, 3, 4], [901, 1, -1, -700, -28]), (23, [11, 1, 3, 4], [888, 1, -1, -700, -28]), (20, [4, 10, 2, 3], [50, 2, 2, 2139, 2005, 2062, 2002, 4, 6, 1, 2, 1, 0, 0, 0, 1, 2, 1, 1, 3, 2, 62, 4, 7, 6, 2, 0, 24, 2, 2, 139, 3, 2, 2, 4, 7, 4, 3, 2, 2, 5, 0, 267, 1, 3]), (20, [4, 2, 3, 10], [50, 2, 3, 1139, 1005, 1064, 1062, 1002, 4, 22, 1, 2, 1, 0, 4, 14, 3, 1, 64, 4, 7, 6, 2, 0, 48, 2, 1, 139, 1, 2, 0, 1, 1, 2, 1, 3, 3, 1, 62, 4, 7, 6, 2, 0, 24, 2, 1, 139, 3, 1, 2, 4, 7, 4, 3, 2, 1, 5, 0, 315, 1, 2]), (20, [4, 2, 3, 10], [50, 1, 2, 1139, 1064, 1065, 3, 6, 1, 2, 1, 0, 0, 0, 3, 22, 1, 2, 1, 0, 4, 14, 3, 1, 64, 4, 7, 6, 2, 0, 48, 2, 1, 139, 1, 2, 0, 1, 1, 2, 1, 3, 3, 1, 65, 4, 15, 6, 2, 0, 24, 4, 7, 6, 2, 0, 48, 2, 1, 139, 1, 2, 5, 2, 1, 0, 0, 1]), (20, [4, 2, 3], [50, 1, 1, 1139, 1064, 0, 2, 1, 0, 4, 14, 3, 1, 64, 4, 7, 6, 2, 0, 48, 2, 1, 139, 1, 2, 0, 1]), (23, [9, 1, 3, 4], [887, 1, -1, -700, -28]), (20, [7, 2, 3], [50, 1, 1, 1139, 1064, 1, 2, 1, 0, 4, 14, 3, 1, 64, 4, 7, 6, 2, 0, 48, 2, 1, 139, 1, 2, 0, 2]), (24, [0, 2], []), (20, [2, 13], [30, 1, 1, 1, 170, -1, 0, 0]), (102, [13], [7770675568902916283677847627294075626569627356208558085007249638955617140820833992704, 165170]), (23, [13, 1, 3, 4], [901, 1, -1, -700, -28]), (23, [11, 1, 3, 4], [888, 1, -1, -700, -28]), (23, [9, 1, 3, 4], [887, 1, -1, -700, -28]), (102, [11], [7770675568902916283677847627294075626569627356208558085007249638955617140820833992704, 165170]), (23, [11, 1, 3, 4], [888, 1, -1, -700, -28]), (23, [9, 1, 3, 4], [887, 1, -1, -700, -28]), (102, [9], [7770675568902916283677847627294075626569627356208558085007249638955617140820833992704, 165170]), (23, [9, 1, 3, 4], [887, 1, -1, -700, -28]), (7, [6, 7], [2]), (1, [6, 4, 5], [])], [], [(0, 0, 99999987, [])], [(20, [2, 15], [30, 0, 1, 1, 170, -1, 0, 0]), (23, [15, 1, 3, 4], [902, 1, -1, -700, -28])], [], [(6, 7, -4294967296, -1), (6, 4, 1, 1)])
theorem oo_Mo_writeDrawing_22 {kA : Nat → ClassId} : or_ok PRD kA GG o_Mo_writeDrawing_22 := by
  refine or_mk fun A ta ws vs hD hth hl => ?_
  intro t0 r0 t1 k1 t2 r2 t3 k3 t4 k4 t5 k5 t6 k6 t7 k7 t9 k9 t10 k10 t11 k11 t13 k13 t14 k14 d0 d1 f0 f1 f2 f3 f4 f5 f6 f7 f8 f9 f10 f11 f12 ta1 w1 le1 s1 f14 f15 f16 ta2 w2 le2 s2 f18 f19 ta3 w3 le3 s3 f21 f22 f23
  replace f0 := shm_1427 f0
  replace f1 := shm_1428 f1
  replace f2 := shm_1429 f2
  replace f3 := shm_1937 f3
  replace f4 := shm_1936 f4
  replace f5 := shm_1423 f5
  replace f6 := shm_1424 f6
  replace f7 := shm_1425 f7
  replace f8 := shm_1421 f8
  replace f9 := shm_1935 f9
  replace f10 := shm_683 f10
  replace f11 := shm_5 f11
  replace f12 := shm_132 f12
  replace f14 := shm_1937 f14
  replace f15 := shm_1936 f15
  replace f16 := shm_1935 f16
  replace f18 := shm_1936 f18
  replace f19 := shm_1935 f19
  replace f21 := shm_1935 f21
  replace f22 := shm_6 f22
  replace f23 := shm_12 f23
  have q2 : n_v vs 2 = n_v vs 0 := f11.symm
  simp only [q2] at f0 f1 f2 f5 f6 f7 f8 f10 f12
  have cr_0_2 := fdq_10 hD hth r0
  have cr_0_62 := fdq_173 hD hth r0
  have cr_0_63 := fdq_174 hD hth r0
  have cr_0_64 := fdq_171 hD hth r0
  have cr_0_65 := fdq_292 hD hth r0
  have cr_0_66 := fdq_293 hD hth r0
  have hK_0_62 := elq_102 hD hth cr_0_62
  have hK_0_63 := elq_103 hD hth cr_0_63
  have hK_0_64 := elq_101 hD hth cr_0_64
  have hK_0_65 := elq_184 hD hth cr_0_65
  have hK_0_66 := elq_185 hD hth cr_0_66
  have kz_0_139 := fdq_172 hD hth r0
  have kz_0_170 := fdq_11 hD hth r0
  have kv0 := fdq_11 hD hth r0
  obtain ⟨x, ex, hx⟩ := iv_ex (ta := ta) (lo := 0) (hi := 99999987) (z := w_fi ws (n_v vs 0) 170) (by omega) (by omega) (by omega) (by omega)
  have ex2 : v_iv (Value.int x) = w_fi ws (n_v vs 0) 170 := ex
  have ex3 : 0 ≤ v_iv (Value.int x) ∧ v_iv (Value.int x) ≤ 99999987 := tv_rng hx
  have e_1 : n_v (vs ++ [Value.int x]) 1 = n_v vs 1 := n_v_old (by rw [hl]; decide)
  have e_2 : n_v (vs ++ [Value.int x]) 2 = n_v vs 2 := n_v_old (by rw [hl]; decide)
  have e_3 : n_v (vs ++ [Value.int x]) 3 = n_v vs 3 := n_v_old (by rw [hl]; decide)
  have e_4 : n_v (vs ++ [Value.int x]) 4 = n_v vs 4 := n_v_old (by rw [hl]; decide)
  have e_15 : n_v (vs ++ [Value.int x]) 15 = Value.int x := n_v_new hl
  have nf0 : fc_1 PRD (20, [2, 15], [30, 0, 1, 1, 170, -1, 0, 0]) ws (vs ++ [Value.int x]) := by
    refine ⟨nf_inA hl rfl, sgq_131 ?_⟩
    · show 1 * w_fi ws (n_v (vs ++ [Value.int x]) 2) 170 + ((-1) * v_iv (n_v (vs ++ [Value.int x]) 15) + 0) ≤ 0
      simp only [e_2, e_15, q2]
      exact vc_Mo_writeDrawing_22_0 (v_iv (n_v vs 1)) (v_iv (n_v vs 3)) (v_iv (n_v vs 4)) (v_iv (n_v vs 5)) (v_iv (n_v vs 6)) (v_iv (n_v vs 7)) (v_iv (n_v vs 9)) (v_iv (n_v vs 10)) (v_iv (n_v vs 11)) (v_iv (n_v vs 13)) (v_iv (n_v vs 14)) (w_ei ws (w_ar ws (n_v vs 0) 63)) (w_ei ws (w_ar ws (n_v vs 0) 2)) (w_fi ws (n_v vs 0) 139) (w_fi ws (n_v vs 0) 5) (w_ei ws (w_ar ws (n_v vs 0) 64)) (w_ei ws (w_ar ws (n_v vs 0) 66)) (w_ei ws (w_ar ws (n_v vs 0) 62)) (w_ei ws (w_ar ws (n_v vs 0) 65)) (w_fi ws (n_v vs 0) 170) (v_iv (Value.int x)) k1 k3 k4 k5 k6 k7 k9 k10 k11 k13 k14 d0 d1 f0 f1 f2 f3 f4 f5 f6 f7 f8 f9 f10 f12 f14 f15 f16 f18 f19 f21 f22 f23 hK_0_62 hK_0_63 hK_0_64 hK_0_65 hK_0_66 kz_0_139 kz_0_170 ex2 ex3
  have nf1 : fc_1 PRD (23, [15, 1, 3, 4], [902, 1, -1, -700, -28]) ws (vs ++ [Value.int x]) := by
    refine ⟨nf_inA hl rfl, sgq_1938 ?_⟩
    · show 1 * v_iv (n_v (vs ++ [Value.int x]) 15) + ((-1) * v_iv (n_v (vs ++ [Value.int x]) 1) + ((-700) * v_iv (n_v (vs ++ [Value.int x]) 3) + ((-28) * v_iv (n_v (vs ++ [Value.int x]) 4) + 0))) ≤ 902
      simp only [e_1, e_3, e_4, e_15]
      exact vc_Mo_writeDrawing_22_1 (v_iv (n_v vs 1)) (v_iv (n_v vs 3)) (v_iv (n_v vs 4)) (v_iv (n_v vs 5)) (v_iv (n_v vs 6)) (v_iv (n_v vs 7)) (v_iv (n_v vs 9)) (v_iv (n_v vs 10)) (v_iv (n_v vs 11)) (v_iv (n_v vs 13)) (v_iv (n_v vs 14)) (w_ei ws (w_ar ws (n_v vs 0) 63)) (w_ei ws (w_ar ws (n_v vs 0) 2)) (w_fi ws (n_v vs 0) 139) (w_fi ws (n_v vs 0) 5) (w_ei ws (w_ar ws (n_v vs 0) 64)) (w_ei ws (w_ar ws (n_v vs 0) 66)) (w_ei ws (w_ar ws (n_v vs 0) 62)) (w_ei ws (w_ar ws (n_v vs 0) 65)) (w_fi ws (n_v vs 0) 170) (v_iv (Value.int x)) k1 k3 k4 k5 k6 k7 k9 k10 k11 k13 k14 d0 d1 f0 f1 f2 f3 f4 f5 f6 f7 f8 f9 f10 f12 f14 f15 f16 f18 f19 f21 f22 f23 hK_0_62 hK_0_63 hK_0_64 hK_0_65 hK_0_66 kz_0_139 kz_0_170 ex2 ex3
  exact ⟨(fun _ h => (by cases h)), [Value.int x], ag_one hx, List.forall_mem_cons.mpr ⟨⟨show (20 : Nat) < 100 from by decide, nf0⟩, List.forall_mem_cons.mpr ⟨⟨show (23 : Nat) < 100 from by decide, nf1⟩, (fun _ h => (by cases h))⟩⟩, (fun _ h => (by cases h))⟩
set_option maxHeartbeats 4000000 in
theorem vc_Mo_writeDrawing_23_0 (x1 : Int) (x3 : Int) (x4 : Int) (x5 : Int) (x6 : Int) (x7 : Int) (x9 : Int) (x10 : Int) (x11 : Int) (x13 : Int) (x14 : Int) (x15 : Int) (x16 : Int) (nodeY_0 : Int → Int) (all_0 : Int → Int) (g0_0 : Int) (r_0 : Int) (bendMany_0 : Int → Int) (bendY_0 : Int → Int) (nodeX_0 : Int → Int) (bendX_0 : Int → Int) (texts_0 : Int) (k1 : 0 ≤ x1 ∧ x1 ≤ 99965512) (k3 : 0 ≤ x3 ∧ x3 ≤ 47) (k4 : 1 ≤ x4 ∧ x4 ≤ 24) (k5 : 1 ≤ x5 ∧ x5 ≤ 1) (k6 : 2 ≤ x6 ∧ x6 ≤ 25) (k7 : 3 ≤ x7 ∧ x7 ≤ 26) (k9 : 0 ≤ x9 ∧ x9 ≤ 99999999) (k10 : (-300000011) ≤ x10 ∧ x10 ≤ 221100000) (k11 : 0 ≤ x11 ∧ x11 ≤ 99999987) (k13 : 0 ≤ x13 ∧ x13 ≤ 99999999) (k14 : (-300000000) ≤ x14 ∧ x14 ≤ 300000000) (k15 : 0 ≤ x15 ∧ x15 ≤ 99999987) (k16 : 2 ≤ x16 ∧ x16 ≤ 25) (d0 : x4 + 1 ≤ x16 ∧ x16 ≤ x4 + 1) (d1 : x7 + (-4294967296) ≤ x6 ∧ x6 ≤ x7 + (-1)) (d2 : x4 + 1 ≤ x6 ∧ x6 ≤ x4 + 1) (f0 : x16 = x4 + 1) (f1 : 1 * x15 + ((-1) * x1 + ((-700) * x3 + ((-28) * x4 + 0))) ≤ 902) (f2 : (x4 = 0) → (x14 = nodeY_0 (((24 * g0_0) + all_0 (((r_0 + 267) + x3)))))) (f3 : (x4 = (bendMany_0 (((48 * g0_0) + x3)) + 1)) → (x14 = nodeY_0 (((24 * g0_0) + all_0 (((r_0 + 315) + x3)))))) (f4 : (x4 = 0) ∨ ((x4 = (bendMany_0 (((48 * g0_0) + x3)) + 1)) ∨ (x14 = bendY_0 (((24 * ((48 * g0_0) + x3)) + (x4 - 1)))))) (f5 : 1 * x13 + ((-1) * x1 + ((-700) * x3 + ((-28) * x4 + 0))) ≤ 901) (f6 : 1 * x11 + ((-1) * x1 + ((-700) * x3 + ((-28) * x4 + 0))) ≤ 888) (f7 : (x4 = 0) → (x10 = nodeX_0 (((24 * g0_0) + all_0 (((r_0 + 267) + x3)))))) (f8 : (x4 = (bendMany_0 (((48 * g0_0) + x3)) + 1)) → (x10 = nodeX_0 (((24 * g0_0) + all_0 (((r_0 + 315) + x3)))))) (f9 : (x4 = 0) ∨ ((x4 = (bendMany_0 (((48 * g0_0) + x3)) + 1)) ∨ (x10 = bendX_0 (((24 * ((48 * g0_0) + x3)) + (x4 - 1)))))) (f10 : x4 ≤ (bendMany_0 (((48 * g0_0) + x3)) + 1)) (f11 : 1 * x9 + ((-1) * x1 + ((-700) * x3 + ((-28) * x4 + 0))) ≤ 887) (f12 : x7 = (bendMany_0 (((48 * g0_0) + x3)) + 2)) (f14 : 1 * texts_0 + ((-1) * x15 + 0) ≤ 13) (f16 : 1 * x15 + ((-1) * x1 + ((-700) * x3 + ((-28) * x4 + 0))) ≤ 902) (f17 : 1 * x13 + ((-1) * x1 + ((-700) * x3 + ((-28) * x4 + 0))) ≤ 901) (f18 : 1 * x11 + ((-1) * x1 + ((-700) * x3 + ((-28) * x4 + 0))) ≤ 888) (f19 : 1 * x9 + ((-1) * x1 + ((-700) * x3 + ((-28) * x4 + 0))) ≤ 887) (f21 : 1 * x13 + ((-1) * x1 + ((-700) * x3 + ((-28) * x4 + 0))) ≤ 901) (f22 : 1 * x11 + ((-1) * x1 + ((-700) * x3 + ((-28) * x4 + 0))) ≤ 888) (f23 : 1 * x9 + ((-1) * x1 + ((-700) * x3 + ((-28) * x4 + 0))) ≤ 887) (f25 : 1 * x11 + ((-1) * x1 + ((-700) * x3 + ((-28) * x4 + 0))) ≤ 888) (f26 : 1 * x9 + ((-1) * x1 + ((-700) * x3 + ((-28) * x4 + 0))) ≤ 887) (f28 : 1 * x9 + ((-1) * x1 + ((-700) * x3 + ((-28) * x4 + 0))) ≤ 887) (f29 : x6 < x7) (f30 : x6 = x4 + x5) (hK_0_62 : ∀ j : Int, 0 ≤ j → j < 96 → (-300000000) ≤ nodeX_0 j ∧ nodeX_0 j ≤ 300000000) (hK_0_63 : ∀ j : Int, 0 ≤ j → j < 96 → (-300000000) ≤ nodeY_0 j ∧ nodeY_0 j ≤ 300000000) (hK_0_64 : ∀ j : Int, 0 ≤ j → j < 192 → 0 ≤ bendMany_0 j ∧ bendMany_0 j ≤ 24) (hK_0_65 : ∀ j : Int, 0 ≤ j → j < 4608 → (-300000011) ≤ bendX_0 j ∧ bendX_0 j ≤ 221100000) (hK_0_66 : ∀ j : Int, 0 ≤ j → j < 4608 → (-900000000) ≤ bendY_0 j ∧ bendY_0 j ≤ 900000000) (kz_0_139 : 0 ≤ g0_0 ∧ g0_0 ≤ 3) (kz_0_170 : 0 ≤ texts_0 ∧ texts_0 ≤ 100000000) : 1 * texts_0 + ((-1) * x1 + ((-700) * x3 + ((-28) * x16 + 0))) ≤ 887 := by
  first | assumption | (clear f2 f3 f4 f7 f8 f9 hK_0_62 hK_0_63 hK_0_64 hK_0_65 hK_0_66; omega) | (clear hK_0_62 hK_0_63 hK_0_64 hK_0_65 hK_0_66; grind) | omega | grind
def o_Mo_writeDrawing_23 : or_T := (93, 17, [(0, (2, 0, 0, [165])), (1, (0, 0, 99965512, [])), (2, (2, 0, 0, [165])), (3, (0, 0, 47, [])), (4, (0, 1, 24, [])), (5, (0, 1, 1, [])), (6, (0, 2, 25, [])), (7, (0, 3, 26, [])), (9, (0, 0, 99999999, [])), (10, (0, -300000011, 221100000, [])), (11, (0, 0, 99999987, [])), (13, (0, 0, 99999999, [])), (14, (0, -300000000, 300000000, [])), (15, (0, 0, 99999987, [])), (16, (0, 2, 25, []))], [(6, [16, 4], [1]), (23, [15, 1, 3, 4], [902, 1, -1, -700, -28]), (20, [4, 14, 2, 3], [50, 2, 2, 2139, 2005, 2063, 2002, 4, 6, 1, 2, 1, 0, 0, 0, 1, 2, 1, 1, 3, 2, 63, 4, 7, 6, 2, 0, 24, 2, 2, 139, 3, 2, 2, 4, 7, 4, 3, 2, 2, 5, 0, 267, 1, 3]), (20, [4, 2, 3, 14], [50, 2, 3, 1139, 1005, 1064, 1063, 1002, 4, 22, 1, 2, 1, 0, 4, 14, 3, 1, 64, 4, 7, 6, 2, 0, 48, 2, 1, 139, 1, 2, 0, 1, 1, 2, 1, 3, 3, 1, 63, 4, 7, 6, 2, 0, 24, 2, 1, 139, 3, 1, 2, 4, 7, 4, 3, 2, 1, 5, 0, 315, 1, 2]), (20, [4, 2, 3, 14], [50, 1, 2, 1139, 1064, 1066, 3, 6, 1, 2, 1, 0, 0, 0, 3, 22, 1, 2, 1, 0, 4, 14, 3, 1, 64, 4, 7, 6, 2, 0, 48, 2, 1, 139, 1, 2, 0, 1, 1, 2, 1, 3, 3, 1, 66, 4, 15, 6, 2, 0, 24, 4, 7, 6, 2, 0, 48, 2, 1, 139, 1, 2, 5, 2, 1, 0, 0, 1]), (23, [13, 1, 3, 4], [901, 1, -1, -700, -28]), (23, [11, 1, 3, 4], [888, 1, -1, -700, -28]), (20, [4, 10, 2, 3], [50, 2, 2, 2139, 2005, 2062, 2002, 4, 6, 1, 2, 1, 0, 0, 0, 1, 2, 1, 1, 3, 2, 62, 4, 7, 6, 2, 0, 24, 2, 2, 139, 3, 2, 2, 4, 7, 4, 3, 2, 2, 5, 0, 267, 1, 3]), (20, [4, 2, 3, 10], [50, 2, 3, 1139, 1005, 1064, 1062, 1002, 4, 22, 1, 2, 1, 0, 4, 14, 3, 1, 64, 4, 7, 6, 2, 0, 48, 2, 1, 139, 1, 2, 0, 1, 1, 2, 1, 3, 3, 1, 62, 4, 7, 6, 2, 0, 24, 2, 1, 139, 3, 1, 2, 4, 7, 4, 3, 2, 1, 5, 0, 315, 1, 2]), (20, [4, 2, 3, 10], [50, 1, 2, 1139, 1064, 1065, 3, 6, 1, 2, 1, 0, 0, 0, 3, 22, 1, 2, 1, 0, 4, 14, 3, 1, 64, 4, 7, 6, 2, 0, 48, 2, 1, 139, 1, 2, 0, 1, 1, 2, 1, 3, 3, 1, 65, 4, 15, 6, 2, 0, 24, 4, 7, 6, 2, 0, 48, 2, 1, 139, 1, 2, 5, 2, 1, 0, 0, 1]), (20, [4, 2, 3], [50, 1, 1, 1139, 1064, 0, 2, 1, 0, 4, 14, 3, 1, 64, 4, 7, 6, 2, 0, 48, 2, 1, 139, 1, 2, 0, 1]), (23, [9, 1, 3, 4], [887, 1, -1, -700, -28]), (20, [7, 2, 3], [50, 1, 1, 1139, 1064, 1, 2, 1, 0, 4, 14, 3, 1, 64, 4, 7, 6, 2, 0, 48, 2, 1, 139, 1, 2, 0, 2]), (24, [0, 2], []), (20, [2, 15], [30, 13, 1, 1, 170, -1, 0, 0]), (102, [15], [7770675568902916283677847627294075626569627356208558085007249638955617140820833992704, 165170]), (23, [15, 1, 3, 4], [902, 1, -1, -700, -28]), (23, [13, 1, 3, 4], [901, 1, -1, -700, -28]), (23, [11, 1, 3, 4], [888, 1, -1, -700, -28]), (23, [9, 1, 3, 4], [887, 1, -1, -700, -28]), (102, [13], [7770675568902916283677847627294075626569627356208558085007249638955617140820833992704, 165170]), (23, [13, 1, 3, 4], [901, 1, -1, -700, -28]), (23, [11, 1, 3, 4], [888, 1, -1, -700, -28]), (23, [9, 1, 3, 4], [887, 1, -1, -700, -28]), (102, [11], [7770675568902916283677847627294075626569627356208558085007249638955617140820833992704, 165170]), (23, [11, 1, 3, 4], [888, 1, -1, -700, -28]), (23, [9, 1, 3, 4], [887, 1, -1, -700, -28]), (102, [9], [7770675568902916283677847627294075626569627356208558085007249638955617140820833992704, 165170]), (23, [9, 1, 3, 4], [887, 1, -1, -700, -28]), (7, [6, 7], [2]), (1, [6, 4, 5], [])], [], [], [(20, [2, 1, 3, 16], [30, 887, 1, 1, 170, -1, 0, 0, -700, 0, 0, -28, 0, 0])], [], [(16, 4, 1, 1), (6, 7, -4294967296, -1), (6, 4, 1, 1)])
theorem oo_Mo_writeDrawing_23 {kA : Nat → ClassId} : or_ok PRD kA GG o_Mo_writeDrawing_23 := by
  refine or_mk fun A ta ws vs hD hth hl => ?_
  intro t0 r0 t1 k1 t2 r2 t3 k3 t4 k4 t5 k5 t6 k6 t7 k7 t9 k9 t10 k10 t11 k11 t13 k13 t14 k14 t15 k15 t16 k16 d0 d1 d2 f0 f1 f2 f3 f4 f5 f6 f7 f8 f9 f10 f11 f12 f13 f14 ta1 w1 le1 s1 f16 f17 f18 f19 ta2 w2 le2 s2 f21 f22 f23 ta3 w3 le3 s3 f25 f26 ta4 w4 le4 s4 f28 f29 f30
  replace f0 := shm_4 f0
  replace f1 := shm_1938 f1
  replace f2 := shm_1427 f2
  replace f3 := shm_1428 f3
  replace f4 := shm_1429 f4
  replace f5 := shm_1937 f5
  replace f6 := shm_1936 f6
  replace f7 := shm_1423 f7
  replace f8 := shm_1424 f8
  replace f9 := shm_1425 f9
  replace f10 := shm_1421 f10
  replace f11 := shm_1935 f11
  replace f12 := shm_683 f12
  replace f13 := shm_5 f13
  replace f14 := shm_1056 f14
  replace f16 := shm_1938 f16
  replace f17 := shm_1937 f17
  replace f18 := shm_1936 f18
  replace f19 := shm_1935 f19
  replace f21 := shm_1937 f21
  replace f22 := shm_1936 f22
  replace f23 := shm_1935 f23
  replace f25 := shm_1936 f25
  replace f26 := shm_1935 f26
  replace f28 := shm_1935 f28
  replace f29 := shm_6 f29
  replace f30 := shm_12 f30
  have q2 : n_v vs 2 = n_v vs 0 := f13.symm
  simp only [q2] at f2 f3 f4 f7 f8 f9 f10 f12 f14
  have cr_0_62 := fdq_173 hD hth r0
  have cr_0_63 := fdq_174 hD hth r0
  have cr_0_64 := fdq_171 hD hth r0
  have cr_0_65 := fdq_292 hD hth r0
  have cr_0_66 := fdq_293 hD hth r0
  have hK_0_62 := elq_102 hD hth cr_0_62
  have hK_0_63 := elq_103 hD hth cr_0_63
  have hK_0_64 := elq_101 hD hth cr_0_64
  have hK_0_65 := elq_184 hD hth cr_0_65
  have hK_0_66 := elq_185 hD hth cr_0_66
  have kz_0_139 := fdq_172 hD hth r0
  have kz_0_170 := fdq_11 hD hth r0
  have nf0 : fc_1 PRD (20, [2, 1, 3, 16], [30, 887, 1, 1, 170, -1, 0, 0, -700, 0, 0, -28, 0, 0]) ws (vs) := by
    refine ⟨nf_in hl rfl, sgq_1933 ?_⟩
    · show 1 * w_fi ws (n_v vs 2) 170 + ((-1) * v_iv (n_v vs 1) + ((-700) * v_iv (n_v vs 3) + ((-28) * v_iv (n_v vs 16) + 0))) ≤ 887
      rw [q2]
      exact vc_Mo_writeDrawing_23_0 (v_iv (n_v vs 1)) (v_iv (n_v vs 3)) (v_iv (n_v vs 4)) (v_iv (n_v vs 5)) (v_iv (n_v vs 6)) (v_iv (n_v vs 7)) (v_iv (n_v vs 9)) (v_iv (n_v vs 10)) (v_iv (n_v vs 11)) (v_iv (n_v vs 13)) (v_iv (n_v vs 14)) (v_iv (n_v vs 15)) (v_iv (n_v vs 16)) (w_ei ws (w_ar ws (n_v vs 0) 63)) (w_ei ws (w_ar ws (n_v vs 0) 2)) (w_fi ws (n_v vs 0) 139) (w_fi ws (n_v vs 0) 5) (w_ei ws (w_ar ws (n_v vs 0) 64)) (w_ei ws (w_ar ws (n_v vs 0) 66)) (w_ei ws (w_ar ws (n_v vs 0) 62)) (w_ei ws (w_ar ws (n_v vs 0) 65)) (w_fi ws (n_v vs 0) 170) k1 k3 k4 k5 k6 k7 k9 k10 k11 k13 k14 k15 k16 d0 d1 d2 f0 f1 f2 f3 f4 f5 f6 f7 f8 f9 f10 f11 f12 f14 f16 f17 f18 f19 f21 f22 f23 f25 f26 f28 f29 f30 hK_0_62 hK_0_63 hK_0_64 hK_0_65 hK_0_66 kz_0_139 kz_0_170
  refine ⟨(fun _ h => (by cases h)), [], trivial, ?_, (fun _ h => (by cases h))⟩
  rw [List.append_nil]
  exact List.forall_mem_cons.mpr ⟨⟨show (20 : Nat) < 100 from by decide, nf0⟩, (fun _ h => (by cases h))⟩
set_option maxHeartbeats 4000000 in
theorem vc_Mo_writeDrawing_24_0 (x1 : Int) (x3 : Int) (x4 : Int) (x5 : Int) (x6 : Int) (x7 : Int) (x9 : Int) (x10 : Int) (nodeX_0 : Int → Int) (all_0 : Int → Int) (g0_0 : Int) (r_0 : Int) (bendMany_0 : Int → Int) (bendX_0 : Int → Int) (texts_0 : Int) (gx : Int) (k1 : 0 ≤ x1 ∧ x1 ≤ 99965512) (k3 : 0 ≤ x3 ∧ x3 ≤ 47) (k4 : 1 ≤ x4 ∧ x4 ≤ 24) (k5 : 1 ≤ x5 ∧ x5 ≤ 1) (k6 : 2 ≤ x6 ∧ x6 ≤ 25) (k7 : 3 ≤ x7 ∧ x7 ≤ 26) (k9 : 0 ≤ x9 ∧ x9 ≤ 99999999) (k10 : (-300000000) ≤ x10 ∧ x10 ≤ 300000000) (d0 : x7 + (-4294967296) ≤ x6 ∧ x6 ≤ x7 + (-1)) (d1 : x4 + 1 ≤ x6 ∧ x6 ≤ x4 + 1) (f0 : (x4 = 0) → (x10 = nodeX_0 (((24 * g0_0) + all_0 (((r_0 + 267) + x3)))))) (f1 : (x4 = (bendMany_0 (((48 * g0_0) + x3)) + 1)) → (x10 = nodeX_0 (((24 * g0_0) + all_0 (((r_0 + 315) + x3)))))) (f2 : (x4 = 0) ∨ ((x4 = (bendMany_0 (((48 * g0_0) + x3)) + 1)) ∨ (x10 = bendX_0 (((24 * ((48 * g0_0) + x3)) + (x4 - 1)))))) (f3 : x4 ≤ (bendMany_0 (((48 * g0_0) + x3)) + 1)) (f4 : 1 * x9 + ((-1) * x1 + ((-700) * x3 + ((-28) * x4 + 0))) ≤ 887) (f5 : x7 = (bendMany_0 (((48 * g0_0) + x3)) + 2)) (f7 : 1 * texts_0 + ((-1) * x9 + 0) ≤ 1) (f9 : 1 * x9 + ((-1) * x1 + ((-700) * x3 + ((-28) * x4 + 0))) ≤ 887) (f10 : x6 < x7) (f11 : x6 = x4 + x5) (hK_0_62 : ∀ j : Int, 0 ≤ j → j < 96 → (-300000000) ≤ nodeX_0 j ∧ nodeX_0 j ≤ 300000000) (hK_0_64 : ∀ j : Int, 0 ≤ j → j < 192 → 0 ≤ bendMany_0 j ∧ bendMany_0 j ≤ 24) (hK_0_65 : ∀ j : Int, 0 ≤ j → j < 4608 → (-300000011) ≤ bendX_0 j ∧ bendX_0 j ≤ 221100000) (kz_0_139 : 0 ≤ g0_0 ∧ g0_0 ≤ 3) (kz_0_170 : 0 ≤ texts_0 ∧ texts_0 ≤ 100000000) (ex2 : gx = texts_0) (ex3 : 0 ≤ gx ∧ gx ≤ 99999987) : 1 * texts_0 + ((-1) * gx + 0) ≤ 0 := by
  first | assumption | (clear f0 f1 f2 hK_0_62 hK_0_64 hK_0_65; omega) | (clear hK_0_62 hK_0_64 hK_0_65; grind) | omega | grind
set_option maxHeartbeats 4000000 in
theorem vc_Mo_writeDrawing_24_1 (x1 : Int) (x3 : Int) (x4 : Int) (x5 : Int) (x6 : Int) (x7 : Int) (x9 : Int) (x10 : Int) (nodeX_0 : Int → Int) (all_0 : Int → Int) (g0_0 : Int) (r_0 : Int) (bendMany_0 : Int → Int) (bendX_0 : Int → Int) (texts_0 : Int) (gx : Int) (k1 : 0 ≤ x1 ∧ x1 ≤ 99965512) (k3 : 0 ≤ x3 ∧ x3 ≤ 47) (k4 : 1 ≤ x4 ∧ x4 ≤ 24) (k5 : 1 ≤ x5 ∧ x5 ≤ 1) (k6 : 2 ≤ x6 ∧ x6 ≤ 25) (k7 : 3 ≤ x7 ∧ x7 ≤ 26) (k9 : 0 ≤ x9 ∧ x9 ≤ 99999999) (k10 : (-300000000) ≤ x10 ∧ x10 ≤ 300000000) (d0 : x7 + (-4294967296) ≤ x6 ∧ x6 ≤ x7 + (-1)) (d1 : x4 + 1 ≤ x6 ∧ x6 ≤ x4 + 1) (f0 : (x4 = 0) → (x10 = nodeX_0 (((24 * g0_0) + all_0 (((r_0 + 267) + x3)))))) (f1 : (x4 = (bendMany_0 (((48 * g0_0) + x3)) + 1)) → (x10 = nodeX_0 (((24 * g0_0) + all_0 (((r_0 + 315) + x3)))))) (f2 : (x4 = 0) ∨ ((x4 = (bendMany_0 (((48 * g0_0) + x3)) + 1)) ∨ (x10 = bendX_0 (((24 * ((48 * g0_0) + x3)) + (x4 - 1)))))) (f3 : x4 ≤ (bendMany_0 (((48 * g0_0) + x3)) + 1)) (f4 : 1 * x9 + ((-1) * x1 + ((-700) * x3 + ((-28) * x4 + 0))) ≤ 887) (f5 : x7 = (bendMany_0 (((48 * g0_0) + x3)) + 2)) (f7 : 1 * texts_0 + ((-1) * x9 + 0) ≤ 1) (f9 : 1 * x9 + ((-1) * x1 + ((-700) * x3 + ((-28) * x4 + 0))) ≤ 887) (f10 : x6 < x7) (f11 : x6 = x4 + x5) (hK_0_62 : ∀ j : Int, 0 ≤ j → j < 96 → (-300000000) ≤ nodeX_0 j ∧ nodeX_0 j ≤ 300000000) (hK_0_64 : ∀ j : Int, 0 ≤ j → j < 192 → 0 ≤ bendMany_0 j ∧ bendMany_0 j ≤ 24) (hK_0_65 : ∀ j : Int, 0 ≤ j → j < 4608 → (-300000011) ≤ bendX_0 j ∧ bendX_0 j ≤ 221100000) (kz_0_139 : 0 ≤ g0_0 ∧ g0_0 ≤ 3) (kz_0_170 : 0 ≤ texts_0 ∧ texts_0 ≤ 100000000) (ex2 : gx = texts_0) (ex3 : 0 ≤ gx ∧ gx ≤ 99999987) : 1 * gx + ((-1) * x1 + ((-700) * x3 + ((-28) * x4 + 0))) ≤ 888 := by
  first | assumption | (clear f0 f1 f2 hK_0_62 hK_0_64 hK_0_65; omega) | (clear hK_0_62 hK_0_64 hK_0_65; grind) | omega | grind
def o_Mo_writeDrawing_24 : or_T := (117, 11, [(0, (2, 0, 0, [165])), (1, (0, 0, 99965512, [])), (2, (2, 0, 0, [165])), (3, (0, 0, 47, [])), (4, (0, 1, 24, [])), (5, (0, 1, 1, [])), (6, (0, 2, 25, [])), (7, (0, 3, 26, [])), (9, (0, 0, 99999999, [])), (10, (0, -300000000, 300000000, []))], [(20, [4, 10, 2, 3], [50, 2, 2, 2139, 2005, 2062, 2002, 4, 6, 1, 2, 1, 0, 0, 0, 1, 2, 1, 1, 3, 2, 62, 4, 7, 6, 2, 0, 24, 2, 2, 139, 3, 2, 2, 4, 7, 4, 3, 2, 2, 5, 0, 267, 1, 3]), (20, [4, 2, 3, 10], [50, 2, 3, 1139, 1005, 1064, 1062, 1002, 4, 22, 1, 2, 1, 0, 4, 14, 3, 1, 64, 4, 7, 6, 2, 0, 48, 2, 1, 139, 1, 2, 0, 1, 1, 2, 1, 3, 3, 1, 62, 4, 7, 6, 2, 0, 24, 2, 1, 139, 3, 1, 2, 4, 7, 4, 3, 2, 1, 5, 0, 315, 1, 2]), (20, [4, 2, 3, 10], [50, 1, 2, 1139, 1064, 1065, 3, 6, 1, 2, 1, 0, 0, 0, 3, 22, 1, 2, 1, 0, 4, 14, 3, 1, 64, 4, 7, 6, 2, 0, 48, 2, 1, 139, 1, 2, 0, 1, 1, 2, 1, 3, 3, 1, 65, 4, 15, 6, 2, 0, 24, 4, 7, 6, 2, 0, 48, 2, 1, 139, 1, 2, 5, 2, 1, 0, 0, 1]), (20, [4, 2, 3], [50, 1, 1, 1139, 1064, 0, 2, 1, 0, 4, 14, 3, 1, 64, 4, 7, 6, 2, 0, 48, 2, 1, 139, 1, 2, 0, 1]), (23, [9, 1, 3, 4], [887, 1, -1, -700, -28]), (20, [7, 2, 3], [50, 1, 1, 1139, 1064, 1, 2, 1, 0, 4, 14, 3, 1, 64, 4, 7, 6, 2, 0, 48, 2, 1, 139, 1, 2, 0, 2]), (24, [0, 2], []), (20, [2, 9], [30, 1, 1, 1, 170, -1, 0, 0]), (102, [9], [7770675568902916283677847627294075626569627356208558085007249638955617140820833992704, 165170]), (23, [9, 1, 3, 4], [887, 1, -1, -700, -28]), (7, [6, 7], [2]), (1, [6, 4, 5], [])], [], [(0, 0, 99999987, [])], [(20, [2, 11], [30, 0, 1, 1, 170, -1, 0, 0]), (23, [11, 1, 3, 4], [888, 1, -1, -700, -28])], [], [(6, 7, -4294967296, -1), (6, 4, 1, 1)])
theorem oo_Mo_writeDrawing_24 {kA : Nat → ClassId} : or_ok PRD kA GG o_Mo_writeDrawing_24 := by
  refine or_mk fun A ta ws vs hD hth hl => ?_
  intro t0 r0 t1 k1 t2 r2 t3 k3 t4 k4 t5 k5 t6 k6 t7 k7 t9 k9 t10 k10 d0 d1 f0 f1 f2 f3 f4 f5 f6 f7 ta1 w1 le1 s1 f9 f10 f11
  replace f0 := shm_1423 f0
  replace f1 := shm_1424 f1
  replace f2 := shm_1425 f2
  replace f3 := shm_1421 f3
  replace f4 := shm_1935 f4
  replace f5 := shm_683 f5
  replace f6 := shm_5 f6
  replace f7 := shm_132 f7
  replace f9 := shm_1935 f9
  replace f10 := shm_6 f10
  replace f11 := shm_12 f11
  have q2 : n_v vs 2 = n_v vs 0 := f6.symm
  simp only [q2] at f0 f1 f2 f3 f5 f7
  have cr_0_2 := fdq_10 hD hth r0
  have cr_0_62 := fdq_173 hD hth r0
  have cr_0_64 := fdq_171 hD hth r0
  have cr_0_65 := fdq_292 hD hth r0
  have hK_0_62 := elq_102 hD hth cr_0_62
  have hK_0_64 := elq_101 hD hth cr_0_64
  have hK_0_65 := elq_184 hD hth cr_0_65
  have kz_0_139 := fdq_172 hD hth r0
  have kz_0_170 := fdq_11 hD hth r0
  have kv0 := fdq_11 hD hth r0
  obtain ⟨x, ex, hx⟩ := iv_ex (ta := ta) (lo := 0) (hi := 99999987) (z := w_fi ws (n_v vs 0) 170) (by omega) (by omega) (by omega) (by omega)
  have ex2 : v_iv (Value.int x) = w_fi ws (n_v vs 0) 170 := ex
  have ex3 : 0 ≤ v_iv (Value.int x) ∧ v_iv (Value.int x) ≤ 99999987 := tv_rng hx
  have e_1 : n_v (vs ++ [Value.int x]) 1 = n_v vs 1 := n_v_old (by rw [hl]; decide)
  have e_2 : n_v (vs ++ [Value.int x]) 2 = n_v vs 2 := n_v_old (by rw [hl]; decide)
  have e_3 : n_v (vs ++ [Value.int x]) 3 = n_v vs 3 := n_v_old (by rw [hl]; decide)
  have e_4 : n_v (vs ++ [Value.int x]) 4 = n_v vs 4 := n_v_old (by rw [hl]; decide)
  have e_11 : n_v (vs ++ [Value.int x]) 11 = Value.int x := n_v_new hl
  have nf0 : fc_1 PRD (20, [2, 11], [30, 0, 1, 1, 170, -1, 0, 0]) ws (vs ++ [Value.int x]) := by
    refine ⟨nf_inA hl rfl, sgq_131 ?_⟩
    · show 1 * w_fi ws (n_v (vs ++ [Value.int x]) 2) 170 + ((-1) * v_iv (n_v (vs ++ [Value.int x]) 11) + 0) ≤ 0
      simp only [e_2, e_11, q2]
      exact vc_Mo_writeDrawing_24_0 (v_iv (n_v vs 1)) (v_iv (n_v vs 3)) (v_iv (n_v vs 4)) (v_iv (n_v vs 5)) (v_iv (n_v vs 6)) (v_iv (n_v vs 7)) (v_iv (n_v vs 9)) (v_iv (n_v vs 10)) (w_ei ws (w_ar ws (n_v vs 0) 62)) (w_ei ws (w_ar ws (n_v vs 0) 2)) (w_fi ws (n_v vs 0) 139) (w_fi ws (n_v vs 0) 5) (w_ei ws (w_ar ws (n_v vs 0) 64)) (w_ei ws (w_ar ws (n_v vs 0) 65)) (w_fi ws (n_v vs 0) 170) (v_iv (Value.int x)) k1 k3 k4 k5 k6 k7 k9 k10 d0 d1 f0 f1 f2 f3 f4 f5 f7 f9 f10 f11 hK_0_62 hK_0_64 hK_0_65 kz_0_139 kz_0_170 ex2 ex3
  have nf1 : fc_1 PRD (23, [11, 1, 3, 4], [888, 1, -1, -700, -28]) ws (vs ++ [Value.int x]) := by
    refine ⟨nf_inA hl rfl, sgq_1936 ?_⟩
    · show 1 * v_iv (n_v (vs ++ [Value.int x]) 11) + ((-1) * v_iv (n_v (vs ++ [Value.int x]) 1) + ((-700) * v_iv (n_v (vs ++ [Value.int x]) 3) + ((-28) * v_iv (n_v (vs ++ [Value.int x]) 4) + 0))) ≤ 888
      simp only [e_1, e_3, e_4, e_11]
      exact vc_Mo_writeDrawing_24_1 (v_iv (n_v vs 1)) (v_iv (n_v vs 3)) (v_iv (n_v vs 4)) (v_iv (n_v vs 5)) (v_iv (n_v vs 6)) (v_iv (n_v vs 7)) (v_iv (n_v vs 9)) (v_iv (n_v vs 10)) (w_ei ws (w_ar ws (n_v vs 0) 62)) (w_ei ws (w_ar ws (n_v vs 0) 2)) (w_fi ws (n_v vs 0) 139) (w_fi ws (n_v vs 0) 5) (w_ei ws (w_ar ws (n_v vs 0) 64)) (w_ei ws (w_ar ws (n_v vs 0) 65)) (w_fi ws (n_v vs 0) 170) (v_iv (Value.int x)) k1 k3 k4 k5 k6 k7 k9 k10 d0 d1 f0 f1 f2 f3 f4 f5 f7 f9 f10 f11 hK_0_62 hK_0_64 hK_0_65 kz_0_139 kz_0_170 ex2 ex3
  exact ⟨(fun _ h => (by cases h)), [Value.int x], ag_one hx, List.forall_mem_cons.mpr ⟨⟨show (20 : Nat) < 100 from by decide, nf0⟩, List.forall_mem_cons.mpr ⟨⟨show (23 : Nat) < 100 from by decide, nf1⟩, (fun _ h => (by cases h))⟩⟩, (fun _ h => (by cases h))⟩
set_option maxHeartbeats 4000000 in
theorem vc_Mo_writeDrawing_25_0 (x1 : Int) (x3 : Int) (x4 : Int) (x5 : Int) (x6 : Int) (x7 : Int) (x9 : Int) (x10 : Int) (x11 : Int) (nodeX_0 : Int → Int) (all_0 : Int → Int) (g0_0 : Int) (r_0 : Int) (bendMany_0 : Int → Int) (bendX_0 : Int → Int) (texts_0 : Int) (gx : Int) (k1 : 0 ≤ x1 ∧ x1 ≤ 99965512) (k3 : 0 ≤ x3 ∧ x3 ≤ 47) (k4 : 1 ≤ x4 ∧ x4 ≤ 24) (k5 : 1 ≤ x5 ∧ x5 ≤ 1) (k6 : 2 ≤ x6 ∧ x6 ≤ 25) (k7 : 3 ≤ x7 ∧ x7 ≤ 26) (k9 : 0 ≤ x9 ∧ x9 ≤ 99999999) (k10 : (-300000000) ≤ x10 ∧ x10 ≤ 300000000) (k11 : 0 ≤ x11 ∧ x11 ≤ 99999987) (d0 : x7 + (-4294967296) ≤ x6 ∧ x6 ≤ x7 + (-1)) (d1 : x4 + 1 ≤ x6 ∧ x6 ≤ x4 + 1) (f0 : 1 * x11 + ((-1) * x1 + ((-700) * x3 + ((-28) * x4 + 0))) ≤ 888) (f1 : (x4 = 0) → (x10 = nodeX_0 (((24 * g0_0) + all_0 (((r_0 + 267) + x3)))))) (f2 : (x4 = (bendMany_0 (((48 * g0_0) + x3)) + 1)) → (x10 = nodeX_0 (((24 * g0_0) + all_0 (((r_0 + 315) + x3)))))) (f3 : (x4 = 0) ∨ ((x4 = (bendMany_0 (((48 * g0_0) + x3)) + 1)) ∨ (x10 = bendX_0 (((24 * ((48 * g0_0) + x3)) + (x4 - 1)))))) (f4 : x4 ≤ (bendMany_0 (((48 * g0_0) + x3)) + 1)) (f5 : 1 * x9 + ((-1) * x1 + ((-700) * x3 + ((-28) * x4 + 0))) ≤ 887) (f6 : x7 = (bendMany_0 (((48 * g0_0) + x3)) + 2)) (f8 : 1 * texts_0 + ((-1) * x11 + 0) ≤ 13) (f10 : 1 * x11 + ((-1) * x1 + ((-700) * x3 + ((-28) * x4 + 0))) ≤ 888) (f11 : 1 * x9 + ((-1) * x1 + ((-700) * x3 + ((-28) * x4 + 0))) ≤ 887) (f13 : 1 * x9 + ((-1) * x1 + ((-700) * x3 + ((-28) * x4 + 0))) ≤ 887) (f14 : x6 < x7) (f15 : x6 = x4 + x5) (hK_0_62 : ∀ j : Int, 0 ≤ j → j < 96 → (-300000000) ≤ nodeX_0 j ∧ nodeX_0 j ≤ 300000000) (hK_0_64 : ∀ j : Int, 0 ≤ j → j < 192 → 0 ≤ bendMany_0 j ∧ bendMany_0 j ≤ 24) (hK_0_65 : ∀ j : Int, 0 ≤ j → j < 4608 → (-300000011) ≤ bendX_0 j ∧ bendX_0 j ≤ 221100000) (kz_0_139 : 0 ≤ g0_0 ∧ g0_0 ≤ 3) (kz_0_170 : 0 ≤ texts_0 ∧ texts_0 ≤ 100000000) (ex2 : gx = texts_0) (ex3 : 0 ≤ gx ∧ gx ≤ 99999999) : 1 * texts_0 + ((-1) * gx + 0) ≤ 0 := by
  first | assumption | (clear f1 f2 f3 hK_0_62 hK_0_64 hK_0_65; omega) | (clear hK_0_62 hK_0_64 hK_0_65; grind) | omega | grind
set_option maxHeartbeats 4000000 in
theorem vc_Mo_writeDrawing_25_1 (x1 : Int) (x3 : Int) (x4 : Int) (x5 : Int) (x6 : Int) (x7 : Int) (x9 : Int) (x10 : Int) (x11 : Int) (nodeX_0 : Int → Int) (all_0 : Int → Int) (g0_0 : Int) (r_0 : Int) (bendMany_0 : Int → Int) (bendX_0 : Int → Int) (texts_0 : Int) (gx : Int) (k1 : 0 ≤ x1 ∧ x1 ≤ 99965512) (k3 : 0 ≤ x3 ∧ x3 ≤ 47) (k4 : 1 ≤ x4 ∧ x4 ≤ 24) (k5 : 1 ≤ x5 ∧ x5 ≤ 1) (k6 : 2 ≤ x6 ∧ x6 ≤ 25) (k7 : 3 ≤ x7 ∧ x7 ≤ 26) (k9 : 0 ≤ x9 ∧ x9 ≤ 99999999) (k10 : (-300000000) ≤ x10 ∧ x10 ≤ 300000000) (k11 : 0 ≤ x11 ∧ x11 ≤ 99999987) (d0 : x7 + (-4294967296) ≤ x6 ∧ x6 ≤ x7 + (-1)) (d1 : x4 + 1 ≤ x6 ∧ x6 ≤ x4 + 1) (f0 : 1 * x11 + ((-1) * x1 + ((-700) * x3 + ((-28) * x4 + 0))) ≤ 888) (f1 : (x4 = 0) → (x10 = nodeX_0 (((24 * g0_0) + all_0 (((r_0 + 267) + x3)))))) (f2 : (x4 = (bendMany_0 (((48 * g0_0) + x3)) + 1)) → (x10 = nodeX_0 (((24 * g0_0) + all_0 (((r_0 + 315) + x3)))))) (f3 : (x4 = 0) ∨ ((x4 = (bendMany_0 (((48 * g0_0) + x3)) + 1)) ∨ (x10 = bendX_0 (((24 * ((48 * g0_0) + x3)) + (x4 - 1)))))) (f4 : x4 ≤ (bendMany_0 (((48 * g0_0) + x3)) + 1)) (f5 : 1 * x9 + ((-1) * x1 + ((-700) * x3 + ((-28) * x4 + 0))) ≤ 887) (f6 : x7 = (bendMany_0 (((48 * g0_0) + x3)) + 2)) (f8 : 1 * texts_0 + ((-1) * x11 + 0) ≤ 13) (f10 : 1 * x11 + ((-1) * x1 + ((-700) * x3 + ((-28) * x4 + 0))) ≤ 888) (f11 : 1 * x9 + ((-1) * x1 + ((-700) * x3 + ((-28) * x4 + 0))) ≤ 887) (f13 : 1 * x9 + ((-1) * x1 + ((-700) * x3 + ((-28) * x4 + 0))) ≤ 887) (f14 : x6 < x7) (f15 : x6 = x4 + x5) (hK_0_62 : ∀ j : Int, 0 ≤ j → j < 96 → (-300000000) ≤ nodeX_0 j ∧ nodeX_0 j ≤ 300000000) (hK_0_64 : ∀ j : Int, 0 ≤ j → j < 192 → 0 ≤ bendMany_0 j ∧ bendMany_0 j ≤ 24) (hK_0_65 : ∀ j : Int, 0 ≤ j → j < 4608 → (-300000011) ≤ bendX_0 j ∧ bendX_0 j ≤ 221100000) (kz_0_139 : 0 ≤ g0_0 ∧ g0_0 ≤ 3) (kz_0_170 : 0 ≤ texts_0 ∧ texts_0 ≤ 100000000) (ex2 : gx = texts_0) (ex3 : 0 ≤ gx ∧ gx ≤ 99999999) : 1 * gx + ((-1) * x1 + ((-700) * x3 + ((-28) * x4 + 0))) ≤ 901 := by
  first | assumption | (clear f1 f2 f3 hK_0_62 hK_0_64 hK_0_65; omega) | (clear hK_0_62 hK_0_64 hK_0_65; grind) | omega | grind
def o_Mo_writeDrawing_25 : or_T := (123, 13, [(0, (2, 0, 0, [165])), (1, (0, 0, 99965512, [])), (2, (2, 0, 0, [165])), (3, (0, 0, 47, [])), (4, (0, 1, 24, [])), (5, (0, 1, 1, [])), (6, (0, 2, 25, [])), (7, (0, 3, 26, [])), (9, (0, 0, 99999999, [])), (10, (0, -300000000, 300000000, [])), (11, (0, 0, 99999987, []))], [(23, [11, 1, 3, 4], [888, 1, -1, -700, -28]), (20, [4, 10, 2, 3], [50, 2, 2, 2139, 2005, 2062, 2002, 4, 6, 1, 2, 1, 0, 0, 0, 1, 2, 1, 1, 3, 2, 62, 4, 7, 6, 2, 0, 24, 2, 2, 139, 3, 2, 2, 4, 7, 4, 3, 2, 2, 5, 0, 267, 1, 3]), (20, [4, 2, 3, 10], [50, 2, 3, 1139, 1005, 1064, 1062, 1002, 4, 22, 1, 2, 1, 0, 4, 14, 3, 1, 64, 4, 7, 6, 2, 0, 48, 2, 1, 139, 1, 2, 0, 1, 1, 2, 1, 3, 3, 1, 62, 4, 7, 6, 2, 0, 24, 2, 1, 139, 3, 1, 2, 4, 7, 4, 3, 2, 1, 5, 0, 315, 1, 2]), (20, [4, 2, 3, 10], [50, 1, 2, 1139, 1064, 1065, 3, 6, 1, 2, 1, 0, 0, 0, 3, 22, 1, 2, 1, 0, 4, 14, 3, 1, 64, 4, 7, 6, 2, 0, 48, 2, 1, 139, 1, 2, 0, 1, 1, 2, 1, 3, 3, 1, 65, 4, 15, 6, 2, 0, 24, 4, 7, 6, 2, 0, 48, 2, 1, 139, 1, 2, 5, 2, 1, 0, 0, 1]), (20, [4, 2, 3], [50, 1, 1, 1139, 1064, 0, 2, 1, 0, 4, 14, 3, 1, 64, 4, 7, 6, 2, 0, 48, 2, 1, 139, 1, 2, 0, 1]), (23, [9, 1, 3, 4], [887, 1, -1, -700, -28]), (20, [7, 2, 3], [50, 1, 1, 1139, 1064, 1, 2, 1, 0, 4, 14, 3, 1, 64, 4, 7, 6, 2, 0, 48, 2, 1, 139, 1, 2, 0, 2]), (24, [0, 2], []), (20, [2, 11], [30, 13, 1, 1, 170, -1, 0, 0]), (102, [11], [7770675568902916283677847627294075626569627356208558085007249638955617140820833992704, 165170]), (23, [11, 1, 3, 4], [888, 1, -1, -700, -28]), (23, [9, 1, 3, 4], [887, 1, -1, -700, -28]), (102, [9], [7770675568902916283677847627294075626569627356208558085007249638955617140820833992704, 165170]), (23, [9, 1, 3, 4], [887, 1, -1, -700, -28]), (7, [6, 7], [2]), (1, [6, 4, 5], [])], [], [(0, 0, 99999999, [])], [(20, [2, 13], [30, 0, 1, 1, 170, -1, 0, 0]), (23, [13, 1, 3, 4], [901, 1, -1, -700, -28])], [], [(6, 7, -4294967296, -1), (6, 4, 1, 1)])
theorem oo_Mo_writeDrawing_25 {kA : Nat → ClassId} : or_ok PRD kA GG o_Mo_writeDrawing_25 := by
  refine or_mk fun A ta ws vs hD hth hl => ?_
  intro t0 r0 t1 k1 t2 r2 t3 k3 t4 k4 t5 k5 t6 k6 t7 k7 t9 k9 t10 k10 t11 k11 d0 d1 f0 f1 f2 f3 f4 f5 f6 f7 f8 ta1 w1 le1 s1 f10 f11 ta2 w2 le2 s2 f13 f14 f15
  replace f0 := shm_1936 f0
  replace f1 := shm_1423 f1
  replace f2 := shm_1424 f2
  replace f3 := shm_1425 f3
  replace f4 := shm_1421 f4
  replace f5 := shm_1935 f5
  replace f6 := shm_683 f6
  replace f7 := shm_5 f7
  replace f8 := shm_1056 f8
  replace f10 := shm_1936 f10
  replace f11 := shm_1935 f11
  replace f13 := shm_1935 f13
  replace f14 := shm_6 f14
  replace f15 := shm_12 f15
  have q2 : n_v vs 2 = n_v vs 0 := f7.symm
  simp only [q2] at f1 f2 f3 f4 f6 f8
  have cr_0_2 := fdq_10 hD hth r0
  have cr_0_62 := fdq_173 hD hth r0
  have cr_0_64 := fdq_171 hD hth r0
  have cr_0_65 := fdq_292 hD hth r0
  have hK_0_62 := elq_102 hD hth cr_0_62
  have hK_0_64 := elq_101 hD hth cr_0_64
  have hK_0_65 := elq_184 hD hth cr_0_65
  have kz_0_139 := fdq_172 hD hth r0
  have kz_0_170 := fdq_11 hD hth r0
  have kv0 := fdq_11 hD hth r0
  obtain ⟨x, ex, hx⟩ := iv_ex (ta := ta) (lo := 0) (hi := 99999999) (z := w_fi ws (n_v vs 0) 170) (by omega) (by omega) (by omega) (by omega)
  have ex2 : v_iv (Value.int x) = w_fi ws (n_v vs 0) 170 := ex
  have ex3 : 0 ≤ v_iv (Value.int x) ∧ v_iv (Value.int x) ≤ 99999999 := tv_rng hx
  have e_1 : n_v (vs ++ [Value.int x]) 1 = n_v vs 1 := n_v_old (by rw [hl]; decide)
  have e_2 : n_v (vs ++ [Value.int x]) 2 = n_v vs 2 := n_v_old (by rw [hl]; decide)
  have e_3 : n_v (vs ++ [Value.int x]) 3 = n_v vs 3 := n_v_old (by rw [hl]; decide)
  have e_4 : n_v (vs ++ [Value.int x]) 4 = n_v vs 4 := n_v_old (by rw [hl]; decide)
  have e_13 : n_v (vs ++ [Value.int x]) 13 = Value.int x := n_v_new hl
  have nf0 : fc_1 PRD (20, [2, 13], [30, 0, 1, 1, 170, -1, 0, 0]) ws (vs ++ [Value.int x]) := by
    refine ⟨nf_inA hl rfl, sgq_131 ?_⟩
    · show 1 * w_fi ws (n_v (vs ++ [Value.int x]) 2) 170 + ((-1) * v_iv (n_v (vs ++ [Value.int x]) 13) + 0) ≤ 0
      simp only [e_2, e_13, q2]
      exact vc_Mo_writeDrawing_25_0 (v_iv (n_v vs 1)) (v_iv (n_v vs 3)) (v_iv (n_v vs 4)) (v_iv (n_v vs 5)) (v_iv (n_v vs 6)) (v_iv (n_v vs 7)) (v_iv (n_v vs 9)) (v_iv (n_v vs 10)) (v_iv (n_v vs 11)) (w_ei ws (w_ar ws (n_v vs 0) 62)) (w_ei ws (w_ar ws (n_v vs 0) 2)) (w_fi ws (n_v vs 0) 139) (w_fi ws (n_v vs 0) 5) (w_ei ws (w_ar ws (n_v vs 0) 64)) (w_ei ws (w_ar ws (n_v vs 0) 65)) (w_fi ws (n_v vs 0) 170) (v_iv (Value.int x)) k1 k3 k4 k5 k6 k7 k9 k10 k11 d0 d1 f0 f1 f2 f3 f4 f5 f6 f8 f10 f11 f13 f14 f15 hK_0_62 hK_0_64 hK_0_65 kz_0_139 kz_0_170 ex2 ex3
  have nf1 : fc_1 PRD (23, [13, 1, 3, 4], [901, 1, -1, -700, -28]) ws (vs ++ [Value.int x]) := by
    refine ⟨nf_inA hl rfl, sgq_1937 ?_⟩
    · show 1 * v_iv (n_v (vs ++ [Value.int x]) 13) + ((-1) * v_iv (n_v (vs ++ [Value.int x]) 1) + ((-700) * v_iv (n_v (vs ++ [Value.int x]) 3) + ((-28) * v_iv (n_v (vs ++ [Value.int x]) 4) + 0))) ≤ 901
      simp only [e_1, e_3, e_4, e_13]
      exact vc_Mo_writeDrawing_25_1 (v_iv (n_v vs 1)) (v_iv (n_v vs 3)) (v_iv (n_v vs 4)) (v_iv (n_v vs 5)) (v_iv (n_v vs 6)) (v_iv (n_v vs 7)) (v_iv (n_v vs 9)) (v_iv (n_v vs 10)) (v_iv (n_v vs 11)) (w_ei ws (w_ar ws (n_v vs 0) 62)) (w_ei ws (w_ar ws (n_v vs 0) 2)) (w_fi ws (n_v vs 0) 139) (w_fi ws (n_v vs 0) 5) (w_ei ws (w_ar ws (n_v vs 0) 64)) (w_ei ws (w_ar ws (n_v vs 0) 65)) (w_fi ws (n_v vs 0) 170) (v_iv (Value.int x)) k1 k3 k4 k5 k6 k7 k9 k10 k11 d0 d1 f0 f1 f2 f3 f4 f5 f6 f8 f10 f11 f13 f14 f15 hK_0_62 hK_0_64 hK_0_65 kz_0_139 kz_0_170 ex2 ex3
  exact ⟨(fun _ h => (by cases h)), [Value.int x], ag_one hx, List.forall_mem_cons.mpr ⟨⟨show (20 : Nat) < 100 from by decide, nf0⟩, List.forall_mem_cons.mpr ⟨⟨show (23 : Nat) < 100 from by decide, nf1⟩, (fun _ h => (by cases h))⟩⟩, (fun _ h => (by cases h))⟩
set_option maxHeartbeats 4000000 in
theorem vc_Mo_writeDrawing_26_0 (x1 : Int) (x3 : Int) (x4 : Int) (x5 : Int) (x6 : Int) (x7 : Int) (x9 : Int) (x10 : Int) (x11 : Int) (x13 : Int) (x14 : Int) (nodeY_0 : Int → Int) (all_0 : Int → Int) (g0_0 : Int) (r_0 : Int) (bendMany_0 : Int → Int) (bendY_0 : Int → Int) (nodeX_0 : Int → Int) (bendX_0 : Int → Int) (texts_0 : Int) (gx : Int) (k1 : 0 ≤ x1 ∧ x1 ≤ 99965512) (k3 : 0 ≤ x3 ∧ x3 ≤ 47) (k4 : 1 ≤ x4 ∧ x4 ≤ 24) (k5 : 1 ≤ x5 ∧ x5 ≤ 1) (k6 : 2 ≤ x6 ∧ x6 ≤ 25) (k7 : 3 ≤ x7 ∧ x7 ≤ 26) (k9 : 0 ≤ x9 ∧ x9 ≤ 99999999) (k10 : (-300000000) ≤ x10 ∧ x10 ≤ 300000000) (k11 : 0 ≤ x11 ∧ x11 ≤ 99999987) (k13 : 0 ≤ x13 ∧ x13 ≤ 99999999) (k14 : (-900000000) ≤ x14 ∧ x14 ≤ 900000000) (d0 : x7 + (-4294967296) ≤ x6 ∧ x6 ≤ x7 + (-1)) (d1 : x4 + 1 ≤ x6 ∧ x6 ≤ x4 + 1) (f0 : (x4 = 0) → (x14 = nodeY_0 (((24 * g0_0) + all_0 (((r_0 + 267) + x3)))))) (f1 : (x4 = (bendMany_0 (((48 * g0_0) + x3)) + 1)) → (x14 = nodeY_0 (((24 * g0_0) + all_0 (((r_0 + 315) + x3)))))) (f2 : (x4 = 0) ∨ ((x4 = (bendMany_0 (((48 * g0_0) + x3)) + 1)) ∨ (x14 = bendY_0 (((24 * ((48 * g0_0) + x3)) + (x4 - 1)))))) (f3 : 1 * x13 + ((-1) * x1 + ((-700) * x3 + ((-28) * x4 + 0))) ≤ 901) (f4 : 1 * x11 + ((-1) * x1 + ((-700) * x3 + ((-28) * x4 + 0))) ≤ 888) (f5 : (x4 = 0) → (x10 = nodeX_0 (((24 * g0_0) + all_0 (((r_0 + 267) + x3)))))) (f6 : (x4 = (bendMany_0 (((48 * g0_0) + x3)) + 1)) → (x10 = nodeX_0 (((24 * g0_0) + all_0 (((r_0 + 315) + x3)))))) (f7 : (x4 = 0) ∨ ((x4 = (bendMany_0 (((48 * g0_0) + x3)) + 1)) ∨ (x10 = bendX_0 (((24 * ((48 * g0_0) + x3)) + (x4 - 1)))))) (f8 : x4 ≤ (bendMany_0 (((48 * g0_0) + x3)) + 1)) (f9 : 1 * x9 + ((-1) * x1 + ((-700) * x3 + ((-28) * x4 + 0))) ≤ 887) (f10 : x7 = (bendMany_0 (((48 * g0_0) + x3)) + 2)) (f12 : 1 * texts_0 + ((-1) * x13 + 0) ≤ 1) (f14 : 1 * x13 + ((-1) * x1 + ((-700) * x3 + ((-28) * x4 + 0))) ≤ 901) (f15 : 1 * x11 + ((-1) * x1 + ((-700) * x3 + ((-28) * x4 + 0))) ≤ 888) (f16 : 1 * x9 + ((-1) * x1 + ((-700) * x3 + ((-28) * x4 + 0))) ≤ 887) (f18 : 1 * x11 + ((-1) * x1 + ((-700) * x3 + ((-28) * x4 + 0))) ≤ 888) (f19 : 1 * x9 + ((-1) * x1 + ((-700) * x3 + ((-28) * x4 + 0))) ≤ 887) (f21 : 1 * x9 + ((-1) * x1 + ((-700) * x3 + ((-28) * x4 + 0))) ≤ 887) (f22 : x6 < x7) (f23 : x6 = x4 + x5) (hK_0_62 : ∀ j : Int, 0 ≤ j → j < 96 → (-300000000) ≤ nodeX_0 j ∧ nodeX_0 j ≤ 300000000) (hK_0_63 : ∀ j : Int, 0 ≤ j → j < 96 → (-300000000) ≤ nodeY_0 j ∧ nodeY_0 j ≤ 300000000) (hK_0_64 : ∀ j : Int, 0 ≤ j → j < 192 → 0 ≤ bendMany_0 j ∧ bendMany_0 j ≤ 24) (hK_0_65 : ∀ j : Int, 0 ≤ j → j < 4608 → (-300000011) ≤ bendX_0 j ∧ bendX_0 j ≤ 221100000) (hK_0_66 : ∀ j : Int, 0 ≤ j → j < 4608 → (-900000000) ≤ bendY_0 j ∧ bendY_0 j ≤ 900000000) (kz_0_139 : 0 ≤ g0_0 ∧ g0_0 ≤ 3) (kz_0_170 : 0 ≤ texts_0 ∧ texts_0 ≤ 100000000) (ex2 : gx = texts_0) (ex3 : 0 ≤ gx ∧ gx ≤ 99999987) : 1 * texts_0 + ((-1) * gx + 0) ≤ 0 := by
  first | assumption | (clear f0 f1 f2 f5 f6 f7 hK_0_62 hK_0_63 hK_0_64 hK_0_65 hK_0_66; omega) | (clear hK_0_62 hK_0_63 hK_0_64 hK_0_65 hK_0_66; grind) | omega | grind
set_option maxHeartbeats 4000000 in
theorem vc_Mo_writeDrawing_26_1 (x1 : Int) (x3 : Int) (x4 : Int) (x5 : Int) (x6 : Int) (x7 : Int) (x9 : Int) (x10 : Int) (x11 : Int) (x13 : Int) (x14 : Int) (nodeY_0 : Int → Int) (all_0 : Int → Int) (g0_0 : Int) (r_0 : Int) (bendMany_0 : Int → Int) (bendY_0 : Int → Int) (nodeX_0 : Int → Int) (bendX_0 : Int → Int) (texts_0 : Int) (gx : Int) (k1 : 0 ≤ x1 ∧ x1 ≤ 99965512) (k3 : 0 ≤ x3 ∧ x3 ≤ 47) (k4 : 1 ≤ x4 ∧ x4 ≤ 24) (k5 : 1 ≤ x5 ∧ x5 ≤ 1) (k6 : 2 ≤ x6 ∧ x6 ≤ 25) (k7 : 3 ≤ x7 ∧ x7 ≤ 26) (k9 : 0 ≤ x9 ∧ x9 ≤ 99999999) (k10 : (-300000000) ≤ x10 ∧ x10 ≤ 300000000) (k11 : 0 ≤ x11 ∧ x11 ≤ 99999987) (k13 : 0 ≤ x13 ∧ x13 ≤ 99999999) (k14 : (-900000000) ≤ x14 ∧ x14 ≤ 900000000) (d0 : x7 + (-4294967296) ≤ x6 ∧ x6 ≤ x7 + (-1)) (d1 : x4 + 1 ≤ x6 ∧ x6 ≤ x4 + 1) (f0 : (x4 = 0) → (x14 = nodeY_0 (((24 * g0_0) + all_0 (((r_0 + 267) + x3)))))) (f1 : (x4 = (bendMany_0 (((48 * g0_0) + x3)) + 1)) → (x14 = nodeY_0 (((24 * g0_0) + all_0 (((r_0 + 315) + x3)))))) (f2 : (x4 = 0) ∨ ((x4 = (bendMany_0 (((48 * g0_0) + x3)) + 1)) ∨ (x14 = bendY_0 (((24 * ((48 * g0_0) + x3)) + (x4 - 1)))))) (f3 : 1 * x13 + ((-1) * x1 + ((-700) * x3 + ((-28) * x4 + 0))) ≤ 901) (f4 : 1 * x11 + ((-1) * x1 + ((-700) * x3 + ((-28) * x4 + 0))) ≤ 888) (f5 : (x4 = 0) → (x10 = nodeX_0 (((24 * g0_0) + all_0 (((r_0 + 267) + x3)))))) (f6 : (x4 = (bendMany_0 (((48 * g0_0) + x3)) + 1)) → (x10 = nodeX_0 (((24 * g0_0) + all_0 (((r_0 + 315) + x3)))))) (f7 : (x4 = 0) ∨ ((x4 = (bendMany_0 (((48 * g0_0) + x3)) + 1)) ∨ (x10 = bendX_0 (((24 * ((48 * g0_0) + x3)) + (x4 - 1)))))) (f8 : x4 ≤ (bendMany_0 (((48 * g0_0) + x3)) + 1)) (f9 : 1 * x9 + ((-1) * x1 + ((-700) * x3 + ((-28) * x4 + 0))) ≤ 887) (f10 : x7 = (bendMany_0 (((48 * g0_0) + x3)) + 2)) (f12 : 1 * texts_0 + ((-1) * x13 + 0) ≤ 1) (f14 : 1 * x13 + ((-1) * x1 + ((-700) * x3 + ((-28) * x4 + 0))) ≤ 901) (f15 : 1 * x11 + ((-1) * x1 + ((-700) * x3 + ((-28) * x4 + 0))) ≤ 888) (f16 : 1 * x9 + ((-1) * x1 + ((-700) * x3 + ((-28) * x4 + 0))) ≤ 887) (f18 : 1 * x11 + ((-1) * x1 + ((-700) * x3 + ((-28) * x4 + 0))) ≤ 888) (f19 : 1 * x9 + ((-1) * x1 + ((-700) * x3 + ((-28) * x4 + 0))) ≤ 887) (f21 : 1 * x9 + ((-1) * x1 + ((-700) * x3 + ((-28) * x4 + 0))) ≤ 887) (f22 : x6 < x7) (f23 : x6 = x4 + x5) (hK_0_62 : ∀ j : Int, 0 ≤ j → j < 96 → (-300000000) ≤ nodeX_0 j ∧ nodeX_0 j ≤ 300000000) (hK_0_63 : ∀ j : Int, 0 ≤ j → j < 96 → (-300000000) ≤ nodeY_0 j ∧ nodeY_0 j ≤ 300000000) (hK_0_64 : ∀ j : Int, 0 ≤ j → j < 192 → 0 ≤ bendMany_0 j ∧ bendMany_0 j ≤ 24) (hK_0_65 : ∀ j : Int, 0 ≤ j → j < 4608 → (-300000011) ≤ bendX_0 j ∧ bendX_0 j ≤ 221100000) (hK_0_66 : ∀ j : Int, 0 ≤ j → j < 4608 → (-900000000) ≤ bendY_0 j ∧ bendY_0 j ≤ 900000000) (kz_0_139 : 0 ≤ g0_0 ∧ g0_0 ≤ 3) (kz_0_170 : 0 ≤ texts_0 ∧ texts_0 ≤ 100000000) (ex2 : gx = texts_0) (ex3 : 0 ≤ gx ∧ gx ≤ 99999987) : 1 * gx + ((-1) * x1 + ((-700) * x3 + ((-28) * x4 + 0))) ≤ 902 := by
  first | assumption | (clear f0 f1 f2 f5 f6 f7 hK_0_62 hK_0_63 hK_0_64 hK_0_65 hK_0_66; omega) | (clear hK_0_62 hK_0_63 hK_0_64 hK_0_65 hK_0_66; grind) | omega | grind
def o_Mo_writeDrawing_26 : or_T := (133, 15, [(0, (2, 0, 0, [165])), (1, (0, 0, 99965512, [])), (2, (2, 0, 0, [165])), (3, (0, 0, 47, [])), (4, (0, 1, 24, [])), (5, (0, 1, 1, [])), (6, (0, 2, 25, [])), (7, (0, 3, 26, [])), (9, (0, 0, 99999999, [])), (10, (0, -300000000, 300000000, [])), (11, (0, 0, 99999987, [])), (13, (0, 0, 99999999, [])), (14, (0, -900000000, 900000000, []))], [(20, [4, 14, 2, 3], [50, 2, 2, 2139, 2005, 2063, 2002, 4, 6, 1, 2, 1, 0, 0, 0, 1, 2, 1, 1, 3, 2, 63, 4, 7, 6, 2, 0, 24, 2, 2, 139, 3, 2, 2, 4, 7, 4, 3, 2, 2, 5, 0, 267, 1, 3]), (20, [4, 2, 3, 14], [50, 2, 3, 1139, 1005, 1064, 1063, 1002, 4, 22, 1, 2, 1, 0, 4, 14, 3, 1, 64, 4, 7, 6, 2, 0, 48, 2, 1, 139, 1, 2, 0, 1, 1, 2, 1, 3, 3, 1, 63, 4, 7, 6, 2, 0, 24, 2, 1, 139, 3, 1, 2, 4, 7, 4, 3, 2, 1, 5, 0, 315, 1, 2]), (20, [4, 2, 3, 14], [50, 1, 2, 1139, 1064, 1066, 3, 6, 1, 2, 1, 0, 0, 0, 3, 22, 1, 2, 1, 0, 4, 14, 3, 1, 64, 4, 7, 6, 2, 0, 48, 2, 1, 139, 1, 2, 0, 1, 1, 2, 1, 3, 3, 1, 66, 4, 15, 6, 2, 0, 24, 4, 7, 6, 2, 0, 48, 2, 1, 139, 1, 2, 5, 2, 1, 0, 0, 1]), (23, [13, 1, 3, 4], [901, 1, -1, -700, -28]), (23, [11, 1, 3, 4], [888, 1, -1, -700, -28]), (20, [4, 10, 2, 3], [50, 2, 2, 2139, 2005, 2062, 2002, 4, 6, 1, 2, 1, 0, 0, 0, 1, 2, 1, 1, 3, 2, 62, 4, 7, 6, 2, 0, 24, 2, 2, 139, 3, 2, 2, 4, 7, 4, 3, 2, 2, 5, 0, 267, 1, 3]), (20, [4, 2, 3, 10], [50, 2, 3, 1139, 1005, 1064, 1062, 1002, 4, 22, 1, 2, 1, 0, 4, 14, 3, 1, 64, 4, 7, 6, 2, 0, 48, 2, 1, 139, 1, 2, 0, 1, 1, 2, 1, 3, 3, 1, 62, 4, 7, 6, 2, 0, 24, 2, 1, 139, 3, 1, 2, 4, 7, 4, 3, 2, 1, 5, 0, 315, 1, 2]), (20, [4, 2, 3, 10], [50, 1, 2, 1139, 1064, 1065, 3, 6, 1, 2, 1, 0, 0, 0, 3, 22, 1, 2, 1, 0, 4, 14, 3, 1, 64, 4, 7, 6, 2, 0, 48, 2, 1, 139, 1, 2, 0, 1, 1, 2, 1, 3, 3, 1, 65, 4, 15, 6, 2, 0, 24, 4, 7, 6, 2, 0, 48, 2, 1, 139, 1, 2, 5, 2, 1, 0, 0, 1]), (20, [4, 2, 3], [50, 1, 1, 1139, 1064, 0, 2, 1, 0, 4, 14, 3, 1, 64, 4, 7, 6, 2, 0, 48, 2, 1, 139, 1, 2, 0, 1]), (23, [9, 1, 3, 4], [887, 1, -1, -700, -28]), (20, [7, 2, 3], [50, 1, 1, 1139, 1064, 1, 2, 1, 0, 4, 14, 3, 1, 64, 4, 7, 6, 2, 0, 48, 2, 1, 139, 1, 2, 0, 2]), (24, [0, 2], []), (20, [2, 13], [30, 1, 1, 1, 170, -1, 0, 0]), (102, [13], [7770675568902916283677847627294075626569627356208558085007249638955617140820833992704, 165170]), (23, [13, 1, 3, 4], [901, 1, -1, -700, -28]), (23, [11, 1, 3, 4], [888, 1, -1, -700, -28]), (23, [9, 1, 3, 4], [887, 1, -1, -700, -28]), (102, [11], [7770675568902916283677847627294075626569627356208558085007249638955617140820833992704, 165170]), (23, [11, 1, 3, 4], [888, 1, -1, -700, -28]), (23, [9, 1, 3, 4], [887, 1, -1, -700, -28]), (102, [9], [7770675568902916283677847627294075626569627356208558085007249638955617140820833992704, 165170]), (23, [9, 1, 3, 4], [887, 1, -1, -700, -28]), (7, [6, 7], [2]), (1, [6, 4, 5], [])], [], [(0, 0, 99999987, [])], [(20, [2, 15], [30, 0, 1, 1, 170, -1, 0, 0]), (23, [15, 1, 3, 4], [902, 1, -1, -700, -28])], [], [(6, 7, -4294967296, -1), (6, 4, 1, 1)])
theorem oo_Mo_writeDrawing_26 {kA : Nat → ClassId} : or_ok PRD kA GG o_Mo_writeDrawing_26 := by
  refine or_mk fun A ta ws vs hD hth hl => ?_
  intro t0 r0 t1 k1 t2 r2 t3 k3 t4 k4 t5 k5 t6 k6 t7 k7 t9 k9 t10 k10 t11 k11 t13 k13 t14 k14 d0 d1 f0 f1 f2 f3 f4 f5 f6 f7 f8 f9 f10 f11 f12 ta1 w1 le1 s1 f14 f15 f16 ta2 w2 le2 s2 f18 f19 ta3 w3 le3 s3 f21 f22 f23
  replace f0 := shm_1427 f0
  replace f1 := shm_1428 f1
  replace f2 := shm_1429 f2
  replace f3 := shm_1937 f3
  replace f4 := shm_1936 f4
  replace f5 := shm_1423 f5
  replace f6 := shm_1424 f6
  replace f7 := shm_1425 f7
  replace f8 := shm_1421 f8
  replace f9 := shm_1935 f9
  replace f10 := shm_683 f10
  replace f11 := shm_5 f11
  replace f12 := shm_132 f12
  replace f14 := shm_1937 f14
  replace f15 := shm_1936 f15
  replace f16 := shm_1935 f16
  replace f18 := shm_1936 f18
  replace f19 := shm_1935 f19
  replace f21 := shm_1935 f21
  replace f22 := shm_6 f22
  replace f23 := shm_12 f23
  have q2 : n_v vs 2 = n_v vs 0 := f11.symm
  simp only [q2] at f0 f1 f2 f5 f6 f7 f8 f10 f12
  have cr_0_2 := fdq_10 hD hth r0
  have cr_0_62 := fdq_173 hD hth r0
  have cr_0_63 := fdq_174 hD hth r0
  have cr_0_64 := fdq_171 hD hth r0
  have cr_0_65 := fdq_292 hD hth r0
  have cr_0_66 := fdq_293 hD hth r0
  have hK_0_62 := elq_102 hD hth cr_0_62
  have hK_0_63 := elq_103 hD hth cr_0_63
  have hK_0_64 := elq_101 hD hth cr_0_64
  have hK_0_65 := elq_184 hD hth cr_0_65
  have hK_0_66 := elq_185 hD hth cr_0_66
  have kz_0_139 := fdq_172 hD hth r0
  have kz_0_170 := fdq_11 hD hth r0
  have kv0 := fdq_11 hD hth r0
  obtain ⟨x, ex, hx⟩ := iv_ex (ta := ta) (lo := 0) (hi := 99999987) (z := w_fi ws (n_v vs 0) 170) (by omega) (by omega) (by omega) (by omega)
  have ex2 : v_iv (Value.int x) = w_fi ws (n_v vs 0) 170 := ex
  have ex3 : 0 ≤ v_iv (Value.int x) ∧ v_iv (Value.int x) ≤ 99999987 := tv_rng hx
  have e_1 : n_v (vs ++ [Value.int x]) 1 = n_v vs 1 := n_v_old (by rw [hl]; decide)
  have e_2 : n_v (vs ++ [Value.int x]) 2 = n_v vs 2 := n_v_old (by rw [hl]; decide)
  have e_3 : n_v (vs ++ [Value.int x]) 3 = n_v vs 3 := n_v_old (by rw [hl]; decide)
  have e_4 : n_v (vs ++ [Value.int x]) 4 = n_v vs 4 := n_v_old (by rw [hl]; decide)
  have e_15 : n_v (vs ++ [Value.int x]) 15 = Value.int x := n_v_new hl
  have nf0 : fc_1 PRD (20, [2, 15], [30, 0, 1, 1, 170, -1, 0, 0]) ws (vs ++ [Value.int x]) := by
    refine ⟨nf_inA hl rfl, sgq_131 ?_⟩
    · show 1 * w_fi ws (n_v (vs ++ [Value.int x]) 2) 170 + ((-1) * v_iv (n_v (vs ++ [Value.int x]) 15) + 0) ≤ 0
      simp only [e_2, e_15, q2]
      exact vc_Mo_writeDrawing_26_0 (v_iv (n_v vs 1)) (v_iv (n_v vs 3)) (v_iv (n_v vs 4)) (v_iv (n_v vs 5)) (v_iv (n_v vs 6)) (v_iv (n_v vs 7)) (v_iv (n_v vs 9)) (v_iv (n_v vs 10)) (v_iv (n_v vs 11)) (v_iv (n_v vs 13)) (v_iv (n_v vs 14)) (w_ei ws (w_ar ws (n_v vs 0) 63)) (w_ei ws (w_ar ws (n_v vs 0) 2)) (w_fi ws (n_v vs 0) 139) (w_fi ws (n_v vs 0) 5) (w_ei ws (w_ar ws (n_v vs 0) 64)) (w_ei ws (w_ar ws (n_v vs 0) 66)) (w_ei ws (w_ar ws (n_v vs 0) 62)) (w_ei ws (w_ar ws (n_v vs 0) 65)) (w_fi ws (n_v vs 0) 170) (v_iv (Value.int x)) k1 k3 k4 k5 k6 k7 k9 k10 k11 k13 k14 d0 d1 f0 f1 f2 f3 f4 f5 f6 f7 f8 f9 f10 f12 f14 f15 f16 f18 f19 f21 f22 f23 hK_0_62 hK_0_63 hK_0_64 hK_0_65 hK_0_66 kz_0_139 kz_0_170 ex2 ex3
  have nf1 : fc_1 PRD (23, [15, 1, 3, 4], [902, 1, -1, -700, -28]) ws (vs ++ [Value.int x]) := by
    refine ⟨nf_inA hl rfl, sgq_1938 ?_⟩
    · show 1 * v_iv (n_v (vs ++ [Value.int x]) 15) + ((-1) * v_iv (n_v (vs ++ [Value.int x]) 1) + ((-700) * v_iv (n_v (vs ++ [Value.int x]) 3) + ((-28) * v_iv (n_v (vs ++ [Value.int x]) 4) + 0))) ≤ 902
      simp only [e_1, e_3, e_4, e_15]
      exact vc_Mo_writeDrawing_26_1 (v_iv (n_v vs 1)) (v_iv (n_v vs 3)) (v_iv (n_v vs 4)) (v_iv (n_v vs 5)) (v_iv (n_v vs 6)) (v_iv (n_v vs 7)) (v_iv (n_v vs 9)) (v_iv (n_v vs 10)) (v_iv (n_v vs 11)) (v_iv (n_v vs 13)) (v_iv (n_v vs 14)) (w_ei ws (w_ar ws (n_v vs 0) 63)) (w_ei ws (w_ar ws (n_v vs 0) 2)) (w_fi ws (n_v vs 0) 139) (w_fi ws (n_v vs 0) 5) (w_ei ws (w_ar ws (n_v vs 0) 64)) (w_ei ws (w_ar ws (n_v vs 0) 66)) (w_ei ws (w_ar ws (n_v vs 0) 62)) (w_ei ws (w_ar ws (n_v vs 0) 65)) (w_fi ws (n_v vs 0) 170) (v_iv (Value.int x)) k1 k3 k4 k5 k6 k7 k9 k10 k11 k13 k14 d0 d1 f0 f1 f2 f3 f4 f5 f6 f7 f8 f9 f10 f12 f14 f15 f16 f18 f19 f21 f22 f23 hK_0_62 hK_0_63 hK_0_64 hK_0_65 hK_0_66 kz_0_139 kz_0_170 ex2 ex3
  exact ⟨(fun _ h => (by cases h)), [Value.int x], ag_one hx, List.forall_mem_cons.mpr ⟨⟨show (20 : Nat) < 100 from by decide, nf0⟩, List.forall_mem_cons.mpr ⟨⟨show (23 : Nat) < 100 from by decide, nf1⟩, (fun _ h => (by cases h))⟩⟩, (fun _ h => (by cases h))⟩
set_option maxHeartbeats 4000000 in
theorem vc_Mo_writeDrawing_27_0 (x1 : Int) (x3 : Int) (x4 : Int) (x5 : Int) (x6 : Int) (x7 : Int) (x9 : Int) (x10 : Int) (x11 : Int) (x13 : Int) (x14 : Int) (x15 : Int) (x16 : Int) (nodeY_0 : Int → Int) (all_0 : Int → Int) (g0_0 : Int) (r_0 : Int) (bendMany_0 : Int → Int) (bendY_0 : Int → Int) (nodeX_0 : Int → Int) (bendX_0 : Int → Int) (texts_0 : Int) (k1 : 0 ≤ x1 ∧ x1 ≤ 99965512) (k3 : 0 ≤ x3 ∧ x3 ≤ 47) (k4 : 1 ≤ x4 ∧ x4 ≤ 24) (k5 : 1 ≤ x5 ∧ x5 ≤ 1) (k6 : 2 ≤ x6 ∧ x6 ≤ 25) (k7 : 3 ≤ x7 ∧ x7 ≤ 26) (k9 : 0 ≤ x9 ∧ x9 ≤ 99999999) (k10 : (-300000000) ≤ x10 ∧ x10 ≤ 300000000) (k11 : 0 ≤ x11 ∧ x11 ≤ 99999987) (k13 : 0 ≤ x13 ∧ x13 ≤ 99999999) (k14 : (-900000000) ≤ x14 ∧ x14 ≤ 900000000) (k15 : 0 ≤ x15 ∧ x15 ≤ 99999987) (k16 : 2 ≤ x16 ∧ x16 ≤ 25) (d0 : x4 + 1 ≤ x16 ∧ x16 ≤ x4 + 1) (d1 : x7 + (-4294967296) ≤ x6 ∧ x6 ≤ x7 + (-1)) (d2 : x4 + 1 ≤ x6 ∧ x6 ≤ x4 + 1) (f0 : x16 = x4 + 1) (f1 : 1 * x15 + ((-1) * x1 + ((-700) * x3 + ((-28) * x4 + 0))) ≤ 902) (f2 : (x4 = 0) → (x14 = nodeY_0 (((24 * g0_0) + all_0 (((r_0 + 267) + x3)))))) (f3 : (x4 = (bendMany_0 (((48 * g0_0) + x3)) + 1)) → (x14 = nodeY_0 (((24 * g0_0) + all_0 (((r_0 + 315) + x3)))))) (f4 : (x4 = 0) ∨ ((x4 = (bendMany_0 (((48 * g0_0) + x3)) + 1)) ∨ (x14 = bendY_0 (((24 * ((48 * g0_0) + x3)) + (x4 - 1)))))) (f5 : 1 * x13 + ((-1) * x1 + ((-700) * x3 + ((-28) * x4 + 0))) ≤ 901) (f6 : 1 * x11 + ((-1) * x1 + ((-700) * x3 + ((-28) * x4 + 0))) ≤ 888) (f7 : (x4 = 0) → (x10 = nodeX_0 (((24 * g0_0) + all_0 (((r_0 + 267) + x3)))))) (f8 : (x4 = (bendMany_0 (((48 * g0_0) + x3)) + 1)) → (x10 = nodeX_0 (((24 * g0_0) + all_0 (((r_0 + 315) + x3)))))) (f9 : (x4 = 0) ∨ ((x4 = (bendMany_0 (((48 * g0_0) + x3)) + 1)) ∨ (x10 = bendX_0 (((24 * ((48 * g0_0) + x3)) + (x4 - 1)))))) (f10 : x4 ≤ (bendMany_0 (((48 * g0_0) + x3)) + 1)) (f11 : 1 * x9 + ((-1) * x1 + ((-700) * x3 + ((-28) * x4 + 0))) ≤ 887) (f12 : x7 = (bendMany_0 (((48 * g0_0) + x3)) + 2)) (f14 : 1 * texts_0 + ((-1) * x15 + 0) ≤ 13) (f16 : 1 * x15 + ((-1) * x1 + ((-700) * x3 + ((-28) * x4 + 0))) ≤ 902) (f17 : 1 * x13 + ((-1) * x1 + ((-700) * x3 + ((-28) * x4 + 0))) ≤ 901) (f18 : 1 * x11 + ((-1) * x1 + ((-700) * x3 + ((-28) * x4 + 0))) ≤ 888) (f19 : 1 * x9 + ((-1) * x1 + ((-700) * x3 + ((-28) * x4 + 0))) ≤ 887) (f21 : 1 * x13 + ((-1) * x1 + ((-700) * x3 + ((-28) * x4 + 0))) ≤ 901) (f22 : 1 * x11 + ((-1) * x1 + ((-700) * x3 + ((-28) * x4 + 0))) ≤ 888) (f23 : 1 * x9 + ((-1) * x1 + ((-700) * x3 + ((-28) * x4 + 0))) ≤ 887) (f25 : 1 * x11 + ((-1) * x1 + ((-700) * x3 + ((-28) * x4 + 0))) ≤ 888) (f26 : 1 * x9 + ((-1) * x1 + ((-700) * x3 + ((-28) * x4 + 0))) ≤ 887) (f28 : 1 * x9 + ((-1) * x1 + ((-700) * x3 + ((-28) * x4 + 0))) ≤ 887) (f29 : x6 < x7) (f30 : x6 = x4 + x5) (hK_0_62 : ∀ j : Int, 0 ≤ j → j < 96 → (-300000000) ≤ nodeX_0 j ∧ nodeX_0 j ≤ 300000000) (hK_0_63 : ∀ j : Int, 0 ≤ j → j < 96 → (-300000000) ≤ nodeY_0 j ∧ nodeY_0 j ≤ 300000000) (hK_0_64 : ∀ j : Int, 0 ≤ j → j < 192 → 0 ≤ bendMany_0 j ∧ bendMany_0 j ≤ 24) (hK_0_65 : ∀ j : Int, 0 ≤ j → j < 4608 → (-300000011) ≤ bendX_0 j ∧ bendX_0 j ≤ 221100000) (hK_0_66 : ∀ j : Int, 0 ≤ j → j < 4608 → (-900000000) ≤ bendY_0 j ∧ bendY_0 j ≤ 900000000) (kz_0_139 : 0 ≤ g0_0 ∧ g0_0 ≤ 3) (kz_0_170 : 0 ≤ texts_0 ∧ texts_0 ≤ 100000000) : 1 * texts_0 + ((-1) * x1 + ((-700) * x3 + ((-28) * x16 + 0))) ≤ 887 := by
  first | assumption | (clear f2 f3 f4 f7 f8 f9 hK_0_62 hK_0_63 hK_0_64 hK_0_65 hK_0_66; omega) | (clear hK_0_62 hK_0_63 hK_0_64 hK_0_65 hK_0_66; grind) | omega | grind
def o_Mo_writeDrawing_27 : or_T := (93, 17, [(0, (2, 0, 0, [165])), (1, (0, 0, 99965512, [])), (2, (2, 0, 0, [165])), (3, (0, 0, 47, [])), (4, (0, 1, 24, [])), (5, (0, 1, 1, [])), (6, (0, 2, 25, [])), (7, (0, 3, 26, [])), (9, (0, 0, 99999999, [])), (10, (0, -300000000, 300000000, [])), (11, (0, 0, 99999987, [])), (13, (0, 0, 99999999, [])), (14, (0, -900000000, 900000000, [])), (15, (0, 0, 99999987, [])), (16, (0, 2, 25, []))], [(6, [16, 4], [1]), (23, [15, 1, 3, 4], [902, 1, -1, -700, -28]), (20, [4, 14, 2, 3], [50, 2, 2, 2139, 2005, 2063, 2002, 4, 6, 1, 2, 1, 0, 0, 0, 1, 2, 1, 1, 3, 2, 63, 4, 7, 6, 2, 0, 24, 2, 2, 139, 3, 2, 2, 4, 7, 4, 3, 2, 2, 5, 0, 267, 1, 3]), (20, [4, 2, 3, 14], [50, 2, 3, 1139, 1005, 1064, 1063, 1002, 4, 22, 1, 2, 1, 0, 4, 14, 3, 1, 64, 4, 7, 6, 2, 0, 48, 2, 1, 139, 1, 2, 0, 1, 1, 2, 1, 3, 3, 1, 63, 4, 7, 6, 2, 0, 24, 2, 1, 139, 3, 1, 2, 4, 7, 4, 3, 2, 1, 5, 0, 315, 1, 2]), (20, [4, 2, 3, 14], [50, 1, 2, 1139, 1064, 1066, 3, 6, 1, 2, 1, 0, 0, 0, 3, 22, 1, 2, 1, 0, 4, 14, 3, 1, 64, 4, 7, 6, 2, 0, 48, 2, 1, 139, 1, 2, 0, 1, 1, 2, 1, 3, 3, 1, 66, 4, 15, 6, 2, 0, 24, 4, 7, 6, 2, 0, 48, 2, 1, 139, 1, 2, 5, 2, 1, 0, 0, 1]), (23, [13, 1, 3, 4], [901, 1, -1, -700, -28]), (23, [11, 1, 3, 4], [888, 1, -1, -700, -28]), (20, [4, 10, 2, 3], [50, 2, 2, 2139, 2005, 2062, 2002, 4, 6, 1, 2, 1, 0, 0, 0, 1, 2, 1, 1, 3, 2, 62, 4, 7, 6, 2, 0, 24, 2, 2, 139, 3, 2, 2, 4, 7, 4, 3, 2, 2, 5, 0, 267, 1, 3]), (20, [4, 2, 3, 10], [50, 2, 3, 1139, 1005, 1064, 1062, 1002, 4, 22, 1, 2, 1, 0, 4, 14, 3, 1, 64, 4, 7, 6, 2, 0, 48, 2, 1, 139, 1, 2, 0, 1, 1, 2, 1, 3, 3, 1, 62, 4, 7, 6, 2, 0, 24, 2, 1, 139, 3, 1, 2, 4, 7, 4, 3, 2, 1, 5, 0, 315, 1, 2]), (20, [4, 2, 3, 10], [50, 1, 2, 1139, 1064, 1065, 3, 6, 1, 2, 1, 0, 0, 0, 3, 22, 1, 2, 1, 0, 4, 14, 3, 1, 64, 4, 7, 6, 2, 0, 48, 2, 1, 139, 1, 2, 0, 1, 1, 2, 1, 3, 3, 1, 65, 4, 15, 6, 2, 0, 24, 4, 7, 6, 2, 0, 48, 2, 1, 139, 1, 2, 5, 2, 1, 0, 0, 1]), (20, [4, 2, 3], [50, 1, 1, 1139, 1064, 0, 2, 1, 0, 4, 14, 3, 1, 64, 4, 7, 6, 2, 0, 48, 2, 1, 139, 1, 2, 0, 1]), (23, [9, 1, 3, 4], [887, 1, -1, -700, -28]), (20, [7, 2, 3], [50, 1, 1, 1139, 1064, 1, 2, 1, 0, 4, 14, 3, 1, 64, 4, 7, 6, 2, 0, 48, 2, 1, 139, 1, 2, 0, 2]), (24, [0, 2], []), (20, [2, 15], [30, 13, 1, 1, 170, -1, 0, 0]), (102, [15], [7770675568902916283677847627294075626569627356208558085007249638955617140820833992704, 165170]), (23, [15, 1, 3, 4], [902, 1, -1, -700, -28]), (23, [13, 1, 3, 4], [901, 1, -1, -700, -28]), (23, [11, 1, 3, 4], [888, 1, -1, -700, -28]), (23, [9, 1, 3, 4], [887, 1, -1, -700, -28]), (102, [13], [7770675568902916283677847627294075626569627356208558085007249638955617140820833992704, 165170]), (23, [13, 1, 3, 4], [901, 1, -1, -700, -28]), (23, [11, 1, 3, 4], [888, 1, -1, -700, -28]), (23, [9, 1, 3, 4], [887, 1, -1, -700, -28]), (102, [11], [7770675568902916283677847627294075626569627356208558085007249638955617140820833992704, 165170]), (23, [11, 1, 3, 4], [888, 1, -1, -700, -28]), (23, [9, 1, 3, 4], [887, 1, -1, -700, -28]), (102, [9], [7770675568902916283677847627294075626569627356208558085007249638955617140820833992704, 165170]), (23, [9, 1, 3, 4], [887, 1, -1, -700, -28]), (7, [6, 7], [2]), (1, [6, 4, 5], [])], [], [], [(20, [2, 1, 3, 16], [30, 887, 1, 1, 170, -1, 0, 0, -700, 0, 0, -28, 0, 0])], [], [(16, 4, 1, 1), (6, 7, -4294967296, -1), (6, 4, 1, 1)])
theorem oo_Mo_writeDrawing_27 {kA : Nat → ClassId} : or_ok PRD kA GG o_Mo_writeDrawing_27 := by
  refine or_mk fun A ta ws vs hD hth hl => ?_
  intro t0 r0 t1 k1 t2 r2 t3 k3 t4 k4 t5 k5 t6 k6 t7 k7 t9 k9 t10 k10 t11 k11 t13 k13 t14 k14 t15 k15 t16 k16 d0 d1 d2 f0 f1 f2 f3 f4 f5 f6 f7 f8 f9 f10 f11 f12 f13 f14 ta1 w1 le1 s1 f16 f17 f18 f19 ta2 w2 le2 s2 f21 f22 f23 ta3 w3 le3 s3 f25 f26 ta4 w4 le4 s4 f28 f29 f30
  replace f0 := shm_4 f0
  replace f1 := shm_1938 f1
  replace f2 := shm_1427 f2
  replace f3 := shm_1428 f3
  replace f4 := shm_1429 f4
  replace f5 := shm_1937 f5
  replace f6 := shm_1936 f6
  replace f7 := shm_1423 f7
  replace f8 := shm_1424 f8
  replace f9 := shm_1425 f9
  replace f10 := shm_1421 f10
  replace f11 := shm_1935 f11
  replace f12 := shm_683 f12
  replace f13 := shm_5 f13
  replace f14 := shm_1056 f14
  replace f16 := shm_1938 f16
  replace f17 := shm_1937 f17
  replace f18 := shm_1936 f18
  replace f19 := shm_1935 f19
  replace f21 := shm_1937 f21
  replace f22 := shm_1936 f22
  replace f23 := shm_1935 f23
  replace f25 := shm_1936 f25
  replace f26 := shm_1935 f26
  replace f28 := shm_1935 f28
  replace f29 := shm_6 f29
  replace f30 := shm_12 f30
  have q2 : n_v vs 2 = n_v vs 0 := f13.symm
  simp only [q2] at f2 f3 f4 f7 f8 f9 f10 f12 f14
  have cr_0_62 := fdq_173 hD hth r0
  have cr_0_63 := fdq_174 hD hth r0
  have cr_0_64 := fdq_171 hD hth r0
  have cr_0_65 := fdq_292 hD hth r0
  have cr_0_66 := fdq_293 hD hth r0
  have hK_0_62 := elq_102 hD hth cr_0_62
  have hK_0_63 := elq_103 hD hth cr_0_63
  have hK_0_64 := elq_101 hD hth cr_0_64
  have hK_0_65 := elq_184 hD hth cr_0_65
  have hK_0_66 := elq_185 hD hth cr_0_66
  have kz_0_139 := fdq_172 hD hth r0
  have kz_0_170 := fdq_11 hD hth r0
  have nf0 : fc_1 PRD (20, [2, 1, 3, 16], [30, 887, 1, 1, 170, -1, 0, 0, -700, 0, 0, -28, 0, 0]) ws (vs) := by
    refine ⟨nf_in hl rfl, sgq_1933 ?_⟩
    · show 1 * w_fi ws (n_v vs 2) 170 + ((-1) * v_iv (n_v vs 1) + ((-700) * v_iv (n_v vs 3) + ((-28) * v_iv (n_v vs 16) + 0))) ≤ 887
      rw [q2]
      exact vc_Mo_writeDrawing_27_0 (v_iv (n_v vs 1)) (v_iv (n_v vs 3)) (v_iv (n_v vs 4)) (v_iv (n_v vs 5)) (v_iv (n_v vs 6)) (v_iv (n_v vs 7)) (v_iv (n_v vs 9)) (v_iv (n_v vs 10)) (v_iv (n_v vs 11)) (v_iv (n_v vs 13)) (v_iv (n_v vs 14)) (v_iv (n_v vs 15)) (v_iv (n_v vs 16)) (w_ei ws (w_ar ws (n_v vs 0) 63)) (w_ei ws (w_ar ws (n_v vs 0) 2)) (w_fi ws (n_v vs 0) 139) (w_fi ws (n_v vs 0) 5) (w_ei ws (w_ar ws (n_v vs 0) 64)) (w_ei ws (w_ar ws (n_v vs 0) 66)) (w_ei ws (w_ar ws (n_v vs 0) 62)) (w_ei ws (w_ar ws (n_v vs 0) 65)) (w_fi ws (n_v vs 0) 170) k1 k3 k4 k5 k6 k7 k9 k10 k11 k13 k14 k15 k16 d0 d1 d2 f0 f1 f2 f3 f4 f5 f6 f7 f8 f9 f10 f11 f12 f14 f16 f17 f18 f19 f21 f22 f23 f25 f26 f28 f29 f30 hK_0_62 hK_0_63 hK_0_64 hK_0_65 hK_0_66 kz_0_139 kz_0_170
  refine ⟨(fun _ h => (by cases h)), [], trivial, ?_, (fun _ h => (by cases h))⟩
  rw [List.append_nil]
  exact List.forall_mem_cons.mpr ⟨⟨show (20 : Nat) < 100 from by decide, nf0⟩, (fun _ h => (by cases h))⟩
set_option maxHeartbeats 4000000 in
theorem vc_Mo_writeDrawing_28_0 (x1 : Int) (x3 : Int) (x4 : Int) (x5 : Int) (x6 : Int) (x7 : Int) (x9 : Int) (x10 : Int) (x11 : Int) (x13 : Int) (x14 : Int) (nodeY_0 : Int → Int) (all_0 : Int → Int) (g0_0 : Int) (r_0 : Int) (bendMany_0 : Int → Int) (bendY_0 : Int → Int) (nodeX_0 : Int → Int) (bendX_0 : Int → Int) (texts_0 : Int) (gx : Int) (k1 : 0 ≤ x1 ∧ x1 ≤ 99965512) (k3 : 0 ≤ x3 ∧ x3 ≤ 47) (k4 : 1 ≤ x4 ∧ x4 ≤ 24) (k5 : 1 ≤ x5 ∧ x5 ≤ 1) (k6 : 2 ≤ x6 ∧ x6 ≤ 25) (k7 : 3 ≤ x7 ∧ x7 ≤ 26) (k9 : 0 ≤ x9 ∧ x9 ≤ 99999999) (k10 : (-300000000) ≤ x10 ∧ x10 ≤ 300000000) (k11 : 0 ≤ x11 ∧ x11 ≤ 99999987) (k13 : 0 ≤ x13 ∧ x13 ≤ 99999999) (k14 : (-300000000) ≤ x14 ∧ x14 ≤ 300000000) (d0 : x7 + (-4294967296) ≤ x6 ∧ x6 ≤ x7 + (-1)) (d1 : x4 + 1 ≤ x6 ∧ x6 ≤ x4 + 1) (f0 : (x4 = 0) → (x14 = nodeY_0 (((24 * g0_0) + all_0 (((r_0 + 267) + x3)))))) (f1 : (x4 = (bendMany_0 (((48 * g0_0) + x3)) + 1)) → (x14 = nodeY_0 (((24 * g0_0) + all_0 (((r_0 + 315) + x3)))))) (f2 : (x4 = 0) ∨ ((x4 = (bendMany_0 (((48 * g0_0) + x3)) + 1)) ∨ (x14 = bendY_0 (((24 * ((48 * g0_0) + x3)) + (x4 - 1)))))) (f3 : 1 * x13 + ((-1) * x1 + ((-700) * x3 + ((-28) * x4 + 0))) ≤ 901) (f4 : 1 * x11 + ((-1) * x1 + ((-700) * x3 + ((-28) * x4 + 0))) ≤ 888) (f5 : (x4 = 0) → (x10 = nodeX_0 (((24 * g0_0) + all_0 (((r_0 + 267) + x3)))))) (f6 : (x4 = (bendMany_0 (((48 * g0_0) + x3)) + 1)) → (x10 = nodeX_0 (((24 * g0_0) + all_0 (((r_0 + 315) + x3)))))) (f7 : (x4 = 0) ∨ ((x4 = (bendMany_0 (((48 * g0_0) + x3)) + 1)) ∨ (x10 = bendX_0 (((24 * ((48 * g0_0) + x3)) + (x4 - 1)))))) (f8 : x4 ≤ (bendMany_0 (((48 * g0_0) + x3)) + 1)) (f9 : 1 * x9 + ((-1) * x1 + ((-700) * x3 + ((-28) * x4 + 0))) ≤ 887) (f10 : x7 = (bendMany_0 (((48 * g0_0) + x3)) + 2)) (f12 : 1 * texts_0 + ((-1) * x13 + 0) ≤ 1) (f14 : 1 * x13 + ((-1) * x1 + ((-700) * x3 + ((-28) * x4 + 0))) ≤ 901) (f15 : 1 * x11 + ((-1) * x1 + ((-700) * x3 + ((-28) * x4 + 0))) ≤ 888) (f16 : 1 * x9 + ((-1) * x1 + ((-700) * x3 + ((-28) * x4 + 0))) ≤ 887) (f18 : 1 * x11 + ((-1) * x1 + ((-700) * x3 + ((-28) * x4 + 0))) ≤ 888) (f19 : 1 * x9 + ((-1) * x1 + ((-700) * x3 + ((-28) * x4 + 0))) ≤ 887) (f21 : 1 * x9 + ((-1) * x1 + ((-700) * x3 + ((-28) * x4 + 0))) ≤ 887) (f22 : x6 < x7) (f23 : x6 = x4 + x5) (hK_0_62 : ∀ j : Int, 0 ≤ j → j < 96 → (-300000000) ≤ nodeX_0 j ∧ nodeX_0 j ≤ 300000000) (hK_0_63 : ∀ j : Int, 0 ≤ j → j < 96 → (-300000000) ≤ nodeY_0 j ∧ nodeY_0 j ≤ 300000000) (hK_0_64 : ∀ j : Int, 0 ≤ j → j < 192 → 0 ≤ bendMany_0 j ∧ bendMany_0 j ≤ 24) (hK_0_65 : ∀ j : Int, 0 ≤ j → j < 4608 → (-300000011) ≤ bendX_0 j ∧ bendX_0 j ≤ 221100000) (hK_0_66 : ∀ j : Int, 0 ≤ j → j < 4608 → (-900000000) ≤ bendY_0 j ∧ bendY_0 j ≤ 900000000) (kz_0_139 : 0 ≤ g0_0 ∧ g0_0 ≤ 3) (kz_0_170 : 0 ≤ texts_0 ∧ texts_0 ≤ 100000000) (ex2 : gx = texts_0) (ex3 : 0 ≤ gx ∧ gx ≤ 99999987) : 1 * texts_0 + ((-1) * gx + 0) ≤ 0 := by
  first | assumption | (clear f0 f1 f2 f5 f6 f7 hK_0_62 hK_0_63 hK_0_64 hK_0_65 hK_0_66; omega) | (clear hK_0_62 hK_0_63 hK_0_64 hK_0_65 hK_0_66; grind) | omega | grind
set_option maxHeartbeats 4000000 in
theorem vc_Mo_writeDrawing_28_1 (x1 : Int) (x3 : Int) (x4 : Int) (x5 : Int) (x6 : Int) (x7 : Int) (x9 : Int) (x10 : Int) (x11 : Int) (x13 : Int) (x14 : Int) (nodeY_0 : Int → Int) (all_0 : Int → Int) (g0_0 : Int) (r_0 : Int) (bendMany_0 : Int → Int) (bendY_0 : Int → Int) (nodeX_0 : Int → Int) (bendX_0 : Int → Int) (texts_0 : Int) (gx : Int) (k1 : 0 ≤ x1 ∧ x1 ≤ 99965512) (k3 : 0 ≤ x3 ∧ x3 ≤ 47) (k4 : 1 ≤ x4 ∧ x4 ≤ 24) (k5 : 1 ≤ x5 ∧ x5 ≤ 1) (k6 : 2 ≤ x6 ∧ x6 ≤ 25) (k7 : 3 ≤ x7 ∧ x7 ≤ 26) (k9 : 0 ≤ x9 ∧ x9 ≤ 99999999) (k10 : (-300000000) ≤ x10 ∧ x10 ≤ 300000000) (k11 : 0 ≤ x11 ∧ x11 ≤ 99999987) (k13 : 0 ≤ x13 ∧ x13 ≤ 99999999) (k14 : (-300000000) ≤ x14 ∧ x14 ≤ 300000000) (d0 : x7 + (-4294967296) ≤ x6 ∧ x6 ≤ x7 + (-1)) (d1 : x4 + 1 ≤ x6 ∧ x6 ≤ x4 + 1) (f0 : (x4 = 0) → (x14 = nodeY_0 (((24 * g0_0) + all_0 (((r_0 + 267) + x3)))))) (f1 : (x4 = (bendMany_0 (((48 * g0_0) + x3)) + 1)) → (x14 = nodeY_0 (((24 * g0_0) + all_0 (((r_0 + 315) + x3)))))) (f2 : (x4 = 0) ∨ ((x4 = (bendMany_0 (((48 * g0_0) + x3)) + 1)) ∨ (x14 = bendY_0 (((24 * ((48 * g0_0) + x3)) + (x4 - 1)))))) (f3 : 1 * x13 + ((-1) * x1 + ((-700) * x3 + ((-28) * x4 + 0))) ≤ 901) (f4 : 1 * x11 + ((-1) * x1 + ((-700) * x3 + ((-28) * x4 + 0))) ≤ 888) (f5 : (x4 = 0) → (x10 = nodeX_0 (((24 * g0_0) + all_0 (((r_0 + 267) + x3)))))) (f6 : (x4 = (bendMany_0 (((48 * g0_0) + x3)) + 1)) → (x10 = nodeX_0 (((24 * g0_0) + all_0 (((r_0 + 315) + x3)))))) (f7 : (x4 = 0) ∨ ((x4 = (bendMany_0 (((48 * g0_0) + x3)) + 1)) ∨ (x10 = bendX_0 (((24 * ((48 * g0_0) + x3)) + (x4 - 1)))))) (f8 : x4 ≤ (bendMany_0 (((48 * g0_0) + x3)) + 1)) (f9 : 1 * x9 + ((-1) * x1 + ((-700) * x3 + ((-28) * x4 + 0))) ≤ 887) (f10 : x7 = (bendMany_0 (((48 * g0_0) + x3)) + 2)) (f12 : 1 * texts_0 + ((-1) * x13 + 0) ≤ 1) (f14 : 1 * x13 + ((-1) * x1 + ((-700) * x3 + ((-28) * x4 + 0))) ≤ 901) (f15 : 1 * x11 + ((-1) * x1 + ((-700) * x3 + ((-28) * x4 + 0))) ≤ 888) (f16 : 1 * x9 + ((-1) * x1 + ((-700) * x3 + ((-28) * x4 + 0))) ≤ 887) (f18 : 1 * x11 + ((-1) * x1 + ((-700) * x3 + ((-28) * x4 + 0))) ≤ 888) (f19 : 1 * x9 + ((-1) * x1 + ((-700) * x3 + ((-28) * x4 + 0))) ≤ 887) (f21 : 1 * x9 + ((-1) * x1 + ((-700) * x3 + ((-28) * x4 + 0))) ≤ 887) (f22 : x6 < x7) (f23 : x6 = x4 + x5) (hK_0_62 : ∀ j : Int, 0 ≤ j → j < 96 → (-300000000) ≤ nodeX_0 j ∧ nodeX_0 j ≤ 300000000) (hK_0_63 : ∀ j : Int, 0 ≤ j → j < 96 → (-300000000) ≤ nodeY_0 j ∧ nodeY_0 j ≤ 300000000) (hK_0_64 : ∀ j : Int, 0 ≤ j → j < 192 → 0 ≤ bendMany_0 j ∧ bendMany_0 j ≤ 24) (hK_0_65 : ∀ j : Int, 0 ≤ j → j < 4608 → (-300000011) ≤ bendX_0 j ∧ bendX_0 j ≤ 221100000) (hK_0_66 : ∀ j : Int, 0 ≤ j → j < 4608 → (-900000000) ≤ bendY_0 j ∧ bendY_0 j ≤ 900000000) (kz_0_139 : 0 ≤ g0_0 ∧ g0_0 ≤ 3) (kz_0_170 : 0 ≤ texts_0 ∧ texts_0 ≤ 100000000) (ex2 : gx = texts_0) (ex3 : 0 ≤ gx ∧ gx ≤ 99999987) : 1 * gx + ((-1) * x1 + ((-700) * x3 + ((-28) * x4 + 0))) ≤ 902 := by
  first | assumption | (clear f0 f1 f2 f5 f6 f7 hK_0_62 hK_0_63 hK_0_64 hK_0_65 hK_0_66; omega) | (clear hK_0_62 hK_0_63 hK_0_64 hK_0_65 hK_0_66; grind) | omega | grind
def o_Mo_writeDrawing_28 : or_T := (133, 15, [(0, (2, 0, 0, [165])), (1, (0, 0, 99965512, [])), (2, (2, 0, 0, [165])), (3, (0, 0, 47, [])), (4, (0, 1, 24, [])), (5, (0, 1, 1, [])), (6, (0, 2, 25, [])), (7, (0, 3, 26, [])), (9, (0, 0, 99999999, [])), (10, (0, -300000000, 300000000, [])), (11, (0, 0, 99999987, [])), (13, (0, 0, 99999999, [])), (14, (0, -300000000, 300000000, []))], [(20, [4, 14, 2, 3], [50, 2, 2, 2139, 2005, 2063, 2002, 4, 6, 1, 2, 1, 0, 0, 0, 1, 2, 1, 1, 3, 2, 63, 4, 7, 6, 2, 0, 24, 2, 2, 139, 3, 2, 2, 4, 7, 4, 3, 2, 2, 5, 0, 267, 1, 3]), (20, [4, 2, 3, 14], [50, 2, 3, 1139, 1005, 1064, 1063, 1002, 4, 22, 1, 2, 1, 0, 4, 14, 3, 1, 64, 4, 7, 6, 2, 0, 48, 2, 1, 139, 1, 2, 0, 1, 1, 2, 1, 3, 3, 1, 63, 4, 7, 6, 2, 0, 24, 2, 1, 139, 3, 1, 2, 4, 7, 4, 3, 2, 1, 5, 0, 315, 1, 2]), (20, [4, 2, 3, 14], [50, 1, 2, 1139, 1064, 1066, 3, 6, 1, 2, 1, 0, 0, 0, 3, 22, 1, 2, 1, 0, 4, 14, 3, 1, 64, 4, 7, 6, 2, 0, 48, 2, 1, 139, 1, 2, 0, 1, 1, 2, 1, 3, 3, 1, 66, 4, 15, 6, 2, 0, 24, 4, 7, 6, 2, 0, 48, 2, 1, 139, 1, 2, 5, 2, 1, 0, 0, 1]), (23, [13, 1, 3, 4], [901, 1, -1, -700, -28]), (23, [11, 1, 3, 4], [888, 1, -1, -700, -28]), (20, [4, 10, 2, 3], [50, 2, 2, 2139, 2005, 2062, 2002, 4, 6, 1, 2, 1, 0, 0, 0, 1, 2, 1, 1, 3, 2, 62, 4, 7, 6, 2, 0, 24, 2, 2, 139, 3, 2, 2, 4, 7, 4, 3, 2, 2, 5, 0, 267, 1, 3]), (20, [4, 2, 3, 10], [50, 2, 3, 1139, 1005, 1064, 1062, 1002, 4, 22, 1, 2, 1, 0, 4, 14, 3, 1, 64, 4, 7, 6, 2, 0, 48, 2, 1, 139, 1, 2, 0, 1, 1, 2, 1, 3, 3, 1, 62, 4, 7, 6, 2, 0, 24, 2, 1, 139, 3, 1, 2, 4, 7, 4, 3, 2, 1, 5, 0, 315, 1, 2]), (20, [4, 2, 3, 10], [50, 1, 2, 1139, 1064, 1065, 3, 6, 1, 2, 1, 0, 0, 0, 3, 22, 1, 2, 1, 0, 4, 14, 3, 1, 64, 4, 7, 6, 2, 0, 48, 2, 1, 139, 1, 2, 0, 1, 1, 2, 1, 3, 3, 1, 65, 4, 15, 6, 2, 0, 24, 4, 7, 6, 2, 0, 48, 2, 1, 139, 1, 2, 5, 2, 1, 0, 0, 1]), (20, [4, 2, 3], [50, 1, 1, 1139, 1064, 0, 2, 1, 0, 4, 14, 3, 1, 64, 4, 7, 6, 2, 0, 48, 2, 1, 139, 1, 2, 0, 1]), (23, [9, 1, 3, 4], [887, 1, -1, -700, -28]), (20, [7, 2, 3], [50, 1, 1, 1139, 1064, 1, 2, 1, 0, 4, 14, 3, 1, 64, 4, 7, 6, 2, 0, 48, 2, 1, 139, 1, 2, 0, 2]), (24, [0, 2], []), (20, [2, 13], [30, 1, 1, 1, 170, -1, 0, 0]), (102, [13], [7770675568902916283677847627294075626569627356208558085007249638955617140820833992704, 165170]), (23, [13, 1, 3, 4], [901, 1, -1, -700, -28]), (23, [11, 1, 3, 4], [888, 1, -1, -700, -28]), (23, [9, 1, 3, 4], [887, 1, -1, -700, -28]), (102, [11], [7770675568902916283677847627294075626569627356208558085007249638955617140820833992704, 165170]), (23, [11, 1, 3, 4], [888, 1, -1, -700, -28]), (23, [9, 1, 3, 4], [887, 1, -1, -700, -28]), (102, [9], [7770675568902916283677847627294075626569627356208558085007249638955617140820833992704, 165170]), (23, [9, 1, 3, 4], [887, 1, -1, -700, -28]), (7, [6, 7], [2]), (1, [6, 4, 5], [])], [], [(0, 0, 99999987, [])], [(20, [2, 15], [30, 0, 1, 1, 170, -1, 0, 0]), (23, [15, 1, 3, 4], [902, 1, -1, -700, -28])], [], [(6, 7, -4294967296, -1), (6, 4, 1, 1)])
theorem oo_Mo_writeDrawing_28 {kA : Nat → ClassId} : or_ok PRD kA GG o_Mo_writeDrawing_28 := by
  refine or_mk fun A ta ws vs hD hth hl => ?_
  intro t0 r0 t1 k1 t2 r2 t3 k3 t4 k4 t5 k5 t6 k6 t7 k7 t9 k9 t10 k10 t11 k11 t13 k13 t14 k14 d0 d1 f0 f1 f2 f3 f4 f5 f6 f7 f8 f9 f10 f11 f12 ta1 w1 le1 s1 f14 f15 f16 ta2 w2 le2 s2 f18 f19 ta3 w3 le3 s3 f21 f22 f23
  replace f0 := shm_1427 f0
  replace f1 := shm_1428 f1
  replace f2 := shm_1429 f2
  replace f3 := shm_1937 f3
  replace f4 := shm_1936 f4
  replace f5 := shm_1423 f5
  replace f6 := shm_1424 f6
  replace f7 := shm_1425 f7
  replace f8 := shm_1421 f8
  replace f9 := shm_1935 f9
  replace f10 := shm_683 f10
  replace f11 := shm_5 f11
  replace f12 := shm_132 f12
  replace f14 := shm_1937 f14
  replace f15 := shm_1936 f15
  replace f16 := shm_1935 f16
  replace f18 := shm_1936 f18
  replace f19 := shm_1935 f19
  replace f21 := shm_1935 f21
  replace f22 := shm_6 f22
  replace f23 := shm_12 f23
  have q2 : n_v vs 2 = n_v vs 0 := f11.symm
  simp only [q2] at f0 f1 f2 f5 f6 f7 f8 f10 f12
  have cr_0_2 := fdq_10 hD hth r0
  have cr_0_62 := fdq_173 hD hth r0
  have cr_0_63 := fdq_174 hD hth r0
  have cr_0_64 := fdq_171 hD hth r0
  have cr_0_65 := fdq_292 hD hth r0
  have cr_0_66 := fdq_293 hD hth r0
  have hK_0_62 := elq_102 hD hth cr_0_62
  have hK_0_63 := elq_103 hD hth cr_0_63
  have hK_0_64 := elq_101 hD hth cr_0_64
  have hK_0_65 := elq_184 hD hth cr_0_65
  have hK_0_66 := elq_185 hD hth cr_0_66
  have kz_0_139 := fdq_172 hD hth r0
  have kz_0_170 := fdq_11 hD hth r0
  have kv0 := fdq_11 hD hth r0
  obtain ⟨x, ex, hx⟩ := iv_ex (ta := ta) (lo := 0) (hi := 99999987) (z := w_fi ws (n_v vs 0) 170) (by omega) (by omega) (by omega) (by omega)
  have ex2 : v_iv (Value.int x) = w_fi ws (n_v vs 0) 170 := ex
  have ex3 : 0 ≤ v_iv (Value.int x) ∧ v_iv (Value.int x) ≤ 99999987 := tv_rng hx
  have e_1 : n_v (vs ++ [Value.int x]) 1 = n_v vs 1 := n_v_old (by rw [hl]; decide)
  have e_2 : n_v (vs ++ [Value.int x]) 2 = n_v vs 2 := n_v_old (by rw [hl]; decide)
  have e_3 : n_v (vs ++ [Value.int x]) 3 = n_v vs 3 := n_v_old (by rw [hl]; decide)
  have e_4 : n_v (vs ++ [Value.int x]) 4 = n_v vs 4 := n_v_old (by rw [hl]; decide)
  have e_15 : n_v (vs ++ [Value.int x]) 15 = Value.int x := n_v_new hl
  have nf0 : fc_1 PRD (20, [2, 15], [30, 0, 1, 1, 170, -1, 0, 0]) ws (vs ++ [Value.int x]) := by
    refine ⟨nf_inA hl rfl, sgq_131 ?_⟩
    · show 1 * w_fi ws (n_v (vs ++ [Value.int x]) 2) 170 + ((-1) * v_iv (n_v (vs ++ [Value.int x]) 15) + 0) ≤ 0
      simp only [e_2, e_15, q2]
      exact vc_Mo_writeDrawing_28_0 (v_iv (n_v vs 1)) (v_iv (n_v vs 3)) (v_iv (n_v vs 4)) (v_iv (n_v vs 5)) (v_iv (n_v vs 6)) (v_iv (n_v vs 7)) (v_iv (n_v vs 9)) (v_iv (n_v vs 10)) (v_iv (n_v vs 11)) (v_iv (n_v vs 13)) (v_iv (n_v vs 14)) (w_ei ws (w_ar ws (n_v vs 0) 63)) (w_ei ws (w_ar ws (n_v vs 0) 2)) (w_fi ws (n_v vs 0) 139) (w_fi ws (n_v vs 0) 5) (w_ei ws (w_ar ws (n_v vs 0) 64)) (w_ei ws (w_ar ws (n_v vs 0) 66)) (w_ei ws (w_ar ws (n_v vs 0) 62)) (w_ei ws (w_ar ws (n_v vs 0) 65)) (w_fi ws (n_v vs 0) 170) (v_iv (Value.int x)) k1 k3 k4 k5 k6 k7 k9 k10 k11 k13 k14 d0 d1 f0 f1 f2 f3 f4 f5 f6 f7 f8 f9 f10 f12 f14 f15 f16 f18 f19 f21 f22 f23 hK_0_62 hK_0_63 hK_0_64 hK_0_65 hK_0_66 kz_0_139 kz_0_170 ex2 ex3
  have nf1 : fc_1 PRD (23, [15, 1, 3, 4], [902, 1, -1, -700, -28]) ws (vs ++ [Value.int x]) := by
    refine ⟨nf_inA hl rfl, sgq_1938 ?_⟩
    · show 1 * v_iv (n_v (vs ++ [Value.int x]) 15) + ((-1) * v_iv (n_v (vs ++ [Value.int x]) 1) + ((-700) * v_iv (n_v (vs ++ [Value.int x]) 3) + ((-28) * v_iv (n_v (vs ++ [Value.int x]) 4) + 0))) ≤ 902
      simp only [e_1, e_3, e_4, e_15]
      exact vc_Mo_writeDrawing_28_1 (v_iv (n_v vs 1)) (v_iv (n_v vs 3)) (v_iv (n_v vs 4)) (v_iv (n_v vs 5)) (v_iv (n_v vs 6)) (v_iv (n_v vs 7)) (v_iv (n_v vs 9)) (v_iv (n_v vs 10)) (v_iv (n_v vs 11)) (v_iv (n_v vs 13)) (v_iv (n_v vs 14)) (w_ei ws (w_ar ws (n_v vs 0) 63)) (w_ei ws (w_ar ws (n_v vs 0) 2)) (w_fi ws (n_v vs 0) 139) (w_fi ws (n_v vs 0) 5) (w_ei ws (w_ar ws (n_v vs 0) 64)) (w_ei ws (w_ar ws (n_v vs 0) 66)) (w_ei ws (w_ar ws (n_v vs 0) 62)) (w_ei ws (w_ar ws (n_v vs 0) 65)) (w_fi ws (n_v vs 0) 170) (v_iv (Value.int x)) k1 k3 k4 k5 k6 k7 k9 k10 k11 k13 k14 d0 d1 f0 f1 f2 f3 f4 f5 f6 f7 f8 f9 f10 f12 f14 f15 f16 f18 f19 f21 f22 f23 hK_0_62 hK_0_63 hK_0_64 hK_0_65 hK_0_66 kz_0_139 kz_0_170 ex2 ex3
  exact ⟨(fun _ h => (by cases h)), [Value.int x], ag_one hx, List.forall_mem_cons.mpr ⟨⟨show (20 : Nat) < 100 from by decide, nf0⟩, List.forall_mem_cons.mpr ⟨⟨show (23 : Nat) < 100 from by decide, nf1⟩, (fun _ h => (by cases h))⟩⟩, (fun _ h => (by cases h))⟩
set_option maxHeartbeats 4000000 in
theorem vc_Mo_writeDrawing_29_0 (x1 : Int) (x3 : Int) (x4 : Int) (x5 : Int) (x6 : Int) (x7 : Int) (x9 : Int) (x10 : Int) (x11 : Int) (x13 : Int) (x14 : Int) (x15 : Int) (x16 : Int) (nodeY_0 : Int → Int) (all_0 : Int → Int) (g0_0 : Int) (r_0 : Int) (bendMany_0 : Int → Int) (bendY_0 : Int → Int) (nodeX_0 : Int → Int) (bendX_0 : Int → Int) (texts_0 : Int) (k1 : 0 ≤ x1 ∧ x1 ≤ 99965512) (k3 : 0 ≤ x3 ∧ x3 ≤ 47) (k4 : 1 ≤ x4 ∧ x4 ≤ 24) (k5 : 1 ≤ x5 ∧ x5 ≤ 1) (k6 : 2 ≤ x6 ∧ x6 ≤ 25) (k7 : 3 ≤ x7 ∧ x7 ≤ 26) (k9 : 0 ≤ x9 ∧ x9 ≤ 99999999) (k10 : (-300000000) ≤ x10 ∧ x10 ≤ 300000000) (k11 : 0 ≤ x11 ∧ x11 ≤ 99999987) (k13 : 0 ≤ x13 ∧ x13 ≤ 99999999) (k14 : (-300000000) ≤ x14 ∧ x14 ≤ 300000000) (k15 : 0 ≤ x15 ∧ x15 ≤ 99999987) (k16 : 2 ≤ x16 ∧ x16 ≤ 25) (d0 : x4 + 1 ≤ x16 ∧ x16 ≤ x4 + 1) (d1 : x7 + (-4294967296) ≤ x6 ∧ x6 ≤ x7 + (-1)) (d2 : x4 + 1 ≤ x6 ∧ x6 ≤ x4 + 1) (f0 : x16 = x4 + 1) (f1 : 1 * x15 + ((-1) * x1 + ((-700) * x3 + ((-28) * x4 + 0))) ≤ 902) (f2 : (x4 = 0) → (x14 = nodeY_0 (((24 * g0_0) + all_0 (((r_0 + 267) + x3)))))) (f3 : (x4 = (bendMany_0 (((48 * g0_0) + x3)) + 1)) → (x14 = nodeY_0 (((24 * g0_0) + all_0 (((r_0 + 315) + x3)))))) (f4 : (x4 = 0) ∨ ((x4 = (bendMany_0 (((48 * g0_0) + x3)) + 1)) ∨ (x14 = bendY_0 (((24 * ((48 * g0_0) + x3)) + (x4 - 1)))))) (f5 : 1 * x13 + ((-1) * x1 + ((-700) * x3 + ((-28) * x4 + 0))) ≤ 901) (f6 : 1 * x11 + ((-1) * x1 + ((-700) * x3 + ((-28) * x4 + 0))) ≤ 888) (f7 : (x4 = 0) → (x10 = nodeX_0 (((24 * g0_0) + all_0 (((r_0 + 267) + x3)))))) (f8 : (x4 = (bendMany_0 (((48 * g0_0) + x3)) + 1)) → (x10 = nodeX_0 (((24 * g0_0) + all_0 (((r_0 + 315) + x3)))))) (f9 : (x4 = 0) ∨ ((x4 = (bendMany_0 (((48 * g0_0) + x3)) + 1)) ∨ (x10 = bendX_0 (((24 * ((48 * g0_0) + x3)) + (x4 - 1)))))) (f10 : x4 ≤ (bendMany_0 (((48 * g0_0) + x3)) + 1)) (f11 : 1 * x9 + ((-1) * x1 + ((-700) * x3 + ((-28) * x4 + 0))) ≤ 887) (f12 : x7 = (bendMany_0 (((48 * g0_0) + x3)) + 2)) (f14 : 1 * texts_0 + ((-1) * x15 + 0) ≤ 13) (f16 : 1 * x15 + ((-1) * x1 + ((-700) * x3 + ((-28) * x4 + 0))) ≤ 902) (f17 : 1 * x13 + ((-1) * x1 + ((-700) * x3 + ((-28) * x4 + 0))) ≤ 901) (f18 : 1 * x11 + ((-1) * x1 + ((-700) * x3 + ((-28) * x4 + 0))) ≤ 888) (f19 : 1 * x9 + ((-1) * x1 + ((-700) * x3 + ((-28) * x4 + 0))) ≤ 887) (f21 : 1 * x13 + ((-1) * x1 + ((-700) * x3 + ((-28) * x4 + 0))) ≤ 901) (f22 : 1 * x11 + ((-1) * x1 + ((-700) * x3 + ((-28) * x4 + 0))) ≤ 888) (f23 : 1 * x9 + ((-1) * x1 + ((-700) * x3 + ((-28) * x4 + 0))) ≤ 887) (f25 : 1 * x11 + ((-1) * x1 + ((-700) * x3 + ((-28) * x4 + 0))) ≤ 888) (f26 : 1 * x9 + ((-1) * x1 + ((-700) * x3 + ((-28) * x4 + 0))) ≤ 887) (f28 : 1 * x9 + ((-1) * x1 + ((-700) * x3 + ((-28) * x4 + 0))) ≤ 887) (f29 : x6 < x7) (f30 : x6 = x4 + x5) (hK_0_62 : ∀ j : Int, 0 ≤ j → j < 96 → (-300000000) ≤ nodeX_0 j ∧ nodeX_0 j ≤ 300000000) (hK_0_63 : ∀ j : Int, 0 ≤ j → j < 96 → (-300000000) ≤ nodeY_0 j ∧ nodeY_0 j ≤ 300000000) (hK_0_64 : ∀ j : Int, 0 ≤ j → j < 192 → 0 ≤ bendMany_0 j ∧ bendMany_0 j ≤ 24) (hK_0_65 : ∀ j : Int, 0 ≤ j → j < 4608 → (-300000011) ≤ bendX_0 j ∧ bendX_0 j ≤ 221100000) (hK_0_66 : ∀ j : Int, 0 ≤ j → j < 4608 → (-900000000) ≤ bendY_0 j ∧ bendY_0 j ≤ 900000000) (kz_0_139 : 0 ≤ g0_0 ∧ g0_0 ≤ 3) (kz_0_170 : 0 ≤ texts_0 ∧ texts_0 ≤ 100000000) : 1 * texts_0 + ((-1) * x1 + ((-700) * x3 + ((-28) * x16 + 0))) ≤ 887 := by
  first | assumption | (clear f2 f3 f4 f7 f8 f9 hK_0_62 hK_0_63 hK_0_64 hK_0_65 hK_0_66; omega) | (clear hK_0_62 hK_0_63 hK_0_64 hK_0_65 hK_0_66; grind) | omega | grind
def o_Mo_writeDrawing_29 : or_T := (93, 17, [(0, (2, 0, 0, [165])), (1, (0, 0, 99965512, [])), (2, (2, 0, 0, [165])), (3, (0, 0, 47, [])), (4, (0, 1, 24, [])), (5, (0, 1, 1, [])), (6, (0, 2, 25, [])), (7, (0, 3, 26, [])), (9, (0, 0, 99999999, [])), (10, (0, -300000000, 300000000, [])), (11, (0, 0, 99999987, [])), (13, (0, 0, 99999999, [])), (14, (0, -300000000, 300000000, [])), (15, (0, 0, 99999987, [])), (16, (0, 2, 25, []))], [(6, [16, 4], [1]), (23, [15, 1, 3, 4], [902, 1, -1, -700, -28]), (20, [4, 14, 2, 3], [50, 2, 2, 2139, 2005, 2063, 2002, 4, 6, 1, 2, 1, 0, 0, 0, 1, 2, 1, 1, 3, 2, 63, 4, 7, 6, 2, 0, 24, 2, 2, 139, 3, 2, 2, 4, 7, 4, 3, 2, 2, 5, 0, 267, 1, 3]), (20, [4, 2, 3, 14], [50, 2, 3, 1139, 1005, 1064, 1063, 1002, 4, 22, 1, 2, 1, 0, 4, 14, 3, 1, 64, 4, 7, 6, 2, 0, 48, 2, 1, 139, 1, 2, 0, 1, 1, 2, 1, 3, 3, 1, 63, 4, 7, 6, 2, 0, 24, 2, 1, 139, 3, 1, 2, 4, 7, 4, 3, 2, 1, 5, 0, 315, 1, 2]), (20, [4, 2, 3, 14], [50, 1, 2, 1139, 1064, 1066, 3, 6, 1, 2, 1, 0, 0, 0, 3, 22, 1, 2, 1, 0, 4, 14, 3, 1, 64, 4, 7, 6, 2, 0, 48, 2, 1, 139, 1, 2, 0, 1, 1, 2, 1, 3, 3, 1, 66, 4, 15, 6, 2, 0, 24, 4, 7, 6, 2, 0, 48, 2, 1, 139, 1, 2, 5, 2, 1, 0, 0, 1]), (23, [13, 1, 3, 4], [901, 1, -1, -700, -28]), (23, [11, 1, 3, 4], [888, 1, -1, -700, -28]), (20, [4, 10, 2, 3], [50, 2, 2, 2139, 2005, 2062, 2002, 4, 6, 1, 2, 1, 0, 0, 0, 1, 2, 1, 1, 3, 2, 62, 4, 7, 6, 2, 0, 24, 2, 2, 139, 3, 2, 2, 4, 7, 4, 3, 2, 2, 5, 0, 267, 1, 3]), (20, [4, 2, 3, 10], [50, 2, 3, 1139, 1005, 1064, 1062, 1002, 4, 22, 1, 2, 1, 0, 4, 14, 3, 1, 64, 4, 7, 6, 2, 0, 48, 2, 1, 139, 1, 2, 0, 1, 1, 2, 1, 3, 3, 1, 62, 4, 7, 6, 2, 0, 24, 2, 1, 139, 3, 1, 2, 4, 7, 4, 3, 2, 1, 5, 0, 315, 1, 2]), (20, [4, 2, 3, 10], [50, 1, 2, 1139, 1064, 1065, 3, 6, 1, 2, 1, 0, 0, 0, 3, 22, 1, 2, 1, 0, 4, 14, 3, 1, 64, 4, 7, 6, 2, 0, 48, 2, 1, 139, 1, 2, 0, 1, 1, 2, 1, 3, 3, 1, 65, 4, 15, 6, 2, 0, 24, 4, 7, 6, 2, 0, 48, 2, 1, 139, 1, 2, 5, 2, 1, 0, 0, 1]), (20, [4, 2, 3], [50, 1, 1, 1139, 1064, 0, 2, 1, 0, 4, 14, 3, 1, 64, 4, 7, 6, 2, 0, 48, 2, 1, 139, 1, 2, 0, 1]), (23, [9, 1, 3, 4], [887, 1, -1, -700, -28]), (20, [7, 2, 3], [50, 1, 1, 1139, 1064, 1, 2, 1, 0, 4, 14, 3, 1, 64, 4, 7, 6, 2, 0, 48, 2, 1, 139, 1, 2, 0, 2]), (24, [0, 2], []), (20, [2, 15], [30, 13, 1, 1, 170, -1, 0, 0]), (102, [15], [7770675568902916283677847627294075626569627356208558085007249638955617140820833992704, 165170]), (23, [15, 1, 3, 4], [902, 1, -1, -700, -28]), (23, [13, 1, 3, 4], [901, 1, -1, -700, -28]), (23, [11, 1, 3, 4], [888, 1, -1, -700, -28]), (23, [9, 1, 3, 4], [887, 1, -1, -700, -28]), (102, [13], [7770675568902916283677847627294075626569627356208558085007249638955617140820833992704, 165170]), (23, [13, 1, 3, 4], [901, 1, -1, -700, -28]), (23, [11, 1, 3, 4], [888, 1, -1, -700, -28]), (23, [9, 1, 3, 4], [887, 1, -1, -700, -28]), (102, [11], [7770675568902916283677847627294075626569627356208558085007249638955617140820833992704, 165170]), (23, [11, 1, 3, 4], [888, 1, -1, -700, -28]), (23, [9, 1, 3, 4], [887, 1, -1, -700, -28]), (102, [9], [7770675568902916283677847627294075626569627356208558085007249638955617140820833992704, 165170]), (23, [9, 1, 3, 4], [887, 1, -1, -700, -28]), (7, [6, 7], [2]), (1, [6, 4, 5], [])], [], [], [(20, [2, 1, 3, 16], [30, 887, 1, 1, 170, -1, 0, 0, -700, 0, 0, -28, 0, 0])], [], [(16, 4, 1, 1), (6, 7, -4294967296, -1), (6, 4, 1, 1)])
theorem oo_Mo_writeDrawing_29 {kA : Nat → ClassId} : or_ok PRD kA GG o_Mo_writeDrawing_29 := by
  refine or_mk fun A ta ws vs hD hth hl => ?_
  intro t0 r0 t1 k1 t2 r2 t3 k3 t4 k4 t5 k5 t6 k6 t7 k7 t9 k9 t10 k10 t11 k11 t13 k13 t14 k14 t15 k15 t16 k16 d0 d1 d2 f0 f1 f2 f3 f4 f5 f6 f7 f8 f9 f10 f11 f12 f13 f14 ta1 w1 le1 s1 f16 f17 f18 f19 ta2 w2 le2 s2 f21 f22 f23 ta3 w3 le3 s3 f25 f26 ta4 w4 le4 s4 f28 f29 f30
  replace f0 := shm_4 f0
  replace f1 := shm_1938 f1
  replace f2 := shm_1427 f2
  replace f3 := shm_1428 f3
  replace f4 := shm_1429 f4
  replace f5 := shm_1937 f5
  replace f6 := shm_1936 f6
  replace f7 := shm_1423 f7
  replace f8 := shm_1424 f8
  replace f9 := shm_1425 f9
  replace f10 := shm_1421 f10
  replace f11 := shm_1935 f11
  replace f12 := shm_683 f12
  replace f13 := shm_5 f13
  replace f14 := shm_1056 f14
  replace f16 := shm_1938 f16
  replace f17 := shm_1937 f17
  replace f18 := shm_1936 f18
  replace f19 := shm_1935 f19
  replace f21 := shm_1937 f21
  replace f22 := shm_1936 f22
  replace f23 := shm_1935 f23
  replace f25 := shm_1936 f25
  replace f26 := shm_1935 f26
  replace f28 := shm_1935 f28
  replace f29 := shm_6 f29
  replace f30 := shm_12 f30
  have q2 : n_v vs 2 = n_v vs 0 := f13.symm
  simp only [q2] at f2 f3 f4 f7 f8 f9 f10 f12 f14
  have cr_0_62 := fdq_173 hD hth r0
  have cr_0_63 := fdq_174 hD hth r0
  have cr_0_64 := fdq_171 hD hth r0
  have cr_0_65 := fdq_292 hD hth r0
  have cr_0_66 := fdq_293 hD hth r0
  have hK_0_62 := elq_102 hD hth cr_0_62
  have hK_0_63 := elq_103 hD hth cr_0_63
  have hK_0_64 := elq_101 hD hth cr_0_64
  have hK_0_65 := elq_184 hD hth cr_0_65
  have hK_0_66 := elq_185 hD hth cr_0_66
  have kz_0_139 := fdq_172 hD hth r0
  have kz_0_170 := fdq_11 hD hth r0
  have nf0 : fc_1 PRD (20, [2, 1, 3, 16], [30, 887, 1, 1, 170, -1, 0, 0, -700, 0, 0, -28, 0, 0]) ws (vs) := by
    refine ⟨nf_in hl rfl, sgq_1933 ?_⟩
    · show 1 * w_fi ws (n_v vs 2) 170 + ((-1) * v_iv (n_v vs 1) + ((-700) * v_iv (n_v vs 3) + ((-28) * v_iv (n_v vs 16) + 0))) ≤ 887
      rw [q2]
      exact vc_Mo_writeDrawing_29_0 (v_iv (n_v vs 1)) (v_iv (n_v vs 3)) (v_iv (n_v vs 4)) (v_iv (n_v vs 5)) (v_iv (n_v vs 6)) (v_iv (n_v vs 7)) (v_iv (n_v vs 9)) (v_iv (n_v vs 10)) (v_iv (n_v vs 11)) (v_iv (n_v vs 13)) (v_iv (n_v vs 14)) (v_iv (n_v vs 15)) (v_iv (n_v vs 16)) (w_ei ws (w_ar ws (n_v vs 0) 63)) (w_ei ws (w_ar ws (n_v vs 0) 2)) (w_fi ws (n_v vs 0) 139) (w_fi ws (n_v vs 0) 5) (w_ei ws (w_ar ws (n_v vs 0) 64)) (w_ei ws (w_ar ws (n_v vs 0) 66)) (w_ei ws (w_ar ws (n_v vs 0) 62)) (w_ei ws (w_ar ws (n_v vs 0) 65)) (w_fi ws (n_v vs 0) 170) k1 k3 k4 k5 k6 k7 k9 k10 k11 k13 k14 k15 k16 d0 d1 d2 f0 f1 f2 f3 f4 f5 f6 f7 f8 f9 f10 f11 f12 f14 f16 f17 f18 f19 f21 f22 f23 f25 f26 f28 f29 f30 hK_0_62 hK_0_63 hK_0_64 hK_0_65 hK_0_66 kz_0_139 kz_0_170
  refine ⟨(fun _ h => (by cases h)), [], trivial, ?_, (fun _ h => (by cases h))⟩
  rw [List.append_nil]
  exact List.forall_mem_cons.mpr ⟨⟨show (20 : Nat) < 100 from by decide, nf0⟩, (fun _ h => (by cases h))⟩
def n_Mo_writeDrawing_an : List an_T := [(2, [(0, (2, 0, 0, [165])), (1, (0, 0, 24, []))], [], (0, 0), [(0, 0, 99998), (1, 3, 24), (0, 0, 100000), (0, 0, 0), (0, 0, 0)], [], [], [(2, 0, 0, [165]), (0, 0, 99965512, [])], 0, [], [(20, [2, 1, 3], [30, 0, 1, 1, 170, (Int.negSucc 0), 0, 0, (Int.negSucc 36), 0, 0]), (24, [0, 2], [])]), (59, [(0, (2, 0, 0, [165])), (1, (0, 0, 48, []))], [], (0, 0), [(0, 0, 99941), (1, 3, 48), (0, 0, 100000), (0, 0, 0), (0, 0, 0)], [], [], [(2, 0, 0, [165]), (0, 0, 99965512, [])], 0, [], [(20, [2, 1, 3], [30, 888, 1, 1, 170, (Int.negSucc 0), 0, 0, (Int.negSucc 699), 0, 0]), (24, [0, 2], [])]), (93, [(0, (2, 0, 0, [165])), (1, (0, 0, 47, [])), (2, (0, 1, 25, []))], [], (0, 0), [(0, 0, 99941), (1, 3, 48), (0, 0, 99907), (1, 4, 25), (0, 0, 100000)], [], [], [(2, 0, 0, [165]), (0, 0, 99965512, [])], 0, [], [(20, [2, 1, 3, 4], [30, 887, 1, 1, 170, (Int.negSucc 0), 0, 0, (Int.negSucc 699), 0, 0, (Int.negSucc 27), 0, 0]), (24, [0, 2], [])])]
def t_Mo_writeDrawing_ct : ct_L := [(1, 394, e_Mo_tail), (1, 398, e_Mo_head), (1, 401, e_Mo_edges), (1, 475, e_Mo_nodes), (1, 1023, e_Mo_px), (1, 1026, e_Mo_pointsOf), (1, 1029, e_Mo_py), (1, 1085, e_Mo_ex), (1, 1088, e_Mo_ey), (1, 1293, e_Mo_writeNode), (1, 1298, e_Mo_writeNumber), (58, 1280, e_Mo_write1), (103, 1280, e_Mo_write1), (148, 1280, e_Mo_write1), (241, 1280, e_Mo_write1), (325, 1280, e_Mo_write1), (373, 1280, e_Mo_write1), (439, 1280, e_Mo_write1)]
set_option maxRecDepth 100000 in
theorem c_Mo_writeDrawing {l : Launch} {D : va_G} {kA : Nat → ClassId} (h_Mo_edges : ct_ok PRD l D kA GG y_Mo_edges z_Mo_edges e_Mo_edges) (h_Mo_ex : ct_ok PRD l D kA GG y_Mo_ex z_Mo_ex e_Mo_ex) (h_Mo_ey : ct_ok PRD l D kA GG y_Mo_ey z_Mo_ey e_Mo_ey) (h_Mo_head : ct_ok PRD l D kA GG y_Mo_head z_Mo_head e_Mo_head) (h_Mo_nodes : ct_ok PRD l D kA GG y_Mo_nodes z_Mo_nodes e_Mo_nodes) (h_Mo_pointsOf : ct_ok PRD l D kA GG y_Mo_pointsOf z_Mo_pointsOf e_Mo_pointsOf) (h_Mo_px : ct_ok PRD l D kA GG y_Mo_px z_Mo_px e_Mo_px) (h_Mo_py : ct_ok PRD l D kA GG y_Mo_py z_Mo_py e_Mo_py) (h_Mo_tail : ct_ok PRD l D kA GG y_Mo_tail z_Mo_tail e_Mo_tail) (h_Mo_write1 : ct_ok PRD l D kA GG y_Mo_write1 z_Mo_write1 e_Mo_write1) (h_Mo_writeNode : ct_ok PRD l D kA GG y_Mo_writeNode z_Mo_writeNode e_Mo_writeNode) (h_Mo_writeNumber : ct_ok PRD l D kA GG y_Mo_writeNumber z_Mo_writeNumber e_Mo_writeNumber) : ct_ok PRD l D kA GG y_Mo_writeDrawing z_Mo_writeDrawing e_Mo_writeDrawing := chk_all_ok (FT := []) (PT := []) (CT := t_Mo_writeDrawing_ct) (KT := []) (NT := []) (AN := n_Mo_writeDrawing_an) (OT := [o_Mo_writeDrawing_0, o_Mo_writeDrawing_1, o_Mo_writeDrawing_2, o_Mo_writeDrawing_3, o_Mo_writeDrawing_4, o_Mo_writeDrawing_5, o_Mo_writeDrawing_6, o_Mo_writeDrawing_7, o_Mo_writeDrawing_8, o_Mo_writeDrawing_9, o_Mo_writeDrawing_10, o_Mo_writeDrawing_11, o_Mo_writeDrawing_12, o_Mo_writeDrawing_13, o_Mo_writeDrawing_14, o_Mo_writeDrawing_15, o_Mo_writeDrawing_16, o_Mo_writeDrawing_17, o_Mo_writeDrawing_18, o_Mo_writeDrawing_19, o_Mo_writeDrawing_20, o_Mo_writeDrawing_21, o_Mo_writeDrawing_22, o_Mo_writeDrawing_23, o_Mo_writeDrawing_24, o_Mo_writeDrawing_25, o_Mo_writeDrawing_26, o_Mo_writeDrawing_27, o_Mo_writeDrawing_28, o_Mo_writeDrawing_29]) 5 408 (List.forall_mem_cons.mpr ⟨oo_Mo_writeDrawing_0, List.forall_mem_cons.mpr ⟨oo_Mo_writeDrawing_1, List.forall_mem_cons.mpr ⟨oo_Mo_writeDrawing_2, List.forall_mem_cons.mpr ⟨oo_Mo_writeDrawing_3, List.forall_mem_cons.mpr ⟨oo_Mo_writeDrawing_4, List.forall_mem_cons.mpr ⟨oo_Mo_writeDrawing_5, List.forall_mem_cons.mpr ⟨oo_Mo_writeDrawing_6, List.forall_mem_cons.mpr ⟨oo_Mo_writeDrawing_7, List.forall_mem_cons.mpr ⟨oo_Mo_writeDrawing_8, List.forall_mem_cons.mpr ⟨oo_Mo_writeDrawing_9, List.forall_mem_cons.mpr ⟨oo_Mo_writeDrawing_10, List.forall_mem_cons.mpr ⟨oo_Mo_writeDrawing_11, List.forall_mem_cons.mpr ⟨oo_Mo_writeDrawing_12, List.forall_mem_cons.mpr ⟨oo_Mo_writeDrawing_13, List.forall_mem_cons.mpr ⟨oo_Mo_writeDrawing_14, List.forall_mem_cons.mpr ⟨oo_Mo_writeDrawing_15, List.forall_mem_cons.mpr ⟨oo_Mo_writeDrawing_16, List.forall_mem_cons.mpr ⟨oo_Mo_writeDrawing_17, List.forall_mem_cons.mpr ⟨oo_Mo_writeDrawing_18, List.forall_mem_cons.mpr ⟨oo_Mo_writeDrawing_19, List.forall_mem_cons.mpr ⟨oo_Mo_writeDrawing_20, List.forall_mem_cons.mpr ⟨oo_Mo_writeDrawing_21, List.forall_mem_cons.mpr ⟨oo_Mo_writeDrawing_22, List.forall_mem_cons.mpr ⟨oo_Mo_writeDrawing_23, List.forall_mem_cons.mpr ⟨oo_Mo_writeDrawing_24, List.forall_mem_cons.mpr ⟨oo_Mo_writeDrawing_25, List.forall_mem_cons.mpr ⟨oo_Mo_writeDrawing_26, List.forall_mem_cons.mpr ⟨oo_Mo_writeDrawing_27, List.forall_mem_cons.mpr ⟨oo_Mo_writeDrawing_28, List.forall_mem_cons.mpr ⟨oo_Mo_writeDrawing_29, List.forall_mem_nil _⟩⟩⟩⟩⟩⟩⟩⟩⟩⟩⟩⟩⟩⟩⟩⟩⟩⟩⟩⟩⟩⟩⟩⟩⟩⟩⟩⟩⟩⟩) (by decide +kernel) ⟨List.forall_mem_nil _, List.forall_mem_nil _, List.forall_mem_cons.mpr ⟨cl_virtual (y := y_Mo_tail) (ci := 13) rfl rfl ⟨_, _, rfl⟩ (by decide +kernel) h_Mo_tail wm_3045 wm_9 wm_3042 wm_3044 wv_13_8 ⟨by decide, by decide, by decide +kernel⟩ (by decide), List.forall_mem_cons.mpr ⟨cl_virtual (y := y_Mo_head) (ci := 13) rfl rfl ⟨_, _, rfl⟩ (by decide +kernel) h_Mo_head wm_3049 wm_9 wm_3046 wm_3048 wv_13_9 ⟨by decide, by decide, by decide +kernel⟩ (by decide), List.forall_mem_cons.mpr ⟨cl_virtual (y := y_Mo_edges) (ci := 13) rfl rfl ⟨_, _, rfl⟩ (by decide +kernel) h_Mo_edges wm_3037 wm_9 wm_3034 wm_3036 wv_13_6 ⟨by decide, by decide, by decide +kernel⟩ (by decide), List.forall_mem_cons.mpr ⟨cl_virtual (y := y_Mo_nodes) (ci := 13) rfl rfl ⟨_, _, rfl⟩ (by decide +kernel) h_Mo_nodes wm_3025 wm_9 wm_3022 wm_3024 wv_13_3 ⟨by decide, by decide, by decide +kernel⟩ (by decide), List.forall_mem_cons.mpr ⟨cl_virtual (y := y_Mo_px) (ci := 13) rfl rfl ⟨_, _, rfl⟩ (by decide +kernel) h_Mo_px wm_3675 wm_9 wm_3672 wm_3674 wv_21_14 ⟨by decide, by decide, by decide +kernel⟩ (by decide), List.forall_mem_cons.mpr ⟨cl_virtual (y := y_Mo_pointsOf) (ci := 13) rfl rfl ⟨_, _, rfl⟩ (by decide +kernel) h_Mo_pointsOf wm_3726 wm_9 wm_3723 wm_3725 wv_22_8 ⟨by decide, by decide, by decide +kernel⟩ (by decide), List.forall_mem_cons.mpr ⟨cl_virtual (y := y_Mo_py) (ci := 13) rfl rfl ⟨_, _, rfl⟩ (by decide +kernel) h_Mo_py wm_3679 wm_9 wm_3676 wm_3678 wv_21_15 ⟨by decide, by decide, by decide +kernel⟩ (by decide), List.forall_mem_cons.mpr ⟨cl_virtual (y := y_Mo_ex) (ci := 13) rfl rfl ⟨_, _, rfl⟩ (by decide +kernel) h_Mo_ex wm_3730 wm_9 wm_3727 wm_3729 wv_22_9 ⟨by decide, by decide, by decide +kernel⟩ (by decide), List.forall_mem_cons.mpr ⟨cl_virtual (y := y_Mo_ey) (ci := 13) rfl rfl ⟨_, _, rfl⟩ (by decide +kernel) h_Mo_ey wm_3734 wm_9 wm_3731 wm_3733 wv_22_10 ⟨by decide, by decide, by decide +kernel⟩ (by decide), List.forall_mem_cons.mpr ⟨cl_virtual (y := y_Mo_writeNode) (ci := 13) rfl rfl ⟨_, _, rfl⟩ (by decide +kernel) h_Mo_writeNode wm_3918 wm_9 wm_3915 wm_3917 wv_24_9 ⟨by decide, by decide, by decide +kernel⟩ (by decide), List.forall_mem_cons.mpr ⟨cl_virtual (y := y_Mo_writeNumber) (ci := 13) rfl rfl ⟨_, _, rfl⟩ (by decide +kernel) h_Mo_writeNumber wm_3927 wm_9 wm_3924 wm_3926 wv_24_11 ⟨by decide, by decide, by decide +kernel⟩ (by decide), List.forall_mem_cons.mpr ⟨cl_virtual (y := y_Mo_write1) (ci := 13) rfl rfl ⟨_, _, rfl⟩ (by decide +kernel) h_Mo_write1 wm_3914 wm_9 wm_3911 wm_3913 wv_24_8 ⟨by decide, by decide, by decide +kernel⟩ (by decide), List.forall_mem_cons.mpr ⟨cl_virtual (y := y_Mo_write1) (ci := 13) rfl rfl ⟨_, _, rfl⟩ (by decide +kernel) h_Mo_write1 wm_3914 wm_9 wm_3911 wm_3913 wv_24_8 ⟨by decide, by decide, by decide +kernel⟩ (by decide), List.forall_mem_cons.mpr ⟨cl_virtual (y := y_Mo_write1) (ci := 13) rfl rfl ⟨_, _, rfl⟩ (by decide +kernel) h_Mo_write1 wm_3914 wm_9 wm_3911 wm_3913 wv_24_8 ⟨by decide, by decide, by decide +kernel⟩ (by decide), List.forall_mem_cons.mpr ⟨cl_virtual (y := y_Mo_write1) (ci := 13) rfl rfl ⟨_, _, rfl⟩ (by decide +kernel) h_Mo_write1 wm_3914 wm_9 wm_3911 wm_3913 wv_24_8 ⟨by decide, by decide, by decide +kernel⟩ (by decide), List.forall_mem_cons.mpr ⟨cl_virtual (y := y_Mo_write1) (ci := 13) rfl rfl ⟨_, _, rfl⟩ (by decide +kernel) h_Mo_write1 wm_3914 wm_9 wm_3911 wm_3913 wv_24_8 ⟨by decide, by decide, by decide +kernel⟩ (by decide), List.forall_mem_cons.mpr ⟨cl_virtual (y := y_Mo_write1) (ci := 13) rfl rfl ⟨_, _, rfl⟩ (by decide +kernel) h_Mo_write1 wm_3914 wm_9 wm_3911 wm_3913 wv_24_8 ⟨by decide, by decide, by decide +kernel⟩ (by decide), List.forall_mem_cons.mpr ⟨cl_virtual (y := y_Mo_write1) (ci := 13) rfl rfl ⟨_, _, rfl⟩ (by decide +kernel) h_Mo_write1 wm_3914 wm_9 wm_3911 wm_3913 wv_24_8 ⟨by decide, by decide, by decide +kernel⟩ (by decide), List.forall_mem_nil _⟩⟩⟩⟩⟩⟩⟩⟩⟩⟩⟩⟩⟩⟩⟩⟩⟩⟩, List.forall_mem_nil _, List.forall_mem_nil _, GG_pl⟩ (by decide +kernel)

def o_Ho_dots_0 : or_T := (58, 14, [(0, (2, 0, 0, [12])), (1, (0, 0, 3, [])), (4, (0, 0, 3066, [])), (12, (2, 0, 0, [134])), (13, (2, 0, 0, [0]))], [(14, [13, 12, 1], []), (9, [12, 0], [3]), (20, [0, 4], [62, 2000000])], [], [], [(20, [0, 4, 13, 1], [62, 2000000])], [], [])
theorem oo_Ho_dots_0 {kA : Nat → ClassId} : or_ok PRD kA GG o_Ho_dots_0 := by
  refine or_mk fun A ta ws vs hD hth hl => ?_
  intro t0 r0 t1 k1 t4 k4 t12 r12 t13 r13 f0 f1 f2
  replace f0 := shm_793 f0
  replace f1 := shm_137 f1
  replace f2 := shm_161 f2
  have nf0 : fc_1 PRD (20, [0, 4, 13, 1], [62, 2000000]) ws (vs) := by
    refine ⟨nf_in hl rfl, sgq_1939 ?_⟩
    · show HY ws (n_v vs 0) (v_iv (n_v vs 4) + (((2000000 : Nat) : Int) - 2000000)) ∧ HYP ws (n_v vs 0) (n_v vs 13) (n_v vs 1)
      exact ⟨hy_le f2 (by omega), hyp_of f1 f0 (by omega) (by omega)⟩
  refine ⟨(fun _ h => (by cases h)), [], trivial, ?_, (fun _ h => (by cases h))⟩
  rw [List.append_nil]
  exact List.forall_mem_cons.mpr ⟨⟨show (20 : Nat) < 100 from by decide, nf0⟩, (fun _ h => (by cases h))⟩
def o_Ho_dots_1 : or_T := (66, 16, [], [], [], [], [(24, [0, 0], [])], [], [])
theorem oo_Ho_dots_1 {kA : Nat → ClassId} : or_ok PRD kA GG o_Ho_dots_1 := by
  refine or_mk fun A ta ws vs hD hth hl => ?_
  have nf0 : fc_1 PRD (24, [0, 0], []) ws (vs) := by
    refine ⟨nf_in hl rfl, sgq_1 ?_⟩
    · show n_v vs 0 = n_v vs 0
      first | rfl | simp only [true_and]
  refine ⟨(fun _ h => (by cases h)), [], trivial, ?_, (fun _ h => (by cases h))⟩
  rw [List.append_nil]
  exact List.forall_mem_cons.mpr ⟨⟨show (24 : Nat) < 100 from by decide, nf0⟩, (fun _ h => (by cases h))⟩
def o_Ho_dots_2 : or_T := (74, 14, [(4, (0, 0, 3066, [])), (5, (2, 0, 0, [12])), (6, (0, 0, 3, [])), (9, (2, 0, 0, [0])), (11, (2, 0, 0, [3])), (12, (2, 0, 0, [131])), (13, (2, 0, 0, [3]))], [(9, [11, 9], [0]), (14, [13, 12, 6], []), (9, [12, 5], [0]), (20, [5, 4, 9, 6], [62, 2000000])], [], [], [(24, [11, 13], [])], [], [])
theorem oo_Ho_dots_2 {kA : Nat → ClassId} : or_ok PRD kA GG o_Ho_dots_2 := by
  refine or_mk fun A ta ws vs hD hth hl => ?_
  intro t4 k4 t5 r5 t6 k6 t9 r9 t11 r11 t12 r12 t13 r13 f0 f1 f2 f3
  replace f0 := shm_163 f0
  replace f1 := shm_793 f1
  replace f2 := shm_163 f2
  replace f3 := shm_1939 f3
  have nf0 : fc_1 PRD (24, [11, 13], []) ws (vs) := by
    refine ⟨nf_in hl rfl, sgq_5 ?_⟩
    · show n_v vs 11 = n_v vs 13
      obtain ⟨ax, _, ex, _⟩ := tv_ref t13 rfl
      exact hdg_eq f3.1 f3.2 f2 f1 f0 ⟨ax, ex⟩
  refine ⟨(fun _ h => (by cases h)), [], trivial, ?_, (fun _ h => (by cases h))⟩
  rw [List.append_nil]
  exact List.forall_mem_cons.mpr ⟨⟨show (24 : Nat) < 100 from by decide, nf0⟩, (fun _ h => (by cases h))⟩
def o_Ho_dots_3 : or_T := (74, 14, [(0, (2, 0, 0, [12])), (5, (2, 0, 0, [12])), (6, (0, 0, 3, [])), (9, (2, 0, 0, [0])), (11, (2, 0, 0, [3])), (12, (2, 0, 0, [131])), (13, (2, 0, 0, [3]))], [(24, [11, 13], []), (14, [13, 12, 6], []), (9, [12, 5], [0]), (20, [5], [62, 0]), (20, [9, 11], [60, 4, 3, 932, 17, 19, 1000, 1001, 2, 4, 5]), (20, [9, 11], [60, 4, 3, 939, 18, 20, 1000, 1001, 3, 4, 6]), (24, [0, 5], [])], [], [], [(20, [5, 6, 13], [62, 71])], [], [])
theorem oo_Ho_dots_3 {kA : Nat → ClassId} : or_ok PRD kA GG o_Ho_dots_3 := by
  refine or_mk fun A ta ws vs hD hth hl => ?_
  intro t0 r0 t5 r5 t6 k6 t9 r9 t11 r11 t12 r12 t13 r13 f0 f1 f2 f3 f4 f5 f6
  replace f0 := shm_5 f0
  replace f1 := shm_793 f1
  replace f2 := shm_163 f2
  replace f3 := shm_1176 f3
  replace f4 := shm_1490 f4
  replace f5 := shm_1491 f5
  replace f6 := shm_5 f6
  have q13 : n_v vs 13 = n_v vs 11 := f0.symm
  have q5 : n_v vs 5 = n_v vs 0 := f6.symm
  simp only [q13, q5] at f1 f2 f3
  have cr_0_0 := fdq_311 hD hth r0
  have cr_9_2 := fdq_45 hD hth r9
  have cr_9_3 := fdq_48 hD hth r9
  have cr_9_4 := fdq_1 hD hth r9
  have cr_9_5 := fdq_2 hD hth r9
  have cr_9_6 := fdq_3 hD hth r9
  have ad_12 : v_ad (n_v vs 12) = w_ar ws (n_v vs 0) 0 := congrArg v_ad f2
  have hK_9_2 := elq_10 hD hth cr_9_2
  have hK_9_3 := elq_13 hD hth cr_9_3
  have hK_9_4 := elq_0 hD hth cr_9_4
  have hK_9_5 := elq_1 hD hth cr_9_5
  have hK_9_6 := elq_2 hD hth cr_9_6
  have kz_9_17 := fdq_198 hD hth r9
  have kz_9_18 := fdq_200 hD hth r9
  have kz_9_19 := fdq_199 hD hth r9
  have kz_9_20 := fdq_201 hD hth r9
  have kz_11_0 := fdq_21 hD hth r11
  have kz_11_1 := fdq_30 hD hth r11
  have nf0 : fc_1 PRD (20, [5, 6, 13], [62, 71]) ws (vs) := by
    refine ⟨nf_in hl rfl, sgq_1819 ?_⟩
    · show WQF 71 [n_v vs 5, n_v vs 6, n_v vs 13] ws
      first | rw [q13] | skip
      first | rw [q5] | skip
      have zw := f3
      exact wq_in (zw) (by omega) (by omega) ⟨rfl, rfl⟩ ⟨Or.inr (pO_of f2 f1), trivial⟩
  refine ⟨(fun _ h => (by cases h)), [], trivial, ?_, (fun _ h => (by cases h))⟩
  rw [List.append_nil]
  exact List.forall_mem_cons.mpr ⟨⟨show (20 : Nat) < 100 from by decide, nf0⟩, (fun _ h => (by cases h))⟩
def o_Ho_dots_4 : or_T := (77, 15, [], [(20, [5, 6, 13], [62, 71]), (24, [11, 13], []), (14, [13, 12, 6], []), (9, [12, 5], [0])], [], [], [(20, [11], [60, 2, 2, 596, 0, 1, 7, 8])], [], [])
theorem oo_Ho_dots_4 {kA : Nat → ClassId} : or_ok PRD kA GG o_Ho_dots_4 := by
  refine or_mk fun A ta ws vs hD hth hl => ?_
  intro f0 f1 f2 f3
  replace f0 := shm_1819 f0
  replace f1 := shm_5 f1
  replace f2 := shm_793 f2
  replace f3 := shm_163 f3
  have nf0 : fc_1 PRD (20, [11], [60, 2, 2, 596, 0, 1, 7, 8]) ws (vs) := by
    refine ⟨nf_in hl rfl, sgq_386 ?_⟩
    · show GKE (w_fi ws (n_v vs 11) 0) (w_fi ws (n_v vs 11) 1) (w_ei ws (w_ar ws (n_v vs 11) 7)) (w_ei ws (w_ar ws (n_v vs 11) 8))
      exact hg_gke (wq_hg f0 (by decide) (by rw [show n_v vs 11 = n_v vs 13 from f1]; exact (pO_of f3 f2)))
  refine ⟨(fun _ h => (by cases h)), [], trivial, ?_, (fun _ h => (by cases h))⟩
  rw [List.append_nil]
  exact List.forall_mem_cons.mpr ⟨⟨show (20 : Nat) < 100 from by decide, nf0⟩, (fun _ h => (by cases h))⟩
set_option maxHeartbeats 4000000 in
theorem vc_Ho_dots_5_0 (x10 : Int) (x14 : Int) (x19 : Int) (nodes_0o11 : Int) (edges_0o11 : Int) (x_0o9 : Int → Int) (bends_0o9 : Int → Int) (bendX_0o9 : Int → Int) (leastX_0o9 : Int) (mostX_0o9 : Int) (y_0o9 : Int → Int) (bendY_0o9 : Int → Int) (leastY_0o9 : Int) (mostY_0o9 : Int) (k10 : 0 ≤ x10 ∧ x10 ≤ 47) (k14 : 1 ≤ x14 ∧ x14 ≤ 48) (k19 : 24 ≤ x19 ∧ x19 ≤ 71) (d0 : x10 + 24 ≤ x19 ∧ x19 ≤ x10 + 24) (d1 : x14 + (-4294967296) ≤ x19 ∧ x19 ≤ x14 + 23) (d2 : x14 + (-4294967296) ≤ x10 ∧ x10 ≤ x14 + (-1)) (g3 : x14 = edges_0o11) (kz_11_1 : 0 ≤ edges_0o11 ∧ edges_0o11 ≤ 48) : (x10 + 1) ≤ edges_0o11 := by
  first
    | omega
    | assumption
    | (have h := (show MSX leastX_0o9 mostX_0o9 nodes_0o11 edges_0o11 x_0o9 bends_0o9 bendX_0o9 by assumption).2.2.1 x10 (by omega) (by omega)
       rw [← ‹x24 = x_0o9 x10›] at h
       exact h)
    | (have h := (show MSY leastY_0o9 mostY_0o9 nodes_0o11 edges_0o11 y_0o9 bends_0o9 bendY_0o9 by assumption).2.2.1 x10 (by omega) (by omega)
       rw [← ‹x27 = y_0o9 x10›] at h
       exact h)
  
def o_Ho_dots_5 : or_T := (100, 24, [(10, (0, 0, 47, [])), (11, (2, 0, 0, [3])), (14, (0, 1, 48, [])), (19, (0, 24, 71, []))], [(9, [14, 13], [1]), (24, [11, 13], [])], [], [], [(20, [10, 11], [50, 1, 0, 1001, 0, 6, 4, 2, 1, 0, 0, 1, 2, 1, 1])], [], [(19, 10, 24, 24), (19, 14, -4294967296, 23), (10, 14, -4294967296, -1)])
theorem oo_Ho_dots_5 {kA : Nat → ClassId} : or_ok PRD kA GG o_Ho_dots_5 := by
  refine or_mk fun A ta ws vs hD hth hl => ?_
  intro t10 k10 t11 r11 t14 k14 t19 k19 d0 d1 d2 f3 f4
  replace f3 := shm_215 f3
  replace f4 := shm_5 f4
  have q13 : n_v vs 13 = n_v vs 11 := f4.symm
  simp only [q13] at f3
  have g3 : v_iv (n_v vs 14) = w_fi ws (n_v vs 11) 1 := congrArg v_iv f3
  have kz_11_1 := fdq_30 hD hth r11
  have nf0 : fc_1 PRD (20, [10, 11], [50, 1, 0, 1001, 0, 6, 4, 2, 1, 0, 0, 1, 2, 1, 1]) ws (vs) := ⟨nf_in hl rfl, sgq_1219 (vc_Ho_dots_5_0 (v_iv (n_v vs 10)) (v_iv (n_v vs 14)) (v_iv (n_v vs 19)) (w_fi ws (n_v vs 11) 0) (w_fi ws (n_v vs 11) 1) (w_ei ws (w_ar ws (n_v vs 9) 2)) (w_ei ws (w_ar ws (n_v vs 9) 4)) (w_ei ws (w_ar ws (n_v vs 9) 5)) (w_fi ws (n_v vs 9) 17) (w_fi ws (n_v vs 9) 19) (w_ei ws (w_ar ws (n_v vs 9) 3)) (w_ei ws (w_ar ws (n_v vs 9) 6)) (w_fi ws (n_v vs 9) 18) (w_fi ws (n_v vs 9) 20) k10 k14 k19 d0 d1 d2 g3 kz_11_1)⟩
  refine ⟨(fun _ h => (by cases h)), [], trivial, ?_, (fun _ h => (by cases h))⟩
  rw [List.append_nil]
  exact List.forall_mem_cons.mpr ⟨⟨show (20 : Nat) < 100 from by decide, nf0⟩, (fun _ h => (by cases h))⟩
set_option maxHeartbeats 4000000 in
theorem vc_Ho_dots_6_0 (x10 : Int) (bends_0o9 : Int → Int) (x_0o9 : Int → Int) (bendX_0o9 : Int → Int) (leastX_0o9 : Int) (mostX_0o9 : Int) (edges_0o13 : Int) (y_0o9 : Int → Int) (bendY_0o9 : Int → Int) (leastY_0o9 : Int) (mostY_0o9 : Int) (k10 : 0 ≤ x10 ∧ x10 ≤ 47) (f6 : (x10 + 1) ≤ edges_0o13) (kz_13_1 : 0 ≤ edges_0o13 ∧ edges_0o13 ≤ 48) : (0 ≤ x10) ∧ ((x10 + 1) ≤ edges_0o13) := by
  first
    | omega
    | assumption
    | (have h := (show MSX leastX_0o9 mostX_0o9 nodes_0o11 edges_0o11 x_0o9 bends_0o9 bendX_0o9 by assumption).2.2.1 x10 (by omega) (by omega)
       rw [← ‹x24 = x_0o9 x10›] at h
       exact h)
    | (have h := (show MSY leastY_0o9 mostY_0o9 nodes_0o11 edges_0o11 y_0o9 bends_0o9 bendY_0o9 by assumption).2.2.1 x10 (by omega) (by omega)
       rw [← ‹x27 = y_0o9 x10›] at h
       exact h)
  
set_option maxHeartbeats 4000000 in
theorem vc_Ho_dots_6_1 (x10 : Int) (x12 : Int) (bends_0o9 : Int → Int) (x_0o9 : Int → Int) (bendX_0o9 : Int → Int) (leastX_0o9 : Int) (mostX_0o9 : Int) (y_0o9 : Int → Int) (bendY_0o9 : Int → Int) (leastY_0o9 : Int) (mostY_0o9 : Int) (k12 : 0 ≤ x12 ∧ x12 ≤ 24) : 0 ≤ x12 := by
  first
    | omega
    | assumption
    | (have h := (show MSX leastX_0o9 mostX_0o9 nodes_0o11 edges_0o11 x_0o9 bends_0o9 bendX_0o9 by assumption).2.2.1 x10 (by omega) (by omega)
       rw [← ‹x24 = x_0o9 x10›] at h
       exact h)
    | (have h := (show MSY leastY_0o9 mostY_0o9 nodes_0o11 edges_0o11 y_0o9 bends_0o9 bendY_0o9 by assumption).2.2.1 x10 (by omega) (by omega)
       rw [← ‹x27 = y_0o9 x10›] at h
       exact h)
  
def o_Ho_dots_6 : or_T := (122, 16, [(10, (0, 0, 47, [])), (12, (0, 0, 24, [])), (13, (2, 0, 0, [3]))], [(20, [10, 13], [50, 1, 0, 1001, 0, 6, 4, 2, 1, 0, 0, 1, 2, 1, 1])], [], [], [(20, [10, 13], [50, 1, 0, 1001, 2, 6, 0, 2, 0, 0, 1, 0, 0, 6, 4, 2, 1, 0, 0, 1, 2, 1, 1]), (20, [12], [50, 0, 0, 0, 2, 0, 0, 1, 0])], [], [])
theorem oo_Ho_dots_6 {kA : Nat → ClassId} : or_ok PRD kA GG o_Ho_dots_6 := by
  refine or_mk fun A ta ws vs hD hth hl => ?_
  intro t10 k10 t12 k12 t13 r13 f6
  have kz_13_1 := fdq_30 hD hth r13
  have nf0 : fc_1 PRD (20, [10, 13], [50, 1, 0, 1001, 2, 6, 0, 2, 0, 0, 1, 0, 0, 6, 4, 2, 1, 0, 0, 1, 2, 1, 1]) ws (vs) := ⟨nf_in hl rfl, sgq_387 (vc_Ho_dots_6_0 (v_iv (n_v vs 10)) (w_ei ws (w_ar ws (n_v vs 9) 4)) (w_ei ws (w_ar ws (n_v vs 9) 2)) (w_ei ws (w_ar ws (n_v vs 9) 5)) (w_fi ws (n_v vs 9) 17) (w_fi ws (n_v vs 9) 19) (w_fi ws (n_v vs 13) 1) (w_ei ws (w_ar ws (n_v vs 9) 3)) (w_ei ws (w_ar ws (n_v vs 9) 6)) (w_fi ws (n_v vs 9) 18) (w_fi ws (n_v vs 9) 20) k10 (shm_1219 f6) kz_13_1)⟩
  have nf1 : fc_1 PRD (20, [12], [50, 0, 0, 0, 2, 0, 0, 1, 0]) ws (vs) := ⟨nf_in hl rfl, sgq_722 (vc_Ho_dots_6_1 (v_iv (n_v vs 10)) (v_iv (n_v vs 12)) (w_ei ws (w_ar ws (n_v vs 9) 4)) (w_ei ws (w_ar ws (n_v vs 9) 2)) (w_ei ws (w_ar ws (n_v vs 9) 5)) (w_fi ws (n_v vs 9) 17) (w_fi ws (n_v vs 9) 19) (w_ei ws (w_ar ws (n_v vs 9) 3)) (w_ei ws (w_ar ws (n_v vs 9) 6)) (w_fi ws (n_v vs 9) 18) (w_fi ws (n_v vs 9) 20) k12)⟩
  refine ⟨(fun _ h => (by cases h)), [], trivial, ?_, (fun _ h => (by cases h))⟩
  rw [List.append_nil]
  exact List.forall_mem_cons.mpr ⟨⟨show (20 : Nat) < 100 from by decide, nf0⟩, List.forall_mem_cons.mpr ⟨⟨show (20 : Nat) < 100 from by decide, nf1⟩, (fun _ h => (by cases h))⟩⟩
def o_Ho_dots_7 : or_T := (148, 14, [(13, (2, 0, 0, [3]))], [(9, [11, 9], [0]), (14, [13, 12, 6], []), (9, [12, 5], [0]), (20, [5, 4, 9, 6], [62, 2000000])], [], [], [(24, [11, 13], [])], [], [])
theorem oo_Ho_dots_7 {kA : Nat → ClassId} : or_ok PRD kA GG o_Ho_dots_7 := by
  refine or_mk fun A ta ws vs hD hth hl => ?_
  intro t13 r13 f0 f1 f2 f3
  replace f0 := shm_163 f0
  replace f1 := shm_793 f1
  replace f2 := shm_163 f2
  replace f3 := shm_1939 f3
  have nf0 : fc_1 PRD (24, [11, 13], []) ws (vs) := by
    refine ⟨nf_in hl rfl, sgq_5 ?_⟩
    · show n_v vs 11 = n_v vs 13
      obtain ⟨ax, _, ex, _⟩ := tv_ref t13 rfl
      exact hdg_eq f3.1 f3.2 f2 f1 f0 ⟨ax, ex⟩
  refine ⟨(fun _ h => (by cases h)), [], trivial, ?_, (fun _ h => (by cases h))⟩
  rw [List.append_nil]
  exact List.forall_mem_cons.mpr ⟨⟨show (24 : Nat) < 100 from by decide, nf0⟩, (fun _ h => (by cases h))⟩
def o_Ho_dots_8 : or_T := (218, 17, [(0, (2, 0, 0, [12])), (4, (0, 0, 3066, [])), (5, (2, 0, 0, [12])), (6, (0, 0, 3, [])), (9, (2, 0, 0, [0])), (10, (0, 0, 24, [])), (11, (2, 0, 0, [3])), (13, (2, 0, 0, [3])), (14, (0, 0, 24, []))], [(7, [10, 14], [3]), (9, [14, 13], [0]), (24, [11, 13], []), (20, [5, 4, 9, 6], [62, 2000000]), (20, [9, 11], [60, 4, 3, 932, 17, 19, 1000, 1001, 2, 4, 5]), (20, [9, 11], [60, 4, 3, 939, 18, 20, 1000, 1001, 3, 4, 6]), (24, [0, 5], [])], [], [], [(20, [5, 4], [62, 2000000])], [], [(10, 14, 0, 4294967296)])
theorem oo_Ho_dots_8 {kA : Nat → ClassId} : or_ok PRD kA GG o_Ho_dots_8 := by
  refine or_mk fun A ta ws vs hD hth hl => ?_
  intro t0 r0 t4 k4 t5 r5 t6 k6 t9 r9 t10 k10 t11 r11 t13 r13 t14 k14 d0 f0 f1 f2 f3 f4 f5 f6
  replace f0 := shm_2 f0
  replace f1 := shm_163 f1
  replace f2 := shm_5 f2
  replace f3 := shm_1939 f3
  replace f4 := shm_1490 f4
  replace f5 := shm_1491 f5
  replace f6 := shm_5 f6
  have q13 : n_v vs 13 = n_v vs 11 := f2.symm
  have q5 : n_v vs 5 = n_v vs 0 := f6.symm
  simp only [q13, q5] at f1 f3
  have cr_9_2 := fdq_45 hD hth r9
  have cr_9_3 := fdq_48 hD hth r9
  have cr_9_4 := fdq_1 hD hth r9
  have cr_9_5 := fdq_2 hD hth r9
  have cr_9_6 := fdq_3 hD hth r9
  have g1 : v_iv (n_v vs 14) = w_fi ws (n_v vs 11) 0 := congrArg v_iv f1
  have hK_9_2 := elq_10 hD hth cr_9_2
  have hK_9_3 := elq_13 hD hth cr_9_3
  have hK_9_4 := elq_0 hD hth cr_9_4
  have hK_9_5 := elq_1 hD hth cr_9_5
  have hK_9_6 := elq_2 hD hth cr_9_6
  have kz_9_17 := fdq_198 hD hth r9
  have kz_9_18 := fdq_200 hD hth r9
  have kz_9_19 := fdq_199 hD hth r9
  have kz_9_20 := fdq_201 hD hth r9
  have kz_11_0 := fdq_21 hD hth r11
  have kz_11_1 := fdq_30 hD hth r11
  have nf0 : fc_1 PRD (20, [5, 4], [62, 2000000]) ws (vs) := by
    refine ⟨nf_in hl rfl, sgq_161 ?_⟩
    · show HY ws (n_v vs 5) (v_iv (n_v vs 4) + (((2000000 : Nat) : Int) - 2000000))
      first | rw [q5] | skip
      exact hy_le f3.1 (by omega)
  refine ⟨(fun _ h => (by cases h)), [], trivial, ?_, (fun _ h => (by cases h))⟩
  rw [List.append_nil]
  exact List.forall_mem_cons.mpr ⟨⟨show (20 : Nat) < 100 from by decide, nf0⟩, (fun _ h => (by cases h))⟩
set_option maxHeartbeats 4000000 in
theorem vc_Ho_dots_9_0 (x10 : Int) (x14 : Int) (x24 : Int) (x_0o9 : Int → Int) (nodes_0o11 : Int) (bends_0o9 : Int → Int) (bendX_0o9 : Int → Int) (leastX_0o9 : Int) (mostX_0o9 : Int) (edges_0o11 : Int) (y_0o9 : Int → Int) (bendY_0o9 : Int → Int) (leastY_0o9 : Int) (mostY_0o9 : Int) (k10 : 0 ≤ x10 ∧ x10 ≤ 23) (k14 : 1 ≤ x14 ∧ x14 ≤ 24) (k24 : (-40000000) ≤ x24 ∧ x24 ≤ 690000000) (d0 : x14 + (-4294967296) ≤ x10 ∧ x10 ≤ x14 + (-1)) (h0 : x24 = x_0o9 (x10)) (g3 : x14 = nodes_0o11) (f5 : MSX (leastX_0o9) (mostX_0o9) (nodes_0o11) (edges_0o11) (x_0o9) (bends_0o9) (bendX_0o9)) (kz_9_17 : (-41000000) ≤ leastX_0o9 ∧ leastX_0o9 ≤ 690000000) (kz_9_19 : (-40000000) ≤ mostX_0o9 ∧ mostX_0o9 ≤ 1001000000) (kz_11_0 : 0 ≤ nodes_0o11 ∧ nodes_0o11 ≤ 24) (kz_11_1 : 0 ≤ edges_0o11 ∧ edges_0o11 ≤ 48) : (leastX_0o9 ≤ x24) ∧ (x24 ≤ mostX_0o9) := by
  first
    | omega
    | assumption
    | (have h := (show MSX leastX_0o9 mostX_0o9 nodes_0o11 edges_0o11 x_0o9 bends_0o9 bendX_0o9 by assumption).2.2.1 x10 (by omega) (by omega)
       rw [← ‹x24 = x_0o9 x10›] at h
       exact h)
    | (have h := (show MSY leastY_0o9 mostY_0o9 nodes_0o11 edges_0o11 y_0o9 bends_0o9 bendY_0o9 by assumption).2.2.1 x10 (by omega) (by omega)
       rw [← ‹x27 = y_0o9 x10›] at h
       exact h)
  
def o_Ho_dots_9 : or_T := (184, 25, [(9, (2, 0, 0, [0])), (10, (0, 0, 23, [])), (11, (2, 0, 0, [3])), (14, (0, 1, 24, [])), (24, (0, -40000000, 690000000, []))], [(10, [24, 23, 10], []), (9, [23, 9], [2]), (9, [14, 13], [0]), (24, [11, 13], []), (20, [9, 11], [60, 4, 3, 932, 17, 19, 1000, 1001, 2, 4, 5])], [], [], [(20, [9, 24], [50, 2, 0, 17, 19, 2, 7, 0, 3, 2, 0, 17, 1, 1, 0, 2, 1, 1, 2, 0, 19])], [], [(10, 14, -4294967296, -1)])
theorem oo_Ho_dots_9 {kA : Nat → ClassId} : or_ok PRD kA GG o_Ho_dots_9 := by
  refine or_mk fun A ta ws vs hD hth hl => ?_
  intro t9 r9 t10 k10 t11 r11 t14 k14 t24 k24 d0 f0 f1 f3 f4 f5
  replace f0 := shm_107 f0
  replace f1 := shm_120 f1
  replace f3 := shm_163 f3
  replace f4 := shm_5 f4
  have q13 : n_v vs 13 = n_v vs 11 := f4.symm
  simp only [q13] at f3
  have ad_23 : v_ad (n_v vs 23) = w_ar ws (n_v vs 9) 2 := congrArg v_ad f1
  simp only [ad_23] at f0
  have h0 : v_iv (n_v vs 24) = w_ei ws (w_ar ws (n_v vs 9) 2) (v_iv (n_v vs 10)) := f0
  have g3 : v_iv (n_v vs 14) = w_fi ws (n_v vs 11) 0 := congrArg v_iv f3
  have kz_9_17 := fdq_198 hD hth r9
  have kz_9_19 := fdq_199 hD hth r9
  have kz_11_0 := fdq_21 hD hth r11
  have kz_11_1 := fdq_30 hD hth r11
  have nf0 : fc_1 PRD (20, [9, 24], [50, 2, 0, 17, 19, 2, 7, 0, 3, 2, 0, 17, 1, 1, 0, 2, 1, 1, 2, 0, 19]) ws (vs) := ⟨nf_in hl rfl, sgq_798 (vc_Ho_dots_9_0 (v_iv (n_v vs 10)) (v_iv (n_v vs 14)) (v_iv (n_v vs 24)) (w_ei ws (w_ar ws (n_v vs 9) 2)) (w_fi ws (n_v vs 11) 0) (w_ei ws (w_ar ws (n_v vs 9) 4)) (w_ei ws (w_ar ws (n_v vs 9) 5)) (w_fi ws (n_v vs 9) 17) (w_fi ws (n_v vs 9) 19) (w_fi ws (n_v vs 11) 1) (w_ei ws (w_ar ws (n_v vs 9) 3)) (w_ei ws (w_ar ws (n_v vs 9) 6)) (w_fi ws (n_v vs 9) 18) (w_fi ws (n_v vs 9) 20) k10 k14 k24 d0 h0 g3 (shm_1490 f5) kz_9_17 kz_9_19 kz_11_0 kz_11_1)⟩
  refine ⟨(fun _ h => (by cases h)), [], trivial, ?_, (fun _ h => (by cases h))⟩
  rw [List.append_nil]
  exact List.forall_mem_cons.mpr ⟨⟨show (20 : Nat) < 100 from by decide, nf0⟩, (fun _ h => (by cases h))⟩
set_option maxHeartbeats 4000000 in
theorem vc_Ho_dots_10_0 (x10 : Int) (x14 : Int) (x24 : Int) (x27 : Int) (y_0o9 : Int → Int) (leastX_0o9 : Int) (mostX_0o9 : Int) (x_0o9 : Int → Int) (nodes_0o11 : Int) (bends_0o9 : Int → Int) (bendX_0o9 : Int → Int) (edges_0o11 : Int) (bendY_0o9 : Int → Int) (leastY_0o9 : Int) (mostY_0o9 : Int) (k10 : 0 ≤ x10 ∧ x10 ≤ 23) (k14 : 1 ≤ x14 ∧ x14 ≤ 24) (k27 : (-40000000) ≤ x27 ∧ x27 ≤ 690000000) (d0 : x14 + (-4294967296) ≤ x10 ∧ x10 ≤ x14 + (-1)) (h0 : x27 = y_0o9 (x10)) (g6 : x14 = nodes_0o11) (f9 : MSY (leastY_0o9) (mostY_0o9) (nodes_0o11) (edges_0o11) (y_0o9) (bends_0o9) (bendY_0o9)) (kz_9_18 : (-41000000) ≤ leastY_0o9 ∧ leastY_0o9 ≤ 690000000) (kz_9_20 : (-40000000) ≤ mostY_0o9 ∧ mostY_0o9 ≤ 1001000000) (kz_11_0 : 0 ≤ nodes_0o11 ∧ nodes_0o11 ≤ 24) (kz_11_1 : 0 ≤ edges_0o11 ∧ edges_0o11 ≤ 48) : (leastY_0o9 ≤ x27) ∧ (x27 ≤ mostY_0o9) := by
  first
    | omega
    | assumption
    | (have h := (show MSX leastX_0o9 mostX_0o9 nodes_0o11 edges_0o11 x_0o9 bends_0o9 bendX_0o9 by assumption).2.2.1 x10 (by omega) (by omega)
       rw [← ‹x24 = x_0o9 x10›] at h
       exact h)
    | (have h := (show MSY leastY_0o9 mostY_0o9 nodes_0o11 edges_0o11 y_0o9 bends_0o9 bendY_0o9 by assumption).2.2.1 x10 (by omega) (by omega)
       rw [← ‹x27 = y_0o9 x10›] at h
       exact h)
  
def o_Ho_dots_10 : or_T := (198, 28, [(9, (2, 0, 0, [0])), (10, (0, 0, 23, [])), (11, (2, 0, 0, [3])), (14, (0, 1, 24, [])), (27, (0, -40000000, 690000000, []))], [(10, [27, 26, 10], []), (9, [26, 9], [3]), (9, [14, 13], [0]), (24, [11, 13], []), (20, [9, 11], [60, 4, 3, 939, 18, 20, 1000, 1001, 3, 4, 6])], [], [], [(20, [9, 27], [50, 2, 0, 18, 20, 2, 7, 0, 3, 2, 0, 18, 1, 1, 0, 2, 1, 1, 2, 0, 20])], [], [(10, 14, -4294967296, -1)])
theorem oo_Ho_dots_10 {kA : Nat → ClassId} : or_ok PRD kA GG o_Ho_dots_10 := by
  refine or_mk fun A ta ws vs hD hth hl => ?_
  intro t9 r9 t10 k10 t11 r11 t14 k14 t27 k27 d0 f0 f1 f6 f7 f9
  replace f0 := shm_107 f0
  replace f1 := shm_137 f1
  replace f6 := shm_163 f6
  replace f7 := shm_5 f7
  have q13 : n_v vs 13 = n_v vs 11 := f7.symm
  simp only [q13] at f6
  have ad_26 : v_ad (n_v vs 26) = w_ar ws (n_v vs 9) 3 := congrArg v_ad f1
  simp only [ad_26] at f0
  have h0 : v_iv (n_v vs 27) = w_ei ws (w_ar ws (n_v vs 9) 3) (v_iv (n_v vs 10)) := f0
  have g6 : v_iv (n_v vs 14) = w_fi ws (n_v vs 11) 0 := congrArg v_iv f6
  have kz_9_18 := fdq_200 hD hth r9
  have kz_9_20 := fdq_201 hD hth r9
  have kz_11_0 := fdq_21 hD hth r11
  have kz_11_1 := fdq_30 hD hth r11
  have nf0 : fc_1 PRD (20, [9, 27], [50, 2, 0, 18, 20, 2, 7, 0, 3, 2, 0, 18, 1, 1, 0, 2, 1, 1, 2, 0, 20]) ws (vs) := ⟨nf_in hl rfl, sgq_800 (vc_Ho_dots_10_0 (v_iv (n_v vs 10)) (v_iv (n_v vs 14)) (v_iv (n_v vs 24)) (v_iv (n_v vs 27)) (w_ei ws (w_ar ws (n_v vs 9) 3)) (w_fi ws (n_v vs 9) 17) (w_fi ws (n_v vs 9) 19) (w_ei ws (w_ar ws (n_v vs 9) 2)) (w_fi ws (n_v vs 11) 0) (w_ei ws (w_ar ws (n_v vs 9) 4)) (w_ei ws (w_ar ws (n_v vs 9) 5)) (w_fi ws (n_v vs 11) 1) (w_ei ws (w_ar ws (n_v vs 9) 6)) (w_fi ws (n_v vs 9) 18) (w_fi ws (n_v vs 9) 20) k10 k14 k27 d0 h0 g6 (shm_1491 f9) kz_9_18 kz_9_20 kz_11_0 kz_11_1)⟩
  refine ⟨(fun _ h => (by cases h)), [], trivial, ?_, (fun _ h => (by cases h))⟩
  rw [List.append_nil]
  exact List.forall_mem_cons.mpr ⟨⟨show (20 : Nat) < 100 from by decide, nf0⟩, (fun _ h => (by cases h))⟩
def o_Ho_dots_11 : or_T := (247, 13, [(0, (2, 0, 0, [12])), (4, (0, 0, 3066, [])), (5, (2, 0, 0, [12]))], [(20, [5], [62, 0]), (20, [5, 4], [62, 2000000]), (24, [0, 5], [])], [], [], [(20, [0], [62, 0]), (20, [0, 4], [62, 2000000])], [], [])
theorem oo_Ho_dots_11 {kA : Nat → ClassId} : or_ok PRD kA GG o_Ho_dots_11 := by
  refine or_mk fun A ta ws vs hD hth hl => ?_
  intro t0 r0 t4 k4 t5 r5 f0 f1 f2
  replace f0 := shm_1176 f0
  replace f1 := shm_161 f1
  replace f2 := shm_5 f2
  have q5 : n_v vs 5 = n_v vs 0 := f2.symm
  simp only [q5] at f0 f1
  have nf0 : fc_1 PRD (20, [0], [62, 0]) ws (vs) := by
    refine ⟨nf_in hl rfl, sgq_1176 ?_⟩
    · show WQF 0 [n_v vs 0] ws
      have zw := f0
      first | rw [show n_v vs 5 = n_v vs 0 from (by first | exact f2 | exact f2.symm)] at zw | skip
      exact zw
  have nf1 : fc_1 PRD (20, [0, 4], [62, 2000000]) ws (vs) := by
    refine ⟨nf_in hl rfl, sgq_161 ?_⟩
    · show HY ws (n_v vs 0) (v_iv (n_v vs 4) + (((2000000 : Nat) : Int) - 2000000))
      exact hy_le f1 (by omega)
  refine ⟨(fun _ h => (by cases h)), [], trivial, ?_, (fun _ h => (by cases h))⟩
  rw [List.append_nil]
  exact List.forall_mem_cons.mpr ⟨⟨show (20 : Nat) < 100 from by decide, nf0⟩, List.forall_mem_cons.mpr ⟨⟨show (20 : Nat) < 100 from by decide, nf1⟩, (fun _ h => (by cases h))⟩⟩
def n_Ho_dots_an : List an_T := [(66, [(0, (2, 0, 0, [12])), (1, (0, 0, 3, [])), (2, (0, 1, 64, [])), (3, (0, 1, 64, [])), (4, (2, 0, 0, [0])), (5, (0, 0, 48, []))], [], (0, 0), [(0, 0, 99934), (1, 10, 48), (0, 0, 100000), (0, 0, 0), (0, 0, 0)], [(1, 2, (Int.negSucc 999999999999), 2), (1, 3, (Int.negSucc 999999999999), 2), (1, 4, (Int.negSucc 999999999999), 3), (1, 6, (Int.negSucc 999999999999), 0), (1, 7, (Int.negSucc 999999999999), 2), (1, 8, (Int.negSucc 999999999999), 2), (1, 10, (Int.negSucc 999999999999), 3), (2, 1, (Int.negSucc 999999999999), 64), (2, 3, (Int.negSucc 999999999999), 63), (2, 4, (Int.negSucc 999999999999), 64), (2, 6, (Int.negSucc 999999999999), 64), (2, 7, (Int.negSucc 999999999999), 0), (2, 8, (Int.negSucc 999999999999), 63), (2, 10, (Int.negSucc 999999999999), 64), (3, 1, (Int.negSucc 999999999999), 64), (3, 2, (Int.negSucc 999999999999), 63), (3, 4, (Int.negSucc 999999999999), 64), (3, 6, (Int.negSucc 999999999999), 64), (3, 7, (Int.negSucc 999999999999), 63), (3, 8, (Int.negSucc 999999999999), 0), (3, 10, (Int.negSucc 999999999999), 64), (4, 1, (Int.negSucc 999999999999), 3066), (4, 2, (Int.negSucc 999999999999), 3065), (4, 3, (Int.negSucc 999999999999), 3065), (6, 1, (Int.negSucc 999999999999), 0), (6, 2, (Int.negSucc 999999999999), 2), (6, 3, (Int.negSucc 999999999999), 2), (7, 1, (Int.negSucc 999999999999), 64), (7, 2, (Int.negSucc 999999999999), 0), (7, 3, (Int.negSucc 999999999999), 63), (8, 1, (Int.negSucc 999999999999), 64), (8, 2, (Int.negSucc 999999999999), 63), (8, 3, (Int.negSucc 999999999999), 0)], [((4, 0), (2, 0, 0, [3]))], [(2, 0, 0, [12]), (0, (Int.negSucc 2147483647), 2147483647, []), (0, (Int.negSucc 2147483647), 2147483647, []), (0, (Int.negSucc 2147483647), 2147483647, []), (0, 0, 3066, [])], 0, [], [(20, [5], [62, 0]), (20, [5, 4, 9, 6], [62, 2000000]), (20, [9, 11], [60, 4, 3, 932, 17, 19, 1000, 1001, 2, 4, 5]), (20, [9, 11], [60, 4, 3, 939, 18, 20, 1000, 1001, 3, 4, 6]), (24, [0, 5], [])]), (100, [(0, (2, 0, 0, [12])), (1, (0, 0, 3, [])), (2, (0, 1, 64, [])), (3, (0, 1, 64, [])), (4, (2, 0, 0, [0])), (5, (0, 0, 47, [])), (6, (0, 1, 256, [])), (7, (0, 0, 25, []))], [], (0, 0), [(0, 0, 99934), (1, 10, 48), (0, 0, 99900), (1, 12, 25), (0, 0, 100000)], [(1, 2, (Int.negSucc 999999999999), 2), (1, 3, (Int.negSucc 999999999999), 2), (1, 4, (Int.negSucc 999999999999), 3), (1, 6, (Int.negSucc 999999999999), 0), (1, 7, (Int.negSucc 999999999999), 2), (1, 8, (Int.negSucc 999999999999), 2), (1, 10, (Int.negSucc 999999999999), 3), (1, 11, (Int.negSucc 999999999999), 2), (1, 12, (Int.negSucc 999999999999), 3), (2, 1, (Int.negSucc 999999999999), 64), (2, 3, (Int.negSucc 999999999999), 63), (2, 4, (Int.negSucc 999999999999), 64), (2, 6, (Int.negSucc 999999999999), 64), (2, 7, (Int.negSucc 999999999999), 0), (2, 8, (Int.negSucc 999999999999), 63), (2, 10, (Int.negSucc 999999999999), 64), (2, 11, (Int.negSucc 999999999999), 63), (2, 12, (Int.negSucc 999999999999), 64), (3, 1, (Int.negSucc 999999999999), 64), (3, 2, (Int.negSucc 999999999999), 63), (3, 4, (Int.negSucc 999999999999), 64), (3, 6, (Int.negSucc 999999999999), 64), (3, 7, (Int.negSucc 999999999999), 63), (3, 8, (Int.negSucc 999999999999), 0), (3, 10, (Int.negSucc 999999999999), 64), (3, 11, (Int.negSucc 999999999999), 63), (3, 12, (Int.negSucc 999999999999), 64), (4, 1, (Int.negSucc 999999999999), 3066), (4, 2, (Int.negSucc 999999999999), 3065), (4, 3, (Int.negSucc 999999999999), 3065), (6, 1, (Int.negSucc 999999999999), 0), (6, 2, (Int.negSucc 999999999999), 2), (6, 3, (Int.negSucc 999999999999), 2), (7, 1, (Int.negSucc 999999999999), 64), (7, 2, (Int.negSucc 999999999999), 0), (7, 3, (Int.negSucc 999999999999), 63), (8, 1, (Int.negSucc 999999999999), 64), (8, 2, (Int.negSucc 999999999999), 63), (8, 3, (Int.negSucc 999999999999), 0)], [((4, 0), (2, 0, 0, [3]))], [(2, 0, 0, [12]), (0, (Int.negSucc 2147483647), 2147483647, []), (0, (Int.negSucc 2147483647), 2147483647, []), (0, (Int.negSucc 2147483647), 2147483647, []), (0, 0, 3066, [])], 0, [], [(20, [5], [62, 0]), (20, [5, 4, 9, 6], [62, 2000000]), (20, [9, 13], [60, 4, 3, 932, 17, 19, 1000, 1001, 2, 4, 5]), (20, [9, 13], [60, 4, 3, 939, 18, 20, 1000, 1001, 3, 4, 6]), (20, [13], [60, 2, 2, 596, 0, 1, 7, 8]), (20, [10, 13], [50, 1, 0, 1001, 0, 6, 4, 2, 1, 0, 0, 1, 2, 1, 1]), (24, [0, 5], [])]), (140, [(0, (2, 0, 0, [12])), (1, (0, 0, 3, [])), (2, (0, 1, 64, [])), (3, (0, 1, 64, [])), (4, (2, 0, 0, [0])), (5, (0, 0, 24, []))], [], (0, 0), [(0, 0, 99860), (1, 10, 24), (0, 0, 100000), (0, 0, 0), (0, 0, 0)], [(1, 2, (Int.negSucc 999999999999), 2), (1, 3, (Int.negSucc 999999999999), 2), (1, 4, (Int.negSucc 999999999999), 3), (1, 6, (Int.negSucc 999999999999), 0), (1, 7, (Int.negSucc 999999999999), 2), (1, 8, (Int.negSucc 999999999999), 2), (1, 10, (Int.negSucc 999999999999), 3), (2, 1, (Int.negSucc 999999999999), 64), (2, 3, (Int.negSucc 999999999999), 63), (2, 4, (Int.negSucc 999999999999), 64), (2, 6, (Int.negSucc 999999999999), 64), (2, 7, (Int.negSucc 999999999999), 0), (2, 8, (Int.negSucc 999999999999), 63), (2, 10, (Int.negSucc 999999999999), 64), (3, 1, (Int.negSucc 999999999999), 64), (3, 2, (Int.negSucc 999999999999), 63), (3, 4, (Int.negSucc 999999999999), 64), (3, 6, (Int.negSucc 999999999999), 64), (3, 7, (Int.negSucc 999999999999), 63), (3, 8, (Int.negSucc 999999999999), 0), (3, 10, (Int.negSucc 999999999999), 64), (4, 1, (Int.negSucc 999999999999), 3066), (4, 2, (Int.negSucc 999999999999), 3065), (4, 3, (Int.negSucc 999999999999), 3065), (6, 1, (Int.negSucc 999999999999), 0), (6, 2, (Int.negSucc 999999999999), 2), (6, 3, (Int.negSucc 999999999999), 2), (7, 1, (Int.negSucc 999999999999), 64), (7, 2, (Int.negSucc 999999999999), 0), (7, 3, (Int.negSucc 999999999999), 63), (8, 1, (Int.negSucc 999999999999), 64), (8, 2, (Int.negSucc 999999999999), 63), (8, 3, (Int.negSucc 999999999999), 0)], [((4, 0), (2, 0, 0, [3]))], [(2, 0, 0, [12]), (0, (Int.negSucc 2147483647), 2147483647, []), (0, (Int.negSucc 2147483647), 2147483647, []), (0, (Int.negSucc 2147483647), 2147483647, []), (0, 0, 3066, [])], 0, [], [(20, [5], [62, 0]), (20, [5, 4, 9, 6], [62, 2000000]), (20, [9, 11], [60, 4, 3, 932, 17, 19, 1000, 1001, 2, 4, 5]), (20, [9, 11], [60, 4, 3, 939, 18, 20, 1000, 1001, 3, 4, 6]), (24, [0, 5], [])]), (218, [(0, (2, 0, 0, [12])), (1, (0, 0, 3, [])), (2, (0, 1, 64, [])), (3, (0, 1, 64, [])), (4, (2, 0, 0, [0])), (5, (0, 0, 4096, [])), (6, (0, 0, 4096, []))], [], (0, 0), [(0, 0, 99782), (1, 11, 4096), (0, 0, 100000), (0, 0, 0), (0, 0, 0)], [(1, 2, (Int.negSucc 999999999999), 2), (1, 3, (Int.negSucc 999999999999), 2), (1, 4, (Int.negSucc 999999999999), 3), (1, 6, (Int.negSucc 999999999999), 0), (1, 7, (Int.negSucc 999999999999), 2), (1, 8, (Int.negSucc 999999999999), 2), (1, 10, (Int.negSucc 999999999999), 3), (1, 11, (Int.negSucc 999999999999), 3), (2, 1, (Int.negSucc 999999999999), 64), (2, 3, (Int.negSucc 999999999999), 63), (2, 4, (Int.negSucc 999999999999), 64), (2, 6, (Int.negSucc 999999999999), 64), (2, 7, (Int.negSucc 999999999999), 0), (2, 8, (Int.negSucc 999999999999), 63), (2, 10, (Int.negSucc 999999999999), 64), (2, 11, (Int.negSucc 999999999999), 64), (3, 1, (Int.negSucc 999999999999), 64), (3, 2, (Int.negSucc 999999999999), 63), (3, 4, (Int.negSucc 999999999999), 64), (3, 6, (Int.negSucc 999999999999), 64), (3, 7, (Int.negSucc 999999999999), 63), (3, 8, (Int.negSucc 999999999999), 0), (3, 10, (Int.negSucc 999999999999), 64), (3, 11, (Int.negSucc 999999999999), 64), (4, 1, (Int.negSucc 999999999999), 3066), (4, 2, (Int.negSucc 999999999999), 3065), (4, 3, (Int.negSucc 999999999999), 3065), (6, 1, (Int.negSucc 999999999999), 0), (6, 2, (Int.negSucc 999999999999), 2), (6, 3, (Int.negSucc 999999999999), 2), (7, 1, (Int.negSucc 999999999999), 64), (7, 2, (Int.negSucc 999999999999), 0), (7, 3, (Int.negSucc 999999999999), 63), (8, 1, (Int.negSucc 999999999999), 64), (8, 2, (Int.negSucc 999999999999), 63), (8, 3, (Int.negSucc 999999999999), 0), (10, 11, (Int.negSucc 999999999999), 0)], [], [(2, 0, 0, [12]), (0, (Int.negSucc 2147483647), 2147483647, []), (0, (Int.negSucc 2147483647), 2147483647, []), (0, (Int.negSucc 2147483647), 2147483647, []), (0, 0, 3066, [])], 0, [], [(20, [5], [62, 0]), (20, [5, 4], [62, 2000000]), (24, [0, 5], [])])]
def t_Ho_dots_ct : ct_L := [(1, 323, e_Ho_hasDrawing), (1, 381, e_Dr_measure), (1, 387, e_Ho_drawLine), (1, 394, e_Dr_scaledX), (1, 400, e_Dr_scaledY), (1, 403, e_Ho_setDot), (144, 375, e_jArr_fill1_v762)]
set_option maxRecDepth 100000 in
theorem c_Ho_dots {l : Launch} {D : va_G} {kA : Nat → ClassId} (h_Dr_measure : ct_ok PRD l D kA GG y_Dr_measure z_Dr_measure e_Dr_measure) (h_Dr_scaledX : ct_ok PRD l D kA GG y_Dr_scaledX z_Dr_scaledX e_Dr_scaledX) (h_Dr_scaledY : ct_ok PRD l D kA GG y_Dr_scaledY z_Dr_scaledY e_Dr_scaledY) (h_Ho_drawLine : ct_ok PRD l D kA GG y_Ho_drawLine z_Ho_drawLine e_Ho_drawLine) (h_Ho_hasDrawing : ct_ok PRD l D kA GG y_Ho_hasDrawing z_Ho_hasDrawing e_Ho_hasDrawing) (h_Ho_setDot : ct_ok PRD l D kA GG y_Ho_setDot z_Ho_setDot e_Ho_setDot) : ct_ok PRD l D kA GG y_Ho_dots z_Ho_dots e_Ho_dots := chk_all_ok (FT := [(13, 12, 0), (31, 12, 3), (73, 12, 13), (132, 3, 0), (141, 3, 1), (361, 0, 14), (384, 0, 4), (391, 0, 2), (397, 0, 3)]) (PT := [(76, 12, 14, .int), (79, 12, 15, .int)]) (CT := t_Ho_dots_ct) (KT := []) (NT := []) (AN := n_Ho_dots_an) (OT := [o_Ho_dots_0, o_Ho_dots_1, o_Ho_dots_2, o_Ho_dots_3, o_Ho_dots_4, o_Ho_dots_5, o_Ho_dots_6, o_Ho_dots_7, o_Ho_dots_8, o_Ho_dots_9, o_Ho_dots_10, o_Ho_dots_11]) 5 592 (List.forall_mem_cons.mpr ⟨oo_Ho_dots_0, List.forall_mem_cons.mpr ⟨oo_Ho_dots_1, List.forall_mem_cons.mpr ⟨oo_Ho_dots_2, List.forall_mem_cons.mpr ⟨oo_Ho_dots_3, List.forall_mem_cons.mpr ⟨oo_Ho_dots_4, List.forall_mem_cons.mpr ⟨oo_Ho_dots_5, List.forall_mem_cons.mpr ⟨oo_Ho_dots_6, List.forall_mem_cons.mpr ⟨oo_Ho_dots_7, List.forall_mem_cons.mpr ⟨oo_Ho_dots_8, List.forall_mem_cons.mpr ⟨oo_Ho_dots_9, List.forall_mem_cons.mpr ⟨oo_Ho_dots_10, List.forall_mem_cons.mpr ⟨oo_Ho_dots_11, List.forall_mem_nil _⟩⟩⟩⟩⟩⟩⟩⟩⟩⟩⟩⟩) (by decide +kernel) ⟨List.forall_mem_cons.mpr ⟨gf_Ho_13, List.forall_mem_cons.mpr ⟨gf_Ho_31, List.forall_mem_cons.mpr ⟨gf_Ho_73, List.forall_mem_cons.mpr ⟨gf_Ho_132, List.forall_mem_cons.mpr ⟨gf_Ho_141, List.forall_mem_cons.mpr ⟨gf_Ho_361, List.forall_mem_cons.mpr ⟨gf_Ho_384, List.forall_mem_cons.mpr ⟨gf_Ho_391, List.forall_mem_cons.mpr ⟨gf_Ho_397, List.forall_mem_nil _⟩⟩⟩⟩⟩⟩⟩⟩⟩, List.forall_mem_cons.mpr ⟨pf_Ho_76, List.forall_mem_cons.mpr ⟨pf_Ho_79, List.forall_mem_nil _⟩⟩, List.forall_mem_cons.mpr ⟨cl_virtual (y := y_Ho_hasDrawing) (ci := 12) rfl rfl ⟨_, _, rfl⟩ (by decide +kernel) h_Ho_hasDrawing wm_1859 wm_1 wm_1856 wm_1858 wv_8_15 ⟨by decide, by decide, by decide +kernel⟩ (by decide), List.forall_mem_cons.mpr ⟨cl_virtual (y := y_Dr_measure) (ci := 0) rfl rfl ⟨_, _, rfl⟩ (by decide +kernel) h_Dr_measure wm_2066 wm_8 wm_2387 wm_2064 wm_2065 ⟨by decide, by decide, by decide +kernel⟩ (by decide), List.forall_mem_cons.mpr ⟨cl_virtual (y := y_Ho_drawLine) (ci := 12) rfl rfl ⟨_, _, rfl⟩ (by decide +kernel) h_Ho_drawLine wm_2391 wm_1 wm_2388 wm_2390 wv_12_6 ⟨by decide, by decide, by decide +kernel⟩ (by decide), List.forall_mem_cons.mpr ⟨cl_virtual (y := y_Dr_scaledX) (ci := 0) rfl rfl ⟨_, _, rfl⟩ (by decide +kernel) h_Dr_scaledX wm_2395 wm_8 wm_2392 wm_2393 wm_2394 ⟨by decide, by decide, by decide +kernel⟩ (by decide), List.forall_mem_cons.mpr ⟨cl_virtual (y := y_Dr_scaledY) (ci := 0) rfl rfl ⟨_, _, rfl⟩ (by decide +kernel) h_Dr_scaledY wm_2399 wm_8 wm_2396 wm_2397 wm_2398 ⟨by decide, by decide, by decide +kernel⟩ (by decide), List.forall_mem_cons.mpr ⟨cl_virtual (y := y_Ho_setDot) (ci := 12) rfl rfl ⟨_, _, rfl⟩ (by decide +kernel) h_Ho_setDot wm_2403 wm_1 wm_2400 wm_2402 wv_12_7 ⟨by decide, by decide, by decide +kernel⟩ (by decide), List.forall_mem_cons.mpr ⟨cl_static (y := y_jArr_fill1) c_jArr_fill1_v762 wm_55 wm_4 wm_1031 wm_54 ⟨by decide, by decide, by decide +kernel⟩ (by decide), List.forall_mem_nil _⟩⟩⟩⟩⟩⟩⟩, List.forall_mem_nil _, List.forall_mem_nil _, GG_pl⟩ (by decide +kernel)
set_option maxHeartbeats 4000000 in
theorem vc_La_bestOrders_0_0 (x1 : Int) (x3 : Int) (layerCount_0 : Int) (k1 : 0 ≤ x1 ∧ x1 ≤ 24) (k3 : (-1) ≤ x3 ∧ x3 ≤ 23) (d0 : x1 + (-1) ≤ x3 ∧ x3 ≤ x1 + (-1)) (g1 : x1 = layerCount_0) (f3 : 1 ≤ layerCount_0) (kz_0_2 : 0 ≤ layerCount_0 ∧ layerCount_0 ≤ 24) : (0 ≤ x3) ∧ ((x3 + 1) ≤ layerCount_0) := by
  first
    | omega
  
def o_La_bestOrders_0 : or_T := (9, 4, [(0, (2, 0, 0, [4])), (1, (0, 0, 24, [])), (3, (0, -1, 23, []))], [(9, [1, 0], [2]), (20, [0], [50, 1, 0, 2, 0, 2, 0, 1, 2, 0, 2])], [], [], [(20, [3, 0], [50, 1, 0, 1002, 2, 6, 0, 2, 0, 0, 1, 0, 0, 6, 4, 2, 1, 0, 0, 1, 2, 1, 2])], [], [(3, 1, -1, -1)])
theorem oo_La_bestOrders_0 {kA : Nat → ClassId} : or_ok PRD kA GG o_La_bestOrders_0 := by
  refine or_mk fun A ta ws vs hD hth hl => ?_
  intro t0 r0 t1 k1 t3 k3 d0 f1 f3
  replace f1 := shm_120 f1
  have g1 : v_iv (n_v vs 1) = w_fi ws (n_v vs 0) 2 := congrArg v_iv f1
  have kz_0_2 := fdq_77 hD hth r0
  have nf0 : fc_1 PRD (20, [3, 0], [50, 1, 0, 1002, 2, 6, 0, 2, 0, 0, 1, 0, 0, 6, 4, 2, 1, 0, 0, 1, 2, 1, 2]) ws (vs) := ⟨nf_in hl rfl, sgq_398 (vc_La_bestOrders_0_0 (v_iv (n_v vs 1)) (v_iv (n_v vs 3)) (w_fi ws (n_v vs 0) 2) k1 k3 d0 g1 (shm_1092 f3) kz_0_2)⟩
  refine ⟨(fun _ h => (by cases h)), [], trivial, ?_, (fun _ h => (by cases h))⟩
  rw [List.append_nil]
  exact List.forall_mem_cons.mpr ⟨⟨show (20 : Nat) < 100 from by decide, nf0⟩, (fun _ h => (by cases h))⟩
set_option maxHeartbeats 4000000 in
theorem vc_La_bestOrders_1_0 (x1 : Int) (x3 : Int) (layerCount_0 : Int) (k1 : 1 ≤ x1 ∧ x1 ≤ 24) (k3 : 0 ≤ x3 ∧ x3 ≤ 23) (d1 : x1 + (-1) ≤ x3 ∧ x3 ≤ x1 + (-1)) (g5 : x1 = layerCount_0) (kz_0_2 : 0 ≤ layerCount_0 ∧ layerCount_0 ≤ 24) : (x3 + 1) = layerCount_0 := by
  first
    | omega
  
set_option maxHeartbeats 4000000 in
theorem vc_La_bestOrders_1_1 (x1 : Int) (x3 : Int) (layerCount_0 : Int) (k1 : 1 ≤ x1 ∧ x1 ≤ 24) (k3 : 0 ≤ x3 ∧ x3 ≤ 23) (d1 : x1 + (-1) ≤ x3 ∧ x3 ≤ x1 + (-1)) (g5 : x1 = layerCount_0) (kz_0_2 : 0 ≤ layerCount_0 ∧ layerCount_0 ≤ 24) : 0 ≤ x3 := by
  first
    | omega
  
def o_La_bestOrders_1 : or_T := (18, 8, [(0, (2, 0, 0, [4])), (1, (0, 1, 24, [])), (3, (0, 0, 23, []))], [(9, [1, 0], [2])], [], [], [(20, [3, 0], [50, 1, 0, 1002, 1, 6, 4, 2, 1, 0, 0, 1, 2, 1, 2]), (20, [3], [50, 0, 0, 0, 2, 0, 0, 1, 0])], [], [(3, 1, -1, -1)])
theorem oo_La_bestOrders_1 {kA : Nat → ClassId} : or_ok PRD kA GG o_La_bestOrders_1 := by
  refine or_mk fun A ta ws vs hD hth hl => ?_
  intro t0 r0 t1 k1 t3 k3 d1 f5
  replace f5 := shm_120 f5
  have g5 : v_iv (n_v vs 1) = w_fi ws (n_v vs 0) 2 := congrArg v_iv f5
  have kz_0_2 := fdq_77 hD hth r0
  have nf0 : fc_1 PRD (20, [3, 0], [50, 1, 0, 1002, 1, 6, 4, 2, 1, 0, 0, 1, 2, 1, 2]) ws (vs) := ⟨nf_in hl rfl, sgq_1940 (vc_La_bestOrders_1_0 (v_iv (n_v vs 1)) (v_iv (n_v vs 3)) (w_fi ws (n_v vs 0) 2) k1 k3 d1 g5 kz_0_2)⟩
  have nf1 : fc_1 PRD (20, [3], [50, 0, 0, 0, 2, 0, 0, 1, 0]) ws (vs) := ⟨nf_in hl rfl, sgq_722 (vc_La_bestOrders_1_1 (v_iv (n_v vs 1)) (v_iv (n_v vs 3)) (w_fi ws (n_v vs 0) 2) k1 k3 d1 g5 kz_0_2)⟩
  refine ⟨(fun _ h => (by cases h)), [], trivial, ?_, (fun _ h => (by cases h))⟩
  rw [List.append_nil]
  exact List.forall_mem_cons.mpr ⟨⟨show (20 : Nat) < 100 from by decide, nf0⟩, List.forall_mem_cons.mpr ⟨⟨show (20 : Nat) < 100 from by decide, nf1⟩, (fun _ h => (by cases h))⟩⟩
set_option maxHeartbeats 4000000 in
theorem vc_La_bestOrders_2_0 (x1 : Int) (x4 : Int) (k1 : 0 ≤ x1 ∧ x1 ≤ 23) (k4 : (-1) ≤ x4 ∧ x4 ≤ 22) (d0 : x1 + (-1) ≤ x4 ∧ x4 ≤ x1 + (-1)) : (x4 + 1) ≤ x1 := by
  first
    | omega
  
def o_La_bestOrders_2 : or_T := (45, 5, [(1, (0, 0, 23, [])), (4, (0, -1, 22, []))], [], [], [], [(20, [4, 1], [50, 0, 0, 0, 6, 4, 2, 1, 0, 0, 1, 1, 1])], [], [(4, 1, -1, -1)])
theorem oo_La_bestOrders_2 {kA : Nat → ClassId} : or_ok PRD kA GG o_La_bestOrders_2 := by
  refine or_mk fun A ta ws vs hD hth hl => ?_
  intro t1 k1 t4 k4 d0
  have nf0 : fc_1 PRD (20, [4, 1], [50, 0, 0, 0, 6, 4, 2, 1, 0, 0, 1, 1, 1]) ws (vs) := ⟨nf_in hl rfl, sgq_396 (vc_La_bestOrders_2_0 (v_iv (n_v vs 1)) (v_iv (n_v vs 4)) k1 k4 d0)⟩
  refine ⟨(fun _ h => (by cases h)), [], trivial, ?_, (fun _ h => (by cases h))⟩
  rw [List.append_nil]
  exact List.forall_mem_cons.mpr ⟨⟨show (20 : Nat) < 100 from by decide, nf0⟩, (fun _ h => (by cases h))⟩
set_option maxHeartbeats 4000000 in
theorem vc_La_bestOrders_3_0 (x1 : Int) (x3 : Int) (layerCount_0 : Int) (k1 : 0 ≤ x1 ∧ x1 ≤ 23) (k3 : 0 ≤ x3 ∧ x3 ≤ 0) (f2 : (x1 + 1) = layerCount_0) (kz_0_2 : 0 ≤ layerCount_0 ∧ layerCount_0 ≤ 24) : (0 ≤ x3) ∧ ((x3 + 1) ≤ layerCount_0) := by
  first
    | omega
  
def o_La_bestOrders_3 : or_T := (145, 4, [(0, (2, 0, 0, [4])), (1, (0, 0, 23, [])), (3, (0, 0, 0, []))], [(20, [1, 0], [50, 1, 0, 1002, 1, 6, 4, 2, 1, 0, 0, 1, 2, 1, 2])], [], [], [(20, [3, 0], [50, 1, 0, 1002, 2, 6, 0, 2, 0, 0, 1, 0, 0, 6, 4, 2, 1, 0, 0, 1, 2, 1, 2])], [], [])
theorem oo_La_bestOrders_3 {kA : Nat → ClassId} : or_ok PRD kA GG o_La_bestOrders_3 := by
  refine or_mk fun A ta ws vs hD hth hl => ?_
  intro t0 r0 t1 k1 t3 k3 f2
  have kz_0_2 := fdq_77 hD hth r0
  have nf0 : fc_1 PRD (20, [3, 0], [50, 1, 0, 1002, 2, 6, 0, 2, 0, 0, 1, 0, 0, 6, 4, 2, 1, 0, 0, 1, 2, 1, 2]) ws (vs) := ⟨nf_in hl rfl, sgq_398 (vc_La_bestOrders_3_0 (v_iv (n_v vs 1)) (v_iv (n_v vs 3)) (w_fi ws (n_v vs 0) 2) k1 k3 (shm_1940 f2) kz_0_2)⟩
  refine ⟨(fun _ h => (by cases h)), [], trivial, ?_, (fun _ h => (by cases h))⟩
  rw [List.append_nil]
  exact List.forall_mem_cons.mpr ⟨⟨show (20 : Nat) < 100 from by decide, nf0⟩, (fun _ h => (by cases h))⟩
set_option maxHeartbeats 4000000 in
theorem vc_La_bestOrders_4_0 (x1 : Int) (x6 : Int) (layerCount_0 : Int) (k1 : 0 ≤ x1 ∧ x1 ≤ 23) (k6 : 0 ≤ x6 ∧ x6 ≤ 0) (f3 : (x1 + 1) = layerCount_0) (kz_0_2 : 0 ≤ layerCount_0 ∧ layerCount_0 ≤ 24) : (0 ≤ x6) ∧ ((x6 + 1) ≤ layerCount_0) := by
  first
    | omega
  
def o_La_bestOrders_4 : or_T := (153, 7, [(0, (2, 0, 0, [4])), (1, (0, 0, 23, [])), (6, (0, 0, 0, []))], [(20, [1, 0], [50, 1, 0, 1002, 1, 6, 4, 2, 1, 0, 0, 1, 2, 1, 2])], [], [], [(20, [6, 0], [50, 1, 0, 1002, 2, 6, 0, 2, 0, 0, 1, 0, 0, 6, 4, 2, 1, 0, 0, 1, 2, 1, 2])], [], [])
theorem oo_La_bestOrders_4 {kA : Nat → ClassId} : or_ok PRD kA GG o_La_bestOrders_4 := by
  refine or_mk fun A ta ws vs hD hth hl => ?_
  intro t0 r0 t1 k1 t6 k6 f3
  have kz_0_2 := fdq_77 hD hth r0
  have nf0 : fc_1 PRD (20, [6, 0], [50, 1, 0, 1002, 2, 6, 0, 2, 0, 0, 1, 0, 0, 6, 4, 2, 1, 0, 0, 1, 2, 1, 2]) ws (vs) := ⟨nf_in hl rfl, sgq_398 (vc_La_bestOrders_4_0 (v_iv (n_v vs 1)) (v_iv (n_v vs 6)) (w_fi ws (n_v vs 0) 2) k1 k6 (shm_1940 f3) kz_0_2)⟩
  refine ⟨(fun _ h => (by cases h)), [], trivial, ?_, (fun _ h => (by cases h))⟩
  rw [List.append_nil]
  exact List.forall_mem_cons.mpr ⟨⟨show (20 : Nat) < 100 from by decide, nf0⟩, (fun _ h => (by cases h))⟩
set_option maxHeartbeats 4000000 in
theorem vc_La_bestOrders_5_0 (x5 : Int) (layerStart_0 : Int → Int) (k5 : 0 ≤ x5 ∧ x5 ≤ 0) : KL0 (layerStart_0) (x5) := by
  first
    | exact klt_zero (by omega)
    | exact kl0_of ‹CT0 _ _› (by omega)
  
set_option maxHeartbeats 4000000 in
theorem vc_La_bestOrders_5_1 (x6 : Int) (x7 : Int) (x8 : Int) (x10 : Int) (layerStart_0 : Int → Int) (k6 : 0 ≤ x6 ∧ x6 ≤ 0) (k7 : 0 ≤ x7 ∧ x7 ≤ 6) (k8 : 1 ≤ x8 ∧ x8 ≤ 720) (k10 : 0 ≤ x10 ∧ x10 ≤ 719) (d0 : x8 + (-1) ≤ x10 ∧ x10 ≤ x8 + (-1)) (f1 : TBC (x7) (x8)) (f2 : x7 = (layerStart_0 ((x6 + 1)) - layerStart_0 (x6))) : CT0 (layerStart_0) (x10) := by
  first
    | (have q := ‹CT0 _ _›; unfold CT0 at q; unfold CT0; exact ⟨by omega, by omega⟩)
    | exact ct0_of (l := x6) (n := x7) (c := x8) ‹TBC x7 x8› (by assumption) (by omega) (by omega)
  
def o_La_bestOrders_5 : or_T := (163, 11, [(5, (0, 0, 0, [])), (6, (0, 0, 0, [])), (7, (0, 0, 6, [])), (8, (0, 1, 720, [])), (10, (0, 0, 719, []))], [(20, [7, 8], [61, 0, 684]), (20, [7, 0, 6], [50, 0, 1, 1010, 1, 2, 1, 0, 5, 9, 3, 1, 10, 4, 2, 1, 2, 0, 1, 3, 1, 10, 1, 2])], [], [], [(20, [0, 5], [60, 0, 1, 707, 10]), (20, [0, 10], [60, 0, 1, 708, 10])], [], [(10, 8, -1, -1)])
theorem oo_La_bestOrders_5 {kA : Nat → ClassId} : or_ok PRD kA GG o_La_bestOrders_5 := by
  refine or_mk fun A ta ws vs hD hth hl => ?_
  intro t5 k5 t6 k6 t7 k7 t8 k8 t10 k10 d0 f1 f2
  have nf0 : fc_1 PRD (20, [0, 5], [60, 0, 1, 707, 10]) ws (vs) := ⟨nf_in hl rfl, sgq_1941 (vc_La_bestOrders_5_0 (v_iv (n_v vs 5)) (w_ei ws (w_ar ws (n_v vs 0) 10)) k5)⟩
  have nf1 : fc_1 PRD (20, [0, 10], [60, 0, 1, 708, 10]) ws (vs) := ⟨nf_in hl rfl, sgq_1942 (vc_La_bestOrders_5_1 (v_iv (n_v vs 6)) (v_iv (n_v vs 7)) (v_iv (n_v vs 8)) (v_iv (n_v vs 10)) (w_ei ws (w_ar ws (n_v vs 0) 10)) k6 k7 k8 k10 d0 (shm_1197 f1) (shm_399 f2))⟩
  refine ⟨(fun _ h => (by cases h)), [], trivial, ?_, (fun _ h => (by cases h))⟩
  rw [List.append_nil]
  exact List.forall_mem_cons.mpr ⟨⟨show (20 : Nat) < 100 from by decide, nf0⟩, List.forall_mem_cons.mpr ⟨⟨show (20 : Nat) < 100 from by decide, nf1⟩, (fun _ h => (by cases h))⟩⟩
set_option maxHeartbeats 4000000 in
theorem vc_La_bestOrders_6_0 (x1 : Int) (x2 : Int) (layerCount_0 : Int) (k1 : 1 ≤ x1 ∧ x1 ≤ 23) (k2 : 0 ≤ x2 ∧ x2 ≤ 22) (d0 : x1 + (-4294967296) ≤ x2 ∧ x2 ≤ x1 + (-1)) (f2 : (x1 + 1) = layerCount_0) (kz_0_2 : 0 ≤ layerCount_0 ∧ layerCount_0 ≤ 24) : (0 ≤ x2) ∧ ((x2 + 1) ≤ layerCount_0) := by
  first
    | omega
  
def o_La_bestOrders_6 : or_T := (51, 3, [(0, (2, 0, 0, [4])), (1, (0, 1, 23, [])), (2, (0, 0, 22, []))], [(20, [1, 0], [50, 1, 0, 1002, 1, 6, 4, 2, 1, 0, 0, 1, 2, 1, 2])], [], [], [(20, [2, 0], [50, 1, 0, 1002, 2, 6, 0, 2, 0, 0, 1, 0, 0, 6, 4, 2, 1, 0, 0, 1, 2, 1, 2])], [], [(2, 1, -4294967296, -1)])
theorem oo_La_bestOrders_6 {kA : Nat → ClassId} : or_ok PRD kA GG o_La_bestOrders_6 := by
  refine or_mk fun A ta ws vs hD hth hl => ?_
  intro t0 r0 t1 k1 t2 k2 d0 f2
  have kz_0_2 := fdq_77 hD hth r0
  have nf0 : fc_1 PRD (20, [2, 0], [50, 1, 0, 1002, 2, 6, 0, 2, 0, 0, 1, 0, 0, 6, 4, 2, 1, 0, 0, 1, 2, 1, 2]) ws (vs) := ⟨nf_in hl rfl, sgq_398 (vc_La_bestOrders_6_0 (v_iv (n_v vs 1)) (v_iv (n_v vs 2)) (w_fi ws (n_v vs 0) 2) k1 k2 d0 (shm_1940 f2) kz_0_2)⟩
  refine ⟨(fun _ h => (by cases h)), [], trivial, ?_, (fun _ h => (by cases h))⟩
  rw [List.append_nil]
  exact List.forall_mem_cons.mpr ⟨⟨show (20 : Nat) < 100 from by decide, nf0⟩, (fun _ h => (by cases h))⟩
set_option maxHeartbeats 4000000 in
theorem vc_La_bestOrders_7_0 (x1 : Int) (x2 : Int) (x6 : Int) (layerCount_0 : Int) (k1 : 1 ≤ x1 ∧ x1 ≤ 23) (k2 : 0 ≤ x2 ∧ x2 ≤ 22) (k6 : 1 ≤ x6 ∧ x6 ≤ 23) (d0 : x2 + 1 ≤ x6 ∧ x6 ≤ x2 + 1) (d1 : x1 + (-4294967296) ≤ x6 ∧ x6 ≤ x1 + 0) (d2 : x1 + (-4294967296) ≤ x2 ∧ x2 ≤ x1 + (-1)) (f6 : (x1 + 1) = layerCount_0) (kz_0_2 : 0 ≤ layerCount_0 ∧ layerCount_0 ≤ 24) : (0 ≤ x6) ∧ ((x6 + 1) ≤ layerCount_0) := by
  first
    | omega
  
def o_La_bestOrders_7 : or_T := (62, 7, [(0, (2, 0, 0, [4])), (1, (0, 1, 23, [])), (2, (0, 0, 22, [])), (6, (0, 1, 23, []))], [(20, [1, 0], [50, 1, 0, 1002, 1, 6, 4, 2, 1, 0, 0, 1, 2, 1, 2])], [], [], [(20, [6, 0], [50, 1, 0, 1002, 2, 6, 0, 2, 0, 0, 1, 0, 0, 6, 4, 2, 1, 0, 0, 1, 2, 1, 2])], [], [(6, 2, 1, 1), (6, 1, -4294967296, 0), (2, 1, -4294967296, -1)])
theorem oo_La_bestOrders_7 {kA : Nat → ClassId} : or_ok PRD kA GG o_La_bestOrders_7 := by
  refine or_mk fun A ta ws vs hD hth hl => ?_
  intro t0 r0 t1 k1 t2 k2 t6 k6 d0 d1 d2 f6
  have kz_0_2 := fdq_77 hD hth r0
  have nf0 : fc_1 PRD (20, [6, 0], [50, 1, 0, 1002, 2, 6, 0, 2, 0, 0, 1, 0, 0, 6, 4, 2, 1, 0, 0, 1, 2, 1, 2]) ws (vs) := ⟨nf_in hl rfl, sgq_398 (vc_La_bestOrders_7_0 (v_iv (n_v vs 1)) (v_iv (n_v vs 2)) (v_iv (n_v vs 6)) (w_fi ws (n_v vs 0) 2) k1 k2 k6 d0 d1 d2 (shm_1940 f6) kz_0_2)⟩
  refine ⟨(fun _ h => (by cases h)), [], trivial, ?_, (fun _ h => (by cases h))⟩
  rw [List.append_nil]
  exact List.forall_mem_cons.mpr ⟨⟨show (20 : Nat) < 100 from by decide, nf0⟩, (fun _ h => (by cases h))⟩
set_option maxHeartbeats 4000000 in
theorem vc_La_bestOrders_8_0 (x1 : Int) (x2 : Int) (x6 : Int) (x9 : Int) (layerCount_0 : Int) (k1 : 1 ≤ x1 ∧ x1 ≤ 23) (k2 : 0 ≤ x2 ∧ x2 ≤ 22) (k6 : 1 ≤ x6 ∧ x6 ≤ 23) (k9 : 1 ≤ x9 ∧ x9 ≤ 23) (d0 : x2 + 1 ≤ x9 ∧ x9 ≤ x2 + 1) (d1 : x1 + (-4294967296) ≤ x9 ∧ x9 ≤ x1 + 0) (d2 : x2 + 1 ≤ x6 ∧ x6 ≤ x2 + 1) (d4 : x1 + (-4294967296) ≤ x2 ∧ x2 ≤ x1 + (-1)) (f9 : (x1 + 1) = layerCount_0) (kz_0_2 : 0 ≤ layerCount_0 ∧ layerCount_0 ≤ 24) : (0 ≤ x9) ∧ ((x9 + 1) ≤ layerCount_0) := by
  first
    | omega
  
def o_La_bestOrders_8 : or_T := (71, 10, [(0, (2, 0, 0, [4])), (1, (0, 1, 23, [])), (2, (0, 0, 22, [])), (6, (0, 1, 23, [])), (9, (0, 1, 23, []))], [(20, [1, 0], [50, 1, 0, 1002, 1, 6, 4, 2, 1, 0, 0, 1, 2, 1, 2])], [], [], [(20, [9, 0], [50, 1, 0, 1002, 2, 6, 0, 2, 0, 0, 1, 0, 0, 6, 4, 2, 1, 0, 0, 1, 2, 1, 2])], [], [(9, 2, 1, 1), (9, 1, -4294967296, 0), (6, 2, 1, 1), (2, 1, -4294967296, -1)])
theorem oo_La_bestOrders_8 {kA : Nat → ClassId} : or_ok PRD kA GG o_La_bestOrders_8 := by
  refine or_mk fun A ta ws vs hD hth hl => ?_
  intro t0 r0 t1 k1 t2 k2 t6 k6 t9 k9 d0 d1 d2 d4 f9
  have kz_0_2 := fdq_77 hD hth r0
  have nf0 : fc_1 PRD (20, [9, 0], [50, 1, 0, 1002, 2, 6, 0, 2, 0, 0, 1, 0, 0, 6, 4, 2, 1, 0, 0, 1, 2, 1, 2]) ws (vs) := ⟨nf_in hl rfl, sgq_398 (vc_La_bestOrders_8_0 (v_iv (n_v vs 1)) (v_iv (n_v vs 2)) (v_iv (n_v vs 6)) (v_iv (n_v vs 9)) (w_fi ws (n_v vs 0) 2) k1 k2 k6 k9 d0 d1 d2 d4 (shm_1940 f9) kz_0_2)⟩
  refine ⟨(fun _ h => (by cases h)), [], trivial, ?_, (fun _ h => (by cases h))⟩
  rw [List.append_nil]
  exact List.forall_mem_cons.mpr ⟨⟨show (20 : Nat) < 100 from by decide, nf0⟩, (fun _ h => (by cases h))⟩
set_option maxHeartbeats 4000000 in
theorem vc_La_bestOrders_9_0 (x2 : Int) (k2 : 0 ≤ x2 ∧ x2 ≤ 22) (f16 : 0 ≤ x2) : 0 ≤ x2 := by
  first
    | omega
  
set_option maxHeartbeats 4000000 in
theorem vc_La_bestOrders_9_1 (x6 : Int) (x7 : Int) (layerStart_0 : Int → Int) (k6 : 1 ≤ x6 ∧ x6 ≤ 23) (k7 : 0 ≤ x7 ∧ x7 ≤ 6) (f1 : x7 = (layerStart_0 ((x6 + 1)) - layerStart_0 (x6))) : x7 ≤ 6 := by
  first
    | omega
  
set_option maxHeartbeats 4000000 in
theorem vc_La_bestOrders_9_2 (x2 : Int) (x3 : Int) (x4 : Int) (layerStart_0 : Int → Int) (k2 : 0 ≤ x2 ∧ x2 ≤ 22) (k3 : 0 ≤ x3 ∧ x3 ≤ 6) (k4 : 1 ≤ x4 ∧ x4 ≤ 720) (f3 : TBC (x3) (x4)) (f4 : x3 = (layerStart_0 ((x2 + 1)) - layerStart_0 (x2))) : CTQ (layerStart_0) (x2) (x4) := by
  first
    | (have q := ‹TBC x3 x4›; unfold TBC at q; unfold CTQ; rw [q]; congr 1)
  
def o_La_bestOrders_9 : or_T := (77, 11, [(2, (0, 0, 22, [])), (3, (0, 0, 6, [])), (4, (0, 1, 720, [])), (6, (0, 1, 23, [])), (7, (0, 0, 6, []))], [(20, [7, 0, 6], [50, 0, 1, 1010, 1, 2, 1, 0, 5, 9, 3, 1, 10, 4, 2, 1, 2, 0, 1, 3, 1, 10, 1, 2]), (20, [3, 4], [61, 0, 684]), (20, [3, 0, 2], [50, 0, 1, 1010, 1, 2, 1, 0, 5, 9, 3, 1, 10, 4, 2, 1, 2, 0, 1, 3, 1, 10, 1, 2]), (102, [9], [151115727451828646838272]), (8, [2], [3])], [], [], [(20, [2], [50, 0, 0, 0, 2, 0, 0, 1, 0]), (20, [7], [50, 0, 0, 0, 2, 1, 0, 0, 6]), (20, [0, 2, 4], [60, 0, 1, 706, 10])], [], [])
theorem oo_La_bestOrders_9 {kA : Nat → ClassId} : or_ok PRD kA GG o_La_bestOrders_9 := by
  refine or_mk fun A ta ws vs hD hth hl => ?_
  intro t2 k2 t3 k3 t4 k4 t6 k6 t7 k7 f1 f3 f4 ta1 w1 le1 s1 f16
  have nf0 : fc_1 PRD (20, [2], [50, 0, 0, 0, 2, 0, 0, 1, 0]) ws (vs) := ⟨nf_in hl rfl, sgq_722 (vc_La_bestOrders_9_0 (v_iv (n_v vs 2)) k2 (shm_32 f16))⟩
  have nf1 : fc_1 PRD (20, [7], [50, 0, 0, 0, 2, 1, 0, 0, 6]) ws (vs) := ⟨nf_in hl rfl, sgq_395 (vc_La_bestOrders_9_1 (v_iv (n_v vs 6)) (v_iv (n_v vs 7)) (w_ei ws (w_ar ws (n_v vs 0) 10)) k6 k7 (shm_399 f1))⟩
  have nf2 : fc_1 PRD (20, [0, 2, 4], [60, 0, 1, 706, 10]) ws (vs) := ⟨nf_in hl rfl, sgq_1943 (vc_La_bestOrders_9_2 (v_iv (n_v vs 2)) (v_iv (n_v vs 3)) (v_iv (n_v vs 4)) (w_ei ws (w_ar ws (n_v vs 0) 10)) k2 k3 k4 (shm_1197 f3) (shm_399 f4))⟩
  refine ⟨(fun _ h => (by cases h)), [], trivial, ?_, (fun _ h => (by cases h))⟩
  rw [List.append_nil]
  exact List.forall_mem_cons.mpr ⟨⟨show (20 : Nat) < 100 from by decide, nf0⟩, List.forall_mem_cons.mpr ⟨⟨show (20 : Nat) < 100 from by decide, nf1⟩, List.forall_mem_cons.mpr ⟨⟨show (20 : Nat) < 100 from by decide, nf2⟩, (fun _ h => (by cases h))⟩⟩⟩
set_option maxHeartbeats 4000000 in
theorem vc_La_bestOrders_10_0 (x1 : Int) (x6 : Int) (layerCount_0 : Int) (k1 : 1 ≤ x1 ∧ x1 ≤ 23) (k6 : (-1) ≤ x6 ∧ x6 ≤ 21) (d1 : x1 + (-4294967296) ≤ x6 ∧ x6 ≤ x1 + (-2)) (f3 : (x1 + 1) = layerCount_0) (kz_0_2 : 0 ≤ layerCount_0 ∧ layerCount_0 ≤ 24) : (x6 + 1) ≤ x1 := by
  first
    | omega
  
def o_La_bestOrders_10 : or_T := (45, 7, [(0, (2, 0, 0, [4])), (1, (0, 1, 23, [])), (6, (0, -1, 21, []))], [(20, [1, 0], [50, 1, 0, 1002, 1, 6, 4, 2, 1, 0, 0, 1, 2, 1, 2])], [], [], [(20, [6, 1], [50, 0, 0, 0, 6, 4, 2, 1, 0, 0, 1, 1, 1])], [], [(6, 1, -4294967296, -2)])
theorem oo_La_bestOrders_10 {kA : Nat → ClassId} : or_ok PRD kA GG o_La_bestOrders_10 := by
  refine or_mk fun A ta ws vs hD hth hl => ?_
  intro t0 r0 t1 k1 t6 k6 d1 f3
  have kz_0_2 := fdq_77 hD hth r0
  have nf0 : fc_1 PRD (20, [6, 1], [50, 0, 0, 0, 6, 4, 2, 1, 0, 0, 1, 1, 1]) ws (vs) := ⟨nf_in hl rfl, sgq_396 (vc_La_bestOrders_10_0 (v_iv (n_v vs 1)) (v_iv (n_v vs 6)) (w_fi ws (n_v vs 0) 2) k1 k6 d1 (shm_1940 f3) kz_0_2)⟩
  refine ⟨(fun _ h => (by cases h)), [], trivial, ?_, (fun _ h => (by cases h))⟩
  rw [List.append_nil]
  exact List.forall_mem_cons.mpr ⟨⟨show (20 : Nat) < 100 from by decide, nf0⟩, (fun _ h => (by cases h))⟩
set_option maxHeartbeats 4000000 in
theorem vc_La_bestOrders_11_0 (x1 : Int) (x2 : Int) (layerCount_0 : Int) (k1 : 1 ≤ x1 ∧ x1 ≤ 23) (k2 : 0 ≤ x2 ∧ x2 ≤ 22) (d1 : x1 + (-4294967296) ≤ x2 ∧ x2 ≤ x1 + (-1)) (f2 : (x1 + 1) = layerCount_0) (kz_0_2 : 0 ≤ layerCount_0 ∧ layerCount_0 ≤ 24) : (0 ≤ x2) ∧ ((x2 + 1) ≤ layerCount_0) := by
  first
    | omega
  
set_option maxHeartbeats 4000000 in
theorem vc_La_bestOrders_11_1 (x2 : Int) (x3 : Int) (x5 : Int) (layerStart_0 : Int → Int) (k2 : 0 ≤ x2 ∧ x2 ≤ 22) (k3 : 1 ≤ x3 ∧ x3 ≤ 720) (k5 : 0 ≤ x5 ∧ x5 ≤ 719) (d0 : x3 + (-4294967296) ≤ x5 ∧ x5 ≤ x3 + (-1)) (f10 : CTQ (layerStart_0) (x2) (x3)) : KLT (layerStart_0) (x2) (x5) := by
  first
    | assumption
    | (have q := ‹CTQ _ _ _›; unfold CTQ at q; exact ⟨by omega, by omega⟩)
    | (have q := ‹KL0 _ _›; unfold KL0 at q; rw [show x5 = 0 by omega]; exact q)
  
def o_La_bestOrders_11 : or_T := (87, 6, [(0, (2, 0, 0, [4])), (1, (0, 1, 23, [])), (2, (0, 0, 22, [])), (3, (0, 1, 720, [])), (5, (0, 0, 719, []))], [(20, [1, 0], [50, 1, 0, 1002, 1, 6, 4, 2, 1, 0, 0, 1, 2, 1, 2]), (20, [0, 2, 3], [60, 0, 1, 706, 10])], [], [], [(20, [2, 0], [50, 1, 0, 1002, 2, 6, 0, 2, 0, 0, 1, 0, 0, 6, 4, 2, 1, 0, 0, 1, 2, 1, 2]), (20, [0, 2, 5], [60, 0, 1, 686, 10])], [], [(5, 3, -4294967296, -1), (2, 1, -4294967296, -1)])
theorem oo_La_bestOrders_11 {kA : Nat → ClassId} : or_ok PRD kA GG o_La_bestOrders_11 := by
  refine or_mk fun A ta ws vs hD hth hl => ?_
  intro t0 r0 t1 k1 t2 k2 t3 k3 t5 k5 d0 d1 f2 f10
  have kz_0_2 := fdq_77 hD hth r0
  have nf0 : fc_1 PRD (20, [2, 0], [50, 1, 0, 1002, 2, 6, 0, 2, 0, 0, 1, 0, 0, 6, 4, 2, 1, 0, 0, 1, 2, 1, 2]) ws (vs) := ⟨nf_in hl rfl, sgq_398 (vc_La_bestOrders_11_0 (v_iv (n_v vs 1)) (v_iv (n_v vs 2)) (w_fi ws (n_v vs 0) 2) k1 k2 d1 (shm_1940 f2) kz_0_2)⟩
  have nf1 : fc_1 PRD (20, [0, 2, 5], [60, 0, 1, 686, 10]) ws (vs) := ⟨nf_in hl rfl, sgq_1097 (vc_La_bestOrders_11_1 (v_iv (n_v vs 2)) (v_iv (n_v vs 3)) (v_iv (n_v vs 5)) (w_ei ws (w_ar ws (n_v vs 0) 10)) k2 k3 k5 d0 (shm_1943 f10))⟩
  refine ⟨(fun _ h => (by cases h)), [], trivial, ?_, (fun _ h => (by cases h))⟩
  rw [List.append_nil]
  exact List.forall_mem_cons.mpr ⟨⟨show (20 : Nat) < 100 from by decide, nf0⟩, List.forall_mem_cons.mpr ⟨⟨show (20 : Nat) < 100 from by decide, nf1⟩, (fun _ h => (by cases h))⟩⟩
set_option maxHeartbeats 4000000 in
theorem vc_La_bestOrders_12_0 (x1 : Int) (x2 : Int) (layerCount_0 : Int) (k1 : 1 ≤ x1 ∧ x1 ≤ 23) (k2 : 0 ≤ x2 ∧ x2 ≤ 22) (d1 : x1 + (-4294967296) ≤ x2 ∧ x2 ≤ x1 + (-1)) (f3 : (x1 + 1) = layerCount_0) (kz_0_2 : 0 ≤ layerCount_0 ∧ layerCount_0 ≤ 24) : (0 ≤ x2) ∧ ((x2 + 2) ≤ layerCount_0) := by
  first
    | omega
  
def o_La_bestOrders_12 : or_T := (92, 6, [(0, (2, 0, 0, [4])), (1, (0, 1, 23, [])), (2, (0, 0, 22, []))], [(20, [1, 0], [50, 1, 0, 1002, 1, 6, 4, 2, 1, 0, 0, 1, 2, 1, 2])], [], [], [(20, [2, 0], [50, 1, 0, 1002, 2, 6, 0, 2, 0, 0, 1, 0, 0, 6, 4, 2, 1, 0, 0, 2, 2, 1, 2])], [], [(2, 1, -4294967296, -1)])
theorem oo_La_bestOrders_12 {kA : Nat → ClassId} : or_ok PRD kA GG o_La_bestOrders_12 := by
  refine or_mk fun A ta ws vs hD hth hl => ?_
  intro t0 r0 t1 k1 t2 k2 d1 f3
  have kz_0_2 := fdq_77 hD hth r0
  have nf0 : fc_1 PRD (20, [2, 0], [50, 1, 0, 1002, 2, 6, 0, 2, 0, 0, 1, 0, 0, 6, 4, 2, 1, 0, 0, 2, 2, 1, 2]) ws (vs) := ⟨nf_in hl rfl, sgq_871 (vc_La_bestOrders_12_0 (v_iv (n_v vs 1)) (v_iv (n_v vs 2)) (w_fi ws (n_v vs 0) 2) k1 k2 d1 (shm_1940 f3) kz_0_2)⟩
  refine ⟨(fun _ h => (by cases h)), [], trivial, ?_, (fun _ h => (by cases h))⟩
  rw [List.append_nil]
  exact List.forall_mem_cons.mpr ⟨⟨show (20 : Nat) < 100 from by decide, nf0⟩, (fun _ h => (by cases h))⟩
set_option maxHeartbeats 4000000 in
theorem vc_La_bestOrders_13_0 (x13 : Int) (x15 : Int) (k13 : 1 ≤ x13 ∧ x13 ≤ 64) (k15 : 0 ≤ x15 ∧ x15 ≤ 63) (d0 : x13 + (-1) ≤ x15 ∧ x15 ≤ x13 + (-1)) : BL6 (x15) := by
  first
    | exact bl6_all (by omega) (by omega)
  
def o_La_bestOrders_13 : or_T := (127, 17, [(13, (0, 1, 64, [])), (15, (0, 0, 63, []))], [], [], [], [(20, [15], [61, 0, 702])], [], [(15, 13, -1, -1)])
theorem oo_La_bestOrders_13 {kA : Nat → ClassId} : or_ok PRD kA GG o_La_bestOrders_13 := by
  refine or_mk fun A ta ws vs hD hth hl => ?_
  intro t13 k13 t15 k15 d0
  have nf0 : fc_1 PRD (20, [15], [61, 0, 702]) ws (vs) := ⟨nf_in hl rfl, sgq_1384 (vc_La_bestOrders_13_0 (v_iv (n_v vs 13)) (v_iv (n_v vs 15)) k13 k15 d0)⟩
  refine ⟨(fun _ h => (by cases h)), [], trivial, ?_, (fun _ h => (by cases h))⟩
  rw [List.append_nil]
  exact List.forall_mem_cons.mpr ⟨⟨show (20 : Nat) < 100 from by decide, nf0⟩, (fun _ h => (by cases h))⟩
set_option maxHeartbeats 4000000 in
theorem vc_La_bestOrders_14_0 (x1 : Int) (x5 : Int) (layerCount_0 : Int) (k1 : 0 ≤ x1 ∧ x1 ≤ 23) (k5 : 0 ≤ x5 ∧ x5 ≤ 0) (f2 : (x1 + 1) = layerCount_0) (kz_0_2 : 0 ≤ layerCount_0 ∧ layerCount_0 ≤ 24) : (0 ≤ x5) ∧ ((x5 + 1) ≤ layerCount_0) := by
  first
    | omega
  
set_option maxHeartbeats 4000000 in
theorem vc_La_bestOrders_14_1 (x3 : Int) (x5 : Int) (layerStart_0 : Int → Int) (k3 : 0 ≤ x3 ∧ x3 ≤ 719) (k5 : 0 ≤ x5 ∧ x5 ≤ 0) (f7 : KL0 (layerStart_0) (x3)) : KLT (layerStart_0) (x5) (x3) := by
  first
    | assumption
    | (have q := ‹CTQ _ _ _›; unfold CTQ at q; exact ⟨by omega, by omega⟩)
    | (have q := ‹KL0 _ _›; unfold KL0 at q; rw [show x5 = 0 by omega]; exact q)
  
def o_La_bestOrders_14 : or_T := (195, 6, [(0, (2, 0, 0, [4])), (1, (0, 0, 23, [])), (3, (0, 0, 719, [])), (5, (0, 0, 0, []))], [(20, [1, 0], [50, 1, 0, 1002, 1, 6, 4, 2, 1, 0, 0, 1, 2, 1, 2]), (20, [0, 3], [60, 0, 1, 707, 10])], [], [], [(20, [5, 0], [50, 1, 0, 1002, 2, 6, 0, 2, 0, 0, 1, 0, 0, 6, 4, 2, 1, 0, 0, 1, 2, 1, 2]), (20, [0, 5, 3], [60, 0, 1, 686, 10])], [], [])
theorem oo_La_bestOrders_14 {kA : Nat → ClassId} : or_ok PRD kA GG o_La_bestOrders_14 := by
  refine or_mk fun A ta ws vs hD hth hl => ?_
  intro t0 r0 t1 k1 t3 k3 t5 k5 f2 f7
  have kz_0_2 := fdq_77 hD hth r0
  have nf0 : fc_1 PRD (20, [5, 0], [50, 1, 0, 1002, 2, 6, 0, 2, 0, 0, 1, 0, 0, 6, 4, 2, 1, 0, 0, 1, 2, 1, 2]) ws (vs) := ⟨nf_in hl rfl, sgq_398 (vc_La_bestOrders_14_0 (v_iv (n_v vs 1)) (v_iv (n_v vs 5)) (w_fi ws (n_v vs 0) 2) k1 k5 (shm_1940 f2) kz_0_2)⟩
  have nf1 : fc_1 PRD (20, [0, 5, 3], [60, 0, 1, 686, 10]) ws (vs) := ⟨nf_in hl rfl, sgq_1097 (vc_La_bestOrders_14_1 (v_iv (n_v vs 3)) (v_iv (n_v vs 5)) (w_ei ws (w_ar ws (n_v vs 0) 10)) k3 k5 (shm_1941 f7))⟩
  refine ⟨(fun _ h => (by cases h)), [], trivial, ?_, (fun _ h => (by cases h))⟩
  rw [List.append_nil]
  exact List.forall_mem_cons.mpr ⟨⟨show (20 : Nat) < 100 from by decide, nf0⟩, List.forall_mem_cons.mpr ⟨⟨show (20 : Nat) < 100 from by decide, nf1⟩, (fun _ h => (by cases h))⟩⟩
set_option maxHeartbeats 4000000 in
theorem vc_La_bestOrders_15_0 (x6 : Int) (k6 : 1 ≤ x6 ∧ x6 ≤ 1) : 1 ≤ x6 := by
  first
    | omega
  
def o_La_bestOrders_15 : or_T := (201, 7, [(6, (0, 1, 1, []))], [], [], [], [(20, [6], [50, 0, 0, 0, 2, 0, 1, 1, 0])], [], [])
theorem oo_La_bestOrders_15 {kA : Nat → ClassId} : or_ok PRD kA GG o_La_bestOrders_15 := by
  refine or_mk fun A ta ws vs hD hth hl => ?_
  intro t6 k6
  have nf0 : fc_1 PRD (20, [6], [50, 0, 0, 0, 2, 0, 1, 1, 0]) ws (vs) := ⟨nf_in hl rfl, sgq_710 (vc_La_bestOrders_15_0 (v_iv (n_v vs 6)) k6)⟩
  refine ⟨(fun _ h => (by cases h)), [], trivial, ?_, (fun _ h => (by cases h))⟩
  rw [List.append_nil]
  exact List.forall_mem_cons.mpr ⟨⟨show (20 : Nat) < 100 from by decide, nf0⟩, (fun _ h => (by cases h))⟩
set_option maxHeartbeats 4000000 in
theorem vc_La_bestOrders_16_0 (x4 : Int) (x7 : Int) (layerStart_0 : Int → Int) (k4 : 0 ≤ x4 ∧ x4 ≤ 719) (k7 : (-1) ≤ x7 ∧ x7 ≤ 718) (d0 : x4 + (-1) ≤ x7 ∧ x7 ≤ x4 + (-1)) (f9 : CT0 (layerStart_0) (x4)) : CT0 (layerStart_0) (x7) := by
  first
    | (have q := ‹CT0 _ _›; unfold CT0 at q; unfold CT0; exact ⟨by omega, by omega⟩)
    | exact ct0_of (l := x6) (n := x7) (c := x8) ‹TBC x7 x8› (by assumption) (by omega) (by omega)
  
def o_La_bestOrders_16 : or_T := (163, 8, [(0, (2, 0, 0, [4])), (1, (0, 0, 23, [])), (3, (0, 0, 719, [])), (4, (0, 0, 719, [])), (7, (0, -1, 718, []))], [(6, [7, 4], [-1]), (8, [4], [3]), (20, [0], [60, 1, 1, 636, 2, 10]), (20, [1, 0], [50, 1, 0, 1002, 1, 6, 4, 2, 1, 0, 0, 1, 2, 1, 2]), (20, [1], [50, 0, 0, 0, 2, 0, 0, 1, 0]), (20, [0], [60, 0, 1, 648, 17]), (20, [0], [60, 2, 2, 668, 3, 2, 7, 9]), (20, [0], [60, 1, 1, 688, 3, 12]), (20, [0, 3], [60, 0, 1, 707, 10]), (20, [0, 4], [60, 0, 1, 708, 10])], [], [], [(20, [0, 7], [60, 0, 1, 708, 10])], [], [(7, 4, -1, -1)])
theorem oo_La_bestOrders_16 {kA : Nat → ClassId} : or_ok PRD kA GG o_La_bestOrders_16 := by
  refine or_mk fun A ta ws vs hD hth hl => ?_
  intro t0 r0 t1 k1 t3 k3 t4 k4 t7 k7 d0 f0 f1 f2 f3 f4 f5 f6 f7 f8 f9
  have nf0 : fc_1 PRD (20, [0, 7], [60, 0, 1, 708, 10]) ws (vs) := ⟨nf_in hl rfl, sgq_1942 (vc_La_bestOrders_16_0 (v_iv (n_v vs 4)) (v_iv (n_v vs 7)) (w_ei ws (w_ar ws (n_v vs 0) 10)) k4 k7 d0 (shm_1942 f9))⟩
  refine ⟨(fun _ h => (by cases h)), [], trivial, ?_, (fun _ h => (by cases h))⟩
  rw [List.append_nil]
  exact List.forall_mem_cons.mpr ⟨⟨show (20 : Nat) < 100 from by decide, nf0⟩, (fun _ h => (by cases h))⟩
set_option maxHeartbeats 4000000 in
theorem vc_La_bestOrders_17_0 (x4 : Int) (layerStart_0 : Int → Int) (k4 : 0 ≤ x4 ∧ x4 ≤ 719) (f1 : 0 ≤ x4) (f9 : CT0 (layerStart_0) (x4)) : KL0 (layerStart_0) (x4) := by
  first
    | exact klt_zero (by omega)
    | exact kl0_of ‹CT0 _ _› (by omega)
  
set_option maxHeartbeats 4000000 in
theorem vc_La_bestOrders_17_1 (x4 : Int) (x7 : Int) (layerStart_0 : Int → Int) (k4 : 0 ≤ x4 ∧ x4 ≤ 719) (k7 : (-1) ≤ x7 ∧ x7 ≤ 718) (d0 : x4 + (-1) ≤ x7 ∧ x7 ≤ x4 + (-1)) (f9 : CT0 (layerStart_0) (x4)) : CT0 (layerStart_0) (x7) := by
  first
    | (have q := ‹CT0 _ _›; unfold CT0 at q; unfold CT0; exact ⟨by omega, by omega⟩)
    | exact ct0_of (l := x6) (n := x7) (c := x8) ‹TBC x7 x8› (by assumption) (by omega) (by omega)
  
def o_La_bestOrders_17 : or_T := (163, 8, [(0, (2, 0, 0, [4])), (1, (0, 0, 23, [])), (3, (0, 0, 719, [])), (4, (0, 0, 719, [])), (7, (0, -1, 718, []))], [(6, [7, 4], [-1]), (8, [4], [3]), (20, [0], [60, 1, 1, 636, 2, 10]), (20, [1, 0], [50, 1, 0, 1002, 1, 6, 4, 2, 1, 0, 0, 1, 2, 1, 2]), (20, [1], [50, 0, 0, 0, 2, 0, 0, 1, 0]), (20, [0], [60, 0, 1, 648, 17]), (20, [0], [60, 2, 2, 668, 3, 2, 7, 9]), (20, [0], [60, 1, 1, 688, 3, 12]), (20, [0, 3], [60, 0, 1, 707, 10]), (20, [0, 4], [60, 0, 1, 708, 10])], [], [], [(20, [0, 4], [60, 0, 1, 707, 10]), (20, [0, 7], [60, 0, 1, 708, 10])], [], [(7, 4, -1, -1)])
theorem oo_La_bestOrders_17 {kA : Nat → ClassId} : or_ok PRD kA GG o_La_bestOrders_17 := by
  refine or_mk fun A ta ws vs hD hth hl => ?_
  intro t0 r0 t1 k1 t3 k3 t4 k4 t7 k7 d0 f0 f1 f2 f3 f4 f5 f6 f7 f8 f9
  have nf0 : fc_1 PRD (20, [0, 4], [60, 0, 1, 707, 10]) ws (vs) := ⟨nf_in hl rfl, sgq_1941 (vc_La_bestOrders_17_0 (v_iv (n_v vs 4)) (w_ei ws (w_ar ws (n_v vs 0) 10)) k4 (shm_32 f1) (shm_1942 f9))⟩
  have nf1 : fc_1 PRD (20, [0, 7], [60, 0, 1, 708, 10]) ws (vs) := ⟨nf_in hl rfl, sgq_1942 (vc_La_bestOrders_17_1 (v_iv (n_v vs 4)) (v_iv (n_v vs 7)) (w_ei ws (w_ar ws (n_v vs 0) 10)) k4 k7 d0 (shm_1942 f9))⟩
  refine ⟨(fun _ h => (by cases h)), [], trivial, ?_, (fun _ h => (by cases h))⟩
  rw [List.append_nil]
  exact List.forall_mem_cons.mpr ⟨⟨show (20 : Nat) < 100 from by decide, nf0⟩, List.forall_mem_cons.mpr ⟨⟨show (20 : Nat) < 100 from by decide, nf1⟩, (fun _ h => (by cases h))⟩⟩
set_option maxHeartbeats 4000000 in
theorem vc_La_bestOrders_18_0 (x1 : Int) (x6 : Int) (layerCount_0 : Int) (k1 : 1 ≤ x1 ∧ x1 ≤ 23) (k6 : 0 ≤ x6 ∧ x6 ≤ 22) (d1 : x1 + (-4294967296) ≤ x6 ∧ x6 ≤ x1 + (-1)) (f3 : (x1 + 1) = layerCount_0) (kz_0_2 : 0 ≤ layerCount_0 ∧ layerCount_0 ≤ 24) : (0 ≤ x6) ∧ ((x6 + 2) ≤ layerCount_0) := by
  first
    | omega
  
def o_La_bestOrders_18 : or_T := (212, 7, [(0, (2, 0, 0, [4])), (1, (0, 1, 23, [])), (6, (0, 0, 22, []))], [(20, [1, 0], [50, 1, 0, 1002, 1, 6, 4, 2, 1, 0, 0, 1, 2, 1, 2])], [], [], [(20, [6, 0], [50, 1, 0, 1002, 2, 6, 0, 2, 0, 0, 1, 0, 0, 6, 4, 2, 1, 0, 0, 2, 2, 1, 2])], [], [(6, 1, -4294967296, -1)])
theorem oo_La_bestOrders_18 {kA : Nat → ClassId} : or_ok PRD kA GG o_La_bestOrders_18 := by
  refine or_mk fun A ta ws vs hD hth hl => ?_
  intro t0 r0 t1 k1 t6 k6 d1 f3
  have kz_0_2 := fdq_77 hD hth r0
  have nf0 : fc_1 PRD (20, [6, 0], [50, 1, 0, 1002, 2, 6, 0, 2, 0, 0, 1, 0, 0, 6, 4, 2, 1, 0, 0, 2, 2, 1, 2]) ws (vs) := ⟨nf_in hl rfl, sgq_871 (vc_La_bestOrders_18_0 (v_iv (n_v vs 1)) (v_iv (n_v vs 6)) (w_fi ws (n_v vs 0) 2) k1 k6 d1 (shm_1940 f3) kz_0_2)⟩
  refine ⟨(fun _ h => (by cases h)), [], trivial, ?_, (fun _ h => (by cases h))⟩
  rw [List.append_nil]
  exact List.forall_mem_cons.mpr ⟨⟨show (20 : Nat) < 100 from by decide, nf0⟩, (fun _ h => (by cases h))⟩
set_option maxHeartbeats 4000000 in
theorem vc_La_bestOrders_19_0 (x1 : Int) (x4 : Int) (x6 : Int) (layerCount_0 : Int) (k1 : 1 ≤ x1 ∧ x1 ≤ 23) (k4 : 1 ≤ x4 ∧ x4 ≤ 23) (k6 : 0 ≤ x6 ∧ x6 ≤ 22) (d0 : x4 + (-1) ≤ x6 ∧ x6 ≤ x4 + (-1)) (d1 : x1 + (-4294967296) ≤ x6 ∧ x6 ≤ x1 + (-1)) (f2 : (x1 + 1) = layerCount_0) (kz_0_2 : 0 ≤ layerCount_0 ∧ layerCount_0 ≤ 24) : (0 ≤ x4) ∧ ((x4 + 1) ≤ layerCount_0) := by
  first
    | omega
  
def o_La_bestOrders_19 : or_T := (219, 7, [(0, (2, 0, 0, [4])), (1, (0, 1, 23, [])), (4, (0, 1, 23, [])), (6, (0, 0, 22, []))], [(20, [1, 0], [50, 1, 0, 1002, 1, 6, 4, 2, 1, 0, 0, 1, 2, 1, 2])], [], [], [(20, [4, 0], [50, 1, 0, 1002, 2, 6, 0, 2, 0, 0, 1, 0, 0, 6, 4, 2, 1, 0, 0, 1, 2, 1, 2])], [], [(6, 4, -1, -1), (6, 1, -4294967296, -1)])
theorem oo_La_bestOrders_19 {kA : Nat → ClassId} : or_ok PRD kA GG o_La_bestOrders_19 := by
  refine or_mk fun A ta ws vs hD hth hl => ?_
  intro t0 r0 t1 k1 t4 k4 t6 k6 d0 d1 f2
  have kz_0_2 := fdq_77 hD hth r0
  have nf0 : fc_1 PRD (20, [4, 0], [50, 1, 0, 1002, 2, 6, 0, 2, 0, 0, 1, 0, 0, 6, 4, 2, 1, 0, 0, 1, 2, 1, 2]) ws (vs) := ⟨nf_in hl rfl, sgq_398 (vc_La_bestOrders_19_0 (v_iv (n_v vs 1)) (v_iv (n_v vs 4)) (v_iv (n_v vs 6)) (w_fi ws (n_v vs 0) 2) k1 k4 k6 d0 d1 (shm_1940 f2) kz_0_2)⟩
  refine ⟨(fun _ h => (by cases h)), [], trivial, ?_, (fun _ h => (by cases h))⟩
  rw [List.append_nil]
  exact List.forall_mem_cons.mpr ⟨⟨show (20 : Nat) < 100 from by decide, nf0⟩, (fun _ h => (by cases h))⟩
set_option maxHeartbeats 4000000 in
theorem vc_La_bestOrders_20_0 (x4 : Int) (x6 : Int) (x13 : Int) (k4 : 1 ≤ x4 ∧ x4 ≤ 23) (k6 : 0 ≤ x6 ∧ x6 ≤ 22) (k13 : 2 ≤ x13 ∧ x13 ≤ 24) (d0 : x4 + 1 ≤ x13 ∧ x13 ≤ x4 + 1) (d3 : x4 + (-1) ≤ x6 ∧ x6 ≤ x4 + (-1)) : 1 ≤ x13 := by
  first
    | omega
  
def o_La_bestOrders_20 : or_T := (201, 14, [(4, (0, 1, 23, [])), (6, (0, 0, 22, [])), (13, (0, 2, 24, []))], [], [], [], [(20, [13], [50, 0, 0, 0, 2, 0, 1, 1, 0])], [], [(13, 4, 1, 1), (6, 4, -1, -1)])
theorem oo_La_bestOrders_20 {kA : Nat → ClassId} : or_ok PRD kA GG o_La_bestOrders_20 := by
  refine or_mk fun A ta ws vs hD hth hl => ?_
  intro t4 k4 t6 k6 t13 k13 d0 d3
  have nf0 : fc_1 PRD (20, [13], [50, 0, 0, 0, 2, 0, 1, 1, 0]) ws (vs) := ⟨nf_in hl rfl, sgq_710 (vc_La_bestOrders_20_0 (v_iv (n_v vs 4)) (v_iv (n_v vs 6)) (v_iv (n_v vs 13)) k4 k6 k13 d0 d3)⟩
  refine ⟨(fun _ h => (by cases h)), [], trivial, ?_, (fun _ h => (by cases h))⟩
  rw [List.append_nil]
  exact List.forall_mem_cons.mpr ⟨⟨show (20 : Nat) < 100 from by decide, nf0⟩, (fun _ h => (by cases h))⟩
def n_La_bestOrders_an : List an_T := [(18, [(0, (2, 0, 0, [4])), (1, (0, 0, 23, [])), (2, (0, (Int.negSucc 0), 719, []))], [], (0, 0), [(0, 0, 99982), (2, 2, (Int.negSucc 0)), (0, 0, 100000), (0, 0, 0), (0, 0, 0)], [], [], [], 0, [], [(20, [0], [60, 1, 1, 636, 2, 10]), (20, [1, 0], [50, 1, 0, 1002, 1, 6, 4, 2, 1, 0, 0, 1, 2, 1, 2]), (20, [1], [50, 0, 0, 0, 2, 0, 0, 1, 0]), (20, [0], [60, 0, 1, 648, 17]), (20, [0], [60, 2, 2, 668, 3, 2, 7, 9]), (20, [0], [60, 1, 1, 688, 3, 12])]), (45, [(0, (2, 0, 0, [4])), (1, (0, 0, 23, [])), (2, (0, (Int.negSucc 0), 22, []))], [], (0, 0), [(0, 0, 99955), (2, 2, (Int.negSucc 0)), (0, 0, 100000), (0, 0, 0), (0, 0, 0)], [(2, 1, (Int.negSucc 999999999999), (Int.negSucc 0))], [], [], 0, [], [(20, [0], [60, 1, 1, 636, 2, 10]), (20, [1, 0], [50, 1, 0, 1002, 1, 6, 4, 2, 1, 0, 0, 1, 2, 1, 2]), (20, [1], [50, 0, 0, 0, 2, 0, 0, 1, 0]), (20, [0], [60, 0, 1, 648, 17]), (20, [0], [60, 2, 2, 668, 3, 2, 7, 9]), (20, [0], [60, 1, 1, 688, 3, 12]), (20, [2, 1], [50, 0, 0, 0, 6, 4, 2, 1, 0, 0, 1, 1, 1])]), (77, [(0, (2, 0, 0, [4])), (1, (0, 1, 23, [])), (2, (0, 0, 22, [])), (3, (0, 1, 720, [])), (4, (0, 0, 6, [])), (5, (0, 0, 720, []))], [], (0, 0), [(0, 0, 99955), (2, 2, (Int.negSucc 0)), (0, 0, 99923), (1, 5, 720), (0, 0, 100000)], [(2, 1, (Int.negSucc 999999999999), (Int.negSucc 0)), (5, 3, (Int.negSucc 999999999999), 0)], [], [], 0, [], [(20, [0], [60, 1, 1, 636, 2, 10]), (20, [1, 0], [50, 1, 0, 1002, 1, 6, 4, 2, 1, 0, 0, 1, 2, 1, 2]), (20, [1], [50, 0, 0, 0, 2, 0, 0, 1, 0]), (20, [0], [60, 0, 1, 648, 17]), (20, [0], [60, 2, 2, 668, 3, 2, 7, 9]), (20, [0], [60, 1, 1, 688, 3, 12]), (20, [2, 1], [50, 0, 0, 0, 6, 4, 2, 1, 0, 0, 1, 1, 1]), (20, [2], [50, 0, 0, 0, 2, 0, 0, 1, 0]), (20, [4], [50, 0, 0, 0, 2, 1, 0, 0, 6]), (20, [0, 2, 3], [60, 0, 1, 706, 10])]), (163, [(0, (2, 0, 0, [4])), (1, (0, 0, 23, [])), (2, (0, (Int.negSucc 2147483647), 1000000, [])), (3, (0, 0, 719, [])), (4, (0, (Int.negSucc 0), 719, []))], [], (0, 0), [(0, 0, 99837), (2, 4, (Int.negSucc 0)), (0, 0, 100000), (0, 0, 0), (0, 0, 0)], [], [], [], 0, [], [(20, [0], [60, 1, 1, 636, 2, 10]), (20, [1, 0], [50, 1, 0, 1002, 1, 6, 4, 2, 1, 0, 0, 1, 2, 1, 2]), (20, [1], [50, 0, 0, 0, 2, 0, 0, 1, 0]), (20, [0], [60, 0, 1, 648, 17]), (20, [0], [60, 2, 2, 668, 3, 2, 7, 9]), (20, [0], [60, 1, 1, 688, 3, 12]), (20, [0, 3], [60, 0, 1, 707, 10]), (20, [0, 4], [60, 0, 1, 708, 10])]), (201, [(0, (2, 0, 0, [4])), (1, (0, 0, 23, [])), (2, (0, (Int.negSucc 2147483647), 1000000, [])), (3, (0, 0, 719, [])), (4, (0, 1, 24, []))], [], (0, 0), [(0, 0, 99799), (1, 4, 24), (0, 0, 100000), (0, 0, 0), (0, 0, 0)], [(4, 1, (Int.negSucc 999999999999), 1)], [], [], 0, [], [(20, [0], [60, 1, 1, 636, 2, 10]), (20, [1, 0], [50, 1, 0, 1002, 1, 6, 4, 2, 1, 0, 0, 1, 2, 1, 2]), (20, [1], [50, 0, 0, 0, 2, 0, 0, 1, 0]), (20, [0], [60, 0, 1, 648, 17]), (20, [0], [60, 2, 2, 668, 3, 2, 7, 9]), (20, [0], [60, 1, 1, 688, 3, 12]), (20, [4], [50, 0, 0, 0, 2, 0, 1, 1, 0])])]
def t_La_bestOrders_ct : ct_L := [(1, 181, e_La_sizeOf), (1, 184, e_La_fillLow), (1, 187, e_La_setOrder), (1, 191, e_La_fillPairs), (1, 194, e_La_settlePairs), (1, 202, e_La_leastOf), (1, 205, e_La_firstBelow), (39, 85, e_La_countOrders_at_gx), (165, 85, e_La_countOrders_at_gx), (385, 198, e_La_seek_at_g6), (471, 85, e_La_countOrders_at_gx)]
set_option maxRecDepth 100000 in
theorem c_La_bestOrders {l : Launch} {D : va_G} {kA : Nat → ClassId} (h_La_countOrders_at_gx : ct_ok PRD l D kA GG y_La_countOrders_at_gx z_La_countOrders_at_gx e_La_countOrders_at_gx) (h_La_fillLow : ct_ok PRD l D kA GG y_La_fillLow z_La_fillLow e_La_fillLow) (h_La_fillPairs : ct_ok PRD l D kA GG y_La_fillPairs z_La_fillPairs e_La_fillPairs) (h_La_firstBelow : ct_ok PRD l D kA GG y_La_firstBelow z_La_firstBelow e_La_firstBelow) (h_La_leastOf : ct_ok PRD l D kA GG y_La_leastOf z_La_leastOf e_La_leastOf) (h_La_seek_at_g6 : ct_ok PRD l D kA GG y_La_seek_at_g6 z_La_seek_at_g6 e_La_seek_at_g6) (h_La_setOrder : ct_ok PRD l D kA GG y_La_setOrder z_La_setOrder e_La_setOrder) (h_La_settlePairs : ct_ok PRD l D kA GG y_La_settlePairs z_La_settlePairs e_La_settlePairs) (h_La_sizeOf : ct_ok PRD l D kA GG y_La_sizeOf z_La_sizeOf e_La_sizeOf) : ct_ok PRD l D kA GG y_La_bestOrders z_La_bestOrders e_La_bestOrders := chk_all_ok (FT := [(22, 4, 2), (72, 4, 18)]) (PT := []) (CT := t_La_bestOrders_ct) (KT := [(0, 197, .int (1000000), (0, 1000000, 1000000, []))]) (NT := []) (AN := n_La_bestOrders_an) (OT := [o_La_bestOrders_0, o_La_bestOrders_1, o_La_bestOrders_2, o_La_bestOrders_3, o_La_bestOrders_4, o_La_bestOrders_5, o_La_bestOrders_6, o_La_bestOrders_7, o_La_bestOrders_8, o_La_bestOrders_9, o_La_bestOrders_10, o_La_bestOrders_11, o_La_bestOrders_12, o_La_bestOrders_13, o_La_bestOrders_14, o_La_bestOrders_15, o_La_bestOrders_16, o_La_bestOrders_17, o_La_bestOrders_18, o_La_bestOrders_19, o_La_bestOrders_20]) 5 600 (List.forall_mem_cons.mpr ⟨oo_La_bestOrders_0, List.forall_mem_cons.mpr ⟨oo_La_bestOrders_1, List.forall_mem_cons.mpr ⟨oo_La_bestOrders_2, List.forall_mem_cons.mpr ⟨oo_La_bestOrders_3, List.forall_mem_cons.mpr ⟨oo_La_bestOrders_4, List.forall_mem_cons.mpr ⟨oo_La_bestOrders_5, List.forall_mem_cons.mpr ⟨oo_La_bestOrders_6, List.forall_mem_cons.mpr ⟨oo_La_bestOrders_7, List.forall_mem_cons.mpr ⟨oo_La_bestOrders_8, List.forall_mem_cons.mpr ⟨oo_La_bestOrders_9, List.forall_mem_cons.mpr ⟨oo_La_bestOrders_10, List.forall_mem_cons.mpr ⟨oo_La_bestOrders_11, List.forall_mem_cons.mpr ⟨oo_La_bestOrders_12, List.forall_mem_cons.mpr ⟨oo_La_bestOrders_13, List.forall_mem_cons.mpr ⟨oo_La_bestOrders_14, List.forall_mem_cons.mpr ⟨oo_La_bestOrders_15, List.forall_mem_cons.mpr ⟨oo_La_bestOrders_16, List.forall_mem_cons.mpr ⟨oo_La_bestOrders_17, List.forall_mem_cons.mpr ⟨oo_La_bestOrders_18, List.forall_mem_cons.mpr ⟨oo_La_bestOrders_19, List.forall_mem_cons.mpr ⟨oo_La_bestOrders_20, List.forall_mem_nil _⟩⟩⟩⟩⟩⟩⟩⟩⟩⟩⟩⟩⟩⟩⟩⟩⟩⟩⟩⟩⟩) (by decide +kernel) ⟨List.forall_mem_cons.mpr ⟨gf_La_22, List.forall_mem_cons.mpr ⟨gf_La_72, List.forall_mem_nil _⟩⟩, List.forall_mem_nil _, List.forall_mem_cons.mpr ⟨cl_virtual (y := y_La_sizeOf) (ci := 4) rfl rfl ⟨_, _, rfl⟩ (by decide +kernel) h_La_sizeOf wm_1382 wm_18 wm_1379 wm_1381 wv_5_4 ⟨by decide, by decide, by decide +kernel⟩ (by decide), List.forall_mem_cons.mpr ⟨cl_virtual (y := y_La_fillLow) (ci := 4) rfl rfl ⟨_, _, rfl⟩ (by decide +kernel) h_La_fillLow wm_1386 wm_18 wm_1383 wm_1385 wv_5_5 ⟨by decide, by decide, by decide +kernel⟩ (by decide), List.forall_mem_cons.mpr ⟨cl_virtual (y := y_La_setOrder) (ci := 4) rfl rfl ⟨_, _, rfl⟩ (by decide +kernel) h_La_setOrder wm_1393 wm_18 wm_1390 wm_1392 wv_5_6 ⟨by decide, by decide, by decide +kernel⟩ (by decide), List.forall_mem_cons.mpr ⟨cl_virtual (y := y_La_fillPairs) (ci := 4) rfl rfl ⟨_, _, rfl⟩ (by decide +kernel) h_La_fillPairs wm_1402 wm_18 wm_1399 wm_1401 wv_5_7 ⟨by decide, by decide, by decide +kernel⟩ (by decide), List.forall_mem_cons.mpr ⟨cl_virtual (y := y_La_settlePairs) (ci := 4) rfl rfl ⟨_, _, rfl⟩ (by decide +kernel) h_La_settlePairs wm_1407 wm_18 wm_1404 wm_1406 wv_5_8 ⟨by decide, by decide, by decide +kernel⟩ (by decide), List.forall_mem_cons.mpr ⟨cl_virtual (y := y_La_leastOf) (ci := 4) rfl rfl ⟨_, _, rfl⟩ (by decide +kernel) h_La_leastOf wm_1416 wm_18 wm_1413 wm_1415 wv_5_10 ⟨by decide, by decide, by decide +kernel⟩ (by decide), List.forall_mem_cons.mpr ⟨cl_virtual (y := y_La_firstBelow) (ci := 4) rfl rfl ⟨_, _, rfl⟩ (by decide +kernel) h_La_firstBelow wm_1420 wm_18 wm_1417 wm_1419 wv_5_11 ⟨by decide, by decide, by decide +kernel⟩ (by decide), List.forall_mem_cons.mpr ⟨cl_static (y := y_La_countOrders_at_gx) h_La_countOrders_at_gx wm_1233 wm_18 wm_1231 wm_1232 ⟨by decide, by decide, by decide +kernel⟩ (by decide), List.forall_mem_cons.mpr ⟨cl_static (y := y_La_countOrders_at_gx) h_La_countOrders_at_gx wm_1233 wm_18 wm_1231 wm_1232 ⟨by decide, by decide, by decide +kernel⟩ (by decide), List.forall_mem_cons.mpr ⟨cl_virtual (y := y_La_seek_at_g6) (ci := 4) rfl rfl ⟨_, _, rfl⟩ (by decide +kernel) h_La_seek_at_g6 wm_1411 wm_18 wm_1408 wm_1410 wv_5_9 ⟨by decide, by decide, by decide +kernel⟩ (by decide), List.forall_mem_cons.mpr ⟨cl_static (y := y_La_countOrders_at_gx) h_La_countOrders_at_gx wm_1233 wm_18 wm_1231 wm_1232 ⟨by decide, by decide, by decide +kernel⟩ (by decide), List.forall_mem_nil _⟩⟩⟩⟩⟩⟩⟩⟩⟩⟩⟩, List.forall_mem_cons.mpr ⟨kx_La_0_197, List.forall_mem_nil _⟩, List.forall_mem_nil _, GG_pl⟩ (by decide +kernel)

set_option maxHeartbeats 4000000 in
theorem vc_Mo_across2_0_0 (x1 : Int) (x2 : Int) (all_0 : Int → Int) (turned_0 : Int → Int) (itemLayer_0 : Int → Int) (firstJoint_0 : Int → Int) (lineA_0 : Int → Int) (lineB_0 : Int → Int) (r_0 : Int) (items_0 : Int) (layerMany_0 : Int) (lines_0 : Int) (layerSize_0 : Int → Int) (layerItem_0 : Int → Int) (all_1 : Int → Int) (turned_1 : Int → Int) (itemLayer_1 : Int → Int) (firstJoint_1 : Int → Int) (lineA_1 : Int → Int) (lineB_1 : Int → Int) (r_1 : Int) (items_1 : Int) (layerMany_1 : Int) (lines_1 : Int) (layerSize_1 : Int → Int) (layerItem_1 : Int → Int) (all_2 : Int → Int) (turned_2 : Int → Int) (itemLayer_2 : Int → Int) (firstJoint_2 : Int → Int) (lineA_2 : Int → Int) (lineB_2 : Int → Int) (r_2 : Int) (items_2 : Int) (layerMany_2 : Int) (lines_2 : Int) (layerSize_2 : Int → Int) (layerItem_2 : Int → Int) (items_3 : Int) (all_3 : Int → Int) (turned_3 : Int → Int) (itemLayer_3 : Int → Int) (firstJoint_3 : Int → Int) (lineA_3 : Int → Int) (lineB_3 : Int → Int) (r_3 : Int) (layerMany_3 : Int) (lines_3 : Int) (layerSize_3 : Int → Int) (layerItem_3 : Int → Int) (pointMany_0 : Int) (pointMany_1 : Int) (costMany_0 : Int) (costMany_1 : Int) (pointMany_2 : Int) (apartMany_1 : Int) (apartMany_2 : Int) (costA_0 : Int → Int) (costA_1 : Int → Int) (costA_2 : Int → Int) (costA_3 : Int → Int) (costB_0 : Int → Int) (costB_1 : Int → Int) (costB_2 : Int → Int) (costB_3 : Int → Int) (costW_0 : Int → Int) (costW_1 : Int → Int) (costW_2 : Int → Int) (costW_3 : Int → Int) (costPlain_0 : Int → Int) (costPlain_1 : Int → Int) (costPlain_2 : Int → Int) (costPlain_3 : Int → Int) (k1 : 0 ≤ x1 ∧ x1 ≤ 76) (g12 : x1 = items_3) (fe_0_5_1 : r_0 = r_1) (fe_0_79_1 : pointMany_0 = pointMany_1) (fe_0_80_1 : costMany_0 = costMany_1) (fe_0_100_1 : items_0 = items_1) (fe_0_101_1 : layerMany_0 = layerMany_1) (fe_0_107_1 : lines_0 = lines_1) (fe_0_5_2 : r_1 = r_2) (fe_0_79_2 : pointMany_1 = pointMany_2) (fe_0_81_2 : apartMany_1 = apartMany_2) (fe_0_100_2 : items_1 = items_2) (fe_0_101_2 : layerMany_1 = layerMany_2) (fe_0_107_2 : lines_1 = lines_2) (fe_0_5_3 : r_2 = r_3) (fe_0_79_3 : pointMany_2 = x1) (fe_0_100_3 : items_2 = items_3) (fe_0_101_3 : layerMany_2 = layerMany_3) (fe_0_107_3 : lines_2 = lines_3) (hE_0_2_1 : ∀ j : Int, all_0 j = all_1 j) (hE_0_2_2 : ∀ j : Int, all_1 j = all_2 j) (hE_0_2_3 : ∀ j : Int, all_2 j = all_3 j) (hE_0_83_1 : ∀ j : Int, costA_0 j = costA_1 j) (hE_0_83_2 : ∀ j : Int, costA_1 j = costA_2 j) (hE_0_83_3 : ∀ j : Int, costA_2 j = costA_3 j) (hE_0_84_1 : ∀ j : Int, costB_0 j = costB_1 j) (hE_0_84_2 : ∀ j : Int, costB_1 j = costB_2 j) (hE_0_84_3 : ∀ j : Int, costB_2 j = costB_3 j) (hE_0_85_1 : ∀ j : Int, costW_0 j = costW_1 j) (hE_0_85_2 : ∀ j : Int, costW_1 j = costW_2 j) (hE_0_85_3 : ∀ j : Int, costW_2 j = costW_3 j) (hE_0_86_1 : ∀ j : Int, costPlain_0 j = costPlain_1 j) (hE_0_86_2 : ∀ j : Int, costPlain_1 j = costPlain_2 j) (hE_0_86_3 : ∀ j : Int, costPlain_2 j = costPlain_3 j) (hE_0_95_1 : ∀ j : Int, turned_0 j = turned_1 j) (hE_0_95_2 : ∀ j : Int, turned_1 j = turned_2 j) (hE_0_95_3 : ∀ j : Int, turned_2 j = turned_3 j) (hE_0_102_1 : ∀ j : Int, itemLayer_0 j = itemLayer_1 j) (hE_0_102_2 : ∀ j : Int, itemLayer_1 j = itemLayer_2 j) (hE_0_102_3 : ∀ j : Int, itemLayer_2 j = itemLayer_3 j) (hE_0_104_1 : ∀ j : Int, firstJoint_0 j = firstJoint_1 j) (hE_0_104_2 : ∀ j : Int, firstJoint_1 j = firstJoint_2 j) (hE_0_104_3 : ∀ j : Int, firstJoint_2 j = firstJoint_3 j) (hE_0_105_1 : ∀ j : Int, layerSize_0 j = layerSize_1 j) (hE_0_105_2 : ∀ j : Int, layerSize_1 j = layerSize_2 j) (hE_0_105_3 : ∀ j : Int, layerSize_2 j = layerSize_3 j) (hE_0_106_1 : ∀ j : Int, layerItem_0 j = layerItem_1 j) (hE_0_106_2 : ∀ j : Int, layerItem_1 j = layerItem_2 j) (hE_0_106_3 : ∀ j : Int, layerItem_2 j = layerItem_3 j) (hE_0_108_1 : ∀ j : Int, lineA_0 j = lineA_1 j) (hE_0_108_2 : ∀ j : Int, lineA_1 j = lineA_2 j) (hE_0_108_3 : ∀ j : Int, lineA_2 j = lineA_3 j) (hE_0_109_1 : ∀ j : Int, lineB_0 j = lineB_1 j) (hE_0_109_2 : ∀ j : Int, lineB_1 j = lineB_2 j) (hE_0_109_3 : ∀ j : Int, lineB_2 j = lineB_3 j) (kz_0_79 : 0 ≤ pointMany_0 ∧ pointMany_0 ≤ 76) (kz_0_80 : 0 ≤ costMany_0 ∧ costMany_0 ≤ 200) (kz_0_100 : 0 ≤ items_0 ∧ items_0 ≤ 76) (kz_0_101 : 0 ≤ layerMany_0 ∧ layerMany_0 ≤ 76) (kz_0_107 : 0 ≤ lines_0 ∧ lines_0 ≤ 130) : pointMany_0 = items_0 := by
  subst fe_0_5_1
  subst fe_0_79_1
  subst fe_0_80_1
  subst fe_0_100_1
  subst fe_0_101_1
  subst fe_0_107_1
  subst fe_0_5_2
  subst fe_0_79_2
  subst fe_0_81_2
  subst fe_0_100_2
  subst fe_0_101_2
  subst fe_0_107_2
  subst fe_0_5_3
  subst fe_0_100_3
  subst fe_0_101_3
  subst fe_0_107_3
  have e_hE_0_2_1 := funext hE_0_2_1; subst e_hE_0_2_1
  have e_hE_0_2_2 := funext hE_0_2_2; subst e_hE_0_2_2
  have e_hE_0_2_3 := funext hE_0_2_3; subst e_hE_0_2_3
  have e_hE_0_83_1 := funext hE_0_83_1; subst e_hE_0_83_1
  have e_hE_0_83_2 := funext hE_0_83_2; subst e_hE_0_83_2
  have e_hE_0_83_3 := funext hE_0_83_3; subst e_hE_0_83_3
  have e_hE_0_84_1 := funext hE_0_84_1; subst e_hE_0_84_1
  have e_hE_0_84_2 := funext hE_0_84_2; subst e_hE_0_84_2
  have e_hE_0_84_3 := funext hE_0_84_3; subst e_hE_0_84_3
  have e_hE_0_85_1 := funext hE_0_85_1; subst e_hE_0_85_1
  have e_hE_0_85_2 := funext hE_0_85_2; subst e_hE_0_85_2
  have e_hE_0_85_3 := funext hE_0_85_3; subst e_hE_0_85_3
  have e_hE_0_86_1 := funext hE_0_86_1; subst e_hE_0_86_1
  have e_hE_0_86_2 := funext hE_0_86_2; subst e_hE_0_86_2
  have e_hE_0_86_3 := funext hE_0_86_3; subst e_hE_0_86_3
  have e_hE_0_95_1 := funext hE_0_95_1; subst e_hE_0_95_1
  have e_hE_0_95_2 := funext hE_0_95_2; subst e_hE_0_95_2
  have e_hE_0_95_3 := funext hE_0_95_3; subst e_hE_0_95_3
  have e_hE_0_102_1 := funext hE_0_102_1; subst e_hE_0_102_1
  have e_hE_0_102_2 := funext hE_0_102_2; subst e_hE_0_102_2
  have e_hE_0_102_3 := funext hE_0_102_3; subst e_hE_0_102_3
  have e_hE_0_104_1 := funext hE_0_104_1; subst e_hE_0_104_1
  have e_hE_0_104_2 := funext hE_0_104_2; subst e_hE_0_104_2
  have e_hE_0_104_3 := funext hE_0_104_3; subst e_hE_0_104_3
  have e_hE_0_105_1 := funext hE_0_105_1; subst e_hE_0_105_1
  have e_hE_0_105_2 := funext hE_0_105_2; subst e_hE_0_105_2
  have e_hE_0_105_3 := funext hE_0_105_3; subst e_hE_0_105_3
  have e_hE_0_106_1 := funext hE_0_106_1; subst e_hE_0_106_1
  have e_hE_0_106_2 := funext hE_0_106_2; subst e_hE_0_106_2
  have e_hE_0_106_3 := funext hE_0_106_3; subst e_hE_0_106_3
  have e_hE_0_108_1 := funext hE_0_108_1; subst e_hE_0_108_1
  have e_hE_0_108_2 := funext hE_0_108_2; subst e_hE_0_108_2
  have e_hE_0_108_3 := funext hE_0_108_3; subst e_hE_0_108_3
  have e_hE_0_109_1 := funext hE_0_109_1; subst e_hE_0_109_1
  have e_hE_0_109_2 := funext hE_0_109_2; subst e_hE_0_109_2
  have e_hE_0_109_3 := funext hE_0_109_3; subst e_hE_0_109_3
  try simp only [Int.add_zero] at *
  first
    | omega
    | (have h := ‹LSA _ _ _ _ _ _ _ _ _ _›.2.1; omega)
set_option maxHeartbeats 4000000 in
theorem vc_Mo_across2_0_1 (x2 : Int) (all_0 : Int → Int) (turned_0 : Int → Int) (itemLayer_0 : Int → Int) (firstJoint_0 : Int → Int) (lineA_0 : Int → Int) (lineB_0 : Int → Int) (r_0 : Int) (items_0 : Int) (layerMany_0 : Int) (lines_0 : Int) (layerSize_0 : Int → Int) (layerItem_0 : Int → Int) (all_1 : Int → Int) (turned_1 : Int → Int) (itemLayer_1 : Int → Int) (firstJoint_1 : Int → Int) (lineA_1 : Int → Int) (lineB_1 : Int → Int) (r_1 : Int) (items_1 : Int) (layerMany_1 : Int) (lines_1 : Int) (layerSize_1 : Int → Int) (layerItem_1 : Int → Int) (all_2 : Int → Int) (turned_2 : Int → Int) (itemLayer_2 : Int → Int) (firstJoint_2 : Int → Int) (lineA_2 : Int → Int) (lineB_2 : Int → Int) (r_2 : Int) (items_2 : Int) (layerMany_2 : Int) (lines_2 : Int) (layerSize_2 : Int → Int) (layerItem_2 : Int → Int) (items_3 : Int) (all_3 : Int → Int) (turned_3 : Int → Int) (itemLayer_3 : Int → Int) (firstJoint_3 : Int → Int) (lineA_3 : Int → Int) (lineB_3 : Int → Int) (r_3 : Int) (layerMany_3 : Int) (lines_3 : Int) (layerSize_3 : Int → Int) (layerItem_3 : Int → Int) (pointMany_0 : Int) (pointMany_1 : Int) (costMany_0 : Int) (costMany_1 : Int) (pointMany_2 : Int) (apartMany_1 : Int) (apartMany_2 : Int) (costA_0 : Int → Int) (costA_1 : Int → Int) (costA_2 : Int → Int) (costA_3 : Int → Int) (costB_0 : Int → Int) (costB_1 : Int → Int) (costB_2 : Int → Int) (costB_3 : Int → Int) (costW_0 : Int → Int) (costW_1 : Int → Int) (costW_2 : Int → Int) (costW_3 : Int → Int) (costPlain_0 : Int → Int) (costPlain_1 : Int → Int) (costPlain_2 : Int → Int) (costPlain_3 : Int → Int) (k2 : 0 ≤ x2 ∧ x2 ≤ 0) (fe_0_5_1 : r_0 = r_1) (fe_0_79_1 : pointMany_0 = pointMany_1) (fe_0_80_1 : costMany_0 = costMany_1) (fe_0_100_1 : items_0 = items_1) (fe_0_101_1 : layerMany_0 = layerMany_1) (fe_0_107_1 : lines_0 = lines_1) (fe_0_5_2 : r_1 = r_2) (fe_0_79_2 : pointMany_1 = pointMany_2) (fe_0_80_2 : costMany_1 = x2) (fe_0_81_2 : apartMany_1 = apartMany_2) (fe_0_100_2 : items_1 = items_2) (fe_0_101_2 : layerMany_1 = layerMany_2) (fe_0_107_2 : lines_1 = lines_2) (fe_0_5_3 : r_2 = r_3) (fe_0_100_3 : items_2 = items_3) (fe_0_101_3 : layerMany_2 = layerMany_3) (fe_0_107_3 : lines_2 = lines_3) (hE_0_2_1 : ∀ j : Int, all_0 j = all_1 j) (hE_0_2_2 : ∀ j : Int, all_1 j = all_2 j) (hE_0_2_3 : ∀ j : Int, all_2 j = all_3 j) (hE_0_83_1 : ∀ j : Int, costA_0 j = costA_1 j) (hE_0_83_2 : ∀ j : Int, costA_1 j = costA_2 j) (hE_0_83_3 : ∀ j : Int, costA_2 j = costA_3 j) (hE_0_84_1 : ∀ j : Int, costB_0 j = costB_1 j) (hE_0_84_2 : ∀ j : Int, costB_1 j = costB_2 j) (hE_0_84_3 : ∀ j : Int, costB_2 j = costB_3 j) (hE_0_85_1 : ∀ j : Int, costW_0 j = costW_1 j) (hE_0_85_2 : ∀ j : Int, costW_1 j = costW_2 j) (hE_0_85_3 : ∀ j : Int, costW_2 j = costW_3 j) (hE_0_86_1 : ∀ j : Int, costPlain_0 j = costPlain_1 j) (hE_0_86_2 : ∀ j : Int, costPlain_1 j = costPlain_2 j) (hE_0_86_3 : ∀ j : Int, costPlain_2 j = costPlain_3 j) (hE_0_95_1 : ∀ j : Int, turned_0 j = turned_1 j) (hE_0_95_2 : ∀ j : Int, turned_1 j = turned_2 j) (hE_0_95_3 : ∀ j : Int, turned_2 j = turned_3 j) (hE_0_102_1 : ∀ j : Int, itemLayer_0 j = itemLayer_1 j) (hE_0_102_2 : ∀ j : Int, itemLayer_1 j = itemLayer_2 j) (hE_0_102_3 : ∀ j : Int, itemLayer_2 j = itemLayer_3 j) (hE_0_104_1 : ∀ j : Int, firstJoint_0 j = firstJoint_1 j) (hE_0_104_2 : ∀ j : Int, firstJoint_1 j = firstJoint_2 j) (hE_0_104_3 : ∀ j : Int, firstJoint_2 j = firstJoint_3 j) (hE_0_105_1 : ∀ j : Int, layerSize_0 j = layerSize_1 j) (hE_0_105_2 : ∀ j : Int, layerSize_1 j = layerSize_2 j) (hE_0_105_3 : ∀ j : Int, layerSize_2 j = layerSize_3 j) (hE_0_106_1 : ∀ j : Int, layerItem_0 j = layerItem_1 j) (hE_0_106_2 : ∀ j : Int, layerItem_1 j = layerItem_2 j) (hE_0_106_3 : ∀ j : Int, layerItem_2 j = layerItem_3 j) (hE_0_108_1 : ∀ j : Int, lineA_0 j = lineA_1 j) (hE_0_108_2 : ∀ j : Int, lineA_1 j = lineA_2 j) (hE_0_108_3 : ∀ j : Int, lineA_2 j = lineA_3 j) (hE_0_109_1 : ∀ j : Int, lineB_0 j = lineB_1 j) (hE_0_109_2 : ∀ j : Int, lineB_1 j = lineB_2 j) (hE_0_109_3 : ∀ j : Int, lineB_2 j = lineB_3 j) (kz_0_79 : 0 ≤ pointMany_0 ∧ pointMany_0 ≤ 76) (kz_0_80 : 0 ≤ costMany_0 ∧ costMany_0 ≤ 200) (kz_0_100 : 0 ≤ items_0 ∧ items_0 ≤ 76) (kz_0_101 : 0 ≤ layerMany_0 ∧ layerMany_0 ≤ 76) (kz_0_107 : 0 ≤ lines_0 ∧ lines_0 ≤ 130) : PCQ (pointMany_0) (costMany_0) (costA_0) (costB_0) (costW_0) (costPlain_0) := by
  subst fe_0_5_1
  subst fe_0_79_1
  subst fe_0_80_1
  subst fe_0_100_1
  subst fe_0_101_1
  subst fe_0_107_1
  subst fe_0_5_2
  subst fe_0_79_2
  subst fe_0_81_2
  subst fe_0_100_2
  subst fe_0_101_2
  subst fe_0_107_2
  subst fe_0_5_3
  subst fe_0_100_3
  subst fe_0_101_3
  subst fe_0_107_3
  have e_hE_0_2_1 := funext hE_0_2_1; subst e_hE_0_2_1
  have e_hE_0_2_2 := funext hE_0_2_2; subst e_hE_0_2_2
  have e_hE_0_2_3 := funext hE_0_2_3; subst e_hE_0_2_3
  have e_hE_0_83_1 := funext hE_0_83_1; subst e_hE_0_83_1
  have e_hE_0_83_2 := funext hE_0_83_2; subst e_hE_0_83_2
  have e_hE_0_83_3 := funext hE_0_83_3; subst e_hE_0_83_3
  have e_hE_0_84_1 := funext hE_0_84_1; subst e_hE_0_84_1
  have e_hE_0_84_2 := funext hE_0_84_2; subst e_hE_0_84_2
  have e_hE_0_84_3 := funext hE_0_84_3; subst e_hE_0_84_3
  have e_hE_0_85_1 := funext hE_0_85_1; subst e_hE_0_85_1
  have e_hE_0_85_2 := funext hE_0_85_2; subst e_hE_0_85_2
  have e_hE_0_85_3 := funext hE_0_85_3; subst e_hE_0_85_3
  have e_hE_0_86_1 := funext hE_0_86_1; subst e_hE_0_86_1
  have e_hE_0_86_2 := funext hE_0_86_2; subst e_hE_0_86_2
  have e_hE_0_86_3 := funext hE_0_86_3; subst e_hE_0_86_3
  have e_hE_0_95_1 := funext hE_0_95_1; subst e_hE_0_95_1
  have e_hE_0_95_2 := funext hE_0_95_2; subst e_hE_0_95_2
  have e_hE_0_95_3 := funext hE_0_95_3; subst e_hE_0_95_3
  have e_hE_0_102_1 := funext hE_0_102_1; subst e_hE_0_102_1
  have e_hE_0_102_2 := funext hE_0_102_2; subst e_hE_0_102_2
  have e_hE_0_102_3 := funext hE_0_102_3; subst e_hE_0_102_3
  have e_hE_0_104_1 := funext hE_0_104_1; subst e_hE_0_104_1
  have e_hE_0_104_2 := funext hE_0_104_2; subst e_hE_0_104_2
  have e_hE_0_104_3 := funext hE_0_104_3; subst e_hE_0_104_3
  have e_hE_0_105_1 := funext hE_0_105_1; subst e_hE_0_105_1
  have e_hE_0_105_2 := funext hE_0_105_2; subst e_hE_0_105_2
  have e_hE_0_105_3 := funext hE_0_105_3; subst e_hE_0_105_3
  have e_hE_0_106_1 := funext hE_0_106_1; subst e_hE_0_106_1
  have e_hE_0_106_2 := funext hE_0_106_2; subst e_hE_0_106_2
  have e_hE_0_106_3 := funext hE_0_106_3; subst e_hE_0_106_3
  have e_hE_0_108_1 := funext hE_0_108_1; subst e_hE_0_108_1
  have e_hE_0_108_2 := funext hE_0_108_2; subst e_hE_0_108_2
  have e_hE_0_108_3 := funext hE_0_108_3; subst e_hE_0_108_3
  have e_hE_0_109_1 := funext hE_0_109_1; subst e_hE_0_109_1
  have e_hE_0_109_2 := funext hE_0_109_2; subst e_hE_0_109_2
  have e_hE_0_109_3 := funext hE_0_109_3; subst e_hE_0_109_3
  first
    | assumption
    | (intro j a b; exfalso; omega)
set_option maxHeartbeats 4000000 in
theorem vc_Mo_across2_0_2 (x2 : Int) (x4 : Int) (all_0 : Int → Int) (turned_0 : Int → Int) (itemLayer_0 : Int → Int) (firstJoint_0 : Int → Int) (lineA_0 : Int → Int) (lineB_0 : Int → Int) (r_0 : Int) (items_0 : Int) (layerMany_0 : Int) (lines_0 : Int) (layerSize_0 : Int → Int) (layerItem_0 : Int → Int) (all_1 : Int → Int) (turned_1 : Int → Int) (itemLayer_1 : Int → Int) (firstJoint_1 : Int → Int) (lineA_1 : Int → Int) (lineB_1 : Int → Int) (r_1 : Int) (items_1 : Int) (layerMany_1 : Int) (lines_1 : Int) (layerSize_1 : Int → Int) (layerItem_1 : Int → Int) (all_2 : Int → Int) (turned_2 : Int → Int) (itemLayer_2 : Int → Int) (firstJoint_2 : Int → Int) (lineA_2 : Int → Int) (lineB_2 : Int → Int) (r_2 : Int) (items_2 : Int) (layerMany_2 : Int) (lines_2 : Int) (layerSize_2 : Int → Int) (layerItem_2 : Int → Int) (items_3 : Int) (all_3 : Int → Int) (turned_3 : Int → Int) (itemLayer_3 : Int → Int) (firstJoint_3 : Int → Int) (lineA_3 : Int → Int) (lineB_3 : Int → Int) (r_3 : Int) (layerMany_3 : Int) (lines_3 : Int) (layerSize_3 : Int → Int) (layerItem_3 : Int → Int) (pointMany_0 : Int) (pointMany_1 : Int) (costMany_0 : Int) (costMany_1 : Int) (pointMany_2 : Int) (apartMany_1 : Int) (apartMany_2 : Int) (costA_0 : Int → Int) (costA_1 : Int → Int) (costA_2 : Int → Int) (costA_3 : Int → Int) (costB_0 : Int → Int) (costB_1 : Int → Int) (costB_2 : Int → Int) (costB_3 : Int → Int) (costW_0 : Int → Int) (costW_1 : Int → Int) (costW_2 : Int → Int) (costW_3 : Int → Int) (costPlain_0 : Int → Int) (costPlain_1 : Int → Int) (costPlain_2 : Int → Int) (costPlain_3 : Int → Int) (k2 : 0 ≤ x2 ∧ x2 ≤ 0) (k4 : 0 ≤ x4 ∧ x4 ≤ 0) (fe_0_5_1 : r_0 = r_1) (fe_0_79_1 : pointMany_0 = pointMany_1) (fe_0_80_1 : costMany_0 = costMany_1) (fe_0_100_1 : items_0 = items_1) (fe_0_101_1 : layerMany_0 = layerMany_1) (fe_0_107_1 : lines_0 = lines_1) (fe_0_5_2 : r_1 = r_2) (fe_0_79_2 : pointMany_1 = pointMany_2) (fe_0_80_2 : costMany_1 = x2) (fe_0_81_2 : apartMany_1 = apartMany_2) (fe_0_100_2 : items_1 = items_2) (fe_0_101_2 : layerMany_1 = layerMany_2) (fe_0_107_2 : lines_1 = lines_2) (fe_0_5_3 : r_2 = r_3) (fe_0_100_3 : items_2 = items_3) (fe_0_101_3 : layerMany_2 = layerMany_3) (fe_0_107_3 : lines_2 = lines_3) (hE_0_2_1 : ∀ j : Int, all_0 j = all_1 j) (hE_0_2_2 : ∀ j : Int, all_1 j = all_2 j) (hE_0_2_3 : ∀ j : Int, all_2 j = all_3 j) (hE_0_83_1 : ∀ j : Int, costA_0 j = costA_1 j) (hE_0_83_2 : ∀ j : Int, costA_1 j = costA_2 j) (hE_0_83_3 : ∀ j : Int, costA_2 j = costA_3 j) (hE_0_84_1 : ∀ j : Int, costB_0 j = costB_1 j) (hE_0_84_2 : ∀ j : Int, costB_1 j = costB_2 j) (hE_0_84_3 : ∀ j : Int, costB_2 j = costB_3 j) (hE_0_85_1 : ∀ j : Int, costW_0 j = costW_1 j) (hE_0_85_2 : ∀ j : Int, costW_1 j = costW_2 j) (hE_0_85_3 : ∀ j : Int, costW_2 j = costW_3 j) (hE_0_86_1 : ∀ j : Int, costPlain_0 j = costPlain_1 j) (hE_0_86_2 : ∀ j : Int, costPlain_1 j = costPlain_2 j) (hE_0_86_3 : ∀ j : Int, costPlain_2 j = costPlain_3 j) (hE_0_95_1 : ∀ j : Int, turned_0 j = turned_1 j) (hE_0_95_2 : ∀ j : Int, turned_1 j = turned_2 j) (hE_0_95_3 : ∀ j : Int, turned_2 j = turned_3 j) (hE_0_102_1 : ∀ j : Int, itemLayer_0 j = itemLayer_1 j) (hE_0_102_2 : ∀ j : Int, itemLayer_1 j = itemLayer_2 j) (hE_0_102_3 : ∀ j : Int, itemLayer_2 j = itemLayer_3 j) (hE_0_104_1 : ∀ j : Int, firstJoint_0 j = firstJoint_1 j) (hE_0_104_2 : ∀ j : Int, firstJoint_1 j = firstJoint_2 j) (hE_0_104_3 : ∀ j : Int, firstJoint_2 j = firstJoint_3 j) (hE_0_105_1 : ∀ j : Int, layerSize_0 j = layerSize_1 j) (hE_0_105_2 : ∀ j : Int, layerSize_1 j = layerSize_2 j) (hE_0_105_3 : ∀ j : Int, layerSize_2 j = layerSize_3 j) (hE_0_106_1 : ∀ j : Int, layerItem_0 j = layerItem_1 j) (hE_0_106_2 : ∀ j : Int, layerItem_1 j = layerItem_2 j) (hE_0_106_3 : ∀ j : Int, layerItem_2 j = layerItem_3 j) (hE_0_108_1 : ∀ j : Int, lineA_0 j = lineA_1 j) (hE_0_108_2 : ∀ j : Int, lineA_1 j = lineA_2 j) (hE_0_108_3 : ∀ j : Int, lineA_2 j = lineA_3 j) (hE_0_109_1 : ∀ j : Int, lineB_0 j = lineB_1 j) (hE_0_109_2 : ∀ j : Int, lineB_1 j = lineB_2 j) (hE_0_109_3 : ∀ j : Int, lineB_2 j = lineB_3 j) (kz_0_79 : 0 ≤ pointMany_0 ∧ pointMany_0 ≤ 76) (kz_0_80 : 0 ≤ costMany_0 ∧ costMany_0 ≤ 200) (kz_0_100 : 0 ≤ items_0 ∧ items_0 ≤ 76) (kz_0_101 : 0 ≤ layerMany_0 ∧ layerMany_0 ≤ 76) (kz_0_107 : 0 ≤ lines_0 ∧ lines_0 ≤ 130) : costMany_0 = x4 := by
  subst fe_0_5_1
  subst fe_0_79_1
  subst fe_0_80_1
  subst fe_0_100_1
  subst fe_0_101_1
  subst fe_0_107_1
  subst fe_0_5_2
  subst fe_0_79_2
  subst fe_0_81_2
  subst fe_0_100_2
  subst fe_0_101_2
  subst fe_0_107_2
  subst fe_0_5_3
  subst fe_0_100_3
  subst fe_0_101_3
  subst fe_0_107_3
  have e_hE_0_2_1 := funext hE_0_2_1; subst e_hE_0_2_1
  have e_hE_0_2_2 := funext hE_0_2_2; subst e_hE_0_2_2
  have e_hE_0_2_3 := funext hE_0_2_3; subst e_hE_0_2_3
  have e_hE_0_83_1 := funext hE_0_83_1; subst e_hE_0_83_1
  have e_hE_0_83_2 := funext hE_0_83_2; subst e_hE_0_83_2
  have e_hE_0_83_3 := funext hE_0_83_3; subst e_hE_0_83_3
  have e_hE_0_84_1 := funext hE_0_84_1; subst e_hE_0_84_1
  have e_hE_0_84_2 := funext hE_0_84_2; subst e_hE_0_84_2
  have e_hE_0_84_3 := funext hE_0_84_3; subst e_hE_0_84_3
  have e_hE_0_85_1 := funext hE_0_85_1; subst e_hE_0_85_1
  have e_hE_0_85_2 := funext hE_0_85_2; subst e_hE_0_85_2
  have e_hE_0_85_3 := funext hE_0_85_3; subst e_hE_0_85_3
  have e_hE_0_86_1 := funext hE_0_86_1; subst e_hE_0_86_1
  have e_hE_0_86_2 := funext hE_0_86_2; subst e_hE_0_86_2
  have e_hE_0_86_3 := funext hE_0_86_3; subst e_hE_0_86_3
  have e_hE_0_95_1 := funext hE_0_95_1; subst e_hE_0_95_1
  have e_hE_0_95_2 := funext hE_0_95_2; subst e_hE_0_95_2
  have e_hE_0_95_3 := funext hE_0_95_3; subst e_hE_0_95_3
  have e_hE_0_102_1 := funext hE_0_102_1; subst e_hE_0_102_1
  have e_hE_0_102_2 := funext hE_0_102_2; subst e_hE_0_102_2
  have e_hE_0_102_3 := funext hE_0_102_3; subst e_hE_0_102_3
  have e_hE_0_104_1 := funext hE_0_104_1; subst e_hE_0_104_1
  have e_hE_0_104_2 := funext hE_0_104_2; subst e_hE_0_104_2
  have e_hE_0_104_3 := funext hE_0_104_3; subst e_hE_0_104_3
  have e_hE_0_105_1 := funext hE_0_105_1; subst e_hE_0_105_1
  have e_hE_0_105_2 := funext hE_0_105_2; subst e_hE_0_105_2
  have e_hE_0_105_3 := funext hE_0_105_3; subst e_hE_0_105_3
  have e_hE_0_106_1 := funext hE_0_106_1; subst e_hE_0_106_1
  have e_hE_0_106_2 := funext hE_0_106_2; subst e_hE_0_106_2
  have e_hE_0_106_3 := funext hE_0_106_3; subst e_hE_0_106_3
  have e_hE_0_108_1 := funext hE_0_108_1; subst e_hE_0_108_1
  have e_hE_0_108_2 := funext hE_0_108_2; subst e_hE_0_108_2
  have e_hE_0_108_3 := funext hE_0_108_3; subst e_hE_0_108_3
  have e_hE_0_109_1 := funext hE_0_109_1; subst e_hE_0_109_1
  have e_hE_0_109_2 := funext hE_0_109_2; subst e_hE_0_109_2
  have e_hE_0_109_3 := funext hE_0_109_3; subst e_hE_0_109_3
  try simp only [Int.add_zero] at *
  first
    | omega
    | (have h := ‹LSA _ _ _ _ _ _ _ _ _ _›.2.1; omega)
set_option maxHeartbeats 4000000 in
theorem vc_Mo_across2_0_3 (x2 : Int) (x3 : Int) (all_0 : Int → Int) (turned_0 : Int → Int) (itemLayer_0 : Int → Int) (firstJoint_0 : Int → Int) (lineA_0 : Int → Int) (lineB_0 : Int → Int) (r_0 : Int) (items_0 : Int) (layerMany_0 : Int) (lines_0 : Int) (layerSize_0 : Int → Int) (layerItem_0 : Int → Int) (all_1 : Int → Int) (turned_1 : Int → Int) (itemLayer_1 : Int → Int) (firstJoint_1 : Int → Int) (lineA_1 : Int → Int) (lineB_1 : Int → Int) (r_1 : Int) (items_1 : Int) (layerMany_1 : Int) (lines_1 : Int) (layerSize_1 : Int → Int) (layerItem_1 : Int → Int) (all_2 : Int → Int) (turned_2 : Int → Int) (itemLayer_2 : Int → Int) (firstJoint_2 : Int → Int) (lineA_2 : Int → Int) (lineB_2 : Int → Int) (r_2 : Int) (items_2 : Int) (layerMany_2 : Int) (lines_2 : Int) (layerSize_2 : Int → Int) (layerItem_2 : Int → Int) (items_3 : Int) (all_3 : Int → Int) (turned_3 : Int → Int) (itemLayer_3 : Int → Int) (firstJoint_3 : Int → Int) (lineA_3 : Int → Int) (lineB_3 : Int → Int) (r_3 : Int) (layerMany_3 : Int) (lines_3 : Int) (layerSize_3 : Int → Int) (layerItem_3 : Int → Int) (pointMany_0 : Int) (pointMany_1 : Int) (costMany_0 : Int) (costMany_1 : Int) (apartMany_0 : Int) (pointMany_2 : Int) (apartMany_1 : Int) (apartMany_2 : Int) (costA_0 : Int → Int) (costA_1 : Int → Int) (costA_2 : Int → Int) (costA_3 : Int → Int) (costB_0 : Int → Int) (costB_1 : Int → Int) (costB_2 : Int → Int) (costB_3 : Int → Int) (costW_0 : Int → Int) (costW_1 : Int → Int) (costW_2 : Int → Int) (costW_3 : Int → Int) (costPlain_0 : Int → Int) (costPlain_1 : Int → Int) (costPlain_2 : Int → Int) (costPlain_3 : Int → Int) (k3 : 0 ≤ x3 ∧ x3 ≤ 0) (fe_0_5_1 : r_0 = r_1) (fe_0_79_1 : pointMany_0 = pointMany_1) (fe_0_80_1 : costMany_0 = costMany_1) (fe_0_81_1 : apartMany_0 = x3) (fe_0_100_1 : items_0 = items_1) (fe_0_101_1 : layerMany_0 = layerMany_1) (fe_0_107_1 : lines_0 = lines_1) (fe_0_5_2 : r_1 = r_2) (fe_0_79_2 : pointMany_1 = pointMany_2) (fe_0_81_2 : apartMany_1 = apartMany_2) (fe_0_100_2 : items_1 = items_2) (fe_0_101_2 : layerMany_1 = layerMany_2) (fe_0_107_2 : lines_1 = lines_2) (fe_0_5_3 : r_2 = r_3) (fe_0_100_3 : items_2 = items_3) (fe_0_101_3 : layerMany_2 = layerMany_3) (fe_0_107_3 : lines_2 = lines_3) (hE_0_2_1 : ∀ j : Int, all_0 j = all_1 j) (hE_0_2_2 : ∀ j : Int, all_1 j = all_2 j) (hE_0_2_3 : ∀ j : Int, all_2 j = all_3 j) (hE_0_83_1 : ∀ j : Int, costA_0 j = costA_1 j) (hE_0_83_2 : ∀ j : Int, costA_1 j = costA_2 j) (hE_0_83_3 : ∀ j : Int, costA_2 j = costA_3 j) (hE_0_84_1 : ∀ j : Int, costB_0 j = costB_1 j) (hE_0_84_2 : ∀ j : Int, costB_1 j = costB_2 j) (hE_0_84_3 : ∀ j : Int, costB_2 j = costB_3 j) (hE_0_85_1 : ∀ j : Int, costW_0 j = costW_1 j) (hE_0_85_2 : ∀ j : Int, costW_1 j = costW_2 j) (hE_0_85_3 : ∀ j : Int, costW_2 j = costW_3 j) (hE_0_86_1 : ∀ j : Int, costPlain_0 j = costPlain_1 j) (hE_0_86_2 : ∀ j : Int, costPlain_1 j = costPlain_2 j) (hE_0_86_3 : ∀ j : Int, costPlain_2 j = costPlain_3 j) (hE_0_95_1 : ∀ j : Int, turned_0 j = turned_1 j) (hE_0_95_2 : ∀ j : Int, turned_1 j = turned_2 j) (hE_0_95_3 : ∀ j : Int, turned_2 j = turned_3 j) (hE_0_102_1 : ∀ j : Int, itemLayer_0 j = itemLayer_1 j) (hE_0_102_2 : ∀ j : Int, itemLayer_1 j = itemLayer_2 j) (hE_0_102_3 : ∀ j : Int, itemLayer_2 j = itemLayer_3 j) (hE_0_104_1 : ∀ j : Int, firstJoint_0 j = firstJoint_1 j) (hE_0_104_2 : ∀ j : Int, firstJoint_1 j = firstJoint_2 j) (hE_0_104_3 : ∀ j : Int, firstJoint_2 j = firstJoint_3 j) (hE_0_105_1 : ∀ j : Int, layerSize_0 j = layerSize_1 j) (hE_0_105_2 : ∀ j : Int, layerSize_1 j = layerSize_2 j) (hE_0_105_3 : ∀ j : Int, layerSize_2 j = layerSize_3 j) (hE_0_106_1 : ∀ j : Int, layerItem_0 j = layerItem_1 j) (hE_0_106_2 : ∀ j : Int, layerItem_1 j = layerItem_2 j) (hE_0_106_3 : ∀ j : Int, layerItem_2 j = layerItem_3 j) (hE_0_108_1 : ∀ j : Int, lineA_0 j = lineA_1 j) (hE_0_108_2 : ∀ j : Int, lineA_1 j = lineA_2 j) (hE_0_108_3 : ∀ j : Int, lineA_2 j = lineA_3 j) (hE_0_109_1 : ∀ j : Int, lineB_0 j = lineB_1 j) (hE_0_109_2 : ∀ j : Int, lineB_1 j = lineB_2 j) (hE_0_109_3 : ∀ j : Int, lineB_2 j = lineB_3 j) (kz_0_79 : 0 ≤ pointMany_0 ∧ pointMany_0 ≤ 76) (kz_0_80 : 0 ≤ costMany_0 ∧ costMany_0 ≤ 200) (kz_0_81 : 0 ≤ apartMany_0 ∧ apartMany_0 ≤ 200) (kz_0_100 : 0 ≤ items_0 ∧ items_0 ≤ 76) (kz_0_101 : 0 ≤ layerMany_0 ∧ layerMany_0 ≤ 76) (kz_0_107 : 0 ≤ lines_0 ∧ lines_0 ≤ 130) : apartMany_0 = 0 := by
  subst fe_0_5_1
  subst fe_0_79_1
  subst fe_0_80_1
  subst fe_0_100_1
  subst fe_0_101_1
  subst fe_0_107_1
  subst fe_0_5_2
  subst fe_0_79_2
  subst fe_0_81_2
  subst fe_0_100_2
  subst fe_0_101_2
  subst fe_0_107_2
  subst fe_0_5_3
  subst fe_0_100_3
  subst fe_0_101_3
  subst fe_0_107_3
  have e_hE_0_2_1 := funext hE_0_2_1; subst e_hE_0_2_1
  have e_hE_0_2_2 := funext hE_0_2_2; subst e_hE_0_2_2
  have e_hE_0_2_3 := funext hE_0_2_3; subst e_hE_0_2_3
  have e_hE_0_83_1 := funext hE_0_83_1; subst e_hE_0_83_1
  have e_hE_0_83_2 := funext hE_0_83_2; subst e_hE_0_83_2
  have e_hE_0_83_3 := funext hE_0_83_3; subst e_hE_0_83_3
  have e_hE_0_84_1 := funext hE_0_84_1; subst e_hE_0_84_1
  have e_hE_0_84_2 := funext hE_0_84_2; subst e_hE_0_84_2
  have e_hE_0_84_3 := funext hE_0_84_3; subst e_hE_0_84_3
  have e_hE_0_85_1 := funext hE_0_85_1; subst e_hE_0_85_1
  have e_hE_0_85_2 := funext hE_0_85_2; subst e_hE_0_85_2
  have e_hE_0_85_3 := funext hE_0_85_3; subst e_hE_0_85_3
  have e_hE_0_86_1 := funext hE_0_86_1; subst e_hE_0_86_1
  have e_hE_0_86_2 := funext hE_0_86_2; subst e_hE_0_86_2
  have e_hE_0_86_3 := funext hE_0_86_3; subst e_hE_0_86_3
  have e_hE_0_95_1 := funext hE_0_95_1; subst e_hE_0_95_1
  have e_hE_0_95_2 := funext hE_0_95_2; subst e_hE_0_95_2
  have e_hE_0_95_3 := funext hE_0_95_3; subst e_hE_0_95_3
  have e_hE_0_102_1 := funext hE_0_102_1; subst e_hE_0_102_1
  have e_hE_0_102_2 := funext hE_0_102_2; subst e_hE_0_102_2
  have e_hE_0_102_3 := funext hE_0_102_3; subst e_hE_0_102_3
  have e_hE_0_104_1 := funext hE_0_104_1; subst e_hE_0_104_1
  have e_hE_0_104_2 := funext hE_0_104_2; subst e_hE_0_104_2
  have e_hE_0_104_3 := funext hE_0_104_3; subst e_hE_0_104_3
  have e_hE_0_105_1 := funext hE_0_105_1; subst e_hE_0_105_1
  have e_hE_0_105_2 := funext hE_0_105_2; subst e_hE_0_105_2
  have e_hE_0_105_3 := funext hE_0_105_3; subst e_hE_0_105_3
  have e_hE_0_106_1 := funext hE_0_106_1; subst e_hE_0_106_1
  have e_hE_0_106_2 := funext hE_0_106_2; subst e_hE_0_106_2
  have e_hE_0_106_3 := funext hE_0_106_3; subst e_hE_0_106_3
  have e_hE_0_108_1 := funext hE_0_108_1; subst e_hE_0_108_1
  have e_hE_0_108_2 := funext hE_0_108_2; subst e_hE_0_108_2
  have e_hE_0_108_3 := funext hE_0_108_3; subst e_hE_0_108_3
  have e_hE_0_109_1 := funext hE_0_109_1; subst e_hE_0_109_1
  have e_hE_0_109_2 := funext hE_0_109_2; subst e_hE_0_109_2
  have e_hE_0_109_3 := funext hE_0_109_3; subst e_hE_0_109_3
  try simp only [Int.add_zero] at *
  first
    | omega
    | (have h := ‹LSA _ _ _ _ _ _ _ _ _ _›.2.1; omega)
def o_Mo_across2_0 : or_T := (20, 5, [(0, (2, 0, 0, [165])), (1, (0, 0, 76, [])), (2, (0, 0, 0, [])), (3, (0, 0, 0, [])), (4, (0, 0, 0, []))], [(101, [0, 3], [81]), (101, [0, 2], [80]), (101, [0, 1], [79]), (9, [1, 0], [100])], [], [], [(20, [0], [50, 2, 0, 79, 100, 1, 3, 2, 0, 79, 2, 0, 100]), (20, [0], [60, 2, 4, 456, 79, 80, 83, 84, 85, 86]), (20, [0, 4], [50, 1, 0, 80, 1, 3, 2, 0, 80, 1, 1]), (20, [0], [50, 1, 0, 81, 1, 3, 2, 0, 81, 0, 0]), (24, [0, 0], [])], [], [])
set_option maxRecDepth 100000 in
theorem oo_Mo_across2_0 {kA : Nat → ClassId} : or_ok PRD kA GG o_Mo_across2_0 := by
  refine or_mk fun A ta ws vs hD hth hl => ?_
  intro t0 r0 t1 k1 t2 k2 t3 k3 t4 k4 ta1 w1 le1 s1 ta2 w2 le2 s2 ta3 w3 le3 s3 f12
  have s1 : (∀ b j, w_el ws b j = w_el w1 b j) ∧ ∀ b j, w_fd ws b j = if b = v_ad (n_v vs 0) ∧ j = 81 then n_v vs 3 else w_fd w1 b j := s1.2
  have s2 : (∀ b j, w_el w1 b j = w_el w2 b j) ∧ ∀ b j, w_fd w1 b j = if b = v_ad (n_v vs 0) ∧ j = 80 then n_v vs 2 else w_fd w2 b j := s2.2
  have s3 : (∀ b j, w_el w2 b j = w_el w3 b j) ∧ ∀ b j, w_fd w2 b j = if b = v_ad (n_v vs 0) ∧ j = 79 then n_v vs 1 else w_fd w3 b j := s3.2
  replace f12 := shm_1555 f12
  have g12 : v_iv (n_v vs 1) = w_fi w3 (n_v vs 0) 100 := congrArg v_iv f12
  have fe_0_5_1 : w_fi ws (n_v vs 0) 5 = w_fi w1 (n_v vs 0) 5 := by show v_iv (w_fd _ _ _) = v_iv (w_fd _ _ _); rw [s1.2, if_neg (fun e => absurd e.2 (by decide))]
  have fe_0_79_1 : w_fi ws (n_v vs 0) 79 = w_fi w1 (n_v vs 0) 79 := by show v_iv (w_fd _ _ _) = v_iv (w_fd _ _ _); rw [s1.2, if_neg (fun e => absurd e.2 (by decide))]
  have fe_0_80_1 : w_fi ws (n_v vs 0) 80 = w_fi w1 (n_v vs 0) 80 := by show v_iv (w_fd _ _ _) = v_iv (w_fd _ _ _); rw [s1.2, if_neg (fun e => absurd e.2 (by decide))]
  have fe_0_81_1 : w_fi ws (n_v vs 0) 81 = v_iv (n_v vs 3) := by show v_iv (w_fd _ _ _) = _; rw [s1.2, if_pos ⟨rfl, rfl⟩]
  have fe_0_100_1 : w_fi ws (n_v vs 0) 100 = w_fi w1 (n_v vs 0) 100 := by show v_iv (w_fd _ _ _) = v_iv (w_fd _ _ _); rw [s1.2, if_neg (fun e => absurd e.2 (by decide))]
  have fe_0_101_1 : w_fi ws (n_v vs 0) 101 = w_fi w1 (n_v vs 0) 101 := by show v_iv (w_fd _ _ _) = v_iv (w_fd _ _ _); rw [s1.2, if_neg (fun e => absurd e.2 (by decide))]
  have fe_0_107_1 : w_fi ws (n_v vs 0) 107 = w_fi w1 (n_v vs 0) 107 := by show v_iv (w_fd _ _ _) = v_iv (w_fd _ _ _); rw [s1.2, if_neg (fun e => absurd e.2 (by decide))]
  have fe_0_5_2 : w_fi w1 (n_v vs 0) 5 = w_fi w2 (n_v vs 0) 5 := by show v_iv (w_fd _ _ _) = v_iv (w_fd _ _ _); rw [s2.2, if_neg (fun e => absurd e.2 (by decide))]
  have fe_0_79_2 : w_fi w1 (n_v vs 0) 79 = w_fi w2 (n_v vs 0) 79 := by show v_iv (w_fd _ _ _) = v_iv (w_fd _ _ _); rw [s2.2, if_neg (fun e => absurd e.2 (by decide))]
  have fe_0_80_2 : w_fi w1 (n_v vs 0) 80 = v_iv (n_v vs 2) := by show v_iv (w_fd _ _ _) = _; rw [s2.2, if_pos ⟨rfl, rfl⟩]
  have fe_0_81_2 : w_fi w1 (n_v vs 0) 81 = w_fi w2 (n_v vs 0) 81 := by show v_iv (w_fd _ _ _) = v_iv (w_fd _ _ _); rw [s2.2, if_neg (fun e => absurd e.2 (by decide))]
  have fe_0_100_2 : w_fi w1 (n_v vs 0) 100 = w_fi w2 (n_v vs 0) 100 := by show v_iv (w_fd _ _ _) = v_iv (w_fd _ _ _); rw [s2.2, if_neg (fun e => absurd e.2 (by decide))]
  have fe_0_101_2 : w_fi w1 (n_v vs 0) 101 = w_fi w2 (n_v vs 0) 101 := by show v_iv (w_fd _ _ _) = v_iv (w_fd _ _ _); rw [s2.2, if_neg (fun e => absurd e.2 (by decide))]
  have fe_0_107_2 : w_fi w1 (n_v vs 0) 107 = w_fi w2 (n_v vs 0) 107 := by show v_iv (w_fd _ _ _) = v_iv (w_fd _ _ _); rw [s2.2, if_neg (fun e => absurd e.2 (by decide))]
  have fe_0_5_3 : w_fi w2 (n_v vs 0) 5 = w_fi w3 (n_v vs 0) 5 := by show v_iv (w_fd _ _ _) = v_iv (w_fd _ _ _); rw [s3.2, if_neg (fun e => absurd e.2 (by decide))]
  have fe_0_79_3 : w_fi w2 (n_v vs 0) 79 = v_iv (n_v vs 1) := by show v_iv (w_fd _ _ _) = _; rw [s3.2, if_pos ⟨rfl, rfl⟩]
  have fe_0_100_3 : w_fi w2 (n_v vs 0) 100 = w_fi w3 (n_v vs 0) 100 := by show v_iv (w_fd _ _ _) = v_iv (w_fd _ _ _); rw [s3.2, if_neg (fun e => absurd e.2 (by decide))]
  have fe_0_101_3 : w_fi w2 (n_v vs 0) 101 = w_fi w3 (n_v vs 0) 101 := by show v_iv (w_fd _ _ _) = v_iv (w_fd _ _ _); rw [s3.2, if_neg (fun e => absurd e.2 (by decide))]
  have fe_0_107_3 : w_fi w2 (n_v vs 0) 107 = w_fi w3 (n_v vs 0) 107 := by show v_iv (w_fd _ _ _) = v_iv (w_fd _ _ _); rw [s3.2, if_neg (fun e => absurd e.2 (by decide))]
  have hE_0_2_1 : ∀ j : Int, w_ei ws (w_ar ws (n_v vs 0) 2) j = w_ei w1 (w_ar ws (n_v vs 0) 2) j := fun j => s1.1 _ _
  have hE_0_2_2 : ∀ j : Int, w_ei w1 (w_ar ws (n_v vs 0) 2) j = w_ei w2 (w_ar ws (n_v vs 0) 2) j := fun j => s2.1 _ _
  have hE_0_2_3 : ∀ j : Int, w_ei w2 (w_ar ws (n_v vs 0) 2) j = w_ei w3 (w_ar ws (n_v vs 0) 2) j := fun j => s3.1 _ _
  have hE_0_83_1 : ∀ j : Int, w_ei ws (w_ar ws (n_v vs 0) 83) j = w_ei w1 (w_ar ws (n_v vs 0) 83) j := fun j => s1.1 _ _
  have hE_0_83_2 : ∀ j : Int, w_ei w1 (w_ar ws (n_v vs 0) 83) j = w_ei w2 (w_ar ws (n_v vs 0) 83) j := fun j => s2.1 _ _
  have hE_0_83_3 : ∀ j : Int, w_ei w2 (w_ar ws (n_v vs 0) 83) j = w_ei w3 (w_ar ws (n_v vs 0) 83) j := fun j => s3.1 _ _
  have hE_0_84_1 : ∀ j : Int, w_ei ws (w_ar ws (n_v vs 0) 84) j = w_ei w1 (w_ar ws (n_v vs 0) 84) j := fun j => s1.1 _ _
  have hE_0_84_2 : ∀ j : Int, w_ei w1 (w_ar ws (n_v vs 0) 84) j = w_ei w2 (w_ar ws (n_v vs 0) 84) j := fun j => s2.1 _ _
  have hE_0_84_3 : ∀ j : Int, w_ei w2 (w_ar ws (n_v vs 0) 84) j = w_ei w3 (w_ar ws (n_v vs 0) 84) j := fun j => s3.1 _ _
  have hE_0_85_1 : ∀ j : Int, w_ei ws (w_ar ws (n_v vs 0) 85) j = w_ei w1 (w_ar ws (n_v vs 0) 85) j := fun j => s1.1 _ _
  have hE_0_85_2 : ∀ j : Int, w_ei w1 (w_ar ws (n_v vs 0) 85) j = w_ei w2 (w_ar ws (n_v vs 0) 85) j := fun j => s2.1 _ _
  have hE_0_85_3 : ∀ j : Int, w_ei w2 (w_ar ws (n_v vs 0) 85) j = w_ei w3 (w_ar ws (n_v vs 0) 85) j := fun j => s3.1 _ _
  have hE_0_86_1 : ∀ j : Int, w_ei ws (w_ar ws (n_v vs 0) 86) j = w_ei w1 (w_ar ws (n_v vs 0) 86) j := fun j => s1.1 _ _
  have hE_0_86_2 : ∀ j : Int, w_ei w1 (w_ar ws (n_v vs 0) 86) j = w_ei w2 (w_ar ws (n_v vs 0) 86) j := fun j => s2.1 _ _
  have hE_0_86_3 : ∀ j : Int, w_ei w2 (w_ar ws (n_v vs 0) 86) j = w_ei w3 (w_ar ws (n_v vs 0) 86) j := fun j => s3.1 _ _
  have hE_0_95_1 : ∀ j : Int, w_ei ws (w_ar ws (n_v vs 0) 95) j = w_ei w1 (w_ar ws (n_v vs 0) 95) j := fun j => s1.1 _ _
  have hE_0_95_2 : ∀ j : Int, w_ei w1 (w_ar ws (n_v vs 0) 95) j = w_ei w2 (w_ar ws (n_v vs 0) 95) j := fun j => s2.1 _ _
  have hE_0_95_3 : ∀ j : Int, w_ei w2 (w_ar ws (n_v vs 0) 95) j = w_ei w3 (w_ar ws (n_v vs 0) 95) j := fun j => s3.1 _ _
  have hE_0_102_1 : ∀ j : Int, w_ei ws (w_ar ws (n_v vs 0) 102) j = w_ei w1 (w_ar ws (n_v vs 0) 102) j := fun j => s1.1 _ _
  have hE_0_102_2 : ∀ j : Int, w_ei w1 (w_ar ws (n_v vs 0) 102) j = w_ei w2 (w_ar ws (n_v vs 0) 102) j := fun j => s2.1 _ _
  have hE_0_102_3 : ∀ j : Int, w_ei w2 (w_ar ws (n_v vs 0) 102) j = w_ei w3 (w_ar ws (n_v vs 0) 102) j := fun j => s3.1 _ _
  have hE_0_104_1 : ∀ j : Int, w_ei ws (w_ar ws (n_v vs 0) 104) j = w_ei w1 (w_ar ws (n_v vs 0) 104) j := fun j => s1.1 _ _
  have hE_0_104_2 : ∀ j : Int, w_ei w1 (w_ar ws (n_v vs 0) 104) j = w_ei w2 (w_ar ws (n_v vs 0) 104) j := fun j => s2.1 _ _
  have hE_0_104_3 : ∀ j : Int, w_ei w2 (w_ar ws (n_v vs 0) 104) j = w_ei w3 (w_ar ws (n_v vs 0) 104) j := fun j => s3.1 _ _
  have hE_0_105_1 : ∀ j : Int, w_ei ws (w_ar ws (n_v vs 0) 105) j = w_ei w1 (w_ar ws (n_v vs 0) 105) j := fun j => s1.1 _ _
  have hE_0_105_2 : ∀ j : Int, w_ei w1 (w_ar ws (n_v vs 0) 105) j = w_ei w2 (w_ar ws (n_v vs 0) 105) j := fun j => s2.1 _ _
  have hE_0_105_3 : ∀ j : Int, w_ei w2 (w_ar ws (n_v vs 0) 105) j = w_ei w3 (w_ar ws (n_v vs 0) 105) j := fun j => s3.1 _ _
  have hE_0_106_1 : ∀ j : Int, w_ei ws (w_ar ws (n_v vs 0) 106) j = w_ei w1 (w_ar ws (n_v vs 0) 106) j := fun j => s1.1 _ _
  have hE_0_106_2 : ∀ j : Int, w_ei w1 (w_ar ws (n_v vs 0) 106) j = w_ei w2 (w_ar ws (n_v vs 0) 106) j := fun j => s2.1 _ _
  have hE_0_106_3 : ∀ j : Int, w_ei w2 (w_ar ws (n_v vs 0) 106) j = w_ei w3 (w_ar ws (n_v vs 0) 106) j := fun j => s3.1 _ _
  have hE_0_108_1 : ∀ j : Int, w_ei ws (w_ar ws (n_v vs 0) 108) j = w_ei w1 (w_ar ws (n_v vs 0) 108) j := fun j => s1.1 _ _
  have hE_0_108_2 : ∀ j : Int, w_ei w1 (w_ar ws (n_v vs 0) 108) j = w_ei w2 (w_ar ws (n_v vs 0) 108) j := fun j => s2.1 _ _
  have hE_0_108_3 : ∀ j : Int, w_ei w2 (w_ar ws (n_v vs 0) 108) j = w_ei w3 (w_ar ws (n_v vs 0) 108) j := fun j => s3.1 _ _
  have hE_0_109_1 : ∀ j : Int, w_ei ws (w_ar ws (n_v vs 0) 109) j = w_ei w1 (w_ar ws (n_v vs 0) 109) j := fun j => s1.1 _ _
  have hE_0_109_2 : ∀ j : Int, w_ei w1 (w_ar ws (n_v vs 0) 109) j = w_ei w2 (w_ar ws (n_v vs 0) 109) j := fun j => s2.1 _ _
  have hE_0_109_3 : ∀ j : Int, w_ei w2 (w_ar ws (n_v vs 0) 109) j = w_ei w3 (w_ar ws (n_v vs 0) 109) j := fun j => s3.1 _ _
  have kz_0_79 := fdq_147 hD hth r0
  have kz_0_80 := fdq_131 hD hth r0
  have kz_0_81 := fdq_124 hD hth r0
  have kz_0_100 := fdq_162 hD hth r0
  have kz_0_101 := fdq_125 hD hth r0
  have kz_0_107 := fdq_163 hD hth r0
  have nf0 : fc_1 PRD (20, [0], [50, 2, 0, 79, 100, 1, 3, 2, 0, 79, 2, 0, 100]) ws (vs) := ⟨nf_in hl rfl, sgq_1944 (vc_Mo_across2_0_0 (v_iv (n_v vs 1)) (v_iv (n_v vs 2)) (w_ei ws (w_ar ws (n_v vs 0) 2)) (w_ei ws (w_ar ws (n_v vs 0) 95)) (w_ei ws (w_ar ws (n_v vs 0) 102)) (w_ei ws (w_ar ws (n_v vs 0) 104)) (w_ei ws (w_ar ws (n_v vs 0) 108)) (w_ei ws (w_ar ws (n_v vs 0) 109)) (w_fi ws (n_v vs 0) 5) (w_fi ws (n_v vs 0) 100) (w_fi ws (n_v vs 0) 101) (w_fi ws (n_v vs 0) 107) (w_ei ws (w_ar ws (n_v vs 0) 105)) (w_ei ws (w_ar ws (n_v vs 0) 106)) (w_ei w1 (w_ar ws (n_v vs 0) 2)) (w_ei w1 (w_ar ws (n_v vs 0) 95)) (w_ei w1 (w_ar ws (n_v vs 0) 102)) (w_ei w1 (w_ar ws (n_v vs 0) 104)) (w_ei w1 (w_ar ws (n_v vs 0) 108)) (w_ei w1 (w_ar ws (n_v vs 0) 109)) (w_fi w1 (n_v vs 0) 5) (w_fi w1 (n_v vs 0) 100) (w_fi w1 (n_v vs 0) 101) (w_fi w1 (n_v vs 0) 107) (w_ei w1 (w_ar ws (n_v vs 0) 105)) (w_ei w1 (w_ar ws (n_v vs 0) 106)) (w_ei w2 (w_ar ws (n_v vs 0) 2)) (w_ei w2 (w_ar ws (n_v vs 0) 95)) (w_ei w2 (w_ar ws (n_v vs 0) 102)) (w_ei w2 (w_ar ws (n_v vs 0) 104)) (w_ei w2 (w_ar ws (n_v vs 0) 108)) (w_ei w2 (w_ar ws (n_v vs 0) 109)) (w_fi w2 (n_v vs 0) 5) (w_fi w2 (n_v vs 0) 100) (w_fi w2 (n_v vs 0) 101) (w_fi w2 (n_v vs 0) 107) (w_ei w2 (w_ar ws (n_v vs 0) 105)) (w_ei w2 (w_ar ws (n_v vs 0) 106)) (w_fi w3 (n_v vs 0) 100) (w_ei w3 (w_ar ws (n_v vs 0) 2)) (w_ei w3 (w_ar ws (n_v vs 0) 95)) (w_ei w3 (w_ar ws (n_v vs 0) 102)) (w_ei w3 (w_ar ws (n_v vs 0) 104)) (w_ei w3 (w_ar ws (n_v vs 0) 108)) (w_ei w3 (w_ar ws (n_v vs 0) 109)) (w_fi w3 (n_v vs 0) 5) (w_fi w3 (n_v vs 0) 101) (w_fi w3 (n_v vs 0) 107) (w_ei w3 (w_ar ws (n_v vs 0) 105)) (w_ei w3 (w_ar ws (n_v vs 0) 106)) (w_fi ws (n_v vs 0) 79) (w_fi w1 (n_v vs 0) 79) (w_fi ws (n_v vs 0) 80) (w_fi w1 (n_v vs 0) 80) (w_fi w2 (n_v vs 0) 79) (w_fi w1 (n_v vs 0) 81) (w_fi w2 (n_v vs 0) 81) (w_ei ws (w_ar ws (n_v vs 0) 83)) (w_ei w1 (w_ar ws (n_v vs 0) 83)) (w_ei w2 (w_ar ws (n_v vs 0) 83)) (w_ei w3 (w_ar ws (n_v vs 0) 83)) (w_ei ws (w_ar ws (n_v vs 0) 84)) (w_ei w1 (w_ar ws (n_v vs 0) 84)) (w_ei w2 (w_ar ws (n_v vs 0) 84)) (w_ei w3 (w_ar ws (n_v vs 0) 84)) (w_ei ws (w_ar ws (n_v vs 0) 85)) (w_ei w1 (w_ar ws (n_v vs 0) 85)) (w_ei w2 (w_ar ws (n_v vs 0) 85)) (w_ei w3 (w_ar ws (n_v vs 0) 85)) (w_ei ws (w_ar ws (n_v vs 0) 86)) (w_ei w1 (w_ar ws (n_v vs 0) 86)) (w_ei w2 (w_ar ws (n_v vs 0) 86)) (w_ei w3 (w_ar ws (n_v vs 0) 86)) k1 g12 fe_0_5_1 fe_0_79_1 fe_0_80_1 fe_0_100_1 fe_0_101_1 fe_0_107_1 fe_0_5_2 fe_0_79_2 fe_0_81_2 fe_0_100_2 fe_0_101_2 fe_0_107_2 fe_0_5_3 fe_0_79_3 fe_0_100_3 fe_0_101_3 fe_0_107_3 hE_0_2_1 hE_0_2_2 hE_0_2_3 hE_0_83_1 hE_0_83_2 hE_0_83_3 hE_0_84_1 hE_0_84_2 hE_0_84_3 hE_0_85_1 hE_0_85_2 hE_0_85_3 hE_0_86_1 hE_0_86_2 hE_0_86_3 hE_0_95_1 hE_0_95_2 hE_0_95_3 hE_0_102_1 hE_0_102_2 hE_0_102_3 hE_0_104_1 hE_0_104_2 hE_0_104_3 hE_0_105_1 hE_0_105_2 hE_0_105_3 hE_0_106_1 hE_0_106_2 hE_0_106_3 hE_0_108_1 hE_0_108_2 hE_0_108_3 hE_0_109_1 hE_0_109_2 hE_0_109_3 kz_0_79 kz_0_80 kz_0_100 kz_0_101 kz_0_107)⟩
  have nf1 : fc_1 PRD (20, [0], [60, 2, 4, 456, 79, 80, 83, 84, 85, 86]) ws (vs) := ⟨nf_in hl rfl, sgq_558 (vc_Mo_across2_0_1 (v_iv (n_v vs 2)) (w_ei ws (w_ar ws (n_v vs 0) 2)) (w_ei ws (w_ar ws (n_v vs 0) 95)) (w_ei ws (w_ar ws (n_v vs 0) 102)) (w_ei ws (w_ar ws (n_v vs 0) 104)) (w_ei ws (w_ar ws (n_v vs 0) 108)) (w_ei ws (w_ar ws (n_v vs 0) 109)) (w_fi ws (n_v vs 0) 5) (w_fi ws (n_v vs 0) 100) (w_fi ws (n_v vs 0) 101) (w_fi ws (n_v vs 0) 107) (w_ei ws (w_ar ws (n_v vs 0) 105)) (w_ei ws (w_ar ws (n_v vs 0) 106)) (w_ei w1 (w_ar ws (n_v vs 0) 2)) (w_ei w1 (w_ar ws (n_v vs 0) 95)) (w_ei w1 (w_ar ws (n_v vs 0) 102)) (w_ei w1 (w_ar ws (n_v vs 0) 104)) (w_ei w1 (w_ar ws (n_v vs 0) 108)) (w_ei w1 (w_ar ws (n_v vs 0) 109)) (w_fi w1 (n_v vs 0) 5) (w_fi w1 (n_v vs 0) 100) (w_fi w1 (n_v vs 0) 101) (w_fi w1 (n_v vs 0) 107) (w_ei w1 (w_ar ws (n_v vs 0) 105)) (w_ei w1 (w_ar ws (n_v vs 0) 106)) (w_ei w2 (w_ar ws (n_v vs 0) 2)) (w_ei w2 (w_ar ws (n_v vs 0) 95)) (w_ei w2 (w_ar ws (n_v vs 0) 102)) (w_ei w2 (w_ar ws (n_v vs 0) 104)) (w_ei w2 (w_ar ws (n_v vs 0) 108)) (w_ei w2 (w_ar ws (n_v vs 0) 109)) (w_fi w2 (n_v vs 0) 5) (w_fi w2 (n_v vs 0) 100) (w_fi w2 (n_v vs 0) 101) (w_fi w2 (n_v vs 0) 107) (w_ei w2 (w_ar ws (n_v vs 0) 105)) (w_ei w2 (w_ar ws (n_v vs 0) 106)) (w_fi w3 (n_v vs 0) 100) (w_ei w3 (w_ar ws (n_v vs 0) 2)) (w_ei w3 (w_ar ws (n_v vs 0) 95)) (w_ei w3 (w_ar ws (n_v vs 0) 102)) (w_ei w3 (w_ar ws (n_v vs 0) 104)) (w_ei w3 (w_ar ws (n_v vs 0) 108)) (w_ei w3 (w_ar ws (n_v vs 0) 109)) (w_fi w3 (n_v vs 0) 5) (w_fi w3 (n_v vs 0) 101) (w_fi w3 (n_v vs 0) 107) (w_ei w3 (w_ar ws (n_v vs 0) 105)) (w_ei w3 (w_ar ws (n_v vs 0) 106)) (w_fi ws (n_v vs 0) 79) (w_fi w1 (n_v vs 0) 79) (w_fi ws (n_v vs 0) 80) (w_fi w1 (n_v vs 0) 80) (w_fi w2 (n_v vs 0) 79) (w_fi w1 (n_v vs 0) 81) (w_fi w2 (n_v vs 0) 81) (w_ei ws (w_ar ws (n_v vs 0) 83)) (w_ei w1 (w_ar ws (n_v vs 0) 83)) (w_ei w2 (w_ar ws (n_v vs 0) 83)) (w_ei w3 (w_ar ws (n_v vs 0) 83)) (w_ei ws (w_ar ws (n_v vs 0) 84)) (w_ei w1 (w_ar ws (n_v vs 0) 84)) (w_ei w2 (w_ar ws (n_v vs 0) 84)) (w_ei w3 (w_ar ws (n_v vs 0) 84)) (w_ei ws (w_ar ws (n_v vs 0) 85)) (w_ei w1 (w_ar ws (n_v vs 0) 85)) (w_ei w2 (w_ar ws (n_v vs 0) 85)) (w_ei w3 (w_ar ws (n_v vs 0) 85)) (w_ei ws (w_ar ws (n_v vs 0) 86)) (w_ei w1 (w_ar ws (n_v vs 0) 86)) (w_ei w2 (w_ar ws (n_v vs 0) 86)) (w_ei w3 (w_ar ws (n_v vs 0) 86)) k2 fe_0_5_1 fe_0_79_1 fe_0_80_1 fe_0_100_1 fe_0_101_1 fe_0_107_1 fe_0_5_2 fe_0_79_2 fe_0_80_2 fe_0_81_2 fe_0_100_2 fe_0_101_2 fe_0_107_2 fe_0_5_3 fe_0_100_3 fe_0_101_3 fe_0_107_3 hE_0_2_1 hE_0_2_2 hE_0_2_3 hE_0_83_1 hE_0_83_2 hE_0_83_3 hE_0_84_1 hE_0_84_2 hE_0_84_3 hE_0_85_1 hE_0_85_2 hE_0_85_3 hE_0_86_1 hE_0_86_2 hE_0_86_3 hE_0_95_1 hE_0_95_2 hE_0_95_3 hE_0_102_1 hE_0_102_2 hE_0_102_3 hE_0_104_1 hE_0_104_2 hE_0_104_3 hE_0_105_1 hE_0_105_2 hE_0_105_3 hE_0_106_1 hE_0_106_2 hE_0_106_3 hE_0_108_1 hE_0_108_2 hE_0_108_3 hE_0_109_1 hE_0_109_2 hE_0_109_3 kz_0_79 kz_0_80 kz_0_100 kz_0_101 kz_0_107)⟩
  have nf2 : fc_1 PRD (20, [0, 4], [50, 1, 0, 80, 1, 3, 2, 0, 80, 1, 1]) ws (vs) := ⟨nf_in hl rfl, sgq_557 (vc_Mo_across2_0_2 (v_iv (n_v vs 2)) (v_iv (n_v vs 4)) (w_ei ws (w_ar ws (n_v vs 0) 2)) (w_ei ws (w_ar ws (n_v vs 0) 95)) (w_ei ws (w_ar ws (n_v vs 0) 102)) (w_ei ws (w_ar ws (n_v vs 0) 104)) (w_ei ws (w_ar ws (n_v vs 0) 108)) (w_ei ws (w_ar ws (n_v vs 0) 109)) (w_fi ws (n_v vs 0) 5) (w_fi ws (n_v vs 0) 100) (w_fi ws (n_v vs 0) 101) (w_fi ws (n_v vs 0) 107) (w_ei ws (w_ar ws (n_v vs 0) 105)) (w_ei ws (w_ar ws (n_v vs 0) 106)) (w_ei w1 (w_ar ws (n_v vs 0) 2)) (w_ei w1 (w_ar ws (n_v vs 0) 95)) (w_ei w1 (w_ar ws (n_v vs 0) 102)) (w_ei w1 (w_ar ws (n_v vs 0) 104)) (w_ei w1 (w_ar ws (n_v vs 0) 108)) (w_ei w1 (w_ar ws (n_v vs 0) 109)) (w_fi w1 (n_v vs 0) 5) (w_fi w1 (n_v vs 0) 100) (w_fi w1 (n_v vs 0) 101) (w_fi w1 (n_v vs 0) 107) (w_ei w1 (w_ar ws (n_v vs 0) 105)) (w_ei w1 (w_ar ws (n_v vs 0) 106)) (w_ei w2 (w_ar ws (n_v vs 0) 2)) (w_ei w2 (w_ar ws (n_v vs 0) 95)) (w_ei w2 (w_ar ws (n_v vs 0) 102)) (w_ei w2 (w_ar ws (n_v vs 0) 104)) (w_ei w2 (w_ar ws (n_v vs 0) 108)) (w_ei w2 (w_ar ws (n_v vs 0) 109)) (w_fi w2 (n_v vs 0) 5) (w_fi w2 (n_v vs 0) 100) (w_fi w2 (n_v vs 0) 101) (w_fi w2 (n_v vs 0) 107) (w_ei w2 (w_ar ws (n_v vs 0) 105)) (w_ei w2 (w_ar ws (n_v vs 0) 106)) (w_fi w3 (n_v vs 0) 100) (w_ei w3 (w_ar ws (n_v vs 0) 2)) (w_ei w3 (w_ar ws (n_v vs 0) 95)) (w_ei w3 (w_ar ws (n_v vs 0) 102)) (w_ei w3 (w_ar ws (n_v vs 0) 104)) (w_ei w3 (w_ar ws (n_v vs 0) 108)) (w_ei w3 (w_ar ws (n_v vs 0) 109)) (w_fi w3 (n_v vs 0) 5) (w_fi w3 (n_v vs 0) 101) (w_fi w3 (n_v vs 0) 107) (w_ei w3 (w_ar ws (n_v vs 0) 105)) (w_ei w3 (w_ar ws (n_v vs 0) 106)) (w_fi ws (n_v vs 0) 79) (w_fi w1 (n_v vs 0) 79) (w_fi ws (n_v vs 0) 80) (w_fi w1 (n_v vs 0) 80) (w_fi w2 (n_v vs 0) 79) (w_fi w1 (n_v vs 0) 81) (w_fi w2 (n_v vs 0) 81) (w_ei ws (w_ar ws (n_v vs 0) 83)) (w_ei w1 (w_ar ws (n_v vs 0) 83)) (w_ei w2 (w_ar ws (n_v vs 0) 83)) (w_ei w3 (w_ar ws (n_v vs 0) 83)) (w_ei ws (w_ar ws (n_v vs 0) 84)) (w_ei w1 (w_ar ws (n_v vs 0) 84)) (w_ei w2 (w_ar ws (n_v vs 0) 84)) (w_ei w3 (w_ar ws (n_v vs 0) 84)) (w_ei ws (w_ar ws (n_v vs 0) 85)) (w_ei w1 (w_ar ws (n_v vs 0) 85)) (w_ei w2 (w_ar ws (n_v vs 0) 85)) (w_ei w3 (w_ar ws (n_v vs 0) 85)) (w_ei ws (w_ar ws (n_v vs 0) 86)) (w_ei w1 (w_ar ws (n_v vs 0) 86)) (w_ei w2 (w_ar ws (n_v vs 0) 86)) (w_ei w3 (w_ar ws (n_v vs 0) 86)) k2 k4 fe_0_5_1 fe_0_79_1 fe_0_80_1 fe_0_100_1 fe_0_101_1 fe_0_107_1 fe_0_5_2 fe_0_79_2 fe_0_80_2 fe_0_81_2 fe_0_100_2 fe_0_101_2 fe_0_107_2 fe_0_5_3 fe_0_100_3 fe_0_101_3 fe_0_107_3 hE_0_2_1 hE_0_2_2 hE_0_2_3 hE_0_83_1 hE_0_83_2 hE_0_83_3 hE_0_84_1 hE_0_84_2 hE_0_84_3 hE_0_85_1 hE_0_85_2 hE_0_85_3 hE_0_86_1 hE_0_86_2 hE_0_86_3 hE_0_95_1 hE_0_95_2 hE_0_95_3 hE_0_102_1 hE_0_102_2 hE_0_102_3 hE_0_104_1 hE_0_104_2 hE_0_104_3 hE_0_105_1 hE_0_105_2 hE_0_105_3 hE_0_106_1 hE_0_106_2 hE_0_106_3 hE_0_108_1 hE_0_108_2 hE_0_108_3 hE_0_109_1 hE_0_109_2 hE_0_109_3 kz_0_79 kz_0_80 kz_0_100 kz_0_101 kz_0_107)⟩
  have nf3 : fc_1 PRD (20, [0], [50, 1, 0, 81, 1, 3, 2, 0, 81, 0, 0]) ws (vs) := ⟨nf_in hl rfl, sgq_1945 (vc_Mo_across2_0_3 (v_iv (n_v vs 2)) (v_iv (n_v vs 3)) (w_ei ws (w_ar ws (n_v vs 0) 2)) (w_ei ws (w_ar ws (n_v vs 0) 95)) (w_ei ws (w_ar ws (n_v vs 0) 102)) (w_ei ws (w_ar ws (n_v vs 0) 104)) (w_ei ws (w_ar ws (n_v vs 0) 108)) (w_ei ws (w_ar ws (n_v vs 0) 109)) (w_fi ws (n_v vs 0) 5) (w_fi ws (n_v vs 0) 100) (w_fi ws (n_v vs 0) 101) (w_fi ws (n_v vs 0) 107) (w_ei ws (w_ar ws (n_v vs 0) 105)) (w_ei ws (w_ar ws (n_v vs 0) 106)) (w_ei w1 (w_ar ws (n_v vs 0) 2)) (w_ei w1 (w_ar ws (n_v vs 0) 95)) (w_ei w1 (w_ar ws (n_v vs 0) 102)) (w_ei w1 (w_ar ws (n_v vs 0) 104)) (w_ei w1 (w_ar ws (n_v vs 0) 108)) (w_ei w1 (w_ar ws (n_v vs 0) 109)) (w_fi w1 (n_v vs 0) 5) (w_fi w1 (n_v vs 0) 100) (w_fi w1 (n_v vs 0) 101) (w_fi w1 (n_v vs 0) 107) (w_ei w1 (w_ar ws (n_v vs 0) 105)) (w_ei w1 (w_ar ws (n_v vs 0) 106)) (w_ei w2 (w_ar ws (n_v vs 0) 2)) (w_ei w2 (w_ar ws (n_v vs 0) 95)) (w_ei w2 (w_ar ws (n_v vs 0) 102)) (w_ei w2 (w_ar ws (n_v vs 0) 104)) (w_ei w2 (w_ar ws (n_v vs 0) 108)) (w_ei w2 (w_ar ws (n_v vs 0) 109)) (w_fi w2 (n_v vs 0) 5) (w_fi w2 (n_v vs 0) 100) (w_fi w2 (n_v vs 0) 101) (w_fi w2 (n_v vs 0) 107) (w_ei w2 (w_ar ws (n_v vs 0) 105)) (w_ei w2 (w_ar ws (n_v vs 0) 106)) (w_fi w3 (n_v vs 0) 100) (w_ei w3 (w_ar ws (n_v vs 0) 2)) (w_ei w3 (w_ar ws (n_v vs 0) 95)) (w_ei w3 (w_ar ws (n_v vs 0) 102)) (w_ei w3 (w_ar ws (n_v vs 0) 104)) (w_ei w3 (w_ar ws (n_v vs 0) 108)) (w_ei w3 (w_ar ws (n_v vs 0) 109)) (w_fi w3 (n_v vs 0) 5) (w_fi w3 (n_v vs 0) 101) (w_fi w3 (n_v vs 0) 107) (w_ei w3 (w_ar ws (n_v vs 0) 105)) (w_ei w3 (w_ar ws (n_v vs 0) 106)) (w_fi ws (n_v vs 0) 79) (w_fi w1 (n_v vs 0) 79) (w_fi ws (n_v vs 0) 80) (w_fi w1 (n_v vs 0) 80) (w_fi ws (n_v vs 0) 81) (w_fi w2 (n_v vs 0) 79) (w_fi w1 (n_v vs 0) 81) (w_fi w2 (n_v vs 0) 81) (w_ei ws (w_ar ws (n_v vs 0) 83)) (w_ei w1 (w_ar ws (n_v vs 0) 83)) (w_ei w2 (w_ar ws (n_v vs 0) 83)) (w_ei w3 (w_ar ws (n_v vs 0) 83)) (w_ei ws (w_ar ws (n_v vs 0) 84)) (w_ei w1 (w_ar ws (n_v vs 0) 84)) (w_ei w2 (w_ar ws (n_v vs 0) 84)) (w_ei w3 (w_ar ws (n_v vs 0) 84)) (w_ei ws (w_ar ws (n_v vs 0) 85)) (w_ei w1 (w_ar ws (n_v vs 0) 85)) (w_ei w2 (w_ar ws (n_v vs 0) 85)) (w_ei w3 (w_ar ws (n_v vs 0) 85)) (w_ei ws (w_ar ws (n_v vs 0) 86)) (w_ei w1 (w_ar ws (n_v vs 0) 86)) (w_ei w2 (w_ar ws (n_v vs 0) 86)) (w_ei w3 (w_ar ws (n_v vs 0) 86)) k3 fe_0_5_1 fe_0_79_1 fe_0_80_1 fe_0_81_1 fe_0_100_1 fe_0_101_1 fe_0_107_1 fe_0_5_2 fe_0_79_2 fe_0_81_2 fe_0_100_2 fe_0_101_2 fe_0_107_2 fe_0_5_3 fe_0_100_3 fe_0_101_3 fe_0_107_3 hE_0_2_1 hE_0_2_2 hE_0_2_3 hE_0_83_1 hE_0_83_2 hE_0_83_3 hE_0_84_1 hE_0_84_2 hE_0_84_3 hE_0_85_1 hE_0_85_2 hE_0_85_3 hE_0_86_1 hE_0_86_2 hE_0_86_3 hE_0_95_1 hE_0_95_2 hE_0_95_3 hE_0_102_1 hE_0_102_2 hE_0_102_3 hE_0_104_1 hE_0_104_2 hE_0_104_3 hE_0_105_1 hE_0_105_2 hE_0_105_3 hE_0_106_1 hE_0_106_2 hE_0_106_3 hE_0_108_1 hE_0_108_2 hE_0_108_3 hE_0_109_1 hE_0_109_2 hE_0_109_3 kz_0_79 kz_0_80 kz_0_81 kz_0_100 kz_0_101 kz_0_107)⟩
  have nf4 : fc_1 PRD (24, [0, 0], []) ws (vs) := by
    refine ⟨nf_in hl rfl, sgq_1 ?_⟩
    · show n_v vs 0 = n_v vs 0
      first | rfl | simp only [true_and]
  refine ⟨(fun _ h => (by cases h)), [], trivial, ?_, (fun _ h => (by cases h))⟩
  rw [List.append_nil]
  exact List.forall_mem_cons.mpr ⟨⟨show (20 : Nat) < 100 from by decide, nf0⟩, List.forall_mem_cons.mpr ⟨⟨show (20 : Nat) < 100 from by decide, nf1⟩, List.forall_mem_cons.mpr ⟨⟨show (20 : Nat) < 100 from by decide, nf2⟩, List.forall_mem_cons.mpr ⟨⟨show (20 : Nat) < 100 from by decide, nf3⟩, List.forall_mem_cons.mpr ⟨⟨show (24 : Nat) < 100 from by decide, nf4⟩, (fun _ h => (by cases h))⟩⟩⟩⟩⟩
set_option maxHeartbeats 4000000 in
theorem vc_Mo_across2_1_0 (x2 : Int) (costMany_0 : Int) (k2 : 0 ≤ x2 ∧ x2 ≤ 130) (f7 : costMany_0 = x2) (kz_0_80 : 0 ≤ costMany_0 ∧ costMany_0 ≤ 200) : costMany_0 ≤ 130 := by
  try simp only [Int.add_zero] at *
  first
    | omega
    | (have h := ‹LSA _ _ _ _ _ _ _ _ _ _›.2.1; omega)
set_option maxHeartbeats 4000000 in
theorem vc_Mo_across2_1_1 (x4 : Int) (layerMany_0 : Int) (layerSize_0 : Int → Int) (layerItem_0 : Int → Int) (apartMany_0 : Int) (apartA_0 : Int → Int) (apartB_0 : Int → Int) (apart_0 : Int → Int) (k4 : 0 ≤ x4 ∧ x4 ≤ 0) (f8 : apartMany_0 = 0) (kz_0_81 : 0 ≤ apartMany_0 ∧ apartMany_0 ≤ 200) (kz_0_101 : 0 ≤ layerMany_0 ∧ layerMany_0 ≤ 76) : PAL1 (apartMany_0) (layerMany_0) (layerSize_0) (layerItem_0) (apartA_0) (apartB_0) (apart_0) (x4) := by
  first
    | exact paq_zero (by omega)
set_option maxHeartbeats 4000000 in
theorem vc_Mo_across2_1_2 (x2 : Int) (apartMany_0 : Int) (f8 : apartMany_0 = 0) (kz_0_81 : 0 ≤ apartMany_0 ∧ apartMany_0 ≤ 200) : apartMany_0 ≤ 76 := by
  try simp only [Int.add_zero] at *
  first
    | omega
    | (have h := ‹LSA _ _ _ _ _ _ _ _ _ _›.2.1; omega)
def o_Mo_across2_1 : or_T := (178, 5, [(0, (2, 0, 0, [165])), (2, (0, 0, 130, [])), (4, (0, 0, 0, []))], [(20, [1, 2], [50, 1, 0, 80, 1, 3, 2, 0, 80, 1, 1]), (20, [1], [50, 1, 0, 81, 1, 3, 2, 0, 81, 0, 0]), (24, [0, 1], [])], [], [], [(20, [1], [50, 1, 0, 80, 0, 3, 2, 0, 80, 0, 130]), (20, [1, 4], [60, 2, 5, 468, 81, 101, 105, 106, 87, 88, 89]), (20, [1], [50, 1, 0, 81, 0, 3, 2, 0, 81, 0, 76])], [], [])
theorem oo_Mo_across2_1 {kA : Nat → ClassId} : or_ok PRD kA GG o_Mo_across2_1 := by
  refine or_mk fun A ta ws vs hD hth hl => ?_
  intro t0 r0 t2 k2 t4 k4 f7 f8 f9
  replace f7 := shm_557 f7
  replace f8 := shm_1945 f8
  replace f9 := shm_5 f9
  have q1 : n_v vs 1 = n_v vs 0 := f9.symm
  simp only [q1] at f7 f8
  have kz_0_80 := fdq_131 hD hth r0
  have kz_0_81 := fdq_124 hD hth r0
  have kz_0_101 := fdq_125 hD hth r0
  have nf0 : fc_1 PRD (20, [1], [50, 1, 0, 80, 0, 3, 2, 0, 80, 0, 130]) ws (vs) := by
    refine ⟨nf_in hl rfl, sgq_1946 ?_⟩
    · show w_fi ws (n_v vs 1) 80 ≤ 130
      rw [q1]
      exact vc_Mo_across2_1_0 (v_iv (n_v vs 2)) (w_fi ws (n_v vs 0) 80) k2 f7 kz_0_80
  have nf1 : fc_1 PRD (20, [1, 4], [60, 2, 5, 468, 81, 101, 105, 106, 87, 88, 89]) ws (vs) := by
    refine ⟨nf_in hl rfl, sgq_1947 ?_⟩
    · show PAL1 (w_fi ws (n_v vs 1) 81) (w_fi ws (n_v vs 1) 101) (w_ei ws (w_ar ws (n_v vs 1) 105)) (w_ei ws (w_ar ws (n_v vs 1) 106)) (w_ei ws (w_ar ws (n_v vs 1) 87)) (w_ei ws (w_ar ws (n_v vs 1) 88)) (w_ei ws (w_ar ws (n_v vs 1) 89)) (v_iv (n_v vs 4))
      rw [q1]
      exact vc_Mo_across2_1_1 (v_iv (n_v vs 4)) (w_fi ws (n_v vs 0) 101) (w_ei ws (w_ar ws (n_v vs 0) 105)) (w_ei ws (w_ar ws (n_v vs 0) 106)) (w_fi ws (n_v vs 0) 81) (w_ei ws (w_ar ws (n_v vs 0) 87)) (w_ei ws (w_ar ws (n_v vs 0) 88)) (w_ei ws (w_ar ws (n_v vs 0) 89)) k4 f8 kz_0_81 kz_0_101
  have nf2 : fc_1 PRD (20, [1], [50, 1, 0, 81, 0, 3, 2, 0, 81, 0, 76]) ws (vs) := by
    refine ⟨nf_in hl rfl, sgq_1948 ?_⟩
    · show w_fi ws (n_v vs 1) 81 ≤ 76
      rw [q1]
      exact vc_Mo_across2_1_2 (v_iv (n_v vs 2)) (w_fi ws (n_v vs 0) 81) f8 kz_0_81
  refine ⟨(fun _ h => (by cases h)), [], trivial, ?_, (fun _ h => (by cases h))⟩
  rw [List.append_nil]
  exact List.forall_mem_cons.mpr ⟨⟨show (20 : Nat) < 100 from by decide, nf0⟩, List.forall_mem_cons.mpr ⟨⟨show (20 : Nat) < 100 from by decide, nf1⟩, List.forall_mem_cons.mpr ⟨⟨show (20 : Nat) < 100 from by decide, nf2⟩, (fun _ h => (by cases h))⟩⟩⟩
set_option maxHeartbeats 4000000 in
theorem vc_Mo_across2_2_r0 (x2 : Int) (x3 : Int) (x5 : Int) (x6 : Int) (x9 : Int) (x10 : Int) (x12 : Int) (x13 : Int) (x14 : Int) (lineB_0 : Int → Int) (lineA_0 : Int → Int) (all_0 : Int → Int) (r_0 : Int) (lines_0 : Int) (turned_0 : Int → Int) (itemLayer_0 : Int → Int) (firstJoint_0 : Int → Int) (items_0 : Int) (layerMany_0 : Int) (costMany_0 : Int) (k2 : 0 ≤ x2 ∧ x2 ≤ 129) (k3 : 1 ≤ x3 ∧ x3 ≤ 130) (k5 : 0 ≤ x5 ∧ x5 ≤ 23) (k6 : 1 ≤ x6 ∧ x6 ≤ 24) (k9 : 0 ≤ x9 ∧ x9 ≤ 23) (k10 : 1 ≤ x10 ∧ x10 ≤ 24) (k12 : 0 ≤ x12 ∧ x12 ≤ 75) (k13 : 0 ≤ x13 ∧ x13 ≤ 75) (k14 : (-1) ≤ x14 ∧ x14 ≤ 47) (d0 : x10 + (-4294967296) ≤ x9 ∧ x9 ≤ x10 + (-1)) (d1 : x6 + (-4294967296) ≤ x5 ∧ x5 ≤ x6 + (-1)) (d2 : x3 + (-4294967296) ≤ x2 ∧ x2 ≤ x3 + (-1)) (f4 : BTP (r_0) (all_0) (x12) (x13) (x14)) (h6 : x13 = lineB_0 (x2)) (h7 : x12 = lineA_0 (x2)) (f9 : 1 * x10 + ((-1) * all_0 (r_0 + 0) + 0) ≤ 0) (f10 : (-1) * x10 + (1 * all_0 (r_0 + 0) + 0) ≤ 0) (h11 : x9 = lineB_0 (x2)) (f13 : 1 * x6 + ((-1) * all_0 (r_0 + 0) + 0) ≤ 0) (f14 : (-1) * x6 + (1 * all_0 (r_0 + 0) + 0) ≤ 0) (h15 : x5 = lineA_0 (x2)) (g17 : x3 = lines_0) (f18 : LSA (r_0) (items_0) (layerMany_0) (lines_0) (all_0) (turned_0) (itemLayer_0) (firstJoint_0) (lineA_0) (lineB_0)) (f23 : costMany_0 = x2) (kz_0_80 : 0 ≤ costMany_0 ∧ costMany_0 ≤ 200) (kz_0_100 : 0 ≤ items_0 ∧ items_0 ≤ 76) (kz_0_101 : 0 ≤ layerMany_0 ∧ layerMany_0 ≤ 76) (kz_0_107 : 0 ≤ lines_0 ∧ lines_0 ≤ 130) : 0 ≤ x14 ∧ x14 ≤ 47 := by
  try simp only [Int.add_zero] at *
  have h := lsa_btp (p := x2) (a := x12) (b := x13) ‹LSA _ _ _ _ _ _ _ _ _ _› (by omega) (by omega) (by assumption) (by assumption) (by omega) (by omega) ‹BTP _ _ _ _ _›
  omega
def o_Mo_across2_2 : or_T := (136, 17, [(0, (2, 0, 0, [165])), (1, (2, 0, 0, [165])), (2, (0, 0, 129, [])), (3, (0, 1, 130, [])), (4, (2, 0, 0, [240])), (5, (0, 0, 23, [])), (6, (0, 1, 24, [])), (8, (2, 0, 0, [241])), (9, (0, 0, 23, [])), (10, (0, 1, 24, [])), (12, (0, 0, 75, [])), (13, (0, 0, 75, [])), (14, (0, -1, 47, [])), (15, (0, 0, 75, [])), (16, (0, 0, 75, []))], [(10, [16, 8, 2], []), (9, [8, 1], [109]), (10, [15, 4, 2], []), (9, [4, 1], [108]), (20, [1, 12, 13, 14], [60, 1, 1, 206, 5, 2]), (20, [1, 12, 13, 14], [60, 1, 1, 1034, 5, 2]), (10, [13, 8, 2], []), (10, [12, 4, 2], []), (7, [9, 10], [2]), (20, [10, 1], [30, 0, 1, 0, 0, -1, 3, 2005000]), (20, [10, 1], [30, 0, -1, 0, 0, 1, 3, 2005000]), (10, [9, 8, 2], []), (7, [5, 6], [2]), (20, [6, 1], [30, 0, 1, 0, 0, -1, 3, 2005000]), (20, [6, 1], [30, 0, -1, 0, 0, 1, 3, 2005000]), (10, [5, 4, 2], []), (7, [2, 3], [2]), (9, [3, 1], [107]), (20, [1], [60, 4, 6, 445, 5, 100, 101, 107, 2, 95, 102, 104, 108, 109]), (20, [1], [60, 2, 3, 448, 100, 101, 102, 105, 106]), (20, [1], [60, 1, 1, 197, 5, 2]), (20, [1], [50, 2, 0, 79, 100, 1, 3, 2, 0, 79, 2, 0, 100]), (20, [1], [60, 2, 4, 456, 79, 80, 83, 84, 85, 86]), (20, [1, 2], [50, 1, 0, 80, 1, 3, 2, 0, 80, 1, 1]), (20, [1], [50, 1, 0, 81, 1, 3, 2, 0, 81, 0, 0]), (24, [0, 1], [])], [(14, (0, 0, 47, []))], [], [], [], [(9, 10, -4294967296, -1), (5, 6, -4294967296, -1), (2, 3, -4294967296, -1)])
theorem oo_Mo_across2_2 {kA : Nat → ClassId} : or_ok PRD kA GG o_Mo_across2_2 := by
  refine or_mk fun A ta ws vs hD hth hl => ?_
  intro t0 r0 t1 r1 t2 k2 t3 k3 t4 r4 t5 k5 t6 k6 t8 r8 t9 k9 t10 k10 t12 k12 t13 k13 t14 k14 t15 k15 t16 k16 d0 d1 d2 f0 f1 f2 f3 f4 f5 f6 f7 f8 f9 f10 f11 f12 f13 f14 f15 f16 f17 f18 f19 f20 f21 f22 f23 f24 f25
  replace f1 := shm_632 f1
  replace f3 := shm_628 f3
  replace f4 := shm_1419 f4
  replace f6 := shm_107 f6
  replace f7 := shm_107 f7
  replace f9 := shm_126 f9
  replace f10 := shm_127 f10
  replace f11 := shm_107 f11
  replace f13 := shm_126 f13
  replace f14 := shm_127 f14
  replace f15 := shm_107 f15
  replace f17 := shm_627 f17
  replace f18 := shm_674 f18
  replace f23 := shm_557 f23
  replace f25 := shm_5 f25
  have q1 : n_v vs 1 = n_v vs 0 := f25.symm
  simp only [q1] at f1 f3 f4 f9 f10 f13 f14 f17 f18 f23
  have ad_8 : v_ad (n_v vs 8) = w_ar ws (n_v vs 0) 109 := congrArg v_ad f1
  have ad_4 : v_ad (n_v vs 4) = w_ar ws (n_v vs 0) 108 := congrArg v_ad f3
  simp only [ad_8] at f6
  have h6 : v_iv (n_v vs 13) = w_ei ws (w_ar ws (n_v vs 0) 109) (v_iv (n_v vs 2)) := f6
  simp only [ad_4] at f7
  have h7 : v_iv (n_v vs 12) = w_ei ws (w_ar ws (n_v vs 0) 108) (v_iv (n_v vs 2)) := f7
  simp only [ad_8] at f11
  have h11 : v_iv (n_v vs 9) = w_ei ws (w_ar ws (n_v vs 0) 109) (v_iv (n_v vs 2)) := f11
  simp only [ad_4] at f15
  have h15 : v_iv (n_v vs 5) = w_ei ws (w_ar ws (n_v vs 0) 108) (v_iv (n_v vs 2)) := f15
  have g17 : v_iv (n_v vs 3) = w_fi ws (n_v vs 0) 107 := congrArg v_iv f17
  have kz_0_80 := fdq_131 hD hth r0
  have kz_0_100 := fdq_162 hD hth r0
  have kz_0_101 := fdq_125 hD hth r0
  have kz_0_107 := fdq_163 hD hth r0
  have hrf0 : 0 ≤ v_iv (n_v vs 14) ∧ v_iv (n_v vs 14) ≤ 47 := vc_Mo_across2_2_r0 (v_iv (n_v vs 2)) (v_iv (n_v vs 3)) (v_iv (n_v vs 5)) (v_iv (n_v vs 6)) (v_iv (n_v vs 9)) (v_iv (n_v vs 10)) (v_iv (n_v vs 12)) (v_iv (n_v vs 13)) (v_iv (n_v vs 14)) (w_ei ws (w_ar ws (n_v vs 0) 109)) (w_ei ws (w_ar ws (n_v vs 0) 108)) (w_ei ws (w_ar ws (n_v vs 0) 2)) (w_fi ws (n_v vs 0) 5) (w_fi ws (n_v vs 0) 107) (w_ei ws (w_ar ws (n_v vs 0) 95)) (w_ei ws (w_ar ws (n_v vs 0) 102)) (w_ei ws (w_ar ws (n_v vs 0) 104)) (w_fi ws (n_v vs 0) 100) (w_fi ws (n_v vs 0) 101) (w_fi ws (n_v vs 0) 80) k2 k3 k5 k6 k9 k10 k12 k13 k14 d0 d1 d2 f4 h6 h7 f9 f10 h11 f13 f14 h15 g17 f18 f23 kz_0_80 kz_0_100 kz_0_101 kz_0_107
  have rf14 : tv_ok ta (0, 0, 47, []) (n_v vs 14) := tv_in t14 (by first | omega | grind) (by first | omega | grind)
  refine ⟨List.forall_mem_cons.mpr ⟨rf14, (fun _ h => (by cases h))⟩, [], trivial, ?_, (fun _ h => (by cases h))⟩
  rw [List.append_nil]
  exact (fun _ h => (by cases h))
set_option maxHeartbeats 4000000 in
theorem vc_Mo_across2_3_0 (x2 : Int) (x15 : Int) (x16 : Int) (costMany_0 : Int) (gx : Int) (k2 : 0 ≤ x2 ∧ x2 ≤ 129) (f23 : costMany_0 = x2) (kz_0_80 : 0 ≤ costMany_0 ∧ costMany_0 ≤ 200) (ex2 : gx = x2) : 1 * gx + ((-1) * x2 + 0) ≤ 0 := by
  try simp only [Int.add_zero] at *
  first
    | omega
    | (have h := ‹LSA _ _ _ _ _ _ _ _ _ _›.2.1; omega)
set_option maxHeartbeats 4000000 in
theorem vc_Mo_across2_3_1 (x2 : Int) (x15 : Int) (x16 : Int) (costMany_0 : Int) (gx : Int) (k2 : 0 ≤ x2 ∧ x2 ≤ 129) (f23 : costMany_0 = x2) (kz_0_80 : 0 ≤ costMany_0 ∧ costMany_0 ≤ 200) (ex2 : gx = x2) : (-1) * gx + (1 * x2 + 0) ≤ 0 := by
  try simp only [Int.add_zero] at *
  first
    | omega
    | (have h := ‹LSA _ _ _ _ _ _ _ _ _ _›.2.1; omega)
set_option maxHeartbeats 4000000 in
theorem vc_Mo_across2_3_2 (x2 : Int) (x15 : Int) (x16 : Int) (costMany_0 : Int) (gx : Int) (k2 : 0 ≤ x2 ∧ x2 ≤ 129) (f23 : costMany_0 = x2) (kz_0_80 : 0 ≤ costMany_0 ∧ costMany_0 ≤ 200) (ex2 : gx = x2) : costMany_0 = gx := by
  try simp only [Int.add_zero] at *
  first
    | omega
    | (have h := ‹LSA _ _ _ _ _ _ _ _ _ _›.2.1; omega)
set_option maxHeartbeats 4000000 in
theorem vc_Mo_across2_3_3 (pointMany_0 : Int) (costA_0 : Int → Int) (costB_0 : Int → Int) (costW_0 : Int → Int) (costPlain_0 : Int → Int) (costMany_0 : Int) (f22 : PCQ (pointMany_0) (costMany_0) (costA_0) (costB_0) (costW_0) (costPlain_0)) (kz_0_79 : 0 ≤ pointMany_0 ∧ pointMany_0 ≤ 76) (kz_0_80 : 0 ≤ costMany_0 ∧ costMany_0 ≤ 200) : PCQ (pointMany_0) (costMany_0) (costA_0) (costB_0) (costW_0) (costPlain_0) := by
  assumption
set_option maxHeartbeats 4000000 in
theorem vc_Mo_across2_3_4 (x2 : Int) (x5 : Int) (x6 : Int) (x15 : Int) (x16 : Int) (lineB_0 : Int → Int) (lineA_0 : Int → Int) (all_0 : Int → Int) (r_0 : Int) (lines_0 : Int) (turned_0 : Int → Int) (itemLayer_0 : Int → Int) (firstJoint_0 : Int → Int) (items_0 : Int) (layerMany_0 : Int) (pointMany_0 : Int) (k2 : 0 ≤ x2 ∧ x2 ≤ 129) (k5 : 0 ≤ x5 ∧ x5 ≤ 23) (k6 : 1 ≤ x6 ∧ x6 ≤ 24) (k15 : 0 ≤ x15 ∧ x15 ≤ 75) (d1 : x6 + (-4294967296) ≤ x5 ∧ x5 ≤ x6 + (-1)) (h2 : x15 = lineA_0 (x2)) (f13 : 1 * x6 + ((-1) * all_0 (r_0 + 0) + 0) ≤ 0) (f14 : (-1) * x6 + (1 * all_0 (r_0 + 0) + 0) ≤ 0) (h15 : x5 = lineA_0 (x2)) (f18 : LSA (r_0) (items_0) (layerMany_0) (lines_0) (all_0) (turned_0) (itemLayer_0) (firstJoint_0) (lineA_0) (lineB_0)) (f21 : pointMany_0 = items_0) (kz_0_79 : 0 ≤ pointMany_0 ∧ pointMany_0 ≤ 76) (kz_0_100 : 0 ≤ items_0 ∧ items_0 ≤ 76) (kz_0_101 : 0 ≤ layerMany_0 ∧ layerMany_0 ≤ 76) (kz_0_107 : 0 ≤ lines_0 ∧ lines_0 ≤ 130) : (0 ≤ x15) ∧ ((x15 + 1) ≤ pointMany_0) := by
  try simp only [Int.add_zero] at *
  first
    | omega
    | (have h := ‹LSA _ _ _ _ _ _ _ _ _ _›.2.1; omega)
set_option maxHeartbeats 4000000 in
theorem vc_Mo_across2_3_5 (x2 : Int) (x9 : Int) (x10 : Int) (x15 : Int) (x16 : Int) (lineB_0 : Int → Int) (lineA_0 : Int → Int) (all_0 : Int → Int) (r_0 : Int) (lines_0 : Int) (turned_0 : Int → Int) (itemLayer_0 : Int → Int) (firstJoint_0 : Int → Int) (items_0 : Int) (layerMany_0 : Int) (pointMany_0 : Int) (k2 : 0 ≤ x2 ∧ x2 ≤ 129) (k9 : 0 ≤ x9 ∧ x9 ≤ 23) (k10 : 1 ≤ x10 ∧ x10 ≤ 24) (k16 : 0 ≤ x16 ∧ x16 ≤ 75) (d0 : x10 + (-4294967296) ≤ x9 ∧ x9 ≤ x10 + (-1)) (h0 : x16 = lineB_0 (x2)) (f9 : 1 * x10 + ((-1) * all_0 (r_0 + 0) + 0) ≤ 0) (f10 : (-1) * x10 + (1 * all_0 (r_0 + 0) + 0) ≤ 0) (h11 : x9 = lineB_0 (x2)) (f18 : LSA (r_0) (items_0) (layerMany_0) (lines_0) (all_0) (turned_0) (itemLayer_0) (firstJoint_0) (lineA_0) (lineB_0)) (f21 : pointMany_0 = items_0) (kz_0_79 : 0 ≤ pointMany_0 ∧ pointMany_0 ≤ 76) (kz_0_100 : 0 ≤ items_0 ∧ items_0 ≤ 76) (kz_0_101 : 0 ≤ layerMany_0 ∧ layerMany_0 ≤ 76) (kz_0_107 : 0 ≤ lines_0 ∧ lines_0 ≤ 130) : (0 ≤ x16) ∧ ((x16 + 1) ≤ pointMany_0) := by
  try simp only [Int.add_zero] at *
  first
    | omega
    | (have h := ‹LSA _ _ _ _ _ _ _ _ _ _›.2.1; omega)
def o_Mo_across2_3 : or_T := (167, 21, [(0, (2, 0, 0, [165])), (1, (2, 0, 0, [165])), (2, (0, 0, 129, [])), (3, (0, 1, 130, [])), (4, (2, 0, 0, [240])), (5, (0, 0, 23, [])), (6, (0, 1, 24, [])), (8, (2, 0, 0, [241])), (9, (0, 0, 23, [])), (10, (0, 1, 24, [])), (12, (0, 0, 75, [])), (13, (0, 0, 75, [])), (14, (0, 0, 47, [])), (15, (0, 0, 75, [])), (16, (0, 0, 75, []))], [(10, [16, 8, 2], []), (9, [8, 1], [109]), (10, [15, 4, 2], []), (9, [4, 1], [108]), (20, [1, 12, 13, 14], [60, 1, 1, 206, 5, 2]), (20, [1, 12, 13, 14], [60, 1, 1, 1034, 5, 2]), (10, [13, 8, 2], []), (10, [12, 4, 2], []), (7, [9, 10], [2]), (20, [10, 1], [30, 0, 1, 0, 0, -1, 3, 2005000]), (20, [10, 1], [30, 0, -1, 0, 0, 1, 3, 2005000]), (10, [9, 8, 2], []), (7, [5, 6], [2]), (20, [6, 1], [30, 0, 1, 0, 0, -1, 3, 2005000]), (20, [6, 1], [30, 0, -1, 0, 0, 1, 3, 2005000]), (10, [5, 4, 2], []), (7, [2, 3], [2]), (9, [3, 1], [107]), (20, [1], [60, 4, 6, 445, 5, 100, 101, 107, 2, 95, 102, 104, 108, 109]), (20, [1], [60, 2, 3, 448, 100, 101, 102, 105, 106]), (20, [1], [60, 1, 1, 197, 5, 2]), (20, [1], [50, 2, 0, 79, 100, 1, 3, 2, 0, 79, 2, 0, 100]), (20, [1], [60, 2, 4, 456, 79, 80, 83, 84, 85, 86]), (20, [1, 2], [50, 1, 0, 80, 1, 3, 2, 0, 80, 1, 1]), (20, [1], [50, 1, 0, 81, 1, 3, 2, 0, 81, 0, 0]), (24, [0, 1], [])], [], [(0, 0, 199, [])], [(23, [21, 2], [0, 1, -1]), (23, [21, 2], [0, -1, 1]), (20, [1, 21], [50, 1, 0, 80, 1, 3, 2, 0, 80, 1, 1]), (20, [1], [60, 2, 4, 456, 79, 80, 83, 84, 85, 86]), (20, [15, 1], [50, 1, 0, 1079, 2, 6, 0, 2, 0, 0, 1, 0, 0, 6, 4, 2, 1, 0, 0, 1, 2, 1, 79]), (20, [16, 1], [50, 1, 0, 1079, 2, 6, 0, 2, 0, 0, 1, 0, 0, 6, 4, 2, 1, 0, 0, 1, 2, 1, 79])], [], [(9, 10, -4294967296, -1), (5, 6, -4294967296, -1), (2, 3, -4294967296, -1)])
theorem oo_Mo_across2_3 {kA : Nat → ClassId} : or_ok PRD kA GG o_Mo_across2_3 := by
  refine or_mk fun A ta ws vs hD hth hl => ?_
  intro t0 r0 t1 r1 t2 k2 t3 k3 t4 r4 t5 k5 t6 k6 t8 r8 t9 k9 t10 k10 t12 k12 t13 k13 t14 k14 t15 k15 t16 k16 d0 d1 d2 f0 f1 f2 f3 f4 f5 f6 f7 f8 f9 f10 f11 f12 f13 f14 f15 f16 f17 f18 f19 f20 f21 f22 f23 f24 f25
  replace f0 := shm_107 f0
  replace f1 := shm_632 f1
  replace f2 := shm_107 f2
  replace f3 := shm_628 f3
  replace f9 := shm_126 f9
  replace f10 := shm_127 f10
  replace f11 := shm_107 f11
  replace f13 := shm_126 f13
  replace f14 := shm_127 f14
  replace f15 := shm_107 f15
  replace f18 := shm_674 f18
  replace f21 := shm_1944 f21
  replace f22 := shm_558 f22
  replace f23 := shm_557 f23
  replace f25 := shm_5 f25
  have q1 : n_v vs 1 = n_v vs 0 := f25.symm
  simp only [q1] at f1 f3 f9 f10 f13 f14 f18 f21 f22 f23
  have ad_8 : v_ad (n_v vs 8) = w_ar ws (n_v vs 0) 109 := congrArg v_ad f1
  have ad_4 : v_ad (n_v vs 4) = w_ar ws (n_v vs 0) 108 := congrArg v_ad f3
  simp only [ad_8] at f0
  have h0 : v_iv (n_v vs 16) = w_ei ws (w_ar ws (n_v vs 0) 109) (v_iv (n_v vs 2)) := f0
  simp only [ad_4] at f2
  have h2 : v_iv (n_v vs 15) = w_ei ws (w_ar ws (n_v vs 0) 108) (v_iv (n_v vs 2)) := f2
  simp only [ad_8] at f11
  have h11 : v_iv (n_v vs 9) = w_ei ws (w_ar ws (n_v vs 0) 109) (v_iv (n_v vs 2)) := f11
  simp only [ad_4] at f15
  have h15 : v_iv (n_v vs 5) = w_ei ws (w_ar ws (n_v vs 0) 108) (v_iv (n_v vs 2)) := f15
  have kz_0_79 := fdq_147 hD hth r0
  have kz_0_80 := fdq_131 hD hth r0
  have kz_0_100 := fdq_162 hD hth r0
  have kz_0_101 := fdq_125 hD hth r0
  have kz_0_107 := fdq_163 hD hth r0
  obtain ⟨x, ex, hx⟩ := iv_ex (ta := ta) (lo := 0) (hi := 199) (z := v_iv (n_v vs 2)) (by omega) (by omega) (by omega) (by omega)
  have ex2 : v_iv (Value.int x) = v_iv (n_v vs 2) := ex
  have ex3 : 0 ≤ v_iv (Value.int x) ∧ v_iv (Value.int x) ≤ 199 := tv_rng hx
  have e_1 : n_v (vs ++ [Value.int x]) 1 = n_v vs 1 := n_v_old (by rw [hl]; decide)
  have e_2 : n_v (vs ++ [Value.int x]) 2 = n_v vs 2 := n_v_old (by rw [hl]; decide)
  have e_15 : n_v (vs ++ [Value.int x]) 15 = n_v vs 15 := n_v_old (by rw [hl]; decide)
  have e_16 : n_v (vs ++ [Value.int x]) 16 = n_v vs 16 := n_v_old (by rw [hl]; decide)
  have e_21 : n_v (vs ++ [Value.int x]) 21 = Value.int x := n_v_new hl
  have nf0 : fc_1 PRD (23, [21, 2], [0, 1, -1]) ws (vs ++ [Value.int x]) := by
    refine ⟨nf_inA hl rfl, sgq_7 ?_⟩
    · show 1 * v_iv (n_v (vs ++ [Value.int x]) 21) + ((-1) * v_iv (n_v (vs ++ [Value.int x]) 2) + 0) ≤ 0
      simp only [e_2, e_21]
      exact vc_Mo_across2_3_0 (v_iv (n_v vs 2)) (v_iv (n_v vs 15)) (v_iv (n_v vs 16)) (w_fi ws (n_v vs 0) 80) (v_iv (Value.int x)) k2 f23 kz_0_80 ex2
  have nf1 : fc_1 PRD (23, [21, 2], [0, -1, 1]) ws (vs ++ [Value.int x]) := by
    refine ⟨nf_inA hl rfl, sgq_22 ?_⟩
    · show (-1) * v_iv (n_v (vs ++ [Value.int x]) 21) + (1 * v_iv (n_v (vs ++ [Value.int x]) 2) + 0) ≤ 0
      simp only [e_2, e_21]
      exact vc_Mo_across2_3_1 (v_iv (n_v vs 2)) (v_iv (n_v vs 15)) (v_iv (n_v vs 16)) (w_fi ws (n_v vs 0) 80) (v_iv (Value.int x)) k2 f23 kz_0_80 ex2
  have nf2 : fc_1 PRD (20, [1, 21], [50, 1, 0, 80, 1, 3, 2, 0, 80, 1, 1]) ws (vs ++ [Value.int x]) := by
    refine ⟨nf_inA hl rfl, sgq_557 ?_⟩
    · show w_fi ws (n_v (vs ++ [Value.int x]) 1) 80 = v_iv (n_v (vs ++ [Value.int x]) 21)
      simp only [e_1, e_21, q1]
      exact vc_Mo_across2_3_2 (v_iv (n_v vs 2)) (v_iv (n_v vs 15)) (v_iv (n_v vs 16)) (w_fi ws (n_v vs 0) 80) (v_iv (Value.int x)) k2 f23 kz_0_80 ex2
  have nf3 : fc_1 PRD (20, [1], [60, 2, 4, 456, 79, 80, 83, 84, 85, 86]) ws (vs ++ [Value.int x]) := by
    refine ⟨nf_inA hl rfl, sgq_558 ?_⟩
    · show PCQ (w_fi ws (n_v (vs ++ [Value.int x]) 1) 79) (w_fi ws (n_v (vs ++ [Value.int x]) 1) 80) (w_ei ws (w_ar ws (n_v (vs ++ [Value.int x]) 1) 83)) (w_ei ws (w_ar ws (n_v (vs ++ [Value.int x]) 1) 84)) (w_ei ws (w_ar ws (n_v (vs ++ [Value.int x]) 1) 85)) (w_ei ws (w_ar ws (n_v (vs ++ [Value.int x]) 1) 86))
      simp only [e_1, q1]
      exact vc_Mo_across2_3_3 (w_fi ws (n_v vs 0) 79) (w_ei ws (w_ar ws (n_v vs 0) 83)) (w_ei ws (w_ar ws (n_v vs 0) 84)) (w_ei ws (w_ar ws (n_v vs 0) 85)) (w_ei ws (w_ar ws (n_v vs 0) 86)) (w_fi ws (n_v vs 0) 80) f22 kz_0_79 kz_0_80
  have nf4 : fc_1 PRD (20, [15, 1], [50, 1, 0, 1079, 2, 6, 0, 2, 0, 0, 1, 0, 0, 6, 4, 2, 1, 0, 0, 1, 2, 1, 79]) ws (vs ++ [Value.int x]) := by
    refine ⟨nf_inA hl rfl, sgq_559 ?_⟩
    · show (0 ≤ v_iv (n_v (vs ++ [Value.int x]) 15)) ∧ ((v_iv (n_v (vs ++ [Value.int x]) 15) + 1) ≤ w_fi ws (n_v (vs ++ [Value.int x]) 1) 79)
      simp only [e_1, e_15, q1]
      exact vc_Mo_across2_3_4 (v_iv (n_v vs 2)) (v_iv (n_v vs 5)) (v_iv (n_v vs 6)) (v_iv (n_v vs 15)) (v_iv (n_v vs 16)) (w_ei ws (w_ar ws (n_v vs 0) 109)) (w_ei ws (w_ar ws (n_v vs 0) 108)) (w_ei ws (w_ar ws (n_v vs 0) 2)) (w_fi ws (n_v vs 0) 5) (w_fi ws (n_v vs 0) 107) (w_ei ws (w_ar ws (n_v vs 0) 95)) (w_ei ws (w_ar ws (n_v vs 0) 102)) (w_ei ws (w_ar ws (n_v vs 0) 104)) (w_fi ws (n_v vs 0) 100) (w_fi ws (n_v vs 0) 101) (w_fi ws (n_v vs 0) 79) k2 k5 k6 k15 d1 h2 f13 f14 h15 f18 f21 kz_0_79 kz_0_100 kz_0_101 kz_0_107
  have nf5 : fc_1 PRD (20, [16, 1], [50, 1, 0, 1079, 2, 6, 0, 2, 0, 0, 1, 0, 0, 6, 4, 2, 1, 0, 0, 1, 2, 1, 79]) ws (vs ++ [Value.int x]) := by
    refine ⟨nf_inA hl rfl, sgq_559 ?_⟩
    · show (0 ≤ v_iv (n_v (vs ++ [Value.int x]) 16)) ∧ ((v_iv (n_v (vs ++ [Value.int x]) 16) + 1) ≤ w_fi ws (n_v (vs ++ [Value.int x]) 1) 79)
      simp only [e_1, e_16, q1]
      exact vc_Mo_across2_3_5 (v_iv (n_v vs 2)) (v_iv (n_v vs 9)) (v_iv (n_v vs 10)) (v_iv (n_v vs 15)) (v_iv (n_v vs 16)) (w_ei ws (w_ar ws (n_v vs 0) 109)) (w_ei ws (w_ar ws (n_v vs 0) 108)) (w_ei ws (w_ar ws (n_v vs 0) 2)) (w_fi ws (n_v vs 0) 5) (w_fi ws (n_v vs 0) 107) (w_ei ws (w_ar ws (n_v vs 0) 95)) (w_ei ws (w_ar ws (n_v vs 0) 102)) (w_ei ws (w_ar ws (n_v vs 0) 104)) (w_fi ws (n_v vs 0) 100) (w_fi ws (n_v vs 0) 101) (w_fi ws (n_v vs 0) 79) k2 k9 k10 k16 d0 h0 f9 f10 h11 f18 f21 kz_0_79 kz_0_100 kz_0_101 kz_0_107
  exact ⟨(fun _ h => (by cases h)), [Value.int x], ag_one hx, List.forall_mem_cons.mpr ⟨⟨show (23 : Nat) < 100 from by decide, nf0⟩, List.forall_mem_cons.mpr ⟨⟨show (23 : Nat) < 100 from by decide, nf1⟩, List.forall_mem_cons.mpr ⟨⟨show (20 : Nat) < 100 from by decide, nf2⟩, List.forall_mem_cons.mpr ⟨⟨show (20 : Nat) < 100 from by decide, nf3⟩, List.forall_mem_cons.mpr ⟨⟨show (20 : Nat) < 100 from by decide, nf4⟩, List.forall_mem_cons.mpr ⟨⟨show (20 : Nat) < 100 from by decide, nf5⟩, (fun _ h => (by cases h))⟩⟩⟩⟩⟩⟩, (fun _ h => (by cases h))⟩
set_option maxHeartbeats 4000000 in
theorem vc_Mo_across2_4_0 (x2 : Int) (x15 : Int) (x16 : Int) (x21 : Int) (x22 : Int) (costMany_0 : Int) (k2 : 0 ≤ x2 ∧ x2 ≤ 129) (k21 : 0 ≤ x21 ∧ x21 ≤ 199) (k22 : 1 ≤ x22 ∧ x22 ≤ 130) (d0 : x2 + 1 ≤ x22 ∧ x22 ≤ x2 + 1) (f1 : 1 * x21 + ((-1) * x2 + 0) ≤ 0) (f2 : (-1) * x21 + (1 * x2 + 0) ≤ 0) (f17 : costMany_0 = (x21 + 1)) (kz_0_80 : 0 ≤ costMany_0 ∧ costMany_0 ≤ 200) : costMany_0 = x22 := by
  try simp only [Int.add_zero] at *
  first
    | omega
    | (have h := ‹LSA _ _ _ _ _ _ _ _ _ _›.2.1; omega)
def o_Mo_across2_4 : or_T := (20, 23, [(0, (2, 0, 0, [165])), (1, (2, 0, 0, [165])), (2, (0, 0, 129, [])), (3, (0, 1, 130, [])), (5, (0, 0, 23, [])), (6, (0, 1, 24, [])), (9, (0, 0, 23, [])), (10, (0, 1, 24, [])), (12, (0, 0, 75, [])), (13, (0, 0, 75, [])), (14, (0, 0, 47, [])), (15, (0, 0, 75, [])), (16, (0, 0, 75, [])), (21, (0, 0, 199, [])), (22, (0, 1, 130, []))], [(6, [22, 2], [1]), (23, [21, 2], [0, 1, -1]), (23, [21, 2], [0, -1, 1]), (20, [15, 1], [50, 1, 0, 1079, 2, 6, 0, 2, 0, 0, 1, 0, 0, 6, 4, 2, 1, 0, 0, 1, 2, 1, 79]), (20, [16, 1], [50, 1, 0, 1079, 2, 6, 0, 2, 0, 0, 1, 0, 0, 6, 4, 2, 1, 0, 0, 1, 2, 1, 79]), (20, [1, 12, 13, 14], [60, 1, 1, 206, 5, 2]), (20, [1, 12, 13, 14], [60, 1, 1, 1034, 5, 2]), (20, [10, 1], [30, 0, 1, 0, 0, -1, 3, 2005000]), (20, [10, 1], [30, 0, -1, 0, 0, 1, 3, 2005000]), (20, [6, 1], [30, 0, 1, 0, 0, -1, 3, 2005000]), (20, [6, 1], [30, 0, -1, 0, 0, 1, 3, 2005000]), (20, [1], [60, 4, 6, 445, 5, 100, 101, 107, 2, 95, 102, 104, 108, 109]), (20, [1], [60, 2, 3, 448, 100, 101, 102, 105, 106]), (20, [1], [60, 1, 1, 197, 5, 2]), (20, [1], [50, 2, 0, 79, 100, 1, 3, 2, 0, 79, 2, 0, 100]), (20, [1], [50, 1, 0, 81, 1, 3, 2, 0, 81, 0, 0]), (24, [0, 1], []), (20, [1, 21], [50, 1, 0, 80, 1, 3, 2, 0, 80, 4, 2, 1, 1, 0, 1]), (20, [1], [60, 2, 4, 456, 79, 80, 83, 84, 85, 86]), (102, [21], [25274950000453724807500326644080903756534822896131786701034634608640, 165080]), (23, [21, 2], [0, 1, -1]), (23, [21, 2], [0, -1, 1]), (7, [9, 10], [2]), (7, [5, 6], [2]), (7, [2, 3], [2])], [], [], [(20, [1, 22], [50, 1, 0, 80, 1, 3, 2, 0, 80, 1, 1])], [], [(22, 2, 1, 1), (22, 3, -4294967296, 0), (9, 10, -4294967296, -1), (5, 6, -4294967296, -1), (2, 3, -4294967296, -1)])
theorem oo_Mo_across2_4 {kA : Nat → ClassId} : or_ok PRD kA GG o_Mo_across2_4 := by
  refine or_mk fun A ta ws vs hD hth hl => ?_
  intro t0 r0 t1 r1 t2 k2 t3 k3 t5 k5 t6 k6 t9 k9 t10 k10 t12 k12 t13 k13 t14 k14 t15 k15 t16 k16 t21 k21 t22 k22 d0 d1 d2 d3 d4 f0 f1 f2 f3 f4 f5 f6 f7 f8 f9 f10 f11 f12 f13 f14 f15 f16 f17 f18 ta1 w1 le1 s1 f20 f21 f22 f23 f24
  replace f1 := shm_7 f1
  replace f2 := shm_22 f2
  replace f16 := shm_5 f16
  replace f17 := shm_563 f17
  have q1 : n_v vs 1 = n_v vs 0 := f16.symm
  simp only [q1] at f17
  have kz_0_80 := fdq_131 hD hth r0
  have nf0 : fc_1 PRD (20, [1, 22], [50, 1, 0, 80, 1, 3, 2, 0, 80, 1, 1]) ws (vs) := by
    refine ⟨nf_in hl rfl, sgq_557 ?_⟩
    · show w_fi ws (n_v vs 1) 80 = v_iv (n_v vs 22)
      rw [q1]
      exact vc_Mo_across2_4_0 (v_iv (n_v vs 2)) (v_iv (n_v vs 15)) (v_iv (n_v vs 16)) (v_iv (n_v vs 21)) (v_iv (n_v vs 22)) (w_fi ws (n_v vs 0) 80) k2 k21 k22 d0 f1 f2 f17 kz_0_80
  refine ⟨(fun _ h => (by cases h)), [], trivial, ?_, (fun _ h => (by cases h))⟩
  rw [List.append_nil]
  exact List.forall_mem_cons.mpr ⟨⟨show (20 : Nat) < 100 from by decide, nf0⟩, (fun _ h => (by cases h))⟩
set_option maxHeartbeats 4000000 in
theorem vc_Mo_across2_5_0 (x2 : Int) (x15 : Int) (x16 : Int) (costMany_0 : Int) (gx : Int) (k2 : 0 ≤ x2 ∧ x2 ≤ 129) (f20 : costMany_0 = x2) (kz_0_80 : 0 ≤ costMany_0 ∧ costMany_0 ≤ 200) (ex2 : gx = x2) : 1 * gx + ((-1) * x2 + 0) ≤ 0 := by
  try simp only [Int.add_zero] at *
  first
    | omega
    | (have h := ‹LSA _ _ _ _ _ _ _ _ _ _›.2.1; omega)
set_option maxHeartbeats 4000000 in
theorem vc_Mo_across2_5_1 (x2 : Int) (x15 : Int) (x16 : Int) (costMany_0 : Int) (gx : Int) (k2 : 0 ≤ x2 ∧ x2 ≤ 129) (f20 : costMany_0 = x2) (kz_0_80 : 0 ≤ costMany_0 ∧ costMany_0 ≤ 200) (ex2 : gx = x2) : (-1) * gx + (1 * x2 + 0) ≤ 0 := by
  try simp only [Int.add_zero] at *
  first
    | omega
    | (have h := ‹LSA _ _ _ _ _ _ _ _ _ _›.2.1; omega)
set_option maxHeartbeats 4000000 in
theorem vc_Mo_across2_5_2 (x2 : Int) (x15 : Int) (x16 : Int) (costMany_0 : Int) (gx : Int) (k2 : 0 ≤ x2 ∧ x2 ≤ 129) (f20 : costMany_0 = x2) (kz_0_80 : 0 ≤ costMany_0 ∧ costMany_0 ≤ 200) (ex2 : gx = x2) : costMany_0 = gx := by
  try simp only [Int.add_zero] at *
  first
    | omega
    | (have h := ‹LSA _ _ _ _ _ _ _ _ _ _›.2.1; omega)
set_option maxHeartbeats 4000000 in
theorem vc_Mo_across2_5_3 (pointMany_0 : Int) (costA_0 : Int → Int) (costB_0 : Int → Int) (costW_0 : Int → Int) (costPlain_0 : Int → Int) (costMany_0 : Int) (f19 : PCQ (pointMany_0) (costMany_0) (costA_0) (costB_0) (costW_0) (costPlain_0)) (kz_0_79 : 0 ≤ pointMany_0 ∧ pointMany_0 ≤ 76) (kz_0_80 : 0 ≤ costMany_0 ∧ costMany_0 ≤ 200) : PCQ (pointMany_0) (costMany_0) (costA_0) (costB_0) (costW_0) (costPlain_0) := by
  assumption
set_option maxHeartbeats 4000000 in
theorem vc_Mo_across2_5_4 (x2 : Int) (x5 : Int) (x6 : Int) (x15 : Int) (x16 : Int) (lineB_0 : Int → Int) (lineA_0 : Int → Int) (all_0 : Int → Int) (r_0 : Int) (lines_0 : Int) (turned_0 : Int → Int) (itemLayer_0 : Int → Int) (firstJoint_0 : Int → Int) (items_0 : Int) (layerMany_0 : Int) (pointMany_0 : Int) (k2 : 0 ≤ x2 ∧ x2 ≤ 129) (k5 : 0 ≤ x5 ∧ x5 ≤ 23) (k6 : 1 ≤ x6 ∧ x6 ≤ 24) (k15 : 0 ≤ x15 ∧ x15 ≤ 75) (d1 : x6 + (-4294967296) ≤ x5 ∧ x5 ≤ x6 + (-1)) (h2 : x15 = lineA_0 (x2)) (f10 : 1 * x6 + ((-1) * all_0 (r_0 + 0) + 0) ≤ 0) (f11 : (-1) * x6 + (1 * all_0 (r_0 + 0) + 0) ≤ 0) (h12 : x5 = lineA_0 (x2)) (f15 : LSA (r_0) (items_0) (layerMany_0) (lines_0) (all_0) (turned_0) (itemLayer_0) (firstJoint_0) (lineA_0) (lineB_0)) (f18 : pointMany_0 = items_0) (kz_0_79 : 0 ≤ pointMany_0 ∧ pointMany_0 ≤ 76) (kz_0_100 : 0 ≤ items_0 ∧ items_0 ≤ 76) (kz_0_101 : 0 ≤ layerMany_0 ∧ layerMany_0 ≤ 76) (kz_0_107 : 0 ≤ lines_0 ∧ lines_0 ≤ 130) : (0 ≤ x15) ∧ ((x15 + 1) ≤ pointMany_0) := by
  try simp only [Int.add_zero] at *
  first
    | omega
    | (have h := ‹LSA _ _ _ _ _ _ _ _ _ _›.2.1; omega)
set_option maxHeartbeats 4000000 in
theorem vc_Mo_across2_5_5 (x2 : Int) (x3 : Int) (x15 : Int) (x16 : Int) (lineB_0 : Int → Int) (lineA_0 : Int → Int) (all_0 : Int → Int) (r_0 : Int) (lines_0 : Int) (turned_0 : Int → Int) (itemLayer_0 : Int → Int) (firstJoint_0 : Int → Int) (items_0 : Int) (layerMany_0 : Int) (pointMany_0 : Int) (costMany_0 : Int) (gx : Int) (k2 : 0 ≤ x2 ∧ x2 ≤ 129) (k3 : 1 ≤ x3 ∧ x3 ≤ 130) (k16 : 0 ≤ x16 ∧ x16 ≤ 75) (d2 : x3 + (-4294967296) ≤ x2 ∧ x2 ≤ x3 + (-1)) (h0 : x16 = lineB_0 (x2)) (g14 : x3 = lines_0) (f15 : LSA (r_0) (items_0) (layerMany_0) (lines_0) (all_0) (turned_0) (itemLayer_0) (firstJoint_0) (lineA_0) (lineB_0)) (f18 : pointMany_0 = items_0) (f20 : costMany_0 = x2) (kz_0_79 : 0 ≤ pointMany_0 ∧ pointMany_0 ≤ 76) (kz_0_80 : 0 ≤ costMany_0 ∧ costMany_0 ≤ 200) (kz_0_100 : 0 ≤ items_0 ∧ items_0 ≤ 76) (kz_0_101 : 0 ≤ layerMany_0 ∧ layerMany_0 ≤ 76) (kz_0_107 : 0 ≤ lines_0 ∧ lines_0 ≤ 130) (ex2 : gx = x2) : (0 ≤ x16) ∧ ((x16 + 1) ≤ pointMany_0) := by
  try simp only [Int.add_zero] at *
  first
    | (have h := lsa_lb (p := x2) (x := x16) ‹LSA _ _ _ _ _ _ _ _ _ _› (by omega) (by omega) (by assumption); omega)
def o_Mo_across2_5 : or_T := (167, 21, [(0, (2, 0, 0, [165])), (1, (2, 0, 0, [165])), (2, (0, 0, 129, [])), (3, (0, 1, 130, [])), (4, (2, 0, 0, [240])), (5, (0, 0, 23, [])), (6, (0, 1, 24, [])), (8, (2, 0, 0, [241])), (9, (0, 0, 75, [])), (10, (0, 0, 24, [])), (13, (0, 0, 75, [])), (15, (0, 0, 75, [])), (16, (0, 0, 75, []))], [(10, [16, 8, 2], []), (9, [8, 1], [109]), (10, [15, 4, 2], []), (9, [4, 1], [108]), (10, [13, 8, 2], []), (7, [9, 10], [3]), (20, [10, 1], [30, 0, 1, 0, 0, -1, 3, 2005000]), (20, [10, 1], [30, 0, -1, 0, 0, 1, 3, 2005000]), (10, [9, 8, 2], []), (7, [5, 6], [2]), (20, [6, 1], [30, 0, 1, 0, 0, -1, 3, 2005000]), (20, [6, 1], [30, 0, -1, 0, 0, 1, 3, 2005000]), (10, [5, 4, 2], []), (7, [2, 3], [2]), (9, [3, 1], [107]), (20, [1], [60, 4, 6, 445, 5, 100, 101, 107, 2, 95, 102, 104, 108, 109]), (20, [1], [60, 2, 3, 448, 100, 101, 102, 105, 106]), (20, [1], [60, 1, 1, 197, 5, 2]), (20, [1], [50, 2, 0, 79, 100, 1, 3, 2, 0, 79, 2, 0, 100]), (20, [1], [60, 2, 4, 456, 79, 80, 83, 84, 85, 86]), (20, [1, 2], [50, 1, 0, 80, 1, 3, 2, 0, 80, 1, 1]), (20, [1], [50, 1, 0, 81, 1, 3, 2, 0, 81, 0, 0]), (24, [0, 1], [])], [], [(0, 0, 199, [])], [(23, [21, 2], [0, 1, -1]), (23, [21, 2], [0, -1, 1]), (20, [1, 21], [50, 1, 0, 80, 1, 3, 2, 0, 80, 1, 1]), (20, [1], [60, 2, 4, 456, 79, 80, 83, 84, 85, 86]), (20, [15, 1], [50, 1, 0, 1079, 2, 6, 0, 2, 0, 0, 1, 0, 0, 6, 4, 2, 1, 0, 0, 1, 2, 1, 79]), (20, [16, 1], [50, 1, 0, 1079, 2, 6, 0, 2, 0, 0, 1, 0, 0, 6, 4, 2, 1, 0, 0, 1, 2, 1, 79])], [], [(9, 10, 0, 4294967296), (5, 6, -4294967296, -1), (2, 3, -4294967296, -1)])
theorem oo_Mo_across2_5 {kA : Nat → ClassId} : or_ok PRD kA GG o_Mo_across2_5 := by
  refine or_mk fun A ta ws vs hD hth hl => ?_
  intro t0 r0 t1 r1 t2 k2 t3 k3 t4 r4 t5 k5 t6 k6 t8 r8 t9 k9 t10 k10 t13 k13 t15 k15 t16 k16 d0 d1 d2 f0 f1 f2 f3 f4 f5 f6 f7 f8 f9 f10 f11 f12 f13 f14 f15 f16 f17 f18 f19 f20 f21 f22
  replace f0 := shm_107 f0
  replace f1 := shm_632 f1
  replace f2 := shm_107 f2
  replace f3 := shm_628 f3
  replace f10 := shm_126 f10
  replace f11 := shm_127 f11
  replace f12 := shm_107 f12
  replace f14 := shm_627 f14
  replace f15 := shm_674 f15
  replace f18 := shm_1944 f18
  replace f19 := shm_558 f19
  replace f20 := shm_557 f20
  replace f22 := shm_5 f22
  have q1 : n_v vs 1 = n_v vs 0 := f22.symm
  simp only [q1] at f1 f3 f10 f11 f14 f15 f18 f19 f20
  have ad_8 : v_ad (n_v vs 8) = w_ar ws (n_v vs 0) 109 := congrArg v_ad f1
  have ad_4 : v_ad (n_v vs 4) = w_ar ws (n_v vs 0) 108 := congrArg v_ad f3
  simp only [ad_8] at f0
  have h0 : v_iv (n_v vs 16) = w_ei ws (w_ar ws (n_v vs 0) 109) (v_iv (n_v vs 2)) := f0
  simp only [ad_4] at f2
  have h2 : v_iv (n_v vs 15) = w_ei ws (w_ar ws (n_v vs 0) 108) (v_iv (n_v vs 2)) := f2
  simp only [ad_4] at f12
  have h12 : v_iv (n_v vs 5) = w_ei ws (w_ar ws (n_v vs 0) 108) (v_iv (n_v vs 2)) := f12
  have g14 : v_iv (n_v vs 3) = w_fi ws (n_v vs 0) 107 := congrArg v_iv f14
  have kz_0_79 := fdq_147 hD hth r0
  have kz_0_80 := fdq_131 hD hth r0
  have kz_0_100 := fdq_162 hD hth r0
  have kz_0_101 := fdq_125 hD hth r0
  have kz_0_107 := fdq_163 hD hth r0
  obtain ⟨x, ex, hx⟩ := iv_ex (ta := ta) (lo := 0) (hi := 199) (z := v_iv (n_v vs 2)) (by omega) (by omega) (by omega) (by omega)
  have ex2 : v_iv (Value.int x) = v_iv (n_v vs 2) := ex
  have ex3 : 0 ≤ v_iv (Value.int x) ∧ v_iv (Value.int x) ≤ 199 := tv_rng hx
  have e_1 : n_v (vs ++ [Value.int x]) 1 = n_v vs 1 := n_v_old (by rw [hl]; decide)
  have e_2 : n_v (vs ++ [Value.int x]) 2 = n_v vs 2 := n_v_old (by rw [hl]; decide)
  have e_15 : n_v (vs ++ [Value.int x]) 15 = n_v vs 15 := n_v_old (by rw [hl]; decide)
  have e_16 : n_v (vs ++ [Value.int x]) 16 = n_v vs 16 := n_v_old (by rw [hl]; decide)
  have e_21 : n_v (vs ++ [Value.int x]) 21 = Value.int x := n_v_new hl
  have nf0 : fc_1 PRD (23, [21, 2], [0, 1, -1]) ws (vs ++ [Value.int x]) := by
    refine ⟨nf_inA hl rfl, sgq_7 ?_⟩
    · show 1 * v_iv (n_v (vs ++ [Value.int x]) 21) + ((-1) * v_iv (n_v (vs ++ [Value.int x]) 2) + 0) ≤ 0
      simp only [e_2, e_21]
      exact vc_Mo_across2_5_0 (v_iv (n_v vs 2)) (v_iv (n_v vs 15)) (v_iv (n_v vs 16)) (w_fi ws (n_v vs 0) 80) (v_iv (Value.int x)) k2 f20 kz_0_80 ex2
  have nf1 : fc_1 PRD (23, [21, 2], [0, -1, 1]) ws (vs ++ [Value.int x]) := by
    refine ⟨nf_inA hl rfl, sgq_22 ?_⟩
    · show (-1) * v_iv (n_v (vs ++ [Value.int x]) 21) + (1 * v_iv (n_v (vs ++ [Value.int x]) 2) + 0) ≤ 0
      simp only [e_2, e_21]
      exact vc_Mo_across2_5_1 (v_iv (n_v vs 2)) (v_iv (n_v vs 15)) (v_iv (n_v vs 16)) (w_fi ws (n_v vs 0) 80) (v_iv (Value.int x)) k2 f20 kz_0_80 ex2
  have nf2 : fc_1 PRD (20, [1, 21], [50, 1, 0, 80, 1, 3, 2, 0, 80, 1, 1]) ws (vs ++ [Value.int x]) := by
    refine ⟨nf_inA hl rfl, sgq_557 ?_⟩
    · show w_fi ws (n_v (vs ++ [Value.int x]) 1) 80 = v_iv (n_v (vs ++ [Value.int x]) 21)
      simp only [e_1, e_21, q1]
      exact vc_Mo_across2_5_2 (v_iv (n_v vs 2)) (v_iv (n_v vs 15)) (v_iv (n_v vs 16)) (w_fi ws (n_v vs 0) 80) (v_iv (Value.int x)) k2 f20 kz_0_80 ex2
  have nf3 : fc_1 PRD (20, [1], [60, 2, 4, 456, 79, 80, 83, 84, 85, 86]) ws (vs ++ [Value.int x]) := by
    refine ⟨nf_inA hl rfl, sgq_558 ?_⟩
    · show PCQ (w_fi ws (n_v (vs ++ [Value.int x]) 1) 79) (w_fi ws (n_v (vs ++ [Value.int x]) 1) 80) (w_ei ws (w_ar ws (n_v (vs ++ [Value.int x]) 1) 83)) (w_ei ws (w_ar ws (n_v (vs ++ [Value.int x]) 1) 84)) (w_ei ws (w_ar ws (n_v (vs ++ [Value.int x]) 1) 85)) (w_ei ws (w_ar ws (n_v (vs ++ [Value.int x]) 1) 86))
      simp only [e_1, q1]
      exact vc_Mo_across2_5_3 (w_fi ws (n_v vs 0) 79) (w_ei ws (w_ar ws (n_v vs 0) 83)) (w_ei ws (w_ar ws (n_v vs 0) 84)) (w_ei ws (w_ar ws (n_v vs 0) 85)) (w_ei ws (w_ar ws (n_v vs 0) 86)) (w_fi ws (n_v vs 0) 80) f19 kz_0_79 kz_0_80
  have nf4 : fc_1 PRD (20, [15, 1], [50, 1, 0, 1079, 2, 6, 0, 2, 0, 0, 1, 0, 0, 6, 4, 2, 1, 0, 0, 1, 2, 1, 79]) ws (vs ++ [Value.int x]) := by
    refine ⟨nf_inA hl rfl, sgq_559 ?_⟩
    · show (0 ≤ v_iv (n_v (vs ++ [Value.int x]) 15)) ∧ ((v_iv (n_v (vs ++ [Value.int x]) 15) + 1) ≤ w_fi ws (n_v (vs ++ [Value.int x]) 1) 79)
      simp only [e_1, e_15, q1]
      exact vc_Mo_across2_5_4 (v_iv (n_v vs 2)) (v_iv (n_v vs 5)) (v_iv (n_v vs 6)) (v_iv (n_v vs 15)) (v_iv (n_v vs 16)) (w_ei ws (w_ar ws (n_v vs 0) 109)) (w_ei ws (w_ar ws (n_v vs 0) 108)) (w_ei ws (w_ar ws (n_v vs 0) 2)) (w_fi ws (n_v vs 0) 5) (w_fi ws (n_v vs 0) 107) (w_ei ws (w_ar ws (n_v vs 0) 95)) (w_ei ws (w_ar ws (n_v vs 0) 102)) (w_ei ws (w_ar ws (n_v vs 0) 104)) (w_fi ws (n_v vs 0) 100) (w_fi ws (n_v vs 0) 101) (w_fi ws (n_v vs 0) 79) k2 k5 k6 k15 d1 h2 f10 f11 h12 f15 f18 kz_0_79 kz_0_100 kz_0_101 kz_0_107
  have nf5 : fc_1 PRD (20, [16, 1], [50, 1, 0, 1079, 2, 6, 0, 2, 0, 0, 1, 0, 0, 6, 4, 2, 1, 0, 0, 1, 2, 1, 79]) ws (vs ++ [Value.int x]) := by
    refine ⟨nf_inA hl rfl, sgq_559 ?_⟩
    · show (0 ≤ v_iv (n_v (vs ++ [Value.int x]) 16)) ∧ ((v_iv (n_v (vs ++ [Value.int x]) 16) + 1) ≤ w_fi ws (n_v (vs ++ [Value.int x]) 1) 79)
      simp only [e_1, e_16, q1]
      exact vc_Mo_across2_5_5 (v_iv (n_v vs 2)) (v_iv (n_v vs 3)) (v_iv (n_v vs 15)) (v_iv (n_v vs 16)) (w_ei ws (w_ar ws (n_v vs 0) 109)) (w_ei ws (w_ar ws (n_v vs 0) 108)) (w_ei ws (w_ar ws (n_v vs 0) 2)) (w_fi ws (n_v vs 0) 5) (w_fi ws (n_v vs 0) 107) (w_ei ws (w_ar ws (n_v vs 0) 95)) (w_ei ws (w_ar ws (n_v vs 0) 102)) (w_ei ws (w_ar ws (n_v vs 0) 104)) (w_fi ws (n_v vs 0) 100) (w_fi ws (n_v vs 0) 101) (w_fi ws (n_v vs 0) 79) (w_fi ws (n_v vs 0) 80) (v_iv (Value.int x)) k2 k3 k16 d2 h0 g14 f15 f18 f20 kz_0_79 kz_0_80 kz_0_100 kz_0_101 kz_0_107 ex2
  exact ⟨(fun _ h => (by cases h)), [Value.int x], ag_one hx, List.forall_mem_cons.mpr ⟨⟨show (23 : Nat) < 100 from by decide, nf0⟩, List.forall_mem_cons.mpr ⟨⟨show (23 : Nat) < 100 from by decide, nf1⟩, List.forall_mem_cons.mpr ⟨⟨show (20 : Nat) < 100 from by decide, nf2⟩, List.forall_mem_cons.mpr ⟨⟨show (20 : Nat) < 100 from by decide, nf3⟩, List.forall_mem_cons.mpr ⟨⟨show (20 : Nat) < 100 from by decide, nf4⟩, List.forall_mem_cons.mpr ⟨⟨show (20 : Nat) < 100 from by decide, nf5⟩, (fun _ h => (by cases h))⟩⟩⟩⟩⟩⟩, (fun _ h => (by cases h))⟩
set_option maxHeartbeats 4000000 in
theorem vc_Mo_across2_6_0 (x2 : Int) (x15 : Int) (x16 : Int) (x21 : Int) (x22 : Int) (costMany_0 : Int) (k2 : 0 ≤ x2 ∧ x2 ≤ 129) (k21 : 0 ≤ x21 ∧ x21 ≤ 199) (k22 : 1 ≤ x22 ∧ x22 ≤ 130) (d0 : x2 + 1 ≤ x22 ∧ x22 ≤ x2 + 1) (f1 : 1 * x21 + ((-1) * x2 + 0) ≤ 0) (f2 : (-1) * x21 + (1 * x2 + 0) ≤ 0) (f15 : costMany_0 = (x21 + 1)) (kz_0_80 : 0 ≤ costMany_0 ∧ costMany_0 ≤ 200) : costMany_0 = x22 := by
  try simp only [Int.add_zero] at *
  first
    | omega
    | (have h := ‹LSA _ _ _ _ _ _ _ _ _ _›.2.1; omega)
def o_Mo_across2_6 : or_T := (20, 23, [(0, (2, 0, 0, [165])), (1, (2, 0, 0, [165])), (2, (0, 0, 129, [])), (3, (0, 1, 130, [])), (5, (0, 0, 23, [])), (6, (0, 1, 24, [])), (9, (0, 0, 75, [])), (10, (0, 0, 24, [])), (15, (0, 0, 75, [])), (16, (0, 0, 75, [])), (21, (0, 0, 199, [])), (22, (0, 1, 130, []))], [(6, [22, 2], [1]), (23, [21, 2], [0, 1, -1]), (23, [21, 2], [0, -1, 1]), (20, [15, 1], [50, 1, 0, 1079, 2, 6, 0, 2, 0, 0, 1, 0, 0, 6, 4, 2, 1, 0, 0, 1, 2, 1, 79]), (20, [16, 1], [50, 1, 0, 1079, 2, 6, 0, 2, 0, 0, 1, 0, 0, 6, 4, 2, 1, 0, 0, 1, 2, 1, 79]), (20, [10, 1], [30, 0, 1, 0, 0, -1, 3, 2005000]), (20, [10, 1], [30, 0, -1, 0, 0, 1, 3, 2005000]), (20, [6, 1], [30, 0, 1, 0, 0, -1, 3, 2005000]), (20, [6, 1], [30, 0, -1, 0, 0, 1, 3, 2005000]), (20, [1], [60, 4, 6, 445, 5, 100, 101, 107, 2, 95, 102, 104, 108, 109]), (20, [1], [60, 2, 3, 448, 100, 101, 102, 105, 106]), (20, [1], [60, 1, 1, 197, 5, 2]), (20, [1], [50, 2, 0, 79, 100, 1, 3, 2, 0, 79, 2, 0, 100]), (20, [1], [50, 1, 0, 81, 1, 3, 2, 0, 81, 0, 0]), (24, [0, 1], []), (20, [1, 21], [50, 1, 0, 80, 1, 3, 2, 0, 80, 4, 2, 1, 1, 0, 1]), (20, [1], [60, 2, 4, 456, 79, 80, 83, 84, 85, 86]), (102, [21], [25274950000453724807500326644080903756534822896131786701034634608640, 165080]), (23, [21, 2], [0, 1, -1]), (23, [21, 2], [0, -1, 1]), (7, [9, 10], [3]), (7, [5, 6], [2]), (7, [2, 3], [2])], [], [], [(20, [1, 22], [50, 1, 0, 80, 1, 3, 2, 0, 80, 1, 1])], [], [(22, 2, 1, 1), (22, 3, -4294967296, 0), (9, 10, 0, 4294967296), (5, 6, -4294967296, -1), (2, 3, -4294967296, -1)])
theorem oo_Mo_across2_6 {kA : Nat → ClassId} : or_ok PRD kA GG o_Mo_across2_6 := by
  refine or_mk fun A ta ws vs hD hth hl => ?_
  intro t0 r0 t1 r1 t2 k2 t3 k3 t5 k5 t6 k6 t9 k9 t10 k10 t15 k15 t16 k16 t21 k21 t22 k22 d0 d1 d2 d3 d4 f0 f1 f2 f3 f4 f5 f6 f7 f8 f9 f10 f11 f12 f13 f14 f15 f16 ta1 w1 le1 s1 f18 f19 f20 f21 f22
  replace f1 := shm_7 f1
  replace f2 := shm_22 f2
  replace f14 := shm_5 f14
  replace f15 := shm_563 f15
  have q1 : n_v vs 1 = n_v vs 0 := f14.symm
  simp only [q1] at f15
  have kz_0_80 := fdq_131 hD hth r0
  have nf0 : fc_1 PRD (20, [1, 22], [50, 1, 0, 80, 1, 3, 2, 0, 80, 1, 1]) ws (vs) := by
    refine ⟨nf_in hl rfl, sgq_557 ?_⟩
    · show w_fi ws (n_v vs 1) 80 = v_iv (n_v vs 22)
      rw [q1]
      exact vc_Mo_across2_6_0 (v_iv (n_v vs 2)) (v_iv (n_v vs 15)) (v_iv (n_v vs 16)) (v_iv (n_v vs 21)) (v_iv (n_v vs 22)) (w_fi ws (n_v vs 0) 80) k2 k21 k22 d0 f1 f2 f15 kz_0_80
  refine ⟨(fun _ h => (by cases h)), [], trivial, ?_, (fun _ h => (by cases h))⟩
  rw [List.append_nil]
  exact List.forall_mem_cons.mpr ⟨⟨show (20 : Nat) < 100 from by decide, nf0⟩, (fun _ h => (by cases h))⟩
set_option maxHeartbeats 4000000 in
theorem vc_Mo_across2_7_0 (x2 : Int) (x15 : Int) (x16 : Int) (costMany_0 : Int) (gx : Int) (k2 : 0 ≤ x2 ∧ x2 ≤ 129) (f20 : costMany_0 = x2) (kz_0_80 : 0 ≤ costMany_0 ∧ costMany_0 ≤ 200) (ex2 : gx = x2) : 1 * gx + ((-1) * x2 + 0) ≤ 0 := by
  try simp only [Int.add_zero] at *
  first
    | omega
    | (have h := ‹LSA _ _ _ _ _ _ _ _ _ _›.2.1; omega)
set_option maxHeartbeats 4000000 in
theorem vc_Mo_across2_7_1 (x2 : Int) (x15 : Int) (x16 : Int) (costMany_0 : Int) (gx : Int) (k2 : 0 ≤ x2 ∧ x2 ≤ 129) (f20 : costMany_0 = x2) (kz_0_80 : 0 ≤ costMany_0 ∧ costMany_0 ≤ 200) (ex2 : gx = x2) : (-1) * gx + (1 * x2 + 0) ≤ 0 := by
  try simp only [Int.add_zero] at *
  first
    | omega
    | (have h := ‹LSA _ _ _ _ _ _ _ _ _ _›.2.1; omega)
set_option maxHeartbeats 4000000 in
theorem vc_Mo_across2_7_2 (x2 : Int) (x15 : Int) (x16 : Int) (costMany_0 : Int) (gx : Int) (k2 : 0 ≤ x2 ∧ x2 ≤ 129) (f20 : costMany_0 = x2) (kz_0_80 : 0 ≤ costMany_0 ∧ costMany_0 ≤ 200) (ex2 : gx = x2) : costMany_0 = gx := by
  try simp only [Int.add_zero] at *
  first
    | omega
    | (have h := ‹LSA _ _ _ _ _ _ _ _ _ _›.2.1; omega)
set_option maxHeartbeats 4000000 in
theorem vc_Mo_across2_7_3 (pointMany_0 : Int) (costA_0 : Int → Int) (costB_0 : Int → Int) (costW_0 : Int → Int) (costPlain_0 : Int → Int) (costMany_0 : Int) (f19 : PCQ (pointMany_0) (costMany_0) (costA_0) (costB_0) (costW_0) (costPlain_0)) (kz_0_79 : 0 ≤ pointMany_0 ∧ pointMany_0 ≤ 76) (kz_0_80 : 0 ≤ costMany_0 ∧ costMany_0 ≤ 200) : PCQ (pointMany_0) (costMany_0) (costA_0) (costB_0) (costW_0) (costPlain_0) := by
  assumption
set_option maxHeartbeats 4000000 in
theorem vc_Mo_across2_7_4 (x2 : Int) (x3 : Int) (x15 : Int) (x16 : Int) (lineB_0 : Int → Int) (lineA_0 : Int → Int) (all_0 : Int → Int) (r_0 : Int) (lines_0 : Int) (turned_0 : Int → Int) (itemLayer_0 : Int → Int) (firstJoint_0 : Int → Int) (items_0 : Int) (layerMany_0 : Int) (pointMany_0 : Int) (costMany_0 : Int) (gx : Int) (k2 : 0 ≤ x2 ∧ x2 ≤ 129) (k3 : 1 ≤ x3 ∧ x3 ≤ 130) (k15 : 0 ≤ x15 ∧ x15 ≤ 75) (d2 : x3 + (-4294967296) ≤ x2 ∧ x2 ≤ x3 + (-1)) (h2 : x15 = lineA_0 (x2)) (g14 : x3 = lines_0) (f15 : LSA (r_0) (items_0) (layerMany_0) (lines_0) (all_0) (turned_0) (itemLayer_0) (firstJoint_0) (lineA_0) (lineB_0)) (f18 : pointMany_0 = items_0) (f20 : costMany_0 = x2) (kz_0_79 : 0 ≤ pointMany_0 ∧ pointMany_0 ≤ 76) (kz_0_80 : 0 ≤ costMany_0 ∧ costMany_0 ≤ 200) (kz_0_100 : 0 ≤ items_0 ∧ items_0 ≤ 76) (kz_0_101 : 0 ≤ layerMany_0 ∧ layerMany_0 ≤ 76) (kz_0_107 : 0 ≤ lines_0 ∧ lines_0 ≤ 130) (ex2 : gx = x2) : (0 ≤ x15) ∧ ((x15 + 1) ≤ pointMany_0) := by
  try simp only [Int.add_zero] at *
  first
    | (have h := lsa_la (p := x2) (x := x15) ‹LSA _ _ _ _ _ _ _ _ _ _› (by omega) (by omega) (by assumption); omega)
set_option maxHeartbeats 4000000 in
theorem vc_Mo_across2_7_5 (x2 : Int) (x9 : Int) (x10 : Int) (x15 : Int) (x16 : Int) (lineB_0 : Int → Int) (lineA_0 : Int → Int) (all_0 : Int → Int) (r_0 : Int) (lines_0 : Int) (turned_0 : Int → Int) (itemLayer_0 : Int → Int) (firstJoint_0 : Int → Int) (items_0 : Int) (layerMany_0 : Int) (pointMany_0 : Int) (k2 : 0 ≤ x2 ∧ x2 ≤ 129) (k9 : 0 ≤ x9 ∧ x9 ≤ 23) (k10 : 1 ≤ x10 ∧ x10 ≤ 24) (k16 : 0 ≤ x16 ∧ x16 ≤ 75) (d0 : x10 + (-4294967296) ≤ x9 ∧ x9 ≤ x10 + (-1)) (h0 : x16 = lineB_0 (x2)) (f6 : 1 * x10 + ((-1) * all_0 (r_0 + 0) + 0) ≤ 0) (f7 : (-1) * x10 + (1 * all_0 (r_0 + 0) + 0) ≤ 0) (h8 : x9 = lineB_0 (x2)) (f15 : LSA (r_0) (items_0) (layerMany_0) (lines_0) (all_0) (turned_0) (itemLayer_0) (firstJoint_0) (lineA_0) (lineB_0)) (f18 : pointMany_0 = items_0) (kz_0_79 : 0 ≤ pointMany_0 ∧ pointMany_0 ≤ 76) (kz_0_100 : 0 ≤ items_0 ∧ items_0 ≤ 76) (kz_0_101 : 0 ≤ layerMany_0 ∧ layerMany_0 ≤ 76) (kz_0_107 : 0 ≤ lines_0 ∧ lines_0 ≤ 130) : (0 ≤ x16) ∧ ((x16 + 1) ≤ pointMany_0) := by
  try simp only [Int.add_zero] at *
  first
    | omega
    | (have h := ‹LSA _ _ _ _ _ _ _ _ _ _›.2.1; omega)
def o_Mo_across2_7 : or_T := (167, 21, [(0, (2, 0, 0, [165])), (1, (2, 0, 0, [165])), (2, (0, 0, 129, [])), (3, (0, 1, 130, [])), (4, (2, 0, 0, [240])), (5, (0, 0, 75, [])), (6, (0, 0, 24, [])), (8, (2, 0, 0, [241])), (9, (0, 0, 23, [])), (10, (0, 1, 24, [])), (13, (0, 0, 75, [])), (15, (0, 0, 75, [])), (16, (0, 0, 75, []))], [(10, [16, 8, 2], []), (9, [8, 1], [109]), (10, [15, 4, 2], []), (9, [4, 1], [108]), (10, [13, 4, 2], []), (7, [9, 10], [2]), (20, [10, 1], [30, 0, 1, 0, 0, -1, 3, 2005000]), (20, [10, 1], [30, 0, -1, 0, 0, 1, 3, 2005000]), (10, [9, 8, 2], []), (7, [5, 6], [3]), (20, [6, 1], [30, 0, 1, 0, 0, -1, 3, 2005000]), (20, [6, 1], [30, 0, -1, 0, 0, 1, 3, 2005000]), (10, [5, 4, 2], []), (7, [2, 3], [2]), (9, [3, 1], [107]), (20, [1], [60, 4, 6, 445, 5, 100, 101, 107, 2, 95, 102, 104, 108, 109]), (20, [1], [60, 2, 3, 448, 100, 101, 102, 105, 106]), (20, [1], [60, 1, 1, 197, 5, 2]), (20, [1], [50, 2, 0, 79, 100, 1, 3, 2, 0, 79, 2, 0, 100]), (20, [1], [60, 2, 4, 456, 79, 80, 83, 84, 85, 86]), (20, [1, 2], [50, 1, 0, 80, 1, 3, 2, 0, 80, 1, 1]), (20, [1], [50, 1, 0, 81, 1, 3, 2, 0, 81, 0, 0]), (24, [0, 1], [])], [], [(0, 0, 199, [])], [(23, [21, 2], [0, 1, -1]), (23, [21, 2], [0, -1, 1]), (20, [1, 21], [50, 1, 0, 80, 1, 3, 2, 0, 80, 1, 1]), (20, [1], [60, 2, 4, 456, 79, 80, 83, 84, 85, 86]), (20, [15, 1], [50, 1, 0, 1079, 2, 6, 0, 2, 0, 0, 1, 0, 0, 6, 4, 2, 1, 0, 0, 1, 2, 1, 79]), (20, [16, 1], [50, 1, 0, 1079, 2, 6, 0, 2, 0, 0, 1, 0, 0, 6, 4, 2, 1, 0, 0, 1, 2, 1, 79])], [], [(9, 10, -4294967296, -1), (5, 6, 0, 4294967296), (2, 3, -4294967296, -1)])
theorem oo_Mo_across2_7 {kA : Nat → ClassId} : or_ok PRD kA GG o_Mo_across2_7 := by
  refine or_mk fun A ta ws vs hD hth hl => ?_
  intro t0 r0 t1 r1 t2 k2 t3 k3 t4 r4 t5 k5 t6 k6 t8 r8 t9 k9 t10 k10 t13 k13 t15 k15 t16 k16 d0 d1 d2 f0 f1 f2 f3 f4 f5 f6 f7 f8 f9 f10 f11 f12 f13 f14 f15 f16 f17 f18 f19 f20 f21 f22
  replace f0 := shm_107 f0
  replace f1 := shm_632 f1
  replace f2 := shm_107 f2
  replace f3 := shm_628 f3
  replace f6 := shm_126 f6
  replace f7 := shm_127 f7
  replace f8 := shm_107 f8
  replace f14 := shm_627 f14
  replace f15 := shm_674 f15
  replace f18 := shm_1944 f18
  replace f19 := shm_558 f19
  replace f20 := shm_557 f20
  replace f22 := shm_5 f22
  have q1 : n_v vs 1 = n_v vs 0 := f22.symm
  simp only [q1] at f1 f3 f6 f7 f14 f15 f18 f19 f20
  have ad_8 : v_ad (n_v vs 8) = w_ar ws (n_v vs 0) 109 := congrArg v_ad f1
  have ad_4 : v_ad (n_v vs 4) = w_ar ws (n_v vs 0) 108 := congrArg v_ad f3
  simp only [ad_8] at f0
  have h0 : v_iv (n_v vs 16) = w_ei ws (w_ar ws (n_v vs 0) 109) (v_iv (n_v vs 2)) := f0
  simp only [ad_4] at f2
  have h2 : v_iv (n_v vs 15) = w_ei ws (w_ar ws (n_v vs 0) 108) (v_iv (n_v vs 2)) := f2
  simp only [ad_8] at f8
  have h8 : v_iv (n_v vs 9) = w_ei ws (w_ar ws (n_v vs 0) 109) (v_iv (n_v vs 2)) := f8
  have g14 : v_iv (n_v vs 3) = w_fi ws (n_v vs 0) 107 := congrArg v_iv f14
  have kz_0_79 := fdq_147 hD hth r0
  have kz_0_80 := fdq_131 hD hth r0
  have kz_0_100 := fdq_162 hD hth r0
  have kz_0_101 := fdq_125 hD hth r0
  have kz_0_107 := fdq_163 hD hth r0
  obtain ⟨x, ex, hx⟩ := iv_ex (ta := ta) (lo := 0) (hi := 199) (z := v_iv (n_v vs 2)) (by omega) (by omega) (by omega) (by omega)
  have ex2 : v_iv (Value.int x) = v_iv (n_v vs 2) := ex
  have ex3 : 0 ≤ v_iv (Value.int x) ∧ v_iv (Value.int x) ≤ 199 := tv_rng hx
  have e_1 : n_v (vs ++ [Value.int x]) 1 = n_v vs 1 := n_v_old (by rw [hl]; decide)
  have e_2 : n_v (vs ++ [Value.int x]) 2 = n_v vs 2 := n_v_old (by rw [hl]; decide)
  have e_15 : n_v (vs ++ [Value.int x]) 15 = n_v vs 15 := n_v_old (by rw [hl]; decide)
  have e_16 : n_v (vs ++ [Value.int x]) 16 = n_v vs 16 := n_v_old (by rw [hl]; decide)
  have e_21 : n_v (vs ++ [Value.int x]) 21 = Value.int x := n_v_new hl
  have nf0 : fc_1 PRD (23, [21, 2], [0, 1, -1]) ws (vs ++ [Value.int x]) := by
    refine ⟨nf_inA hl rfl, sgq_7 ?_⟩
    · show 1 * v_iv (n_v (vs ++ [Value.int x]) 21) + ((-1) * v_iv (n_v (vs ++ [Value.int x]) 2) + 0) ≤ 0
      simp only [e_2, e_21]
      exact vc_Mo_across2_7_0 (v_iv (n_v vs 2)) (v_iv (n_v vs 15)) (v_iv (n_v vs 16)) (w_fi ws (n_v vs 0) 80) (v_iv (Value.int x)) k2 f20 kz_0_80 ex2
  have nf1 : fc_1 PRD (23, [21, 2], [0, -1, 1]) ws (vs ++ [Value.int x]) := by
    refine ⟨nf_inA hl rfl, sgq_22 ?_⟩
    · show (-1) * v_iv (n_v (vs ++ [Value.int x]) 21) + (1 * v_iv (n_v (vs ++ [Value.int x]) 2) + 0) ≤ 0
      simp only [e_2, e_21]
      exact vc_Mo_across2_7_1 (v_iv (n_v vs 2)) (v_iv (n_v vs 15)) (v_iv (n_v vs 16)) (w_fi ws (n_v vs 0) 80) (v_iv (Value.int x)) k2 f20 kz_0_80 ex2
  have nf2 : fc_1 PRD (20, [1, 21], [50, 1, 0, 80, 1, 3, 2, 0, 80, 1, 1]) ws (vs ++ [Value.int x]) := by
    refine ⟨nf_inA hl rfl, sgq_557 ?_⟩
    · show w_fi ws (n_v (vs ++ [Value.int x]) 1) 80 = v_iv (n_v (vs ++ [Value.int x]) 21)
      simp only [e_1, e_21, q1]
      exact vc_Mo_across2_7_2 (v_iv (n_v vs 2)) (v_iv (n_v vs 15)) (v_iv (n_v vs 16)) (w_fi ws (n_v vs 0) 80) (v_iv (Value.int x)) k2 f20 kz_0_80 ex2
  have nf3 : fc_1 PRD (20, [1], [60, 2, 4, 456, 79, 80, 83, 84, 85, 86]) ws (vs ++ [Value.int x]) := by
    refine ⟨nf_inA hl rfl, sgq_558 ?_⟩
    · show PCQ (w_fi ws (n_v (vs ++ [Value.int x]) 1) 79) (w_fi ws (n_v (vs ++ [Value.int x]) 1) 80) (w_ei ws (w_ar ws (n_v (vs ++ [Value.int x]) 1) 83)) (w_ei ws (w_ar ws (n_v (vs ++ [Value.int x]) 1) 84)) (w_ei ws (w_ar ws (n_v (vs ++ [Value.int x]) 1) 85)) (w_ei ws (w_ar ws (n_v (vs ++ [Value.int x]) 1) 86))
      simp only [e_1, q1]
      exact vc_Mo_across2_7_3 (w_fi ws (n_v vs 0) 79) (w_ei ws (w_ar ws (n_v vs 0) 83)) (w_ei ws (w_ar ws (n_v vs 0) 84)) (w_ei ws (w_ar ws (n_v vs 0) 85)) (w_ei ws (w_ar ws (n_v vs 0) 86)) (w_fi ws (n_v vs 0) 80) f19 kz_0_79 kz_0_80
  have nf4 : fc_1 PRD (20, [15, 1], [50, 1, 0, 1079, 2, 6, 0, 2, 0, 0, 1, 0, 0, 6, 4, 2, 1, 0, 0, 1, 2, 1, 79]) ws (vs ++ [Value.int x]) := by
    refine ⟨nf_inA hl rfl, sgq_559 ?_⟩
    · show (0 ≤ v_iv (n_v (vs ++ [Value.int x]) 15)) ∧ ((v_iv (n_v (vs ++ [Value.int x]) 15) + 1) ≤ w_fi ws (n_v (vs ++ [Value.int x]) 1) 79)
      simp only [e_1, e_15, q1]
      exact vc_Mo_across2_7_4 (v_iv (n_v vs 2)) (v_iv (n_v vs 3)) (v_iv (n_v vs 15)) (v_iv (n_v vs 16)) (w_ei ws (w_ar ws (n_v vs 0) 109)) (w_ei ws (w_ar ws (n_v vs 0) 108)) (w_ei ws (w_ar ws (n_v vs 0) 2)) (w_fi ws (n_v vs 0) 5) (w_fi ws (n_v vs 0) 107) (w_ei ws (w_ar ws (n_v vs 0) 95)) (w_ei ws (w_ar ws (n_v vs 0) 102)) (w_ei ws (w_ar ws (n_v vs 0) 104)) (w_fi ws (n_v vs 0) 100) (w_fi ws (n_v vs 0) 101) (w_fi ws (n_v vs 0) 79) (w_fi ws (n_v vs 0) 80) (v_iv (Value.int x)) k2 k3 k15 d2 h2 g14 f15 f18 f20 kz_0_79 kz_0_80 kz_0_100 kz_0_101 kz_0_107 ex2
  have nf5 : fc_1 PRD (20, [16, 1], [50, 1, 0, 1079, 2, 6, 0, 2, 0, 0, 1, 0, 0, 6, 4, 2, 1, 0, 0, 1, 2, 1, 79]) ws (vs ++ [Value.int x]) := by
    refine ⟨nf_inA hl rfl, sgq_559 ?_⟩
    · show (0 ≤ v_iv (n_v (vs ++ [Value.int x]) 16)) ∧ ((v_iv (n_v (vs ++ [Value.int x]) 16) + 1) ≤ w_fi ws (n_v (vs ++ [Value.int x]) 1) 79)
      simp only [e_1, e_16, q1]
      exact vc_Mo_across2_7_5 (v_iv (n_v vs 2)) (v_iv (n_v vs 9)) (v_iv (n_v vs 10)) (v_iv (n_v vs 15)) (v_iv (n_v vs 16)) (w_ei ws (w_ar ws (n_v vs 0) 109)) (w_ei ws (w_ar ws (n_v vs 0) 108)) (w_ei ws (w_ar ws (n_v vs 0) 2)) (w_fi ws (n_v vs 0) 5) (w_fi ws (n_v vs 0) 107) (w_ei ws (w_ar ws (n_v vs 0) 95)) (w_ei ws (w_ar ws (n_v vs 0) 102)) (w_ei ws (w_ar ws (n_v vs 0) 104)) (w_fi ws (n_v vs 0) 100) (w_fi ws (n_v vs 0) 101) (w_fi ws (n_v vs 0) 79) k2 k9 k10 k16 d0 h0 f6 f7 h8 f15 f18 kz_0_79 kz_0_100 kz_0_101 kz_0_107
  exact ⟨(fun _ h => (by cases h)), [Value.int x], ag_one hx, List.forall_mem_cons.mpr ⟨⟨show (23 : Nat) < 100 from by decide, nf0⟩, List.forall_mem_cons.mpr ⟨⟨show (23 : Nat) < 100 from by decide, nf1⟩, List.forall_mem_cons.mpr ⟨⟨show (20 : Nat) < 100 from by decide, nf2⟩, List.forall_mem_cons.mpr ⟨⟨show (20 : Nat) < 100 from by decide, nf3⟩, List.forall_mem_cons.mpr ⟨⟨show (20 : Nat) < 100 from by decide, nf4⟩, List.forall_mem_cons.mpr ⟨⟨show (20 : Nat) < 100 from by decide, nf5⟩, (fun _ h => (by cases h))⟩⟩⟩⟩⟩⟩, (fun _ h => (by cases h))⟩
set_option maxHeartbeats 4000000 in
theorem vc_Mo_across2_8_0 (x2 : Int) (x15 : Int) (x16 : Int) (x21 : Int) (x22 : Int) (costMany_0 : Int) (k2 : 0 ≤ x2 ∧ x2 ≤ 129) (k21 : 0 ≤ x21 ∧ x21 ≤ 199) (k22 : 1 ≤ x22 ∧ x22 ≤ 130) (d0 : x2 + 1 ≤ x22 ∧ x22 ≤ x2 + 1) (f1 : 1 * x21 + ((-1) * x2 + 0) ≤ 0) (f2 : (-1) * x21 + (1 * x2 + 0) ≤ 0) (f15 : costMany_0 = (x21 + 1)) (kz_0_80 : 0 ≤ costMany_0 ∧ costMany_0 ≤ 200) : costMany_0 = x22 := by
  try simp only [Int.add_zero] at *
  first
    | omega
    | (have h := ‹LSA _ _ _ _ _ _ _ _ _ _›.2.1; omega)
def o_Mo_across2_8 : or_T := (20, 23, [(0, (2, 0, 0, [165])), (1, (2, 0, 0, [165])), (2, (0, 0, 129, [])), (3, (0, 1, 130, [])), (5, (0, 0, 75, [])), (6, (0, 0, 24, [])), (9, (0, 0, 23, [])), (10, (0, 1, 24, [])), (15, (0, 0, 75, [])), (16, (0, 0, 75, [])), (21, (0, 0, 199, [])), (22, (0, 1, 130, []))], [(6, [22, 2], [1]), (23, [21, 2], [0, 1, -1]), (23, [21, 2], [0, -1, 1]), (20, [15, 1], [50, 1, 0, 1079, 2, 6, 0, 2, 0, 0, 1, 0, 0, 6, 4, 2, 1, 0, 0, 1, 2, 1, 79]), (20, [16, 1], [50, 1, 0, 1079, 2, 6, 0, 2, 0, 0, 1, 0, 0, 6, 4, 2, 1, 0, 0, 1, 2, 1, 79]), (20, [10, 1], [30, 0, 1, 0, 0, -1, 3, 2005000]), (20, [10, 1], [30, 0, -1, 0, 0, 1, 3, 2005000]), (20, [6, 1], [30, 0, 1, 0, 0, -1, 3, 2005000]), (20, [6, 1], [30, 0, -1, 0, 0, 1, 3, 2005000]), (20, [1], [60, 4, 6, 445, 5, 100, 101, 107, 2, 95, 102, 104, 108, 109]), (20, [1], [60, 2, 3, 448, 100, 101, 102, 105, 106]), (20, [1], [60, 1, 1, 197, 5, 2]), (20, [1], [50, 2, 0, 79, 100, 1, 3, 2, 0, 79, 2, 0, 100]), (20, [1], [50, 1, 0, 81, 1, 3, 2, 0, 81, 0, 0]), (24, [0, 1], []), (20, [1, 21], [50, 1, 0, 80, 1, 3, 2, 0, 80, 4, 2, 1, 1, 0, 1]), (20, [1], [60, 2, 4, 456, 79, 80, 83, 84, 85, 86]), (102, [21], [25274950000453724807500326644080903756534822896131786701034634608640, 165080]), (23, [21, 2], [0, 1, -1]), (23, [21, 2], [0, -1, 1]), (7, [9, 10], [2]), (7, [5, 6], [3]), (7, [2, 3], [2])], [], [], [(20, [1, 22], [50, 1, 0, 80, 1, 3, 2, 0, 80, 1, 1])], [], [(22, 2, 1, 1), (22, 3, -4294967296, 0), (9, 10, -4294967296, -1), (5, 6, 0, 4294967296), (2, 3, -4294967296, -1)])
theorem oo_Mo_across2_8 {kA : Nat → ClassId} : or_ok PRD kA GG o_Mo_across2_8 := by
  refine or_mk fun A ta ws vs hD hth hl => ?_
  intro t0 r0 t1 r1 t2 k2 t3 k3 t5 k5 t6 k6 t9 k9 t10 k10 t15 k15 t16 k16 t21 k21 t22 k22 d0 d1 d2 d3 d4 f0 f1 f2 f3 f4 f5 f6 f7 f8 f9 f10 f11 f12 f13 f14 f15 f16 ta1 w1 le1 s1 f18 f19 f20 f21 f22
  replace f1 := shm_7 f1
  replace f2 := shm_22 f2
  replace f14 := shm_5 f14
  replace f15 := shm_563 f15
  have q1 : n_v vs 1 = n_v vs 0 := f14.symm
  simp only [q1] at f15
  have kz_0_80 := fdq_131 hD hth r0
  have nf0 : fc_1 PRD (20, [1, 22], [50, 1, 0, 80, 1, 3, 2, 0, 80, 1, 1]) ws (vs) := by
    refine ⟨nf_in hl rfl, sgq_557 ?_⟩
    · show w_fi ws (n_v vs 1) 80 = v_iv (n_v vs 22)
      rw [q1]
      exact vc_Mo_across2_8_0 (v_iv (n_v vs 2)) (v_iv (n_v vs 15)) (v_iv (n_v vs 16)) (v_iv (n_v vs 21)) (v_iv (n_v vs 22)) (w_fi ws (n_v vs 0) 80) k2 k21 k22 d0 f1 f2 f15 kz_0_80
  refine ⟨(fun _ h => (by cases h)), [], trivial, ?_, (fun _ h => (by cases h))⟩
  rw [List.append_nil]
  exact List.forall_mem_cons.mpr ⟨⟨show (20 : Nat) < 100 from by decide, nf0⟩, (fun _ h => (by cases h))⟩
set_option maxHeartbeats 4000000 in
theorem vc_Mo_across2_9_0 (x2 : Int) (x15 : Int) (x16 : Int) (costMany_0 : Int) (gx : Int) (k2 : 0 ≤ x2 ∧ x2 ≤ 129) (f20 : costMany_0 = x2) (kz_0_80 : 0 ≤ costMany_0 ∧ costMany_0 ≤ 200) (ex2 : gx = x2) : 1 * gx + ((-1) * x2 + 0) ≤ 0 := by
  try simp only [Int.add_zero] at *
  first
    | omega
    | (have h := ‹LSA _ _ _ _ _ _ _ _ _ _›.2.1; omega)
set_option maxHeartbeats 4000000 in
theorem vc_Mo_across2_9_1 (x2 : Int) (x15 : Int) (x16 : Int) (costMany_0 : Int) (gx : Int) (k2 : 0 ≤ x2 ∧ x2 ≤ 129) (f20 : costMany_0 = x2) (kz_0_80 : 0 ≤ costMany_0 ∧ costMany_0 ≤ 200) (ex2 : gx = x2) : (-1) * gx + (1 * x2 + 0) ≤ 0 := by
  try simp only [Int.add_zero] at *
  first
    | omega
    | (have h := ‹LSA _ _ _ _ _ _ _ _ _ _›.2.1; omega)
set_option maxHeartbeats 4000000 in
theorem vc_Mo_across2_9_2 (x2 : Int) (x15 : Int) (x16 : Int) (costMany_0 : Int) (gx : Int) (k2 : 0 ≤ x2 ∧ x2 ≤ 129) (f20 : costMany_0 = x2) (kz_0_80 : 0 ≤ costMany_0 ∧ costMany_0 ≤ 200) (ex2 : gx = x2) : costMany_0 = gx := by
  try simp only [Int.add_zero] at *
  first
    | omega
    | (have h := ‹LSA _ _ _ _ _ _ _ _ _ _›.2.1; omega)
set_option maxHeartbeats 4000000 in
theorem vc_Mo_across2_9_3 (pointMany_0 : Int) (costA_0 : Int → Int) (costB_0 : Int → Int) (costW_0 : Int → Int) (costPlain_0 : Int → Int) (costMany_0 : Int) (f19 : PCQ (pointMany_0) (costMany_0) (costA_0) (costB_0) (costW_0) (costPlain_0)) (kz_0_79 : 0 ≤ pointMany_0 ∧ pointMany_0 ≤ 76) (kz_0_80 : 0 ≤ costMany_0 ∧ costMany_0 ≤ 200) : PCQ (pointMany_0) (costMany_0) (costA_0) (costB_0) (costW_0) (costPlain_0) := by
  assumption
set_option maxHeartbeats 4000000 in
theorem vc_Mo_across2_9_4 (x2 : Int) (x3 : Int) (x15 : Int) (x16 : Int) (lineB_0 : Int → Int) (lineA_0 : Int → Int) (all_0 : Int → Int) (r_0 : Int) (lines_0 : Int) (turned_0 : Int → Int) (itemLayer_0 : Int → Int) (firstJoint_0 : Int → Int) (items_0 : Int) (layerMany_0 : Int) (pointMany_0 : Int) (costMany_0 : Int) (gx : Int) (k2 : 0 ≤ x2 ∧ x2 ≤ 129) (k3 : 1 ≤ x3 ∧ x3 ≤ 130) (k15 : 0 ≤ x15 ∧ x15 ≤ 75) (d2 : x3 + (-4294967296) ≤ x2 ∧ x2 ≤ x3 + (-1)) (h2 : x15 = lineA_0 (x2)) (g14 : x3 = lines_0) (f15 : LSA (r_0) (items_0) (layerMany_0) (lines_0) (all_0) (turned_0) (itemLayer_0) (firstJoint_0) (lineA_0) (lineB_0)) (f18 : pointMany_0 = items_0) (f20 : costMany_0 = x2) (kz_0_79 : 0 ≤ pointMany_0 ∧ pointMany_0 ≤ 76) (kz_0_80 : 0 ≤ costMany_0 ∧ costMany_0 ≤ 200) (kz_0_100 : 0 ≤ items_0 ∧ items_0 ≤ 76) (kz_0_101 : 0 ≤ layerMany_0 ∧ layerMany_0 ≤ 76) (kz_0_107 : 0 ≤ lines_0 ∧ lines_0 ≤ 130) (ex2 : gx = x2) : (0 ≤ x15) ∧ ((x15 + 1) ≤ pointMany_0) := by
  try simp only [Int.add_zero] at *
  first
    | (have h := lsa_la (p := x2) (x := x15) ‹LSA _ _ _ _ _ _ _ _ _ _› (by omega) (by omega) (by assumption); omega)
set_option maxHeartbeats 4000000 in
theorem vc_Mo_across2_9_5 (x2 : Int) (x3 : Int) (x15 : Int) (x16 : Int) (lineB_0 : Int → Int) (lineA_0 : Int → Int) (all_0 : Int → Int) (r_0 : Int) (lines_0 : Int) (turned_0 : Int → Int) (itemLayer_0 : Int → Int) (firstJoint_0 : Int → Int) (items_0 : Int) (layerMany_0 : Int) (pointMany_0 : Int) (costMany_0 : Int) (gx : Int) (k2 : 0 ≤ x2 ∧ x2 ≤ 129) (k3 : 1 ≤ x3 ∧ x3 ≤ 130) (k16 : 0 ≤ x16 ∧ x16 ≤ 75) (d2 : x3 + (-4294967296) ≤ x2 ∧ x2 ≤ x3 + (-1)) (h0 : x16 = lineB_0 (x2)) (g14 : x3 = lines_0) (f15 : LSA (r_0) (items_0) (layerMany_0) (lines_0) (all_0) (turned_0) (itemLayer_0) (firstJoint_0) (lineA_0) (lineB_0)) (f18 : pointMany_0 = items_0) (f20 : costMany_0 = x2) (kz_0_79 : 0 ≤ pointMany_0 ∧ pointMany_0 ≤ 76) (kz_0_80 : 0 ≤ costMany_0 ∧ costMany_0 ≤ 200) (kz_0_100 : 0 ≤ items_0 ∧ items_0 ≤ 76) (kz_0_101 : 0 ≤ layerMany_0 ∧ layerMany_0 ≤ 76) (kz_0_107 : 0 ≤ lines_0 ∧ lines_0 ≤ 130) (ex2 : gx = x2) : (0 ≤ x16) ∧ ((x16 + 1) ≤ pointMany_0) := by
  try simp only [Int.add_zero] at *
  first
    | (have h := lsa_lb (p := x2) (x := x16) ‹LSA _ _ _ _ _ _ _ _ _ _› (by omega) (by omega) (by assumption); omega)
