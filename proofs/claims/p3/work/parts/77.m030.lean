
set_option maxHeartbeats 4000000 in
theorem vc_Dr_measure_8_0 (x3 : Int) (x4 : Int) (x8 : Int) (x10 : Int) (x11 : Int) (x14 : Int) (x_0 : Int → Int) (bends_0 : Int → Int) (bendX_0 : Int → Int) (nodes_0o1 : Int) (leastX_0 : Int) (mostX_0 : Int) (k3 : 0 ≤ x3 ∧ x3 ≤ 47) (k4 : 1 ≤ x4 ∧ x4 ≤ 24) (k8 : (-40000000) ≤ x8 ∧ x8 ≤ 690000000) (k10 : (-2147483648) ≤ x10 ∧ x10 ≤ 2147483647) (k11 : (-2147483648) ≤ x11 ∧ x11 ≤ 2147483647) (k14 : 2 ≤ x14 ∧ x14 ≤ 25) (f1 : x14 = x4 + 1) (f2 : MN4 (nodes_0o1) (x_0) (bends_0) (bendX_0) (x10) (x11) (x3) (x4) (x8)) (f9 : (leastX_0 ≤ x10) ∧ (leastX_0 ≤ x8)) (f10 : (x11 ≤ mostX_0) ∧ (x8 ≤ mostX_0)) (kz_0_17 : (-41000000) ≤ leastX_0 ∧ leastX_0 ≤ 690000000) (kz_0_19 : (-40000000) ≤ mostX_0 ∧ mostX_0 ≤ 1001000000) (kz_1_0 : 0 ≤ nodes_0o1 ∧ nodes_0o1 ≤ 24) : MN3 (leastX_0) (mostX_0) (nodes_0o1) (x_0) (bends_0) (bendX_0) (x3) (x14) := by
  first
    | (have h := (show MN4 nodes_0o1 x_0 bends_0 bendX_0 x10 x11 x3 x4 x8 by assumption)
       exact mn3_step h.1 h.2 rfl (by omega) (by omega) (by omega) (by omega) (by omega))
set_option maxHeartbeats 4000000 in
theorem vc_Dr_measure_8_1 (x3 : Int) (x4 : Int) (x9 : Int) (x12 : Int) (x13 : Int) (x14 : Int) (bends_0 : Int → Int) (nodes_0o1 : Int) (y_0 : Int → Int) (bendY_0 : Int → Int) (leastY_0 : Int) (mostY_0 : Int) (k3 : 0 ≤ x3 ∧ x3 ≤ 47) (k4 : 1 ≤ x4 ∧ x4 ≤ 24) (k9 : (-40000000) ≤ x9 ∧ x9 ≤ 690000000) (k12 : (-2147483648) ≤ x12 ∧ x12 ≤ 2147483647) (k13 : (-2147483648) ≤ x13 ∧ x13 ≤ 2147483647) (k14 : 2 ≤ x14 ∧ x14 ≤ 25) (f1 : x14 = x4 + 1) (f3 : MN4y (nodes_0o1) (y_0) (bends_0) (bendY_0) (x12) (x13) (x3) (x4) (x9)) (f11 : (leastY_0 ≤ x12) ∧ (leastY_0 ≤ x9)) (f12 : (x13 ≤ mostY_0) ∧ (x9 ≤ mostY_0)) (kz_0_18 : (-41000000) ≤ leastY_0 ∧ leastY_0 ≤ 690000000) (kz_0_20 : (-40000000) ≤ mostY_0 ∧ mostY_0 ≤ 1001000000) (kz_1_0 : 0 ≤ nodes_0o1 ∧ nodes_0o1 ≤ 24) : MN3y (leastY_0) (mostY_0) (nodes_0o1) (y_0) (bends_0) (bendY_0) (x3) (x14) := by
  first
    | (have h := (show MN4y nodes_0o1 y_0 bends_0 bendY_0 x12 x13 x3 x4 x9 by assumption)
       exact mn3_step h.1 h.2 rfl (by omega) (by omega) (by omega) (by omega) (by omega))
def o_Dr_measure_8 : or_T := (90, 15, [(0, (2, 0, 0, [0])), (1, (2, 0, 0, [3])), (2, (2, 0, 0, [0])), (3, (0, 0, 47, [])), (4, (0, 1, 24, [])), (5, (2, 0, 0, [3])), (6, (2, 0, 0, [16])), (7, (0, 1, 24, [])), (8, (0, -40000000, 690000000, [])), (9, (0, -40000000, 690000000, [])), (10, (0, -2147483648, 2147483647, [])), (11, (0, -2147483648, 2147483647, [])), (12, (0, -2147483648, 2147483647, [])), (13, (0, -2147483648, 2147483647, [])), (14, (0, 2, 25, []))], [(9, [6, 2], [4]), (6, [14, 4], [1]), (20, [2, 5, 10, 11, 3, 4, 8], [60, 1, 3, 929, 1000, 2, 4, 5]), (20, [2, 5, 12, 13, 3, 4, 9], [60, 1, 3, 936, 1000, 3, 4, 6]), (20, [2, 5, 3, 4, 9], [60, 0, 5, 940, 3, 4, 6, 1007, 1008]), (20, [2, 5, 3, 4, 8], [60, 0, 5, 933, 2, 4, 5, 1007, 1008]), (24, [1, 5], []), (20, [3, 5], [50, 1, 0, 1001, 0, 6, 4, 2, 1, 0, 0, 1, 2, 1, 1]), (24, [0, 2], []), (20, [2, 10, 8], [50, 1, 0, 17, 2, 7, 0, 3, 2, 0, 17, 1, 1, 0, 3, 2, 0, 17, 1, 2]), (20, [11, 2, 8], [50, 1, 0, 1019, 2, 7, 0, 2, 1, 0, 2, 1, 19, 0, 2, 1, 2, 2, 1, 19]), (20, [2, 12, 9], [50, 1, 0, 18, 2, 7, 0, 3, 2, 0, 18, 1, 1, 0, 3, 2, 0, 18, 1, 2]), (20, [13, 2, 9], [50, 1, 0, 1020, 2, 7, 0, 2, 1, 0, 2, 1, 20, 0, 2, 1, 2, 2, 1, 20]), (102, [13], [0, 17, 18, 19, 20]), (7, [4, 7], [5])], [], [], [(20, [2, 5, 3, 14], [60, 3, 3, 931, 17, 19, 1000, 2, 4, 5]), (20, [2, 5, 3, 14], [60, 3, 3, 938, 18, 20, 1000, 3, 4, 6])], [], [(14, 4, 1, 1), (14, 7, -4294967296, 1), (4, 7, -4294967296, 0)])
theorem oo_Dr_measure_8 {kA : Nat → ClassId} : or_ok PRD kA GG o_Dr_measure_8 := by
  refine or_mk fun A ta ws vs hD hth hl => ?_
  intro t0 r0 t1 r1 t2 r2 t3 k3 t4 k4 t5 r5 t6 r6 t7 k7 t8 k8 t9 k9 t10 k10 t11 k11 t12 k12 t13 k13 t14 k14 d0 d1 d2 f0 f1 f2 f3 f4 f5 f6 f7 f8 f9 f10 f11 f12 ta1 w1 le1 s1 f14
  replace f1 := shm_4 f1
  replace f2 := shm_1494 f2
  replace f3 := shm_1495 f3
  replace f6 := shm_5 f6
  replace f8 := shm_5 f8
  replace f9 := shm_1074 f9
  replace f10 := shm_1075 f10
  replace f11 := shm_1076 f11
  replace f12 := shm_1077 f12
  have q5 : n_v vs 5 = n_v vs 1 := f6.symm
  have q2 : n_v vs 2 = n_v vs 0 := f8.symm
  simp only [q2, q5] at f2 f3 f9 f10 f11 f12
  have kz_0_17 := fdq_198 hD hth r0
  have kz_0_18 := fdq_200 hD hth r0
  have kz_0_19 := fdq_199 hD hth r0
  have kz_0_20 := fdq_201 hD hth r0
  have kz_1_0 := fdq_21 hD hth r1
  have nf0 : fc_1 PRD (20, [2, 5, 3, 14], [60, 3, 3, 931, 17, 19, 1000, 2, 4, 5]) ws (vs) := by
    refine ⟨nf_in hl rfl, sgq_1492 ?_⟩
    · show MN3 (w_fi ws (n_v vs 2) 17) (w_fi ws (n_v vs 2) 19) (w_fi ws (n_v vs 5) 0) (w_ei ws (w_ar ws (n_v vs 2) 2)) (w_ei ws (w_ar ws (n_v vs 2) 4)) (w_ei ws (w_ar ws (n_v vs 2) 5)) (v_iv (n_v vs 3)) (v_iv (n_v vs 14))
      simp only [q5, q2]
      exact vc_Dr_measure_8_0 (v_iv (n_v vs 3)) (v_iv (n_v vs 4)) (v_iv (n_v vs 8)) (v_iv (n_v vs 10)) (v_iv (n_v vs 11)) (v_iv (n_v vs 14)) (w_ei ws (w_ar ws (n_v vs 0) 2)) (w_ei ws (w_ar ws (n_v vs 0) 4)) (w_ei ws (w_ar ws (n_v vs 0) 5)) (w_fi ws (n_v vs 1) 0) (w_fi ws (n_v vs 0) 17) (w_fi ws (n_v vs 0) 19) k3 k4 k8 k10 k11 k14 f1 f2 f9 f10 kz_0_17 kz_0_19 kz_1_0
  have nf1 : fc_1 PRD (20, [2, 5, 3, 14], [60, 3, 3, 938, 18, 20, 1000, 3, 4, 6]) ws (vs) := by
    refine ⟨nf_in hl rfl, sgq_1493 ?_⟩
    · show MN3y (w_fi ws (n_v vs 2) 18) (w_fi ws (n_v vs 2) 20) (w_fi ws (n_v vs 5) 0) (w_ei ws (w_ar ws (n_v vs 2) 3)) (w_ei ws (w_ar ws (n_v vs 2) 4)) (w_ei ws (w_ar ws (n_v vs 2) 6)) (v_iv (n_v vs 3)) (v_iv (n_v vs 14))
      simp only [q5, q2]
      exact vc_Dr_measure_8_1 (v_iv (n_v vs 3)) (v_iv (n_v vs 4)) (v_iv (n_v vs 9)) (v_iv (n_v vs 12)) (v_iv (n_v vs 13)) (v_iv (n_v vs 14)) (w_ei ws (w_ar ws (n_v vs 0) 4)) (w_fi ws (n_v vs 1) 0) (w_ei ws (w_ar ws (n_v vs 0) 3)) (w_ei ws (w_ar ws (n_v vs 0) 6)) (w_fi ws (n_v vs 0) 18) (w_fi ws (n_v vs 0) 20) k3 k4 k9 k12 k13 k14 f1 f3 f11 f12 kz_0_18 kz_0_20 kz_1_0
  refine ⟨(fun _ h => (by cases h)), [], trivial, ?_, (fun _ h => (by cases h))⟩
  rw [List.append_nil]
  exact List.forall_mem_cons.mpr ⟨⟨show (20 : Nat) < 100 from by decide, nf0⟩, List.forall_mem_cons.mpr ⟨⟨show (20 : Nat) < 100 from by decide, nf1⟩, (fun _ h => (by cases h))⟩⟩
set_option maxHeartbeats 4000000 in
theorem vc_Dr_measure_9_0 (leastX_0 : Int) (gx : Int) (kz_0_17 : (-41000000) ≤ leastX_0 ∧ leastX_0 ≤ 690000000) (ex2 : gx = leastX_0) : leastX_0 = gx := by
  first
    | omega
  
set_option maxHeartbeats 4000000 in
theorem vc_Dr_measure_9_1 (mostX_0 : Int) (gy : Int) (kz_0_19 : (-40000000) ≤ mostX_0 ∧ mostX_0 ≤ 1001000000) (ey2 : gy = mostX_0) : mostX_0 = gy := by
  first
    | omega
  
set_option maxHeartbeats 4000000 in
theorem vc_Dr_measure_9_2 (leastY_0 : Int) (gu : Int) (kz_0_18 : (-41000000) ≤ leastY_0 ∧ leastY_0 ≤ 690000000) (eu2 : gu = leastY_0) : leastY_0 = gu := by
  first
    | omega
  
set_option maxHeartbeats 4000000 in
theorem vc_Dr_measure_9_3 (mostY_0 : Int) (gw : Int) (kz_0_20 : (-40000000) ≤ mostY_0 ∧ mostY_0 ≤ 1001000000) (ew2 : gw = mostY_0) : mostY_0 = gw := by
  first
    | omega
  
set_option maxHeartbeats 4000000 in
theorem vc_Dr_measure_9_4 (x3 : Int) (x4 : Int) (x7 : Int) (x8 : Int) (bends_0 : Int → Int) (tail_0o1 : Int → Int) (head_0o1 : Int → Int) (x_0 : Int → Int) (bendX_0 : Int → Int) (leastX_0 : Int) (mostX_0 : Int) (nodes_0o1 : Int) (gx : Int) (gy : Int) (k3 : 0 ≤ x3 ∧ x3 ≤ 47) (k4 : 1 ≤ x4 ∧ x4 ≤ 24) (k7 : 1 ≤ x7 ∧ x7 ≤ 24) (k8 : (-40000000) ≤ x8 ∧ x8 ≤ 690000000) (d0 : x7 + (-4294967296) ≤ x4 ∧ x4 ≤ x7 + 0) (f1 : PTX (x_0) (bends_0) (bendX_0) (tail_0o1) (head_0o1) (x3) (x4) (x8)) (h3 : x7 = bends_0 (x3)) (f5 : MN3 (leastX_0) (mostX_0) (nodes_0o1) (x_0) (bends_0) (bendX_0) (x3) (x4)) (kz_0_17 : (-41000000) ≤ leastX_0 ∧ leastX_0 ≤ 690000000) (kz_0_19 : (-40000000) ≤ mostX_0 ∧ mostX_0 ≤ 1001000000) (kz_1_0 : 0 ≤ nodes_0o1 ∧ nodes_0o1 ≤ 24) (ex2 : gx = leastX_0) (ey2 : gy = mostX_0) : MN4 (nodes_0o1) (x_0) (bends_0) (bendX_0) (gx) (gy) (x3) (x4) (x8) := by
  first
    | (have b := (‹x7 = bends_0 x3›)
       have q := (show MN3 leastX_0 mostX_0 nodes_0o1 x_0 bends_0 bendX_0 x3 x4 by assumption)
       rw [show gx = leastX_0 by omega, show gy = mostX_0 by omega]
       exact ⟨q, ptx_bend (show PTX x_0 bends_0 bendX_0 tail_0o1 head_0o1 x3 x4 x8 by assumption) (by have := q.2.1; omega) (by omega)⟩)
  
set_option maxHeartbeats 4000000 in
theorem vc_Dr_measure_9_5 (x3 : Int) (x4 : Int) (x7 : Int) (x9 : Int) (y_0 : Int → Int) (bends_0 : Int → Int) (bendY_0 : Int → Int) (tail_0o1 : Int → Int) (head_0o1 : Int → Int) (nodes_0o1 : Int) (leastY_0 : Int) (mostY_0 : Int) (gu : Int) (gw : Int) (k3 : 0 ≤ x3 ∧ x3 ≤ 47) (k4 : 1 ≤ x4 ∧ x4 ≤ 24) (k7 : 1 ≤ x7 ∧ x7 ≤ 24) (k9 : (-41000000) ≤ x9 ∧ x9 ≤ 1001000000) (d0 : x7 + (-4294967296) ≤ x4 ∧ x4 ≤ x7 + 0) (f0 : PTY (y_0) (bends_0) (bendY_0) (tail_0o1) (head_0o1) (x3) (x4) (x9)) (h3 : x7 = bends_0 (x3)) (f6 : MN3y (leastY_0) (mostY_0) (nodes_0o1) (y_0) (bends_0) (bendY_0) (x3) (x4)) (kz_0_18 : (-41000000) ≤ leastY_0 ∧ leastY_0 ≤ 690000000) (kz_0_20 : (-40000000) ≤ mostY_0 ∧ mostY_0 ≤ 1001000000) (kz_1_0 : 0 ≤ nodes_0o1 ∧ nodes_0o1 ≤ 24) (eu2 : gu = leastY_0) (ew2 : gw = mostY_0) : MN4y (nodes_0o1) (y_0) (bends_0) (bendY_0) (gu) (gw) (x3) (x4) (x9) := by
  first
    | (have b := (‹x7 = bends_0 x3›)
       have q := (show MN3 leastY_0 mostY_0 nodes_0o1 y_0 bends_0 bendY_0 x3 x4 by assumption)
       rw [show gu = leastY_0 by omega, show gw = mostY_0 by omega]
       exact ⟨q, ptx_bend (show PTX y_0 bends_0 bendY_0 tail_0o1 head_0o1 x3 x4 x9 by assumption) (by have := q.2.1; omega) (by omega)⟩)
  
def o_Dr_measure_9 : or_T := (113, 10, [(0, (2, 0, 0, [0])), (1, (2, 0, 0, [3])), (2, (2, 0, 0, [0])), (3, (0, 0, 47, [])), (4, (0, 1, 24, [])), (5, (2, 0, 0, [3])), (6, (2, 0, 0, [16])), (7, (0, 1, 24, [])), (8, (0, -40000000, 690000000, [])), (9, (0, -41000000, 1001000000, []))], [(20, [2, 5, 3, 4, 9], [60, 0, 5, 940, 3, 4, 6, 1007, 1008]), (20, [2, 5, 3, 4, 8], [60, 0, 5, 933, 2, 4, 5, 1007, 1008]), (7, [4, 7], [5]), (10, [7, 6, 3], []), (9, [6, 2], [4]), (20, [2, 5, 3, 4], [60, 3, 3, 931, 17, 19, 1000, 2, 4, 5]), (20, [2, 5, 3, 4], [60, 3, 3, 938, 18, 20, 1000, 3, 4, 6]), (24, [1, 5], []), (20, [3, 5], [50, 1, 0, 1001, 0, 6, 4, 2, 1, 0, 0, 1, 2, 1, 1]), (24, [0, 2], [])], [], [(0, -2147483648, 2147483647, []), (0, -2147483648, 2147483647, []), (0, -2147483648, 2147483647, []), (0, -2147483648, 2147483647, [])], [(20, [2, 10], [50, 1, 0, 17, 1, 3, 2, 0, 17, 1, 1]), (20, [2, 11], [50, 1, 0, 19, 1, 3, 2, 0, 19, 1, 1]), (20, [2, 12], [50, 1, 0, 18, 1, 3, 2, 0, 18, 1, 1]), (20, [2, 13], [50, 1, 0, 20, 1, 3, 2, 0, 20, 1, 1]), (20, [2, 5, 10, 11, 3, 4, 8], [60, 1, 3, 929, 1000, 2, 4, 5]), (20, [2, 5, 12, 13, 3, 4, 9], [60, 1, 3, 936, 1000, 3, 4, 6])], [], [(4, 7, -4294967296, 0)])
theorem oo_Dr_measure_9 {kA : Nat → ClassId} : or_ok PRD kA GG o_Dr_measure_9 := by
  refine or_mk fun A ta ws vs hD hth hl => ?_
  intro t0 r0 t1 r1 t2 r2 t3 k3 t4 k4 t5 r5 t6 r6 t7 k7 t8 k8 t9 k9 d0 f0 f1 f2 f3 f4 f5 f6 f7 f8 f9
  replace f0 := shm_344 f0
  replace f1 := shm_343 f1
  replace f3 := shm_107 f3
  replace f4 := shm_108 f4
  replace f5 := shm_1492 f5
  replace f6 := shm_1493 f6
  replace f7 := shm_5 f7
  replace f9 := shm_5 f9
  have q5 : n_v vs 5 = n_v vs 1 := f7.symm
  have q2 : n_v vs 2 = n_v vs 0 := f9.symm
  simp only [q5, q2] at f0 f1 f4 f5 f6
  have ad_6 : v_ad (n_v vs 6) = w_ar ws (n_v vs 0) 4 := congrArg v_ad f4
  simp only [ad_6] at f3
  have h3 : v_iv (n_v vs 7) = w_ei ws (w_ar ws (n_v vs 0) 4) (v_iv (n_v vs 3)) := f3
  have kz_0_17 := fdq_198 hD hth r0
  have kz_0_18 := fdq_200 hD hth r0
  have kz_0_19 := fdq_199 hD hth r0
  have kz_0_20 := fdq_201 hD hth r0
  have kz_1_0 := fdq_21 hD hth r1
  obtain ⟨x, ex, hx⟩ := iv_ex (ta := ta) (lo := (-2147483648)) (hi := 2147483647) (z := w_fi ws (n_v vs 0) 17) (by omega) (by omega) (by omega) (by omega)
  have ex2 : v_iv (Value.int x) = w_fi ws (n_v vs 0) 17 := ex
  have ex3 : (-2147483648) ≤ v_iv (Value.int x) ∧ v_iv (Value.int x) ≤ 2147483647 := tv_rng hx
  obtain ⟨y, ey, hy⟩ := iv_ex (ta := ta) (lo := (-2147483648)) (hi := 2147483647) (z := w_fi ws (n_v vs 0) 19) (by omega) (by omega) (by omega) (by omega)
  have ey2 : v_iv (Value.int y) = w_fi ws (n_v vs 0) 19 := ey
  have ey3 : (-2147483648) ≤ v_iv (Value.int y) ∧ v_iv (Value.int y) ≤ 2147483647 := tv_rng hy
  obtain ⟨u, eu, hu⟩ := iv_ex (ta := ta) (lo := (-2147483648)) (hi := 2147483647) (z := w_fi ws (n_v vs 0) 18) (by omega) (by omega) (by omega) (by omega)
  have eu2 : v_iv (Value.int u) = w_fi ws (n_v vs 0) 18 := eu
  have eu3 : (-2147483648) ≤ v_iv (Value.int u) ∧ v_iv (Value.int u) ≤ 2147483647 := tv_rng hu
  obtain ⟨w, ew, hw⟩ := iv_ex (ta := ta) (lo := (-2147483648)) (hi := 2147483647) (z := w_fi ws (n_v vs 0) 20) (by omega) (by omega) (by omega) (by omega)
  have ew2 : v_iv (Value.int w) = w_fi ws (n_v vs 0) 20 := ew
  have ew3 : (-2147483648) ≤ v_iv (Value.int w) ∧ v_iv (Value.int w) ≤ 2147483647 := tv_rng hw
  have e_2 : n_v (vs ++ [Value.int x, Value.int y, Value.int u, Value.int w]) 2 = n_v vs 2 := n_v_old (by rw [hl]; decide)
  have e_3 : n_v (vs ++ [Value.int x, Value.int y, Value.int u, Value.int w]) 3 = n_v vs 3 := n_v_old (by rw [hl]; decide)
  have e_4 : n_v (vs ++ [Value.int x, Value.int y, Value.int u, Value.int w]) 4 = n_v vs 4 := n_v_old (by rw [hl]; decide)
  have e_5 : n_v (vs ++ [Value.int x, Value.int y, Value.int u, Value.int w]) 5 = n_v vs 5 := n_v_old (by rw [hl]; decide)
  have e_8 : n_v (vs ++ [Value.int x, Value.int y, Value.int u, Value.int w]) 8 = n_v vs 8 := n_v_old (by rw [hl]; decide)
  have e_9 : n_v (vs ++ [Value.int x, Value.int y, Value.int u, Value.int w]) 9 = n_v vs 9 := n_v_old (by rw [hl]; decide)
  have e_10 : n_v (vs ++ [Value.int x, Value.int y, Value.int u, Value.int w]) 10 = Value.int x := n_v_newk (k := 0) hl rfl
  have e_11 : n_v (vs ++ [Value.int x, Value.int y, Value.int u, Value.int w]) 11 = Value.int y := n_v_newk (k := 1) hl rfl
  have e_12 : n_v (vs ++ [Value.int x, Value.int y, Value.int u, Value.int w]) 12 = Value.int u := n_v_newk (k := 2) hl rfl
  have e_13 : n_v (vs ++ [Value.int x, Value.int y, Value.int u, Value.int w]) 13 = Value.int w := n_v_newk (k := 3) hl rfl
  have nf0 : fc_1 PRD (20, [2, 10], [50, 1, 0, 17, 1, 3, 2, 0, 17, 1, 1]) ws (vs ++ [Value.int x, Value.int y, Value.int u, Value.int w]) := by
    refine ⟨nf_inA hl rfl, sgq_1073 ?_⟩
    · show w_fi ws (n_v (vs ++ [Value.int x, Value.int y, Value.int u, Value.int w]) 2) 17 = v_iv (n_v (vs ++ [Value.int x, Value.int y, Value.int u, Value.int w]) 10)
      simp only [e_2, e_10, q2]
      exact vc_Dr_measure_9_0 (w_fi ws (n_v vs 0) 17) (v_iv (Value.int x)) kz_0_17 ex2
  have nf1 : fc_1 PRD (20, [2, 11], [50, 1, 0, 19, 1, 3, 2, 0, 19, 1, 1]) ws (vs ++ [Value.int x, Value.int y, Value.int u, Value.int w]) := by
    refine ⟨nf_inA hl rfl, sgq_1072 ?_⟩
    · show w_fi ws (n_v (vs ++ [Value.int x, Value.int y, Value.int u, Value.int w]) 2) 19 = v_iv (n_v (vs ++ [Value.int x, Value.int y, Value.int u, Value.int w]) 11)
      simp only [e_2, e_11, q2]
      exact vc_Dr_measure_9_1 (w_fi ws (n_v vs 0) 19) (v_iv (Value.int y)) kz_0_19 ey2
  have nf2 : fc_1 PRD (20, [2, 12], [50, 1, 0, 18, 1, 3, 2, 0, 18, 1, 1]) ws (vs ++ [Value.int x, Value.int y, Value.int u, Value.int w]) := by
    refine ⟨nf_inA hl rfl, sgq_1071 ?_⟩
    · show w_fi ws (n_v (vs ++ [Value.int x, Value.int y, Value.int u, Value.int w]) 2) 18 = v_iv (n_v (vs ++ [Value.int x, Value.int y, Value.int u, Value.int w]) 12)
      simp only [e_2, e_12, q2]
      exact vc_Dr_measure_9_2 (w_fi ws (n_v vs 0) 18) (v_iv (Value.int u)) kz_0_18 eu2
  have nf3 : fc_1 PRD (20, [2, 13], [50, 1, 0, 20, 1, 3, 2, 0, 20, 1, 1]) ws (vs ++ [Value.int x, Value.int y, Value.int u, Value.int w]) := by
    refine ⟨nf_inA hl rfl, sgq_1070 ?_⟩
    · show w_fi ws (n_v (vs ++ [Value.int x, Value.int y, Value.int u, Value.int w]) 2) 20 = v_iv (n_v (vs ++ [Value.int x, Value.int y, Value.int u, Value.int w]) 13)
      simp only [e_2, e_13, q2]
      exact vc_Dr_measure_9_3 (w_fi ws (n_v vs 0) 20) (v_iv (Value.int w)) kz_0_20 ew2
  have nf4 : fc_1 PRD (20, [2, 5, 10, 11, 3, 4, 8], [60, 1, 3, 929, 1000, 2, 4, 5]) ws (vs ++ [Value.int x, Value.int y, Value.int u, Value.int w]) := by
    refine ⟨nf_inA hl rfl, sgq_1494 ?_⟩
    · show MN4 (w_fi ws (n_v (vs ++ [Value.int x, Value.int y, Value.int u, Value.int w]) 5) 0) (w_ei ws (w_ar ws (n_v (vs ++ [Value.int x, Value.int y, Value.int u, Value.int w]) 2) 2)) (w_ei ws (w_ar ws (n_v (vs ++ [Value.int x, Value.int y, Value.int u, Value.int w]) 2) 4)) (w_ei ws (w_ar ws (n_v (vs ++ [Value.int x, Value.int y, Value.int u, Value.int w]) 2) 5)) (v_iv (n_v (vs ++ [Value.int x, Value.int y, Value.int u, Value.int w]) 10)) (v_iv (n_v (vs ++ [Value.int x, Value.int y, Value.int u, Value.int w]) 11)) (v_iv (n_v (vs ++ [Value.int x, Value.int y, Value.int u, Value.int w]) 3)) (v_iv (n_v (vs ++ [Value.int x, Value.int y, Value.int u, Value.int w]) 4)) (v_iv (n_v (vs ++ [Value.int x, Value.int y, Value.int u, Value.int w]) 8))
      simp only [e_2, e_3, e_4, e_5, e_8, e_10, e_11, q5, q2]
      exact vc_Dr_measure_9_4 (v_iv (n_v vs 3)) (v_iv (n_v vs 4)) (v_iv (n_v vs 7)) (v_iv (n_v vs 8)) (w_ei ws (w_ar ws (n_v vs 0) 4)) (w_ei ws (w_ar ws (n_v vs 1) 7)) (w_ei ws (w_ar ws (n_v vs 1) 8)) (w_ei ws (w_ar ws (n_v vs 0) 2)) (w_ei ws (w_ar ws (n_v vs 0) 5)) (w_fi ws (n_v vs 0) 17) (w_fi ws (n_v vs 0) 19) (w_fi ws (n_v vs 1) 0) (v_iv (Value.int x)) (v_iv (Value.int y)) k3 k4 k7 k8 d0 f1 h3 f5 kz_0_17 kz_0_19 kz_1_0 ex2 ey2
  have nf5 : fc_1 PRD (20, [2, 5, 12, 13, 3, 4, 9], [60, 1, 3, 936, 1000, 3, 4, 6]) ws (vs ++ [Value.int x, Value.int y, Value.int u, Value.int w]) := by
    refine ⟨nf_inA hl rfl, sgq_1495 ?_⟩
    · show MN4y (w_fi ws (n_v (vs ++ [Value.int x, Value.int y, Value.int u, Value.int w]) 5) 0) (w_ei ws (w_ar ws (n_v (vs ++ [Value.int x, Value.int y, Value.int u, Value.int w]) 2) 3)) (w_ei ws (w_ar ws (n_v (vs ++ [Value.int x, Value.int y, Value.int u, Value.int w]) 2) 4)) (w_ei ws (w_ar ws (n_v (vs ++ [Value.int x, Value.int y, Value.int u, Value.int w]) 2) 6)) (v_iv (n_v (vs ++ [Value.int x, Value.int y, Value.int u, Value.int w]) 12)) (v_iv (n_v (vs ++ [Value.int x, Value.int y, Value.int u, Value.int w]) 13)) (v_iv (n_v (vs ++ [Value.int x, Value.int y, Value.int u, Value.int w]) 3)) (v_iv (n_v (vs ++ [Value.int x, Value.int y, Value.int u, Value.int w]) 4)) (v_iv (n_v (vs ++ [Value.int x, Value.int y, Value.int u, Value.int w]) 9))
      simp only [e_2, e_3, e_4, e_5, e_9, e_12, e_13, q5, q2]
      exact vc_Dr_measure_9_5 (v_iv (n_v vs 3)) (v_iv (n_v vs 4)) (v_iv (n_v vs 7)) (v_iv (n_v vs 9)) (w_ei ws (w_ar ws (n_v vs 0) 3)) (w_ei ws (w_ar ws (n_v vs 0) 4)) (w_ei ws (w_ar ws (n_v vs 0) 6)) (w_ei ws (w_ar ws (n_v vs 1) 7)) (w_ei ws (w_ar ws (n_v vs 1) 8)) (w_fi ws (n_v vs 1) 0) (w_fi ws (n_v vs 0) 18) (w_fi ws (n_v vs 0) 20) (v_iv (Value.int u)) (v_iv (Value.int w)) k3 k4 k7 k9 d0 f0 h3 f6 kz_0_18 kz_0_20 kz_1_0 eu2 ew2
  exact ⟨(fun _ h => (by cases h)), [Value.int x, Value.int y, Value.int u, Value.int w], ag_four hx hy hu hw, List.forall_mem_cons.mpr ⟨⟨show (20 : Nat) < 100 from by decide, nf0⟩, List.forall_mem_cons.mpr ⟨⟨show (20 : Nat) < 100 from by decide, nf1⟩, List.forall_mem_cons.mpr ⟨⟨show (20 : Nat) < 100 from by decide, nf2⟩, List.forall_mem_cons.mpr ⟨⟨show (20 : Nat) < 100 from by decide, nf3⟩, List.forall_mem_cons.mpr ⟨⟨show (20 : Nat) < 100 from by decide, nf4⟩, List.forall_mem_cons.mpr ⟨⟨show (20 : Nat) < 100 from by decide, nf5⟩, (fun _ h => (by cases h))⟩⟩⟩⟩⟩⟩, (fun _ h => (by cases h))⟩
set_option maxHeartbeats 4000000 in
theorem vc_Dr_measure_10_0 (x3 : Int) (x4 : Int) (x8 : Int) (x10 : Int) (x11 : Int) (x14 : Int) (x_0 : Int → Int) (bends_0 : Int → Int) (bendX_0 : Int → Int) (nodes_0o1 : Int) (leastX_0 : Int) (mostX_0 : Int) (k3 : 0 ≤ x3 ∧ x3 ≤ 47) (k4 : 1 ≤ x4 ∧ x4 ≤ 24) (k8 : (-40000000) ≤ x8 ∧ x8 ≤ 690000000) (k10 : (-2147483648) ≤ x10 ∧ x10 ≤ 2147483647) (k11 : (-2147483648) ≤ x11 ∧ x11 ≤ 2147483647) (k14 : 2 ≤ x14 ∧ x14 ≤ 25) (f1 : x14 = x4 + 1) (f2 : MN4 (nodes_0o1) (x_0) (bends_0) (bendX_0) (x10) (x11) (x3) (x4) (x8)) (f9 : (leastX_0 ≤ x10) ∧ (leastX_0 ≤ x8)) (f10 : (x11 ≤ mostX_0) ∧ (x8 ≤ mostX_0)) (kz_0_17 : (-41000000) ≤ leastX_0 ∧ leastX_0 ≤ 690000000) (kz_0_19 : (-40000000) ≤ mostX_0 ∧ mostX_0 ≤ 1001000000) (kz_1_0 : 0 ≤ nodes_0o1 ∧ nodes_0o1 ≤ 24) : MN3 (leastX_0) (mostX_0) (nodes_0o1) (x_0) (bends_0) (bendX_0) (x3) (x14) := by
  first
    | (have h := (show MN4 nodes_0o1 x_0 bends_0 bendX_0 x10 x11 x3 x4 x8 by assumption)
       exact mn3_step h.1 h.2 rfl (by omega) (by omega) (by omega) (by omega) (by omega))
set_option maxHeartbeats 4000000 in
theorem vc_Dr_measure_10_1 (x3 : Int) (x4 : Int) (x9 : Int) (x12 : Int) (x13 : Int) (x14 : Int) (bends_0 : Int → Int) (nodes_0o1 : Int) (y_0 : Int → Int) (bendY_0 : Int → Int) (leastY_0 : Int) (mostY_0 : Int) (k3 : 0 ≤ x3 ∧ x3 ≤ 47) (k4 : 1 ≤ x4 ∧ x4 ≤ 24) (k9 : (-41000000) ≤ x9 ∧ x9 ≤ 1001000000) (k12 : (-2147483648) ≤ x12 ∧ x12 ≤ 2147483647) (k13 : (-2147483648) ≤ x13 ∧ x13 ≤ 2147483647) (k14 : 2 ≤ x14 ∧ x14 ≤ 25) (f1 : x14 = x4 + 1) (f3 : MN4y (nodes_0o1) (y_0) (bends_0) (bendY_0) (x12) (x13) (x3) (x4) (x9)) (f11 : (leastY_0 ≤ x12) ∧ (leastY_0 ≤ x9)) (f12 : (x13 ≤ mostY_0) ∧ (x9 ≤ mostY_0)) (kz_0_18 : (-41000000) ≤ leastY_0 ∧ leastY_0 ≤ 690000000) (kz_0_20 : (-40000000) ≤ mostY_0 ∧ mostY_0 ≤ 1001000000) (kz_1_0 : 0 ≤ nodes_0o1 ∧ nodes_0o1 ≤ 24) : MN3y (leastY_0) (mostY_0) (nodes_0o1) (y_0) (bends_0) (bendY_0) (x3) (x14) := by
  first
    | (have h := (show MN4y nodes_0o1 y_0 bends_0 bendY_0 x12 x13 x3 x4 x9 by assumption)
       exact mn3_step h.1 h.2 rfl (by omega) (by omega) (by omega) (by omega) (by omega))
def o_Dr_measure_10 : or_T := (90, 15, [(0, (2, 0, 0, [0])), (1, (2, 0, 0, [3])), (2, (2, 0, 0, [0])), (3, (0, 0, 47, [])), (4, (0, 1, 24, [])), (5, (2, 0, 0, [3])), (6, (2, 0, 0, [16])), (7, (0, 1, 24, [])), (8, (0, -40000000, 690000000, [])), (9, (0, -41000000, 1001000000, [])), (10, (0, -2147483648, 2147483647, [])), (11, (0, -2147483648, 2147483647, [])), (12, (0, -2147483648, 2147483647, [])), (13, (0, -2147483648, 2147483647, [])), (14, (0, 2, 25, []))], [(9, [6, 2], [4]), (6, [14, 4], [1]), (20, [2, 5, 10, 11, 3, 4, 8], [60, 1, 3, 929, 1000, 2, 4, 5]), (20, [2, 5, 12, 13, 3, 4, 9], [60, 1, 3, 936, 1000, 3, 4, 6]), (20, [2, 5, 3, 4, 9], [60, 0, 5, 940, 3, 4, 6, 1007, 1008]), (20, [2, 5, 3, 4, 8], [60, 0, 5, 933, 2, 4, 5, 1007, 1008]), (24, [1, 5], []), (20, [3, 5], [50, 1, 0, 1001, 0, 6, 4, 2, 1, 0, 0, 1, 2, 1, 1]), (24, [0, 2], []), (20, [2, 10, 8], [50, 1, 0, 17, 2, 7, 0, 3, 2, 0, 17, 1, 1, 0, 3, 2, 0, 17, 1, 2]), (20, [11, 2, 8], [50, 1, 0, 1019, 2, 7, 0, 2, 1, 0, 2, 1, 19, 0, 2, 1, 2, 2, 1, 19]), (20, [2, 12, 9], [50, 1, 0, 18, 2, 7, 0, 3, 2, 0, 18, 1, 1, 0, 3, 2, 0, 18, 1, 2]), (20, [13, 2, 9], [50, 1, 0, 1020, 2, 7, 0, 2, 1, 0, 2, 1, 20, 0, 2, 1, 2, 2, 1, 20]), (102, [13], [0, 17, 18, 19, 20]), (7, [4, 7], [5])], [], [], [(20, [2, 5, 3, 14], [60, 3, 3, 931, 17, 19, 1000, 2, 4, 5]), (20, [2, 5, 3, 14], [60, 3, 3, 938, 18, 20, 1000, 3, 4, 6])], [], [(14, 4, 1, 1), (14, 7, -4294967296, 1), (4, 7, -4294967296, 0)])
theorem oo_Dr_measure_10 {kA : Nat → ClassId} : or_ok PRD kA GG o_Dr_measure_10 := by
  refine or_mk fun A ta ws vs hD hth hl => ?_
  intro t0 r0 t1 r1 t2 r2 t3 k3 t4 k4 t5 r5 t6 r6 t7 k7 t8 k8 t9 k9 t10 k10 t11 k11 t12 k12 t13 k13 t14 k14 d0 d1 d2 f0 f1 f2 f3 f4 f5 f6 f7 f8 f9 f10 f11 f12 ta1 w1 le1 s1 f14
  replace f1 := shm_4 f1
  replace f2 := shm_1494 f2
  replace f3 := shm_1495 f3
  replace f6 := shm_5 f6
  replace f8 := shm_5 f8
  replace f9 := shm_1074 f9
  replace f10 := shm_1075 f10
  replace f11 := shm_1076 f11
  replace f12 := shm_1077 f12
  have q5 : n_v vs 5 = n_v vs 1 := f6.symm
  have q2 : n_v vs 2 = n_v vs 0 := f8.symm
  simp only [q2, q5] at f2 f3 f9 f10 f11 f12
  have kz_0_17 := fdq_198 hD hth r0
  have kz_0_18 := fdq_200 hD hth r0
  have kz_0_19 := fdq_199 hD hth r0
  have kz_0_20 := fdq_201 hD hth r0
  have kz_1_0 := fdq_21 hD hth r1
  have nf0 : fc_1 PRD (20, [2, 5, 3, 14], [60, 3, 3, 931, 17, 19, 1000, 2, 4, 5]) ws (vs) := by
    refine ⟨nf_in hl rfl, sgq_1492 ?_⟩
    · show MN3 (w_fi ws (n_v vs 2) 17) (w_fi ws (n_v vs 2) 19) (w_fi ws (n_v vs 5) 0) (w_ei ws (w_ar ws (n_v vs 2) 2)) (w_ei ws (w_ar ws (n_v vs 2) 4)) (w_ei ws (w_ar ws (n_v vs 2) 5)) (v_iv (n_v vs 3)) (v_iv (n_v vs 14))
      simp only [q5, q2]
      exact vc_Dr_measure_10_0 (v_iv (n_v vs 3)) (v_iv (n_v vs 4)) (v_iv (n_v vs 8)) (v_iv (n_v vs 10)) (v_iv (n_v vs 11)) (v_iv (n_v vs 14)) (w_ei ws (w_ar ws (n_v vs 0) 2)) (w_ei ws (w_ar ws (n_v vs 0) 4)) (w_ei ws (w_ar ws (n_v vs 0) 5)) (w_fi ws (n_v vs 1) 0) (w_fi ws (n_v vs 0) 17) (w_fi ws (n_v vs 0) 19) k3 k4 k8 k10 k11 k14 f1 f2 f9 f10 kz_0_17 kz_0_19 kz_1_0
  have nf1 : fc_1 PRD (20, [2, 5, 3, 14], [60, 3, 3, 938, 18, 20, 1000, 3, 4, 6]) ws (vs) := by
    refine ⟨nf_in hl rfl, sgq_1493 ?_⟩
    · show MN3y (w_fi ws (n_v vs 2) 18) (w_fi ws (n_v vs 2) 20) (w_fi ws (n_v vs 5) 0) (w_ei ws (w_ar ws (n_v vs 2) 3)) (w_ei ws (w_ar ws (n_v vs 2) 4)) (w_ei ws (w_ar ws (n_v vs 2) 6)) (v_iv (n_v vs 3)) (v_iv (n_v vs 14))
      simp only [q5, q2]
      exact vc_Dr_measure_10_1 (v_iv (n_v vs 3)) (v_iv (n_v vs 4)) (v_iv (n_v vs 9)) (v_iv (n_v vs 12)) (v_iv (n_v vs 13)) (v_iv (n_v vs 14)) (w_ei ws (w_ar ws (n_v vs 0) 4)) (w_fi ws (n_v vs 1) 0) (w_ei ws (w_ar ws (n_v vs 0) 3)) (w_ei ws (w_ar ws (n_v vs 0) 6)) (w_fi ws (n_v vs 0) 18) (w_fi ws (n_v vs 0) 20) k3 k4 k9 k12 k13 k14 f1 f3 f11 f12 kz_0_18 kz_0_20 kz_1_0
  refine ⟨(fun _ h => (by cases h)), [], trivial, ?_, (fun _ h => (by cases h))⟩
  rw [List.append_nil]
  exact List.forall_mem_cons.mpr ⟨⟨show (20 : Nat) < 100 from by decide, nf0⟩, List.forall_mem_cons.mpr ⟨⟨show (20 : Nat) < 100 from by decide, nf1⟩, (fun _ h => (by cases h))⟩⟩
set_option maxHeartbeats 4000000 in
theorem vc_Dr_measure_11_0 (leastX_0 : Int) (gx : Int) (kz_0_17 : (-41000000) ≤ leastX_0 ∧ leastX_0 ≤ 690000000) (ex2 : gx = leastX_0) : leastX_0 = gx := by
  first
    | omega
  
set_option maxHeartbeats 4000000 in
theorem vc_Dr_measure_11_1 (mostX_0 : Int) (gy : Int) (kz_0_19 : (-40000000) ≤ mostX_0 ∧ mostX_0 ≤ 1001000000) (ey2 : gy = mostX_0) : mostX_0 = gy := by
  first
    | omega
  
set_option maxHeartbeats 4000000 in
theorem vc_Dr_measure_11_2 (leastY_0 : Int) (gu : Int) (kz_0_18 : (-41000000) ≤ leastY_0 ∧ leastY_0 ≤ 690000000) (eu2 : gu = leastY_0) : leastY_0 = gu := by
  first
    | omega
  
set_option maxHeartbeats 4000000 in
theorem vc_Dr_measure_11_3 (mostY_0 : Int) (gw : Int) (kz_0_20 : (-40000000) ≤ mostY_0 ∧ mostY_0 ≤ 1001000000) (ew2 : gw = mostY_0) : mostY_0 = gw := by
  first
    | omega
  
set_option maxHeartbeats 4000000 in
theorem vc_Dr_measure_11_4 (x3 : Int) (x4 : Int) (x7 : Int) (x8 : Int) (bends_0 : Int → Int) (tail_0o1 : Int → Int) (head_0o1 : Int → Int) (x_0 : Int → Int) (bendX_0 : Int → Int) (leastX_0 : Int) (mostX_0 : Int) (nodes_0o1 : Int) (gx : Int) (gy : Int) (k3 : 0 ≤ x3 ∧ x3 ≤ 47) (k4 : 1 ≤ x4 ∧ x4 ≤ 24) (k7 : 1 ≤ x7 ∧ x7 ≤ 24) (k8 : (-41000000) ≤ x8 ∧ x8 ≤ 1001000000) (d0 : x7 + (-4294967296) ≤ x4 ∧ x4 ≤ x7 + 0) (f1 : PTX (x_0) (bends_0) (bendX_0) (tail_0o1) (head_0o1) (x3) (x4) (x8)) (h3 : x7 = bends_0 (x3)) (f5 : MN3 (leastX_0) (mostX_0) (nodes_0o1) (x_0) (bends_0) (bendX_0) (x3) (x4)) (kz_0_17 : (-41000000) ≤ leastX_0 ∧ leastX_0 ≤ 690000000) (kz_0_19 : (-40000000) ≤ mostX_0 ∧ mostX_0 ≤ 1001000000) (kz_1_0 : 0 ≤ nodes_0o1 ∧ nodes_0o1 ≤ 24) (ex2 : gx = leastX_0) (ey2 : gy = mostX_0) : MN4 (nodes_0o1) (x_0) (bends_0) (bendX_0) (gx) (gy) (x3) (x4) (x8) := by
  first
    | (have b := (‹x7 = bends_0 x3›)
       have q := (show MN3 leastX_0 mostX_0 nodes_0o1 x_0 bends_0 bendX_0 x3 x4 by assumption)
       rw [show gx = leastX_0 by omega, show gy = mostX_0 by omega]
       exact ⟨q, ptx_bend (show PTX x_0 bends_0 bendX_0 tail_0o1 head_0o1 x3 x4 x8 by assumption) (by have := q.2.1; omega) (by omega)⟩)
  
set_option maxHeartbeats 4000000 in
theorem vc_Dr_measure_11_5 (x3 : Int) (x4 : Int) (x7 : Int) (x9 : Int) (y_0 : Int → Int) (bends_0 : Int → Int) (bendY_0 : Int → Int) (tail_0o1 : Int → Int) (head_0o1 : Int → Int) (nodes_0o1 : Int) (leastY_0 : Int) (mostY_0 : Int) (gu : Int) (gw : Int) (k3 : 0 ≤ x3 ∧ x3 ≤ 47) (k4 : 1 ≤ x4 ∧ x4 ≤ 24) (k7 : 1 ≤ x7 ∧ x7 ≤ 24) (k9 : (-40000000) ≤ x9 ∧ x9 ≤ 690000000) (d0 : x7 + (-4294967296) ≤ x4 ∧ x4 ≤ x7 + 0) (f0 : PTY (y_0) (bends_0) (bendY_0) (tail_0o1) (head_0o1) (x3) (x4) (x9)) (h3 : x7 = bends_0 (x3)) (f6 : MN3y (leastY_0) (mostY_0) (nodes_0o1) (y_0) (bends_0) (bendY_0) (x3) (x4)) (kz_0_18 : (-41000000) ≤ leastY_0 ∧ leastY_0 ≤ 690000000) (kz_0_20 : (-40000000) ≤ mostY_0 ∧ mostY_0 ≤ 1001000000) (kz_1_0 : 0 ≤ nodes_0o1 ∧ nodes_0o1 ≤ 24) (eu2 : gu = leastY_0) (ew2 : gw = mostY_0) : MN4y (nodes_0o1) (y_0) (bends_0) (bendY_0) (gu) (gw) (x3) (x4) (x9) := by
  first
    | (have b := (‹x7 = bends_0 x3›)
       have q := (show MN3 leastY_0 mostY_0 nodes_0o1 y_0 bends_0 bendY_0 x3 x4 by assumption)
       rw [show gu = leastY_0 by omega, show gw = mostY_0 by omega]
       exact ⟨q, ptx_bend (show PTX y_0 bends_0 bendY_0 tail_0o1 head_0o1 x3 x4 x9 by assumption) (by have := q.2.1; omega) (by omega)⟩)
  
def o_Dr_measure_11 : or_T := (113, 10, [(0, (2, 0, 0, [0])), (1, (2, 0, 0, [3])), (2, (2, 0, 0, [0])), (3, (0, 0, 47, [])), (4, (0, 1, 24, [])), (5, (2, 0, 0, [3])), (6, (2, 0, 0, [16])), (7, (0, 1, 24, [])), (8, (0, -41000000, 1001000000, [])), (9, (0, -40000000, 690000000, []))], [(20, [2, 5, 3, 4, 9], [60, 0, 5, 940, 3, 4, 6, 1007, 1008]), (20, [2, 5, 3, 4, 8], [60, 0, 5, 933, 2, 4, 5, 1007, 1008]), (7, [4, 7], [5]), (10, [7, 6, 3], []), (9, [6, 2], [4]), (20, [2, 5, 3, 4], [60, 3, 3, 931, 17, 19, 1000, 2, 4, 5]), (20, [2, 5, 3, 4], [60, 3, 3, 938, 18, 20, 1000, 3, 4, 6]), (24, [1, 5], []), (20, [3, 5], [50, 1, 0, 1001, 0, 6, 4, 2, 1, 0, 0, 1, 2, 1, 1]), (24, [0, 2], [])], [], [(0, -2147483648, 2147483647, []), (0, -2147483648, 2147483647, []), (0, -2147483648, 2147483647, []), (0, -2147483648, 2147483647, [])], [(20, [2, 10], [50, 1, 0, 17, 1, 3, 2, 0, 17, 1, 1]), (20, [2, 11], [50, 1, 0, 19, 1, 3, 2, 0, 19, 1, 1]), (20, [2, 12], [50, 1, 0, 18, 1, 3, 2, 0, 18, 1, 1]), (20, [2, 13], [50, 1, 0, 20, 1, 3, 2, 0, 20, 1, 1]), (20, [2, 5, 10, 11, 3, 4, 8], [60, 1, 3, 929, 1000, 2, 4, 5]), (20, [2, 5, 12, 13, 3, 4, 9], [60, 1, 3, 936, 1000, 3, 4, 6])], [], [(4, 7, -4294967296, 0)])
theorem oo_Dr_measure_11 {kA : Nat → ClassId} : or_ok PRD kA GG o_Dr_measure_11 := by
  refine or_mk fun A ta ws vs hD hth hl => ?_
  intro t0 r0 t1 r1 t2 r2 t3 k3 t4 k4 t5 r5 t6 r6 t7 k7 t8 k8 t9 k9 d0 f0 f1 f2 f3 f4 f5 f6 f7 f8 f9
  replace f0 := shm_344 f0
  replace f1 := shm_343 f1
  replace f3 := shm_107 f3
  replace f4 := shm_108 f4
  replace f5 := shm_1492 f5
  replace f6 := shm_1493 f6
  replace f7 := shm_5 f7
  replace f9 := shm_5 f9
  have q5 : n_v vs 5 = n_v vs 1 := f7.symm
  have q2 : n_v vs 2 = n_v vs 0 := f9.symm
  simp only [q5, q2] at f0 f1 f4 f5 f6
  have ad_6 : v_ad (n_v vs 6) = w_ar ws (n_v vs 0) 4 := congrArg v_ad f4
  simp only [ad_6] at f3
  have h3 : v_iv (n_v vs 7) = w_ei ws (w_ar ws (n_v vs 0) 4) (v_iv (n_v vs 3)) := f3
  have kz_0_17 := fdq_198 hD hth r0
  have kz_0_18 := fdq_200 hD hth r0
  have kz_0_19 := fdq_199 hD hth r0
  have kz_0_20 := fdq_201 hD hth r0
  have kz_1_0 := fdq_21 hD hth r1
  obtain ⟨x, ex, hx⟩ := iv_ex (ta := ta) (lo := (-2147483648)) (hi := 2147483647) (z := w_fi ws (n_v vs 0) 17) (by omega) (by omega) (by omega) (by omega)
  have ex2 : v_iv (Value.int x) = w_fi ws (n_v vs 0) 17 := ex
  have ex3 : (-2147483648) ≤ v_iv (Value.int x) ∧ v_iv (Value.int x) ≤ 2147483647 := tv_rng hx
  obtain ⟨y, ey, hy⟩ := iv_ex (ta := ta) (lo := (-2147483648)) (hi := 2147483647) (z := w_fi ws (n_v vs 0) 19) (by omega) (by omega) (by omega) (by omega)
  have ey2 : v_iv (Value.int y) = w_fi ws (n_v vs 0) 19 := ey
  have ey3 : (-2147483648) ≤ v_iv (Value.int y) ∧ v_iv (Value.int y) ≤ 2147483647 := tv_rng hy
  obtain ⟨u, eu, hu⟩ := iv_ex (ta := ta) (lo := (-2147483648)) (hi := 2147483647) (z := w_fi ws (n_v vs 0) 18) (by omega) (by omega) (by omega) (by omega)
  have eu2 : v_iv (Value.int u) = w_fi ws (n_v vs 0) 18 := eu
  have eu3 : (-2147483648) ≤ v_iv (Value.int u) ∧ v_iv (Value.int u) ≤ 2147483647 := tv_rng hu
  obtain ⟨w, ew, hw⟩ := iv_ex (ta := ta) (lo := (-2147483648)) (hi := 2147483647) (z := w_fi ws (n_v vs 0) 20) (by omega) (by omega) (by omega) (by omega)
  have ew2 : v_iv (Value.int w) = w_fi ws (n_v vs 0) 20 := ew
  have ew3 : (-2147483648) ≤ v_iv (Value.int w) ∧ v_iv (Value.int w) ≤ 2147483647 := tv_rng hw
  have e_2 : n_v (vs ++ [Value.int x, Value.int y, Value.int u, Value.int w]) 2 = n_v vs 2 := n_v_old (by rw [hl]; decide)
  have e_3 : n_v (vs ++ [Value.int x, Value.int y, Value.int u, Value.int w]) 3 = n_v vs 3 := n_v_old (by rw [hl]; decide)
  have e_4 : n_v (vs ++ [Value.int x, Value.int y, Value.int u, Value.int w]) 4 = n_v vs 4 := n_v_old (by rw [hl]; decide)
  have e_5 : n_v (vs ++ [Value.int x, Value.int y, Value.int u, Value.int w]) 5 = n_v vs 5 := n_v_old (by rw [hl]; decide)
  have e_8 : n_v (vs ++ [Value.int x, Value.int y, Value.int u, Value.int w]) 8 = n_v vs 8 := n_v_old (by rw [hl]; decide)
  have e_9 : n_v (vs ++ [Value.int x, Value.int y, Value.int u, Value.int w]) 9 = n_v vs 9 := n_v_old (by rw [hl]; decide)
  have e_10 : n_v (vs ++ [Value.int x, Value.int y, Value.int u, Value.int w]) 10 = Value.int x := n_v_newk (k := 0) hl rfl
  have e_11 : n_v (vs ++ [Value.int x, Value.int y, Value.int u, Value.int w]) 11 = Value.int y := n_v_newk (k := 1) hl rfl
  have e_12 : n_v (vs ++ [Value.int x, Value.int y, Value.int u, Value.int w]) 12 = Value.int u := n_v_newk (k := 2) hl rfl
  have e_13 : n_v (vs ++ [Value.int x, Value.int y, Value.int u, Value.int w]) 13 = Value.int w := n_v_newk (k := 3) hl rfl
  have nf0 : fc_1 PRD (20, [2, 10], [50, 1, 0, 17, 1, 3, 2, 0, 17, 1, 1]) ws (vs ++ [Value.int x, Value.int y, Value.int u, Value.int w]) := by
    refine ⟨nf_inA hl rfl, sgq_1073 ?_⟩
    · show w_fi ws (n_v (vs ++ [Value.int x, Value.int y, Value.int u, Value.int w]) 2) 17 = v_iv (n_v (vs ++ [Value.int x, Value.int y, Value.int u, Value.int w]) 10)
      simp only [e_2, e_10, q2]
      exact vc_Dr_measure_11_0 (w_fi ws (n_v vs 0) 17) (v_iv (Value.int x)) kz_0_17 ex2
  have nf1 : fc_1 PRD (20, [2, 11], [50, 1, 0, 19, 1, 3, 2, 0, 19, 1, 1]) ws (vs ++ [Value.int x, Value.int y, Value.int u, Value.int w]) := by
    refine ⟨nf_inA hl rfl, sgq_1072 ?_⟩
    · show w_fi ws (n_v (vs ++ [Value.int x, Value.int y, Value.int u, Value.int w]) 2) 19 = v_iv (n_v (vs ++ [Value.int x, Value.int y, Value.int u, Value.int w]) 11)
      simp only [e_2, e_11, q2]
      exact vc_Dr_measure_11_1 (w_fi ws (n_v vs 0) 19) (v_iv (Value.int y)) kz_0_19 ey2
  have nf2 : fc_1 PRD (20, [2, 12], [50, 1, 0, 18, 1, 3, 2, 0, 18, 1, 1]) ws (vs ++ [Value.int x, Value.int y, Value.int u, Value.int w]) := by
    refine ⟨nf_inA hl rfl, sgq_1071 ?_⟩
    · show w_fi ws (n_v (vs ++ [Value.int x, Value.int y, Value.int u, Value.int w]) 2) 18 = v_iv (n_v (vs ++ [Value.int x, Value.int y, Value.int u, Value.int w]) 12)
      simp only [e_2, e_12, q2]
      exact vc_Dr_measure_11_2 (w_fi ws (n_v vs 0) 18) (v_iv (Value.int u)) kz_0_18 eu2
  have nf3 : fc_1 PRD (20, [2, 13], [50, 1, 0, 20, 1, 3, 2, 0, 20, 1, 1]) ws (vs ++ [Value.int x, Value.int y, Value.int u, Value.int w]) := by
    refine ⟨nf_inA hl rfl, sgq_1070 ?_⟩
    · show w_fi ws (n_v (vs ++ [Value.int x, Value.int y, Value.int u, Value.int w]) 2) 20 = v_iv (n_v (vs ++ [Value.int x, Value.int y, Value.int u, Value.int w]) 13)
      simp only [e_2, e_13, q2]
      exact vc_Dr_measure_11_3 (w_fi ws (n_v vs 0) 20) (v_iv (Value.int w)) kz_0_20 ew2
  have nf4 : fc_1 PRD (20, [2, 5, 10, 11, 3, 4, 8], [60, 1, 3, 929, 1000, 2, 4, 5]) ws (vs ++ [Value.int x, Value.int y, Value.int u, Value.int w]) := by
    refine ⟨nf_inA hl rfl, sgq_1494 ?_⟩
    · show MN4 (w_fi ws (n_v (vs ++ [Value.int x, Value.int y, Value.int u, Value.int w]) 5) 0) (w_ei ws (w_ar ws (n_v (vs ++ [Value.int x, Value.int y, Value.int u, Value.int w]) 2) 2)) (w_ei ws (w_ar ws (n_v (vs ++ [Value.int x, Value.int y, Value.int u, Value.int w]) 2) 4)) (w_ei ws (w_ar ws (n_v (vs ++ [Value.int x, Value.int y, Value.int u, Value.int w]) 2) 5)) (v_iv (n_v (vs ++ [Value.int x, Value.int y, Value.int u, Value.int w]) 10)) (v_iv (n_v (vs ++ [Value.int x, Value.int y, Value.int u, Value.int w]) 11)) (v_iv (n_v (vs ++ [Value.int x, Value.int y, Value.int u, Value.int w]) 3)) (v_iv (n_v (vs ++ [Value.int x, Value.int y, Value.int u, Value.int w]) 4)) (v_iv (n_v (vs ++ [Value.int x, Value.int y, Value.int u, Value.int w]) 8))
      simp only [e_2, e_3, e_4, e_5, e_8, e_10, e_11, q5, q2]
      exact vc_Dr_measure_11_4 (v_iv (n_v vs 3)) (v_iv (n_v vs 4)) (v_iv (n_v vs 7)) (v_iv (n_v vs 8)) (w_ei ws (w_ar ws (n_v vs 0) 4)) (w_ei ws (w_ar ws (n_v vs 1) 7)) (w_ei ws (w_ar ws (n_v vs 1) 8)) (w_ei ws (w_ar ws (n_v vs 0) 2)) (w_ei ws (w_ar ws (n_v vs 0) 5)) (w_fi ws (n_v vs 0) 17) (w_fi ws (n_v vs 0) 19) (w_fi ws (n_v vs 1) 0) (v_iv (Value.int x)) (v_iv (Value.int y)) k3 k4 k7 k8 d0 f1 h3 f5 kz_0_17 kz_0_19 kz_1_0 ex2 ey2
  have nf5 : fc_1 PRD (20, [2, 5, 12, 13, 3, 4, 9], [60, 1, 3, 936, 1000, 3, 4, 6]) ws (vs ++ [Value.int x, Value.int y, Value.int u, Value.int w]) := by
    refine ⟨nf_inA hl rfl, sgq_1495 ?_⟩
    · show MN4y (w_fi ws (n_v (vs ++ [Value.int x, Value.int y, Value.int u, Value.int w]) 5) 0) (w_ei ws (w_ar ws (n_v (vs ++ [Value.int x, Value.int y, Value.int u, Value.int w]) 2) 3)) (w_ei ws (w_ar ws (n_v (vs ++ [Value.int x, Value.int y, Value.int u, Value.int w]) 2) 4)) (w_ei ws (w_ar ws (n_v (vs ++ [Value.int x, Value.int y, Value.int u, Value.int w]) 2) 6)) (v_iv (n_v (vs ++ [Value.int x, Value.int y, Value.int u, Value.int w]) 12)) (v_iv (n_v (vs ++ [Value.int x, Value.int y, Value.int u, Value.int w]) 13)) (v_iv (n_v (vs ++ [Value.int x, Value.int y, Value.int u, Value.int w]) 3)) (v_iv (n_v (vs ++ [Value.int x, Value.int y, Value.int u, Value.int w]) 4)) (v_iv (n_v (vs ++ [Value.int x, Value.int y, Value.int u, Value.int w]) 9))
      simp only [e_2, e_3, e_4, e_5, e_9, e_12, e_13, q5, q2]
      exact vc_Dr_measure_11_5 (v_iv (n_v vs 3)) (v_iv (n_v vs 4)) (v_iv (n_v vs 7)) (v_iv (n_v vs 9)) (w_ei ws (w_ar ws (n_v vs 0) 3)) (w_ei ws (w_ar ws (n_v vs 0) 4)) (w_ei ws (w_ar ws (n_v vs 0) 6)) (w_ei ws (w_ar ws (n_v vs 1) 7)) (w_ei ws (w_ar ws (n_v vs 1) 8)) (w_fi ws (n_v vs 1) 0) (w_fi ws (n_v vs 0) 18) (w_fi ws (n_v vs 0) 20) (v_iv (Value.int u)) (v_iv (Value.int w)) k3 k4 k7 k9 d0 f0 h3 f6 kz_0_18 kz_0_20 kz_1_0 eu2 ew2
  exact ⟨(fun _ h => (by cases h)), [Value.int x, Value.int y, Value.int u, Value.int w], ag_four hx hy hu hw, List.forall_mem_cons.mpr ⟨⟨show (20 : Nat) < 100 from by decide, nf0⟩, List.forall_mem_cons.mpr ⟨⟨show (20 : Nat) < 100 from by decide, nf1⟩, List.forall_mem_cons.mpr ⟨⟨show (20 : Nat) < 100 from by decide, nf2⟩, List.forall_mem_cons.mpr ⟨⟨show (20 : Nat) < 100 from by decide, nf3⟩, List.forall_mem_cons.mpr ⟨⟨show (20 : Nat) < 100 from by decide, nf4⟩, List.forall_mem_cons.mpr ⟨⟨show (20 : Nat) < 100 from by decide, nf5⟩, (fun _ h => (by cases h))⟩⟩⟩⟩⟩⟩, (fun _ h => (by cases h))⟩
set_option maxHeartbeats 4000000 in
theorem vc_Dr_measure_12_0 (x3 : Int) (x4 : Int) (x8 : Int) (x10 : Int) (x11 : Int) (x14 : Int) (x_0 : Int → Int) (bends_0 : Int → Int) (bendX_0 : Int → Int) (nodes_0o1 : Int) (leastX_0 : Int) (mostX_0 : Int) (k3 : 0 ≤ x3 ∧ x3 ≤ 47) (k4 : 1 ≤ x4 ∧ x4 ≤ 24) (k8 : (-41000000) ≤ x8 ∧ x8 ≤ 1001000000) (k10 : (-2147483648) ≤ x10 ∧ x10 ≤ 2147483647) (k11 : (-2147483648) ≤ x11 ∧ x11 ≤ 2147483647) (k14 : 2 ≤ x14 ∧ x14 ≤ 25) (f1 : x14 = x4 + 1) (f2 : MN4 (nodes_0o1) (x_0) (bends_0) (bendX_0) (x10) (x11) (x3) (x4) (x8)) (f9 : (leastX_0 ≤ x10) ∧ (leastX_0 ≤ x8)) (f10 : (x11 ≤ mostX_0) ∧ (x8 ≤ mostX_0)) (kz_0_17 : (-41000000) ≤ leastX_0 ∧ leastX_0 ≤ 690000000) (kz_0_19 : (-40000000) ≤ mostX_0 ∧ mostX_0 ≤ 1001000000) (kz_1_0 : 0 ≤ nodes_0o1 ∧ nodes_0o1 ≤ 24) : MN3 (leastX_0) (mostX_0) (nodes_0o1) (x_0) (bends_0) (bendX_0) (x3) (x14) := by
  first
    | (have h := (show MN4 nodes_0o1 x_0 bends_0 bendX_0 x10 x11 x3 x4 x8 by assumption)
       exact mn3_step h.1 h.2 rfl (by omega) (by omega) (by omega) (by omega) (by omega))
set_option maxHeartbeats 4000000 in
theorem vc_Dr_measure_12_1 (x3 : Int) (x4 : Int) (x9 : Int) (x12 : Int) (x13 : Int) (x14 : Int) (bends_0 : Int → Int) (nodes_0o1 : Int) (y_0 : Int → Int) (bendY_0 : Int → Int) (leastY_0 : Int) (mostY_0 : Int) (k3 : 0 ≤ x3 ∧ x3 ≤ 47) (k4 : 1 ≤ x4 ∧ x4 ≤ 24) (k9 : (-40000000) ≤ x9 ∧ x9 ≤ 690000000) (k12 : (-2147483648) ≤ x12 ∧ x12 ≤ 2147483647) (k13 : (-2147483648) ≤ x13 ∧ x13 ≤ 2147483647) (k14 : 2 ≤ x14 ∧ x14 ≤ 25) (f1 : x14 = x4 + 1) (f3 : MN4y (nodes_0o1) (y_0) (bends_0) (bendY_0) (x12) (x13) (x3) (x4) (x9)) (f11 : (leastY_0 ≤ x12) ∧ (leastY_0 ≤ x9)) (f12 : (x13 ≤ mostY_0) ∧ (x9 ≤ mostY_0)) (kz_0_18 : (-41000000) ≤ leastY_0 ∧ leastY_0 ≤ 690000000) (kz_0_20 : (-40000000) ≤ mostY_0 ∧ mostY_0 ≤ 1001000000) (kz_1_0 : 0 ≤ nodes_0o1 ∧ nodes_0o1 ≤ 24) : MN3y (leastY_0) (mostY_0) (nodes_0o1) (y_0) (bends_0) (bendY_0) (x3) (x14) := by
  first
    | (have h := (show MN4y nodes_0o1 y_0 bends_0 bendY_0 x12 x13 x3 x4 x9 by assumption)
       exact mn3_step h.1 h.2 rfl (by omega) (by omega) (by omega) (by omega) (by omega))
def o_Dr_measure_12 : or_T := (90, 15, [(0, (2, 0, 0, [0])), (1, (2, 0, 0, [3])), (2, (2, 0, 0, [0])), (3, (0, 0, 47, [])), (4, (0, 1, 24, [])), (5, (2, 0, 0, [3])), (6, (2, 0, 0, [16])), (7, (0, 1, 24, [])), (8, (0, -41000000, 1001000000, [])), (9, (0, -40000000, 690000000, [])), (10, (0, -2147483648, 2147483647, [])), (11, (0, -2147483648, 2147483647, [])), (12, (0, -2147483648, 2147483647, [])), (13, (0, -2147483648, 2147483647, [])), (14, (0, 2, 25, []))], [(9, [6, 2], [4]), (6, [14, 4], [1]), (20, [2, 5, 10, 11, 3, 4, 8], [60, 1, 3, 929, 1000, 2, 4, 5]), (20, [2, 5, 12, 13, 3, 4, 9], [60, 1, 3, 936, 1000, 3, 4, 6]), (20, [2, 5, 3, 4, 9], [60, 0, 5, 940, 3, 4, 6, 1007, 1008]), (20, [2, 5, 3, 4, 8], [60, 0, 5, 933, 2, 4, 5, 1007, 1008]), (24, [1, 5], []), (20, [3, 5], [50, 1, 0, 1001, 0, 6, 4, 2, 1, 0, 0, 1, 2, 1, 1]), (24, [0, 2], []), (20, [2, 10, 8], [50, 1, 0, 17, 2, 7, 0, 3, 2, 0, 17, 1, 1, 0, 3, 2, 0, 17, 1, 2]), (20, [11, 2, 8], [50, 1, 0, 1019, 2, 7, 0, 2, 1, 0, 2, 1, 19, 0, 2, 1, 2, 2, 1, 19]), (20, [2, 12, 9], [50, 1, 0, 18, 2, 7, 0, 3, 2, 0, 18, 1, 1, 0, 3, 2, 0, 18, 1, 2]), (20, [13, 2, 9], [50, 1, 0, 1020, 2, 7, 0, 2, 1, 0, 2, 1, 20, 0, 2, 1, 2, 2, 1, 20]), (102, [13], [0, 17, 18, 19, 20]), (7, [4, 7], [5])], [], [], [(20, [2, 5, 3, 14], [60, 3, 3, 931, 17, 19, 1000, 2, 4, 5]), (20, [2, 5, 3, 14], [60, 3, 3, 938, 18, 20, 1000, 3, 4, 6])], [], [(14, 4, 1, 1), (14, 7, -4294967296, 1), (4, 7, -4294967296, 0)])
theorem oo_Dr_measure_12 {kA : Nat → ClassId} : or_ok PRD kA GG o_Dr_measure_12 := by
  refine or_mk fun A ta ws vs hD hth hl => ?_
  intro t0 r0 t1 r1 t2 r2 t3 k3 t4 k4 t5 r5 t6 r6 t7 k7 t8 k8 t9 k9 t10 k10 t11 k11 t12 k12 t13 k13 t14 k14 d0 d1 d2 f0 f1 f2 f3 f4 f5 f6 f7 f8 f9 f10 f11 f12 ta1 w1 le1 s1 f14
  replace f1 := shm_4 f1
  replace f2 := shm_1494 f2
  replace f3 := shm_1495 f3
  replace f6 := shm_5 f6
  replace f8 := shm_5 f8
  replace f9 := shm_1074 f9
  replace f10 := shm_1075 f10
  replace f11 := shm_1076 f11
  replace f12 := shm_1077 f12
  have q5 : n_v vs 5 = n_v vs 1 := f6.symm
  have q2 : n_v vs 2 = n_v vs 0 := f8.symm
  simp only [q2, q5] at f2 f3 f9 f10 f11 f12
  have kz_0_17 := fdq_198 hD hth r0
  have kz_0_18 := fdq_200 hD hth r0
  have kz_0_19 := fdq_199 hD hth r0
  have kz_0_20 := fdq_201 hD hth r0
  have kz_1_0 := fdq_21 hD hth r1
  have nf0 : fc_1 PRD (20, [2, 5, 3, 14], [60, 3, 3, 931, 17, 19, 1000, 2, 4, 5]) ws (vs) := by
    refine ⟨nf_in hl rfl, sgq_1492 ?_⟩
    · show MN3 (w_fi ws (n_v vs 2) 17) (w_fi ws (n_v vs 2) 19) (w_fi ws (n_v vs 5) 0) (w_ei ws (w_ar ws (n_v vs 2) 2)) (w_ei ws (w_ar ws (n_v vs 2) 4)) (w_ei ws (w_ar ws (n_v vs 2) 5)) (v_iv (n_v vs 3)) (v_iv (n_v vs 14))
      simp only [q5, q2]
      exact vc_Dr_measure_12_0 (v_iv (n_v vs 3)) (v_iv (n_v vs 4)) (v_iv (n_v vs 8)) (v_iv (n_v vs 10)) (v_iv (n_v vs 11)) (v_iv (n_v vs 14)) (w_ei ws (w_ar ws (n_v vs 0) 2)) (w_ei ws (w_ar ws (n_v vs 0) 4)) (w_ei ws (w_ar ws (n_v vs 0) 5)) (w_fi ws (n_v vs 1) 0) (w_fi ws (n_v vs 0) 17) (w_fi ws (n_v vs 0) 19) k3 k4 k8 k10 k11 k14 f1 f2 f9 f10 kz_0_17 kz_0_19 kz_1_0
  have nf1 : fc_1 PRD (20, [2, 5, 3, 14], [60, 3, 3, 938, 18, 20, 1000, 3, 4, 6]) ws (vs) := by
    refine ⟨nf_in hl rfl, sgq_1493 ?_⟩
    · show MN3y (w_fi ws (n_v vs 2) 18) (w_fi ws (n_v vs 2) 20) (w_fi ws (n_v vs 5) 0) (w_ei ws (w_ar ws (n_v vs 2) 3)) (w_ei ws (w_ar ws (n_v vs 2) 4)) (w_ei ws (w_ar ws (n_v vs 2) 6)) (v_iv (n_v vs 3)) (v_iv (n_v vs 14))
      simp only [q5, q2]
      exact vc_Dr_measure_12_1 (v_iv (n_v vs 3)) (v_iv (n_v vs 4)) (v_iv (n_v vs 9)) (v_iv (n_v vs 12)) (v_iv (n_v vs 13)) (v_iv (n_v vs 14)) (w_ei ws (w_ar ws (n_v vs 0) 4)) (w_fi ws (n_v vs 1) 0) (w_ei ws (w_ar ws (n_v vs 0) 3)) (w_ei ws (w_ar ws (n_v vs 0) 6)) (w_fi ws (n_v vs 0) 18) (w_fi ws (n_v vs 0) 20) k3 k4 k9 k12 k13 k14 f1 f3 f11 f12 kz_0_18 kz_0_20 kz_1_0
  refine ⟨(fun _ h => (by cases h)), [], trivial, ?_, (fun _ h => (by cases h))⟩
  rw [List.append_nil]
  exact List.forall_mem_cons.mpr ⟨⟨show (20 : Nat) < 100 from by decide, nf0⟩, List.forall_mem_cons.mpr ⟨⟨show (20 : Nat) < 100 from by decide, nf1⟩, (fun _ h => (by cases h))⟩⟩
set_option maxHeartbeats 4000000 in
theorem vc_Dr_measure_13_0 (leastX_0 : Int) (gx : Int) (kz_0_17 : (-41000000) ≤ leastX_0 ∧ leastX_0 ≤ 690000000) (ex2 : gx = leastX_0) : leastX_0 = gx := by
  first
    | omega
  
set_option maxHeartbeats 4000000 in
theorem vc_Dr_measure_13_1 (mostX_0 : Int) (gy : Int) (kz_0_19 : (-40000000) ≤ mostX_0 ∧ mostX_0 ≤ 1001000000) (ey2 : gy = mostX_0) : mostX_0 = gy := by
  first
    | omega
  
set_option maxHeartbeats 4000000 in
theorem vc_Dr_measure_13_2 (leastY_0 : Int) (gu : Int) (kz_0_18 : (-41000000) ≤ leastY_0 ∧ leastY_0 ≤ 690000000) (eu2 : gu = leastY_0) : leastY_0 = gu := by
  first
    | omega
  
set_option maxHeartbeats 4000000 in
theorem vc_Dr_measure_13_3 (mostY_0 : Int) (gw : Int) (kz_0_20 : (-40000000) ≤ mostY_0 ∧ mostY_0 ≤ 1001000000) (ew2 : gw = mostY_0) : mostY_0 = gw := by
  first
    | omega
  
set_option maxHeartbeats 4000000 in
theorem vc_Dr_measure_13_4 (x3 : Int) (x4 : Int) (x7 : Int) (x8 : Int) (bends_0 : Int → Int) (tail_0o1 : Int → Int) (head_0o1 : Int → Int) (x_0 : Int → Int) (bendX_0 : Int → Int) (leastX_0 : Int) (mostX_0 : Int) (nodes_0o1 : Int) (gx : Int) (gy : Int) (k3 : 0 ≤ x3 ∧ x3 ≤ 47) (k4 : 1 ≤ x4 ∧ x4 ≤ 24) (k7 : 1 ≤ x7 ∧ x7 ≤ 24) (k8 : (-41000000) ≤ x8 ∧ x8 ≤ 1001000000) (d0 : x7 + (-4294967296) ≤ x4 ∧ x4 ≤ x7 + 0) (f1 : PTX (x_0) (bends_0) (bendX_0) (tail_0o1) (head_0o1) (x3) (x4) (x8)) (h3 : x7 = bends_0 (x3)) (f5 : MN3 (leastX_0) (mostX_0) (nodes_0o1) (x_0) (bends_0) (bendX_0) (x3) (x4)) (kz_0_17 : (-41000000) ≤ leastX_0 ∧ leastX_0 ≤ 690000000) (kz_0_19 : (-40000000) ≤ mostX_0 ∧ mostX_0 ≤ 1001000000) (kz_1_0 : 0 ≤ nodes_0o1 ∧ nodes_0o1 ≤ 24) (ex2 : gx = leastX_0) (ey2 : gy = mostX_0) : MN4 (nodes_0o1) (x_0) (bends_0) (bendX_0) (gx) (gy) (x3) (x4) (x8) := by
  first
    | (have b := (‹x7 = bends_0 x3›)
       have q := (show MN3 leastX_0 mostX_0 nodes_0o1 x_0 bends_0 bendX_0 x3 x4 by assumption)
       rw [show gx = leastX_0 by omega, show gy = mostX_0 by omega]
       exact ⟨q, ptx_bend (show PTX x_0 bends_0 bendX_0 tail_0o1 head_0o1 x3 x4 x8 by assumption) (by have := q.2.1; omega) (by omega)⟩)
  
set_option maxHeartbeats 4000000 in
theorem vc_Dr_measure_13_5 (x3 : Int) (x4 : Int) (x7 : Int) (x9 : Int) (y_0 : Int → Int) (bends_0 : Int → Int) (bendY_0 : Int → Int) (tail_0o1 : Int → Int) (head_0o1 : Int → Int) (nodes_0o1 : Int) (leastY_0 : Int) (mostY_0 : Int) (gu : Int) (gw : Int) (k3 : 0 ≤ x3 ∧ x3 ≤ 47) (k4 : 1 ≤ x4 ∧ x4 ≤ 24) (k7 : 1 ≤ x7 ∧ x7 ≤ 24) (k9 : (-41000000) ≤ x9 ∧ x9 ≤ 1001000000) (d0 : x7 + (-4294967296) ≤ x4 ∧ x4 ≤ x7 + 0) (f0 : PTY (y_0) (bends_0) (bendY_0) (tail_0o1) (head_0o1) (x3) (x4) (x9)) (h3 : x7 = bends_0 (x3)) (f6 : MN3y (leastY_0) (mostY_0) (nodes_0o1) (y_0) (bends_0) (bendY_0) (x3) (x4)) (kz_0_18 : (-41000000) ≤ leastY_0 ∧ leastY_0 ≤ 690000000) (kz_0_20 : (-40000000) ≤ mostY_0 ∧ mostY_0 ≤ 1001000000) (kz_1_0 : 0 ≤ nodes_0o1 ∧ nodes_0o1 ≤ 24) (eu2 : gu = leastY_0) (ew2 : gw = mostY_0) : MN4y (nodes_0o1) (y_0) (bends_0) (bendY_0) (gu) (gw) (x3) (x4) (x9) := by
  first
    | (have b := (‹x7 = bends_0 x3›)
       have q := (show MN3 leastY_0 mostY_0 nodes_0o1 y_0 bends_0 bendY_0 x3 x4 by assumption)
       rw [show gu = leastY_0 by omega, show gw = mostY_0 by omega]
       exact ⟨q, ptx_bend (show PTX y_0 bends_0 bendY_0 tail_0o1 head_0o1 x3 x4 x9 by assumption) (by have := q.2.1; omega) (by omega)⟩)
  
def o_Dr_measure_13 : or_T := (113, 10, [(0, (2, 0, 0, [0])), (1, (2, 0, 0, [3])), (2, (2, 0, 0, [0])), (3, (0, 0, 47, [])), (4, (0, 1, 24, [])), (5, (2, 0, 0, [3])), (6, (2, 0, 0, [16])), (7, (0, 1, 24, [])), (8, (0, -41000000, 1001000000, [])), (9, (0, -41000000, 1001000000, []))], [(20, [2, 5, 3, 4, 9], [60, 0, 5, 940, 3, 4, 6, 1007, 1008]), (20, [2, 5, 3, 4, 8], [60, 0, 5, 933, 2, 4, 5, 1007, 1008]), (7, [4, 7], [5]), (10, [7, 6, 3], []), (9, [6, 2], [4]), (20, [2, 5, 3, 4], [60, 3, 3, 931, 17, 19, 1000, 2, 4, 5]), (20, [2, 5, 3, 4], [60, 3, 3, 938, 18, 20, 1000, 3, 4, 6]), (24, [1, 5], []), (20, [3, 5], [50, 1, 0, 1001, 0, 6, 4, 2, 1, 0, 0, 1, 2, 1, 1]), (24, [0, 2], [])], [], [(0, -2147483648, 2147483647, []), (0, -2147483648, 2147483647, []), (0, -2147483648, 2147483647, []), (0, -2147483648, 2147483647, [])], [(20, [2, 10], [50, 1, 0, 17, 1, 3, 2, 0, 17, 1, 1]), (20, [2, 11], [50, 1, 0, 19, 1, 3, 2, 0, 19, 1, 1]), (20, [2, 12], [50, 1, 0, 18, 1, 3, 2, 0, 18, 1, 1]), (20, [2, 13], [50, 1, 0, 20, 1, 3, 2, 0, 20, 1, 1]), (20, [2, 5, 10, 11, 3, 4, 8], [60, 1, 3, 929, 1000, 2, 4, 5]), (20, [2, 5, 12, 13, 3, 4, 9], [60, 1, 3, 936, 1000, 3, 4, 6])], [], [(4, 7, -4294967296, 0)])
theorem oo_Dr_measure_13 {kA : Nat → ClassId} : or_ok PRD kA GG o_Dr_measure_13 := by
  refine or_mk fun A ta ws vs hD hth hl => ?_
  intro t0 r0 t1 r1 t2 r2 t3 k3 t4 k4 t5 r5 t6 r6 t7 k7 t8 k8 t9 k9 d0 f0 f1 f2 f3 f4 f5 f6 f7 f8 f9
  replace f0 := shm_344 f0
  replace f1 := shm_343 f1
  replace f3 := shm_107 f3
  replace f4 := shm_108 f4
  replace f5 := shm_1492 f5
  replace f6 := shm_1493 f6
  replace f7 := shm_5 f7
  replace f9 := shm_5 f9
  have q5 : n_v vs 5 = n_v vs 1 := f7.symm
  have q2 : n_v vs 2 = n_v vs 0 := f9.symm
  simp only [q5, q2] at f0 f1 f4 f5 f6
  have ad_6 : v_ad (n_v vs 6) = w_ar ws (n_v vs 0) 4 := congrArg v_ad f4
  simp only [ad_6] at f3
  have h3 : v_iv (n_v vs 7) = w_ei ws (w_ar ws (n_v vs 0) 4) (v_iv (n_v vs 3)) := f3
  have kz_0_17 := fdq_198 hD hth r0
  have kz_0_18 := fdq_200 hD hth r0
  have kz_0_19 := fdq_199 hD hth r0
  have kz_0_20 := fdq_201 hD hth r0
  have kz_1_0 := fdq_21 hD hth r1
  obtain ⟨x, ex, hx⟩ := iv_ex (ta := ta) (lo := (-2147483648)) (hi := 2147483647) (z := w_fi ws (n_v vs 0) 17) (by omega) (by omega) (by omega) (by omega)
  have ex2 : v_iv (Value.int x) = w_fi ws (n_v vs 0) 17 := ex
  have ex3 : (-2147483648) ≤ v_iv (Value.int x) ∧ v_iv (Value.int x) ≤ 2147483647 := tv_rng hx
  obtain ⟨y, ey, hy⟩ := iv_ex (ta := ta) (lo := (-2147483648)) (hi := 2147483647) (z := w_fi ws (n_v vs 0) 19) (by omega) (by omega) (by omega) (by omega)
  have ey2 : v_iv (Value.int y) = w_fi ws (n_v vs 0) 19 := ey
  have ey3 : (-2147483648) ≤ v_iv (Value.int y) ∧ v_iv (Value.int y) ≤ 2147483647 := tv_rng hy
  obtain ⟨u, eu, hu⟩ := iv_ex (ta := ta) (lo := (-2147483648)) (hi := 2147483647) (z := w_fi ws (n_v vs 0) 18) (by omega) (by omega) (by omega) (by omega)
  have eu2 : v_iv (Value.int u) = w_fi ws (n_v vs 0) 18 := eu
  have eu3 : (-2147483648) ≤ v_iv (Value.int u) ∧ v_iv (Value.int u) ≤ 2147483647 := tv_rng hu
  obtain ⟨w, ew, hw⟩ := iv_ex (ta := ta) (lo := (-2147483648)) (hi := 2147483647) (z := w_fi ws (n_v vs 0) 20) (by omega) (by omega) (by omega) (by omega)
  have ew2 : v_iv (Value.int w) = w_fi ws (n_v vs 0) 20 := ew
  have ew3 : (-2147483648) ≤ v_iv (Value.int w) ∧ v_iv (Value.int w) ≤ 2147483647 := tv_rng hw
  have e_2 : n_v (vs ++ [Value.int x, Value.int y, Value.int u, Value.int w]) 2 = n_v vs 2 := n_v_old (by rw [hl]; decide)
  have e_3 : n_v (vs ++ [Value.int x, Value.int y, Value.int u, Value.int w]) 3 = n_v vs 3 := n_v_old (by rw [hl]; decide)
  have e_4 : n_v (vs ++ [Value.int x, Value.int y, Value.int u, Value.int w]) 4 = n_v vs 4 := n_v_old (by rw [hl]; decide)
  have e_5 : n_v (vs ++ [Value.int x, Value.int y, Value.int u, Value.int w]) 5 = n_v vs 5 := n_v_old (by rw [hl]; decide)
  have e_8 : n_v (vs ++ [Value.int x, Value.int y, Value.int u, Value.int w]) 8 = n_v vs 8 := n_v_old (by rw [hl]; decide)
  have e_9 : n_v (vs ++ [Value.int x, Value.int y, Value.int u, Value.int w]) 9 = n_v vs 9 := n_v_old (by rw [hl]; decide)
  have e_10 : n_v (vs ++ [Value.int x, Value.int y, Value.int u, Value.int w]) 10 = Value.int x := n_v_newk (k := 0) hl rfl
  have e_11 : n_v (vs ++ [Value.int x, Value.int y, Value.int u, Value.int w]) 11 = Value.int y := n_v_newk (k := 1) hl rfl
  have e_12 : n_v (vs ++ [Value.int x, Value.int y, Value.int u, Value.int w]) 12 = Value.int u := n_v_newk (k := 2) hl rfl
  have e_13 : n_v (vs ++ [Value.int x, Value.int y, Value.int u, Value.int w]) 13 = Value.int w := n_v_newk (k := 3) hl rfl
  have nf0 : fc_1 PRD (20, [2, 10], [50, 1, 0, 17, 1, 3, 2, 0, 17, 1, 1]) ws (vs ++ [Value.int x, Value.int y, Value.int u, Value.int w]) := by
    refine ⟨nf_inA hl rfl, sgq_1073 ?_⟩
    · show w_fi ws (n_v (vs ++ [Value.int x, Value.int y, Value.int u, Value.int w]) 2) 17 = v_iv (n_v (vs ++ [Value.int x, Value.int y, Value.int u, Value.int w]) 10)
      simp only [e_2, e_10, q2]
      exact vc_Dr_measure_13_0 (w_fi ws (n_v vs 0) 17) (v_iv (Value.int x)) kz_0_17 ex2
  have nf1 : fc_1 PRD (20, [2, 11], [50, 1, 0, 19, 1, 3, 2, 0, 19, 1, 1]) ws (vs ++ [Value.int x, Value.int y, Value.int u, Value.int w]) := by
    refine ⟨nf_inA hl rfl, sgq_1072 ?_⟩
    · show w_fi ws (n_v (vs ++ [Value.int x, Value.int y, Value.int u, Value.int w]) 2) 19 = v_iv (n_v (vs ++ [Value.int x, Value.int y, Value.int u, Value.int w]) 11)
      simp only [e_2, e_11, q2]
      exact vc_Dr_measure_13_1 (w_fi ws (n_v vs 0) 19) (v_iv (Value.int y)) kz_0_19 ey2
  have nf2 : fc_1 PRD (20, [2, 12], [50, 1, 0, 18, 1, 3, 2, 0, 18, 1, 1]) ws (vs ++ [Value.int x, Value.int y, Value.int u, Value.int w]) := by
    refine ⟨nf_inA hl rfl, sgq_1071 ?_⟩
    · show w_fi ws (n_v (vs ++ [Value.int x, Value.int y, Value.int u, Value.int w]) 2) 18 = v_iv (n_v (vs ++ [Value.int x, Value.int y, Value.int u, Value.int w]) 12)
      simp only [e_2, e_12, q2]
      exact vc_Dr_measure_13_2 (w_fi ws (n_v vs 0) 18) (v_iv (Value.int u)) kz_0_18 eu2
  have nf3 : fc_1 PRD (20, [2, 13], [50, 1, 0, 20, 1, 3, 2, 0, 20, 1, 1]) ws (vs ++ [Value.int x, Value.int y, Value.int u, Value.int w]) := by
    refine ⟨nf_inA hl rfl, sgq_1070 ?_⟩
    · show w_fi ws (n_v (vs ++ [Value.int x, Value.int y, Value.int u, Value.int w]) 2) 20 = v_iv (n_v (vs ++ [Value.int x, Value.int y, Value.int u, Value.int w]) 13)
      simp only [e_2, e_13, q2]
      exact vc_Dr_measure_13_3 (w_fi ws (n_v vs 0) 20) (v_iv (Value.int w)) kz_0_20 ew2
  have nf4 : fc_1 PRD (20, [2, 5, 10, 11, 3, 4, 8], [60, 1, 3, 929, 1000, 2, 4, 5]) ws (vs ++ [Value.int x, Value.int y, Value.int u, Value.int w]) := by
    refine ⟨nf_inA hl rfl, sgq_1494 ?_⟩
    · show MN4 (w_fi ws (n_v (vs ++ [Value.int x, Value.int y, Value.int u, Value.int w]) 5) 0) (w_ei ws (w_ar ws (n_v (vs ++ [Value.int x, Value.int y, Value.int u, Value.int w]) 2) 2)) (w_ei ws (w_ar ws (n_v (vs ++ [Value.int x, Value.int y, Value.int u, Value.int w]) 2) 4)) (w_ei ws (w_ar ws (n_v (vs ++ [Value.int x, Value.int y, Value.int u, Value.int w]) 2) 5)) (v_iv (n_v (vs ++ [Value.int x, Value.int y, Value.int u, Value.int w]) 10)) (v_iv (n_v (vs ++ [Value.int x, Value.int y, Value.int u, Value.int w]) 11)) (v_iv (n_v (vs ++ [Value.int x, Value.int y, Value.int u, Value.int w]) 3)) (v_iv (n_v (vs ++ [Value.int x, Value.int y, Value.int u, Value.int w]) 4)) (v_iv (n_v (vs ++ [Value.int x, Value.int y, Value.int u, Value.int w]) 8))
      simp only [e_2, e_3, e_4, e_5, e_8, e_10, e_11, q5, q2]
      exact vc_Dr_measure_13_4 (v_iv (n_v vs 3)) (v_iv (n_v vs 4)) (v_iv (n_v vs 7)) (v_iv (n_v vs 8)) (w_ei ws (w_ar ws (n_v vs 0) 4)) (w_ei ws (w_ar ws (n_v vs 1) 7)) (w_ei ws (w_ar ws (n_v vs 1) 8)) (w_ei ws (w_ar ws (n_v vs 0) 2)) (w_ei ws (w_ar ws (n_v vs 0) 5)) (w_fi ws (n_v vs 0) 17) (w_fi ws (n_v vs 0) 19) (w_fi ws (n_v vs 1) 0) (v_iv (Value.int x)) (v_iv (Value.int y)) k3 k4 k7 k8 d0 f1 h3 f5 kz_0_17 kz_0_19 kz_1_0 ex2 ey2
  have nf5 : fc_1 PRD (20, [2, 5, 12, 13, 3, 4, 9], [60, 1, 3, 936, 1000, 3, 4, 6]) ws (vs ++ [Value.int x, Value.int y, Value.int u, Value.int w]) := by
    refine ⟨nf_inA hl rfl, sgq_1495 ?_⟩
    · show MN4y (w_fi ws (n_v (vs ++ [Value.int x, Value.int y, Value.int u, Value.int w]) 5) 0) (w_ei ws (w_ar ws (n_v (vs ++ [Value.int x, Value.int y, Value.int u, Value.int w]) 2) 3)) (w_ei ws (w_ar ws (n_v (vs ++ [Value.int x, Value.int y, Value.int u, Value.int w]) 2) 4)) (w_ei ws (w_ar ws (n_v (vs ++ [Value.int x, Value.int y, Value.int u, Value.int w]) 2) 6)) (v_iv (n_v (vs ++ [Value.int x, Value.int y, Value.int u, Value.int w]) 12)) (v_iv (n_v (vs ++ [Value.int x, Value.int y, Value.int u, Value.int w]) 13)) (v_iv (n_v (vs ++ [Value.int x, Value.int y, Value.int u, Value.int w]) 3)) (v_iv (n_v (vs ++ [Value.int x, Value.int y, Value.int u, Value.int w]) 4)) (v_iv (n_v (vs ++ [Value.int x, Value.int y, Value.int u, Value.int w]) 9))
      simp only [e_2, e_3, e_4, e_5, e_9, e_12, e_13, q5, q2]
      exact vc_Dr_measure_13_5 (v_iv (n_v vs 3)) (v_iv (n_v vs 4)) (v_iv (n_v vs 7)) (v_iv (n_v vs 9)) (w_ei ws (w_ar ws (n_v vs 0) 3)) (w_ei ws (w_ar ws (n_v vs 0) 4)) (w_ei ws (w_ar ws (n_v vs 0) 6)) (w_ei ws (w_ar ws (n_v vs 1) 7)) (w_ei ws (w_ar ws (n_v vs 1) 8)) (w_fi ws (n_v vs 1) 0) (w_fi ws (n_v vs 0) 18) (w_fi ws (n_v vs 0) 20) (v_iv (Value.int u)) (v_iv (Value.int w)) k3 k4 k7 k9 d0 f0 h3 f6 kz_0_18 kz_0_20 kz_1_0 eu2 ew2
  exact ⟨(fun _ h => (by cases h)), [Value.int x, Value.int y, Value.int u, Value.int w], ag_four hx hy hu hw, List.forall_mem_cons.mpr ⟨⟨show (20 : Nat) < 100 from by decide, nf0⟩, List.forall_mem_cons.mpr ⟨⟨show (20 : Nat) < 100 from by decide, nf1⟩, List.forall_mem_cons.mpr ⟨⟨show (20 : Nat) < 100 from by decide, nf2⟩, List.forall_mem_cons.mpr ⟨⟨show (20 : Nat) < 100 from by decide, nf3⟩, List.forall_mem_cons.mpr ⟨⟨show (20 : Nat) < 100 from by decide, nf4⟩, List.forall_mem_cons.mpr ⟨⟨show (20 : Nat) < 100 from by decide, nf5⟩, (fun _ h => (by cases h))⟩⟩⟩⟩⟩⟩, (fun _ h => (by cases h))⟩
set_option maxHeartbeats 4000000 in
theorem vc_Dr_measure_14_0 (x3 : Int) (x4 : Int) (x8 : Int) (x10 : Int) (x11 : Int) (x14 : Int) (x_0 : Int → Int) (bends_0 : Int → Int) (bendX_0 : Int → Int) (nodes_0o1 : Int) (leastX_0 : Int) (mostX_0 : Int) (k3 : 0 ≤ x3 ∧ x3 ≤ 47) (k4 : 1 ≤ x4 ∧ x4 ≤ 24) (k8 : (-41000000) ≤ x8 ∧ x8 ≤ 1001000000) (k10 : (-2147483648) ≤ x10 ∧ x10 ≤ 2147483647) (k11 : (-2147483648) ≤ x11 ∧ x11 ≤ 2147483647) (k14 : 2 ≤ x14 ∧ x14 ≤ 25) (f1 : x14 = x4 + 1) (f2 : MN4 (nodes_0o1) (x_0) (bends_0) (bendX_0) (x10) (x11) (x3) (x4) (x8)) (f9 : (leastX_0 ≤ x10) ∧ (leastX_0 ≤ x8)) (f10 : (x11 ≤ mostX_0) ∧ (x8 ≤ mostX_0)) (kz_0_17 : (-41000000) ≤ leastX_0 ∧ leastX_0 ≤ 690000000) (kz_0_19 : (-40000000) ≤ mostX_0 ∧ mostX_0 ≤ 1001000000) (kz_1_0 : 0 ≤ nodes_0o1 ∧ nodes_0o1 ≤ 24) : MN3 (leastX_0) (mostX_0) (nodes_0o1) (x_0) (bends_0) (bendX_0) (x3) (x14) := by
  first
    | (have h := (show MN4 nodes_0o1 x_0 bends_0 bendX_0 x10 x11 x3 x4 x8 by assumption)
       exact mn3_step h.1 h.2 rfl (by omega) (by omega) (by omega) (by omega) (by omega))
set_option maxHeartbeats 4000000 in
theorem vc_Dr_measure_14_1 (x3 : Int) (x4 : Int) (x9 : Int) (x12 : Int) (x13 : Int) (x14 : Int) (bends_0 : Int → Int) (nodes_0o1 : Int) (y_0 : Int → Int) (bendY_0 : Int → Int) (leastY_0 : Int) (mostY_0 : Int) (k3 : 0 ≤ x3 ∧ x3 ≤ 47) (k4 : 1 ≤ x4 ∧ x4 ≤ 24) (k9 : (-41000000) ≤ x9 ∧ x9 ≤ 1001000000) (k12 : (-2147483648) ≤ x12 ∧ x12 ≤ 2147483647) (k13 : (-2147483648) ≤ x13 ∧ x13 ≤ 2147483647) (k14 : 2 ≤ x14 ∧ x14 ≤ 25) (f1 : x14 = x4 + 1) (f3 : MN4y (nodes_0o1) (y_0) (bends_0) (bendY_0) (x12) (x13) (x3) (x4) (x9)) (f11 : (leastY_0 ≤ x12) ∧ (leastY_0 ≤ x9)) (f12 : (x13 ≤ mostY_0) ∧ (x9 ≤ mostY_0)) (kz_0_18 : (-41000000) ≤ leastY_0 ∧ leastY_0 ≤ 690000000) (kz_0_20 : (-40000000) ≤ mostY_0 ∧ mostY_0 ≤ 1001000000) (kz_1_0 : 0 ≤ nodes_0o1 ∧ nodes_0o1 ≤ 24) : MN3y (leastY_0) (mostY_0) (nodes_0o1) (y_0) (bends_0) (bendY_0) (x3) (x14) := by
  first
    | (have h := (show MN4y nodes_0o1 y_0 bends_0 bendY_0 x12 x13 x3 x4 x9 by assumption)
       exact mn3_step h.1 h.2 rfl (by omega) (by omega) (by omega) (by omega) (by omega))
def o_Dr_measure_14 : or_T := (90, 15, [(0, (2, 0, 0, [0])), (1, (2, 0, 0, [3])), (2, (2, 0, 0, [0])), (3, (0, 0, 47, [])), (4, (0, 1, 24, [])), (5, (2, 0, 0, [3])), (6, (2, 0, 0, [16])), (7, (0, 1, 24, [])), (8, (0, -41000000, 1001000000, [])), (9, (0, -41000000, 1001000000, [])), (10, (0, -2147483648, 2147483647, [])), (11, (0, -2147483648, 2147483647, [])), (12, (0, -2147483648, 2147483647, [])), (13, (0, -2147483648, 2147483647, [])), (14, (0, 2, 25, []))], [(9, [6, 2], [4]), (6, [14, 4], [1]), (20, [2, 5, 10, 11, 3, 4, 8], [60, 1, 3, 929, 1000, 2, 4, 5]), (20, [2, 5, 12, 13, 3, 4, 9], [60, 1, 3, 936, 1000, 3, 4, 6]), (20, [2, 5, 3, 4, 9], [60, 0, 5, 940, 3, 4, 6, 1007, 1008]), (20, [2, 5, 3, 4, 8], [60, 0, 5, 933, 2, 4, 5, 1007, 1008]), (24, [1, 5], []), (20, [3, 5], [50, 1, 0, 1001, 0, 6, 4, 2, 1, 0, 0, 1, 2, 1, 1]), (24, [0, 2], []), (20, [2, 10, 8], [50, 1, 0, 17, 2, 7, 0, 3, 2, 0, 17, 1, 1, 0, 3, 2, 0, 17, 1, 2]), (20, [11, 2, 8], [50, 1, 0, 1019, 2, 7, 0, 2, 1, 0, 2, 1, 19, 0, 2, 1, 2, 2, 1, 19]), (20, [2, 12, 9], [50, 1, 0, 18, 2, 7, 0, 3, 2, 0, 18, 1, 1, 0, 3, 2, 0, 18, 1, 2]), (20, [13, 2, 9], [50, 1, 0, 1020, 2, 7, 0, 2, 1, 0, 2, 1, 20, 0, 2, 1, 2, 2, 1, 20]), (102, [13], [0, 17, 18, 19, 20]), (7, [4, 7], [5])], [], [], [(20, [2, 5, 3, 14], [60, 3, 3, 931, 17, 19, 1000, 2, 4, 5]), (20, [2, 5, 3, 14], [60, 3, 3, 938, 18, 20, 1000, 3, 4, 6])], [], [(14, 4, 1, 1), (14, 7, -4294967296, 1), (4, 7, -4294967296, 0)])
theorem oo_Dr_measure_14 {kA : Nat → ClassId} : or_ok PRD kA GG o_Dr_measure_14 := by
  refine or_mk fun A ta ws vs hD hth hl => ?_
  intro t0 r0 t1 r1 t2 r2 t3 k3 t4 k4 t5 r5 t6 r6 t7 k7 t8 k8 t9 k9 t10 k10 t11 k11 t12 k12 t13 k13 t14 k14 d0 d1 d2 f0 f1 f2 f3 f4 f5 f6 f7 f8 f9 f10 f11 f12 ta1 w1 le1 s1 f14
  replace f1 := shm_4 f1
  replace f2 := shm_1494 f2
  replace f3 := shm_1495 f3
  replace f6 := shm_5 f6
  replace f8 := shm_5 f8
  replace f9 := shm_1074 f9
  replace f10 := shm_1075 f10
  replace f11 := shm_1076 f11
  replace f12 := shm_1077 f12
  have q5 : n_v vs 5 = n_v vs 1 := f6.symm
  have q2 : n_v vs 2 = n_v vs 0 := f8.symm
  simp only [q2, q5] at f2 f3 f9 f10 f11 f12
  have kz_0_17 := fdq_198 hD hth r0
  have kz_0_18 := fdq_200 hD hth r0
  have kz_0_19 := fdq_199 hD hth r0
  have kz_0_20 := fdq_201 hD hth r0
  have kz_1_0 := fdq_21 hD hth r1
  have nf0 : fc_1 PRD (20, [2, 5, 3, 14], [60, 3, 3, 931, 17, 19, 1000, 2, 4, 5]) ws (vs) := by
    refine ⟨nf_in hl rfl, sgq_1492 ?_⟩
    · show MN3 (w_fi ws (n_v vs 2) 17) (w_fi ws (n_v vs 2) 19) (w_fi ws (n_v vs 5) 0) (w_ei ws (w_ar ws (n_v vs 2) 2)) (w_ei ws (w_ar ws (n_v vs 2) 4)) (w_ei ws (w_ar ws (n_v vs 2) 5)) (v_iv (n_v vs 3)) (v_iv (n_v vs 14))
      simp only [q5, q2]
      exact vc_Dr_measure_14_0 (v_iv (n_v vs 3)) (v_iv (n_v vs 4)) (v_iv (n_v vs 8)) (v_iv (n_v vs 10)) (v_iv (n_v vs 11)) (v_iv (n_v vs 14)) (w_ei ws (w_ar ws (n_v vs 0) 2)) (w_ei ws (w_ar ws (n_v vs 0) 4)) (w_ei ws (w_ar ws (n_v vs 0) 5)) (w_fi ws (n_v vs 1) 0) (w_fi ws (n_v vs 0) 17) (w_fi ws (n_v vs 0) 19) k3 k4 k8 k10 k11 k14 f1 f2 f9 f10 kz_0_17 kz_0_19 kz_1_0
  have nf1 : fc_1 PRD (20, [2, 5, 3, 14], [60, 3, 3, 938, 18, 20, 1000, 3, 4, 6]) ws (vs) := by
    refine ⟨nf_in hl rfl, sgq_1493 ?_⟩
    · show MN3y (w_fi ws (n_v vs 2) 18) (w_fi ws (n_v vs 2) 20) (w_fi ws (n_v vs 5) 0) (w_ei ws (w_ar ws (n_v vs 2) 3)) (w_ei ws (w_ar ws (n_v vs 2) 4)) (w_ei ws (w_ar ws (n_v vs 2) 6)) (v_iv (n_v vs 3)) (v_iv (n_v vs 14))
      simp only [q5, q2]
      exact vc_Dr_measure_14_1 (v_iv (n_v vs 3)) (v_iv (n_v vs 4)) (v_iv (n_v vs 9)) (v_iv (n_v vs 12)) (v_iv (n_v vs 13)) (v_iv (n_v vs 14)) (w_ei ws (w_ar ws (n_v vs 0) 4)) (w_fi ws (n_v vs 1) 0) (w_ei ws (w_ar ws (n_v vs 0) 3)) (w_ei ws (w_ar ws (n_v vs 0) 6)) (w_fi ws (n_v vs 0) 18) (w_fi ws (n_v vs 0) 20) k3 k4 k9 k12 k13 k14 f1 f3 f11 f12 kz_0_18 kz_0_20 kz_1_0
  refine ⟨(fun _ h => (by cases h)), [], trivial, ?_, (fun _ h => (by cases h))⟩
  rw [List.append_nil]
  exact List.forall_mem_cons.mpr ⟨⟨show (20 : Nat) < 100 from by decide, nf0⟩, List.forall_mem_cons.mpr ⟨⟨show (20 : Nat) < 100 from by decide, nf1⟩, (fun _ h => (by cases h))⟩⟩
def n_Dr_measure_an : List an_T := [(42, [(0, (2, 0, 0, [0])), (1, (0, 1, 24, []))], [], (0, 0), [(0, 0, 99958), (1, 3, 24), (0, 0, 100000), (0, 0, 0), (0, 0, 0)], [], [((0, 0), (2, 0, 0, [3]))], [(2, 0, 0, [0]), (2, 0, 0, [3])], 0, [], [(20, [2, 3], [60, 2, 1, 927, 17, 19, 2]), (20, [2, 3], [60, 2, 1, 934, 18, 20, 3]), (24, [1, 4], []), (24, [0, 2], [])]), (77, [(0, (2, 0, 0, [0])), (1, (0, 0, 48, []))], [], (0, 0), [(0, 0, 99923), (1, 3, 48), (0, 0, 100000), (0, 0, 0), (0, 0, 0)], [], [((0, 0), (2, 0, 0, [3]))], [(2, 0, 0, [0]), (2, 0, 0, [3])], 0, [], [(20, [2, 4, 3], [60, 3, 3, 930, 17, 19, 1000, 2, 4, 5]), (20, [2, 4, 3], [60, 3, 3, 937, 18, 20, 1000, 3, 4, 6]), (24, [1, 4], []), (20, [3, 4], [50, 1, 0, 1001, 0, 2, 1, 0, 2, 1, 1]), (24, [0, 2], [])]), (90, [(0, (2, 0, 0, [0])), (1, (0, 0, 47, [])), (2, (0, 1, 25, []))], [], (0, 0), [(0, 0, 99923), (1, 3, 48), (0, 0, 99910), (1, 4, 25), (0, 0, 100000)], [], [((0, 0), (2, 0, 0, [3]))], [(2, 0, 0, [0]), (2, 0, 0, [3])], 0, [], [(20, [2, 5, 3, 4], [60, 3, 3, 931, 17, 19, 1000, 2, 4, 5]), (20, [2, 5, 3, 4], [60, 3, 3, 938, 18, 20, 1000, 3, 4, 6]), (24, [1, 5], []), (20, [3, 5], [50, 1, 0, 1001, 0, 6, 4, 2, 1, 0, 0, 1, 2, 1, 1]), (24, [0, 2], [])])]
def t_Dr_measure_ct : ct_L := [(1, 128, e_Dr_pointX), (1, 134, e_Dr_pointY), (1, 147, e_Dr_take)]
set_option maxRecDepth 100000 in
theorem c_Dr_measure {l : Launch} {D : va_G} {kA : Nat → ClassId} (h_Dr_pointX : ct_ok PRD l D kA GG y_Dr_pointX z_Dr_pointX e_Dr_pointX) (h_Dr_pointY : ct_ok PRD l D kA GG y_Dr_pointY z_Dr_pointY e_Dr_pointY) (h_Dr_take : ct_ok PRD l D kA GG y_Dr_take z_Dr_take e_Dr_take) : ct_ok PRD l D kA GG y_Dr_measure z_Dr_measure e_Dr_measure := chk_all_ok (FT := [(15, 0, 2), (19, 0, 3), (22, 0, 4), (74, 0, 0), (141, 3, 0), (151, 3, 1)]) (PT := [(62, 0, 17, .int), (65, 0, 18, .int), (68, 0, 19, .int), (71, 0, 20, .int)]) (CT := t_Dr_measure_ct) (KT := []) (NT := []) (AN := n_Dr_measure_an) (OT := [o_Dr_measure_0, o_Dr_measure_1, o_Dr_measure_2, o_Dr_measure_3, o_Dr_measure_4, o_Dr_measure_5, o_Dr_measure_6, o_Dr_measure_7, o_Dr_measure_8, o_Dr_measure_9, o_Dr_measure_10, o_Dr_measure_11, o_Dr_measure_12, o_Dr_measure_13, o_Dr_measure_14]) 5 344 (List.forall_mem_cons.mpr ⟨oo_Dr_measure_0, List.forall_mem_cons.mpr ⟨oo_Dr_measure_1, List.forall_mem_cons.mpr ⟨oo_Dr_measure_2, List.forall_mem_cons.mpr ⟨oo_Dr_measure_3, List.forall_mem_cons.mpr ⟨oo_Dr_measure_4, List.forall_mem_cons.mpr ⟨oo_Dr_measure_5, List.forall_mem_cons.mpr ⟨oo_Dr_measure_6, List.forall_mem_cons.mpr ⟨oo_Dr_measure_7, List.forall_mem_cons.mpr ⟨oo_Dr_measure_8, List.forall_mem_cons.mpr ⟨oo_Dr_measure_9, List.forall_mem_cons.mpr ⟨oo_Dr_measure_10, List.forall_mem_cons.mpr ⟨oo_Dr_measure_11, List.forall_mem_cons.mpr ⟨oo_Dr_measure_12, List.forall_mem_cons.mpr ⟨oo_Dr_measure_13, List.forall_mem_cons.mpr ⟨oo_Dr_measure_14, List.forall_mem_nil _⟩⟩⟩⟩⟩⟩⟩⟩⟩⟩⟩⟩⟩⟩⟩) (by decide +kernel) ⟨List.forall_mem_cons.mpr ⟨gf_Dr_15, List.forall_mem_cons.mpr ⟨gf_Dr_19, List.forall_mem_cons.mpr ⟨gf_Dr_22, List.forall_mem_cons.mpr ⟨gf_Dr_74, List.forall_mem_cons.mpr ⟨gf_Dr_141, List.forall_mem_cons.mpr ⟨gf_Dr_151, List.forall_mem_nil _⟩⟩⟩⟩⟩⟩, List.forall_mem_cons.mpr ⟨pf_Dr_62, List.forall_mem_cons.mpr ⟨pf_Dr_65, List.forall_mem_cons.mpr ⟨pf_Dr_68, List.forall_mem_cons.mpr ⟨pf_Dr_71, List.forall_mem_nil _⟩⟩⟩⟩, List.forall_mem_cons.mpr ⟨cl_virtual (y := y_Dr_pointX) (ci := 0) rfl rfl ⟨_, _, rfl⟩ (by decide +kernel) h_Dr_pointX wm_1986 wm_8 wm_1983 wm_1984 wm_1985 ⟨by decide, by decide, by decide +kernel⟩ (by decide), List.forall_mem_cons.mpr ⟨cl_virtual (y := y_Dr_pointY) (ci := 0) rfl rfl ⟨_, _, rfl⟩ (by decide +kernel) h_Dr_pointY wm_1991 wm_8 wm_1988 wm_1989 wm_1990 ⟨by decide, by decide, by decide +kernel⟩ (by decide), List.forall_mem_cons.mpr ⟨cl_virtual (y := y_Dr_take) (ci := 0) rfl rfl ⟨_, _, rfl⟩ (by decide +kernel) h_Dr_take wm_2070 wm_8 wm_2067 wm_2069 wv_10_7 ⟨by decide, by decide, by decide +kernel⟩ (by decide), List.forall_mem_nil _⟩⟩⟩, List.forall_mem_nil _, List.forall_mem_nil _, GG_pl⟩ (by decide +kernel)

set_option maxHeartbeats 4000000 in
theorem vc_Em_splitCycle_0_r0 (x6 : Int) (x8 : Int) (wayLength_0 : Int) (k6 : 0 ≤ x6 ∧ x6 ≤ 27) (k8 : (-1) ≤ x8 ∧ x8 ≤ 26) (d0 : x6 + (-1) ≤ x8 ∧ x8 ≤ x6 + (-1)) (g2 : x6 = wayLength_0) (f8 : 2 ≤ wayLength_0) (kz_0_15 : 0 ≤ wayLength_0 ∧ wayLength_0 ≤ 27) : 1 ≤ x8 ∧ x8 ≤ 26 := by
  first
    | omega
def o_Em_splitCycle_0 : or_T := (22, 9, [(0, (2, 0, 0, [1])), (1, (2, 0, 0, [30])), (2, (2, 0, 0, [35])), (3, (0, 0, 49, [])), (4, (0, 0, 0, [])), (5, (0, 0, 24, [])), (6, (0, 0, 27, [])), (7, (0, 1, 1, [])), (8, (0, -1, 26, []))], [(9, [1, 0], [9]), (2, [8, 6, 7], []), (9, [6, 0], [15]), (9, [2, 0], [14]), (10, [5, 2, 4], []), (9, [3, 0], [18]), (20, [0], [60, 2, 2, 603, 7, 6, 8, 9]), (20, [0], [60, 2, 1, 613, 6, 15, 14]), (20, [0], [50, 1, 0, 15, 0, 2, 0, 2, 2, 0, 15]), (20, [0], [50, 1, 0, 7, 0, 7, 4, 3, 2, 0, 7, 0, 1, 0, 50]), (20, [0], [50, 2, 0, 18, 7, 0, 7, 4, 3, 2, 0, 18, 0, 1, 2, 0, 7]), (20, [0], [60, 2, 0, 602, 6, 5])], [(8, (0, 1, 26, []))], [], [], [], [(8, 6, -1, -1)])
theorem oo_Em_splitCycle_0 {kA : Nat → ClassId} : or_ok PRD kA GG o_Em_splitCycle_0 := by
  refine or_mk fun A ta ws vs hD hth hl => ?_
  intro t0 r0 t1 r1 t2 r2 t3 k3 t4 k4 t5 k5 t6 k6 t7 k7 t8 k8 d0 f0 f1 f2 f3 f4 f5 f6 f7 f8 f9 f10 f11
  replace f2 := shm_177 f2
  have g2 : v_iv (n_v vs 6) = w_fi ws (n_v vs 0) 15 := congrArg v_iv f2
  have kz_0_15 := fdq_54 hD hth r0
  have hrf0 : 1 ≤ v_iv (n_v vs 8) ∧ v_iv (n_v vs 8) ≤ 26 := vc_Em_splitCycle_0_r0 (v_iv (n_v vs 6)) (v_iv (n_v vs 8)) (w_fi ws (n_v vs 0) 15) k6 k8 d0 g2 (shm_1496 f8) kz_0_15
  have rf8 : tv_ok ta (0, 1, 26, []) (n_v vs 8) := tv_in t8 (by first | omega | grind) (by first | omega | grind)
  refine ⟨List.forall_mem_cons.mpr ⟨rf8, (fun _ h => (by cases h))⟩, [], trivial, ?_, (fun _ h => (by cases h))⟩
  rw [List.append_nil]
  exact (fun _ h => (by cases h))
set_option maxHeartbeats 4000000 in
theorem vc_Em_splitCycle_1_0 (x3 : Int) (pieceCycle_0 : Int) (cycles_0 : Int) (k3 : 0 ≤ x3 ∧ x3 ≤ 49) (g6 : x3 = pieceCycle_0) (f11 : (pieceCycle_0 + 1) ≤ cycles_0) (kz_0_7 : 0 ≤ cycles_0 ∧ cycles_0 ≤ 50) (kz_0_18 : 0 ≤ pieceCycle_0 ∧ pieceCycle_0 ≤ 49) : (0 ≤ x3) ∧ ((x3 + 1) ≤ cycles_0) := by
  first
    | omega
def o_Em_splitCycle_1 : or_T := (28, 10, [(0, (2, 0, 0, [1])), (3, (0, 0, 49, []))], [(9, [3, 0], [18]), (20, [0], [50, 2, 0, 18, 7, 0, 7, 4, 3, 2, 0, 18, 0, 1, 2, 0, 7])], [], [], [(20, [3, 0], [50, 1, 0, 1007, 2, 6, 0, 2, 0, 0, 1, 0, 0, 6, 4, 2, 1, 0, 0, 1, 2, 1, 7])], [], [])
theorem oo_Em_splitCycle_1 {kA : Nat → ClassId} : or_ok PRD kA GG o_Em_splitCycle_1 := by
  refine or_mk fun A ta ws vs hD hth hl => ?_
  intro t0 r0 t3 k3 f6 f11
  replace f6 := shm_799 f6
  have g6 : v_iv (n_v vs 3) = w_fi ws (n_v vs 0) 18 := congrArg v_iv f6
  have kz_0_7 := fdq_49 hD hth r0
  have kz_0_18 := fdq_286 hD hth r0
  have nf0 : fc_1 PRD (20, [3, 0], [50, 1, 0, 1007, 2, 6, 0, 2, 0, 0, 1, 0, 0, 6, 4, 2, 1, 0, 0, 1, 2, 1, 7]) ws (vs) := ⟨nf_in hl rfl, sgq_802 (vc_Em_splitCycle_1_0 (v_iv (n_v vs 3)) (w_fi ws (n_v vs 0) 18) (w_fi ws (n_v vs 0) 7) k3 g6 (shm_1497 f11) kz_0_7 kz_0_18)⟩
  refine ⟨(fun _ h => (by cases h)), [], trivial, ?_, (fun _ h => (by cases h))⟩
  rw [List.append_nil]
  exact List.forall_mem_cons.mpr ⟨⟨show (20 : Nat) < 100 from by decide, nf0⟩, (fun _ h => (by cases h))⟩
set_option maxHeartbeats 4000000 in
theorem vc_Em_splitCycle_2_0 (x6 : Int) (x10 : Int) (x12 : Int) (wayLength_0 : Int) (drawnNodes_0 : Int) (way_0 : Int → Int) (fresh_0 : Int → Int) (k6 : 0 ≤ x6 ∧ x6 ≤ 27) (k10 : 0 ≤ x10 ∧ x10 ≤ 25) (k12 : (-2) ≤ x12 ∧ x12 ≤ 25) (d0 : x6 + (-2) ≤ x12 ∧ x12 ≤ x6 + (-2)) (g4 : x6 = wayLength_0) (f8 : 2 ≤ wayLength_0) (f12 : FRT (drawnNodes_0) (fresh_0) (x10)) (kz_0_6 : 0 ≤ drawnNodes_0 ∧ drawnNodes_0 ≤ 33554431) (kz_0_15 : 0 ≤ wayLength_0 ∧ wayLength_0 ≤ 27) : FRW (drawnNodes_0) (wayLength_0) (fresh_0) (way_0) (x10) (x12) := by
  first
    | exact frw_start ‹FRT _ _ _› (by omega) (by omega)
def o_Em_splitCycle_2 : or_T := (41, 13, [(0, (2, 0, 0, [1])), (6, (0, 0, 27, [])), (10, (0, 0, 25, [])), (12, (0, -2, 25, []))], [(9, [6, 0], [15]), (20, [0], [50, 1, 0, 15, 0, 2, 0, 2, 2, 0, 15]), (20, [0, 10], [60, 1, 1, 615, 6, 11])], [], [], [(20, [0, 10, 12], [60, 2, 2, 616, 6, 15, 11, 14]), (24, [1, 1], []), (24, [2, 2], []), (24, [0, 0], [])], [], [(12, 6, -2, -2)])
theorem oo_Em_splitCycle_2 {kA : Nat → ClassId} : or_ok PRD kA GG o_Em_splitCycle_2 := by
  refine or_mk fun A ta ws vs hD hth hl => ?_
  intro t0 r0 t6 k6 t10 k10 t12 k12 d0 f4 f8 f12
  replace f4 := shm_177 f4
  have g4 : v_iv (n_v vs 6) = w_fi ws (n_v vs 0) 15 := congrArg v_iv f4
  have kz_0_6 := fdq_53 hD hth r0
  have kz_0_15 := fdq_54 hD hth r0
  have nf0 : fc_1 PRD (20, [0, 10, 12], [60, 2, 2, 616, 6, 15, 11, 14]) ws (vs) := ⟨nf_in hl rfl, sgq_1498 (vc_Em_splitCycle_2_0 (v_iv (n_v vs 6)) (v_iv (n_v vs 10)) (v_iv (n_v vs 12)) (w_fi ws (n_v vs 0) 15) (w_fi ws (n_v vs 0) 6) (w_ei ws (w_ar ws (n_v vs 0) 14)) (w_ei ws (w_ar ws (n_v vs 0) 11)) k6 k10 k12 d0 g4 (shm_1496 f8) (shm_809 f12) kz_0_6 kz_0_15)⟩
  have nf1 : fc_1 PRD (24, [1, 1], []) ws (vs) := by
    refine ⟨nf_in hl rfl, sgq_1 ?_⟩
    · show n_v vs 1 = n_v vs 1
      first | rfl | simp only [true_and]
  have nf2 : fc_1 PRD (24, [2, 2], []) ws (vs) := by
    refine ⟨nf_in hl rfl, sgq_1 ?_⟩
    · show n_v vs 2 = n_v vs 2
      first | rfl | simp only [true_and]
  have nf3 : fc_1 PRD (24, [0, 0], []) ws (vs) := by
    refine ⟨nf_in hl rfl, sgq_1 ?_⟩
    · show n_v vs 0 = n_v vs 0
      first | rfl | simp only [true_and]
  refine ⟨(fun _ h => (by cases h)), [], trivial, ?_, (fun _ h => (by cases h))⟩
  rw [List.append_nil]
  exact List.forall_mem_cons.mpr ⟨⟨show (20 : Nat) < 100 from by decide, nf0⟩, List.forall_mem_cons.mpr ⟨⟨show (24 : Nat) < 100 from by decide, nf1⟩, List.forall_mem_cons.mpr ⟨⟨show (24 : Nat) < 100 from by decide, nf2⟩, List.forall_mem_cons.mpr ⟨⟨show (24 : Nat) < 100 from by decide, nf3⟩, (fun _ h => (by cases h))⟩⟩⟩⟩
set_option maxHeartbeats 4000000 in
theorem vc_Em_splitCycle_3_r0 (x12 : Int) (x14 : Int) (cycles_0 : Int) (k12 : 0 ≤ x12 ∧ x12 ≤ 50) (k14 : 0 ≤ x14 ∧ x14 ≤ 1250) (f2 : x14 = x12 * 25) (g3 : x12 = cycles_0) (f9 : (cycles_0 + 1) ≤ 50) (kz_0_7 : 0 ≤ cycles_0 ∧ cycles_0 ≤ 50) : 0 ≤ x14 ∧ x14 ≤ 1225 := by
  first
    | omega
set_option maxHeartbeats 4000000 in
theorem vc_Em_splitCycle_3_r1 (x12 : Int) (cycles_0 : Int) (k12 : 0 ≤ x12 ∧ x12 ≤ 50) (g3 : x12 = cycles_0) (f9 : (cycles_0 + 1) ≤ 50) (kz_0_7 : 0 ≤ cycles_0 ∧ cycles_0 ≤ 50) : 0 ≤ x12 ∧ x12 ≤ 49 := by
  first
    | omega
set_option maxHeartbeats 4000000 in
theorem vc_Em_splitCycle_3_0 (x12 : Int) (cycles_0 : Int) (k12 : 0 ≤ x12 ∧ x12 ≤ 50) (g3 : x12 = cycles_0) (kz_0_7 : 0 ≤ cycles_0 ∧ cycles_0 ≤ 50) : x12 = cycles_0 := by
  first
    | omega
set_option maxHeartbeats 4000000 in
theorem vc_Em_splitCycle_3_1 (x4 : Int) (x7 : Int) (x11 : Int) (x12 : Int) (cycles_0 : Int) (way_0 : Int → Int) (drawnNodes_0 : Int) (wayLength_0 : Int) (cycle_0 : Int → Int) (cycleLength_0 : Int → Int) (k11 : 0 ≤ x11 ∧ x11 ≤ 25) (k12 : 0 ≤ x12 ∧ x12 ≤ 50) (g3 : x12 = cycles_0) (f9 : (cycles_0 + 1) ≤ 50) (f13 : CYR (cycles_0) (drawnNodes_0) (cycle_0) (cycleLength_0)) (f14 : NWX (cycles_0) (drawnNodes_0) (wayLength_0) (cycle_0) (way_0) (x11)) (kz_0_6 : 0 ≤ drawnNodes_0 ∧ drawnNodes_0 ≤ 33554431) (kz_0_7 : 0 ≤ cycles_0 ∧ cycles_0 ≤ 50) (kz_0_15 : 0 ≤ wayLength_0 ∧ wayLength_0 ≤ 27) : SCX (cycles_0) (drawnNodes_0) (wayLength_0) (cycle_0) (cycleLength_0) (way_0) (x12) (x11) := by
  first
    | exact scx_new ‹CYR _ _ _ _› ‹NWX _ _ _ _ _ _› (by omega) (by omega)
def o_Em_splitCycle_3 : or_T := (92, 15, [(0, (2, 0, 0, [1])), (1, (2, 0, 0, [30])), (2, (2, 0, 0, [35])), (3, (2, 0, 0, [1])), (4, (0, 0, 49, [])), (7, (0, 0, 50, [])), (8, (0, -2, 0, [])), (9, (2, 0, 0, [30])), (10, (2, 0, 0, [35])), (11, (0, 0, 25, [])), (12, (0, 0, 50, [])), (13, (0, 25, 25, [])), (14, (0, 0, 1250, []))], [(9, [9, 3], [9]), (9, [10, 3], [14]), (3, [14, 12, 13], []), (9, [12, 3], [7]), (20, [3, 7, 8], [60, 2, 2, 616, 6, 15, 11, 14]), (20, [3], [60, 2, 0, 602, 6, 5]), (24, [1, 9], []), (24, [2, 10], []), (20, [3], [60, 2, 1, 613, 6, 15, 14]), (20, [3], [50, 1, 0, 7, 0, 7, 4, 3, 2, 0, 7, 0, 1, 0, 50]), (20, [4, 3], [50, 1, 0, 1007, 2, 6, 0, 2, 0, 0, 1, 0, 0, 6, 4, 2, 1, 0, 0, 1, 2, 1, 7]), (20, [3], [50, 1, 0, 15, 0, 2, 0, 2, 2, 0, 15]), (24, [0, 3], []), (20, [3], [60, 2, 2, 603, 7, 6, 8, 9]), (20, [3, 11], [60, 3, 2, 619, 7, 6, 15, 8, 14]), (20, [11], [50, 0, 0, 2, 6, 0, 2, 0, 0, 1, 0, 0, 2, 1, 0, 0, 25]), (102, [10], [536870912]), (8, [8], [5])], [(14, (0, 0, 1225, [])), (12, (0, 0, 49, []))], [], [(20, [12, 3], [50, 1, 0, 1007, 1, 2, 1, 0, 2, 1, 7]), (20, [3, 12, 11], [60, 3, 3, 620, 7, 6, 15, 8, 9, 14])], [], [])
theorem oo_Em_splitCycle_3 {kA : Nat → ClassId} : or_ok PRD kA GG o_Em_splitCycle_3 := by
  refine or_mk fun A ta ws vs hD hth hl => ?_
  intro t0 r0 t1 r1 t2 r2 t3 r3 t4 k4 t7 k7 t8 k8 t9 r9 t10 r10 t11 k11 t12 k12 t13 k13 t14 k14 f0 f1 f2 f3 f4 f5 f6 f7 f8 f9 f10 f11 f12 f13 f14 f15 ta1 w1 le1 s1 f17
  replace f2 := shm_38 f2
  rw [show v_iv (n_v vs 13) = 25 from by omega] at f2
  replace f3 := shm_198 f3
  replace f9 := shm_803 f9
  replace f12 := shm_5 f12
  replace f13 := shm_351 f13
  replace f14 := shm_806 f14
  have q3 : n_v vs 3 = n_v vs 0 := f12.symm
  simp only [q3] at f3 f9 f13 f14
  have g3 : v_iv (n_v vs 12) = w_fi ws (n_v vs 0) 7 := congrArg v_iv f3
  have kz_0_6 := fdq_53 hD hth r0
  have kz_0_7 := fdq_49 hD hth r0
  have kz_0_15 := fdq_54 hD hth r0
  have hrf0 : 0 ≤ v_iv (n_v vs 14) ∧ v_iv (n_v vs 14) ≤ 1225 := vc_Em_splitCycle_3_r0 (v_iv (n_v vs 12)) (v_iv (n_v vs 14)) (w_fi ws (n_v vs 0) 7) k12 k14 f2 g3 f9 kz_0_7
  have hrf1 : 0 ≤ v_iv (n_v vs 12) ∧ v_iv (n_v vs 12) ≤ 49 := vc_Em_splitCycle_3_r1 (v_iv (n_v vs 12)) (w_fi ws (n_v vs 0) 7) k12 g3 f9 kz_0_7
  have nf0 : fc_1 PRD (20, [12, 3], [50, 1, 0, 1007, 1, 2, 1, 0, 2, 1, 7]) ws (vs) := by
    refine ⟨nf_in hl rfl, sgq_1499 ?_⟩
    · show v_iv (n_v vs 12) = w_fi ws (n_v vs 3) 7
      rw [q3]
      exact vc_Em_splitCycle_3_0 (v_iv (n_v vs 12)) (w_fi ws (n_v vs 0) 7) k12 g3 kz_0_7
  have nf1 : fc_1 PRD (20, [3, 12, 11], [60, 3, 3, 620, 7, 6, 15, 8, 9, 14]) ws (vs) := by
    refine ⟨nf_in hl rfl, sgq_357 ?_⟩
    · show SCX (w_fi ws (n_v vs 3) 7) (w_fi ws (n_v vs 3) 6) (w_fi ws (n_v vs 3) 15) (w_ei ws (w_ar ws (n_v vs 3) 8)) (w_ei ws (w_ar ws (n_v vs 3) 9)) (w_ei ws (w_ar ws (n_v vs 3) 14)) (v_iv (n_v vs 12)) (v_iv (n_v vs 11))
      rw [q3]
      exact vc_Em_splitCycle_3_1 (v_iv (n_v vs 4)) (v_iv (n_v vs 7)) (v_iv (n_v vs 11)) (v_iv (n_v vs 12)) (w_fi ws (n_v vs 0) 7) (w_ei ws (w_ar ws (n_v vs 0) 14)) (w_fi ws (n_v vs 0) 6) (w_fi ws (n_v vs 0) 15) (w_ei ws (w_ar ws (n_v vs 0) 8)) (w_ei ws (w_ar ws (n_v vs 0) 9)) k11 k12 g3 f9 f13 f14 kz_0_6 kz_0_7 kz_0_15
  have rf14 : tv_ok ta (0, 0, 1225, []) (n_v vs 14) := tv_in t14 (by first | omega | grind) (by first | omega | grind)
  have rf12 : tv_ok ta (0, 0, 49, []) (n_v vs 12) := tv_in t12 (by first | omega | grind) (by first | omega | grind)
  refine ⟨List.forall_mem_cons.mpr ⟨rf14, List.forall_mem_cons.mpr ⟨rf12, (fun _ h => (by cases h))⟩⟩, [], trivial, ?_, (fun _ h => (by cases h))⟩
  rw [List.append_nil]
  exact List.forall_mem_cons.mpr ⟨⟨show (20 : Nat) < 100 from by decide, nf0⟩, List.forall_mem_cons.mpr ⟨⟨show (20 : Nat) < 100 from by decide, nf1⟩, (fun _ h => (by cases h))⟩⟩
set_option maxHeartbeats 4000000 in
theorem vc_Em_splitCycle_4_r0 (x7 : Int) (x8 : Int) (fresh_0 : Int → Int) (way_0 : Int → Int) (drawnNodes_0 : Int) (wayLength_0 : Int) (blockNodes_0 : Int) (fresh_1 : Int → Int) (way_1 : Int → Int) (drawnNodes_1 : Int) (wayLength_1 : Int) (blockNodes_1 : Int) (cycle_1 : Int → Int) (cycleLength_1 : Int → Int) (cycle_0 : Int → Int) (cycleLength_0 : Int → Int) (k7 : 0 ≤ x7 ∧ x7 ≤ 50) (k8 : (-2) ≤ x8 ∧ x8 ≤ 0) (f18 : FRW (drawnNodes_1) (wayLength_1) (fresh_1) (way_1) (x7) (x8)) (fe_0_5_1 : blockNodes_0 = blockNodes_1) (fe_0_6_1 : drawnNodes_0 = drawnNodes_1) (fe_0_15_1 : wayLength_0 = wayLength_1) (hE_0_8_1 : ∀ j : Int, cycle_0 j = cycle_1 j) (hE_0_9_1 : ∀ j : Int, cycleLength_0 j = cycleLength_1 j) (hE_0_11_1 : ∀ j : Int, fresh_0 j = fresh_1 j) (hE_0_14_1 : ∀ j : Int, way_0 j = way_1 j) (kz_0_5 : 0 ≤ blockNodes_0 ∧ blockNodes_0 ≤ 33554431) (kz_0_6 : 0 ≤ drawnNodes_0 ∧ drawnNodes_0 ≤ 33554431) (kz_0_15 : 0 ≤ wayLength_0 ∧ wayLength_0 ≤ 27) : 0 ≤ x7 ∧ x7 ≤ 25 := by
  subst fe_0_5_1
  subst fe_0_6_1
  subst fe_0_15_1
  have e_hE_0_8_1 := funext hE_0_8_1; subst e_hE_0_8_1
  have e_hE_0_9_1 := funext hE_0_9_1; subst e_hE_0_9_1
  have e_hE_0_11_1 := funext hE_0_11_1; subst e_hE_0_11_1
  have e_hE_0_14_1 := funext hE_0_14_1; subst e_hE_0_14_1
  first
    | (have q := (‹FRW _ _ _ _ _ _›).2.2; have q2 := gdr_le q; have q1 := q.1; omega)
set_option maxHeartbeats 4000000 in
theorem vc_Em_splitCycle_4_0 (x12 : Int) (x16 : Int) (cycles_0 : Int) (fresh_0 : Int → Int) (way_0 : Int → Int) (drawnNodes_0 : Int) (wayLength_0 : Int) (blockNodes_0 : Int) (cycles_1 : Int) (fresh_1 : Int → Int) (way_1 : Int → Int) (drawnNodes_1 : Int) (wayLength_1 : Int) (blockNodes_1 : Int) (cycle_1 : Int → Int) (cycleLength_1 : Int → Int) (cycle_0 : Int → Int) (cycleLength_0 : Int → Int) (gu : Int) (k12 : 0 ≤ x12 ∧ x12 ≤ 49) (k16 : 1 ≤ x16 ∧ x16 ≤ 50) (d0 : x12 + 1 ≤ x16 ∧ x16 ≤ x12 + 1) (g0 : x16 = cycles_0) (g16 : x12 = cycles_1) (fe_0_5_1 : blockNodes_0 = blockNodes_1) (fe_0_6_1 : drawnNodes_0 = drawnNodes_1) (fe_0_15_1 : wayLength_0 = wayLength_1) (hE_0_8_1 : ∀ j : Int, cycle_0 j = cycle_1 j) (hE_0_9_1 : ∀ j : Int, cycleLength_0 j = cycleLength_1 j) (hE_0_11_1 : ∀ j : Int, fresh_0 j = fresh_1 j) (hE_0_14_1 : ∀ j : Int, way_0 j = way_1 j) (kz_0_5 : 0 ≤ blockNodes_0 ∧ blockNodes_0 ≤ 33554431) (kz_0_6 : 0 ≤ drawnNodes_0 ∧ drawnNodes_0 ≤ 33554431) (kz_0_7 : 0 ≤ cycles_0 ∧ cycles_0 ≤ 50) (kz_0_15 : 0 ≤ wayLength_0 ∧ wayLength_0 ≤ 27) (eu2 : gu = cycles_0) : 1 ≤ cycles_0 := by
  subst fe_0_5_1
  subst fe_0_6_1
  subst fe_0_15_1
  have e_hE_0_8_1 := funext hE_0_8_1; subst e_hE_0_8_1
  have e_hE_0_9_1 := funext hE_0_9_1; subst e_hE_0_9_1
  have e_hE_0_11_1 := funext hE_0_11_1; subst e_hE_0_11_1
  have e_hE_0_14_1 := funext hE_0_14_1; subst e_hE_0_14_1
  first
    | omega
set_option maxHeartbeats 4000000 in
theorem vc_Em_splitCycle_4_1 (x7 : Int) (x18 : Int) (fresh_0 : Int → Int) (way_0 : Int → Int) (drawnNodes_0 : Int) (wayLength_0 : Int) (blockNodes_0 : Int) (fresh_1 : Int → Int) (way_1 : Int → Int) (drawnNodes_1 : Int) (wayLength_1 : Int) (blockNodes_1 : Int) (cycle_1 : Int → Int) (cycleLength_1 : Int → Int) (cycle_0 : Int → Int) (cycleLength_0 : Int → Int) (k7 : 0 ≤ x7 ∧ x7 ≤ 50) (k18 : 0 ≤ x18 ∧ x18 ≤ 0) (fe_0_5_1 : blockNodes_0 = blockNodes_1) (fe_0_6_1 : drawnNodes_0 = drawnNodes_1) (fe_0_15_1 : wayLength_0 = wayLength_1) (hE_0_8_1 : ∀ j : Int, cycle_0 j = cycle_1 j) (hE_0_9_1 : ∀ j : Int, cycleLength_0 j = cycleLength_1 j) (hE_0_11_1 : ∀ j : Int, fresh_0 j = fresh_1 j) (hE_0_14_1 : ∀ j : Int, way_0 j = way_1 j) (kz_0_5 : 0 ≤ blockNodes_0 ∧ blockNodes_0 ≤ 33554431) (kz_0_6 : 0 ≤ drawnNodes_0 ∧ drawnNodes_0 ≤ 33554431) (kz_0_15 : 0 ≤ wayLength_0 ∧ wayLength_0 ≤ 27) : x18 + x7 ≤ 50 := by
  subst fe_0_5_1
  subst fe_0_6_1
  subst fe_0_15_1
  have e_hE_0_8_1 := funext hE_0_8_1; subst e_hE_0_8_1
  have e_hE_0_9_1 := funext hE_0_9_1; subst e_hE_0_9_1
  have e_hE_0_11_1 := funext hE_0_11_1; subst e_hE_0_11_1
  have e_hE_0_14_1 := funext hE_0_14_1; subst e_hE_0_14_1
  first
    | omega
set_option maxHeartbeats 4000000 in
theorem vc_Em_splitCycle_4_2 (x4 : Int) (x7 : Int) (x12 : Int) (x16 : Int) (x21 : Int) (cycles_0 : Int) (fresh_0 : Int → Int) (way_0 : Int → Int) (drawnNodes_0 : Int) (wayLength_0 : Int) (blockNodes_0 : Int) (cycles_1 : Int) (fresh_1 : Int → Int) (way_1 : Int → Int) (drawnNodes_1 : Int) (wayLength_1 : Int) (blockNodes_1 : Int) (cycle_1 : Int → Int) (cycleLength_1 : Int → Int) (cycle_0 : Int → Int) (cycleLength_0 : Int → Int) (gu : Int) (gd : Int) (k4 : 0 ≤ x4 ∧ x4 ≤ 49) (k7 : 0 ≤ x7 ∧ x7 ≤ 50) (k12 : 0 ≤ x12 ∧ x12 ≤ 49) (k16 : 1 ≤ x16 ∧ x16 ≤ 50) (k21 : 0 ≤ x21 ∧ x21 ≤ 1225) (d0 : x12 + 1 ≤ x16 ∧ x16 ≤ x12 + 1) (g0 : x16 = cycles_0) (f3 : x21 = x4 * 25) (g16 : x12 = cycles_1) (f22 : (0 ≤ x4) ∧ ((x4 + 1) ≤ cycles_1)) (fe_0_5_1 : blockNodes_0 = blockNodes_1) (fe_0_6_1 : drawnNodes_0 = drawnNodes_1) (fe_0_15_1 : wayLength_0 = wayLength_1) (hE_0_8_1 : ∀ j : Int, cycle_0 j = cycle_1 j) (hE_0_9_1 : ∀ j : Int, cycleLength_0 j = cycleLength_1 j) (hE_0_11_1 : ∀ j : Int, fresh_0 j = fresh_1 j) (hE_0_14_1 : ∀ j : Int, way_0 j = way_1 j) (kz_0_5 : 0 ≤ blockNodes_0 ∧ blockNodes_0 ≤ 33554431) (kz_0_6 : 0 ≤ drawnNodes_0 ∧ drawnNodes_0 ≤ 33554431) (kz_0_7 : 0 ≤ cycles_0 ∧ cycles_0 ≤ 50) (kz_0_15 : 0 ≤ wayLength_0 ∧ wayLength_0 ≤ 27) (eu2 : gu = cycles_0) (ed2 : gd = x4) : x21 + x7 ≤ 1250 := by
  subst fe_0_5_1
  subst fe_0_6_1
  subst fe_0_15_1
  have e_hE_0_8_1 := funext hE_0_8_1; subst e_hE_0_8_1
  have e_hE_0_9_1 := funext hE_0_9_1; subst e_hE_0_9_1
  have e_hE_0_11_1 := funext hE_0_11_1; subst e_hE_0_11_1
  have e_hE_0_14_1 := funext hE_0_14_1; subst e_hE_0_14_1
  first
    | omega
set_option maxHeartbeats 4000000 in
theorem vc_Em_splitCycle_4_5 (cycles_0 : Int) (fresh_0 : Int → Int) (way_0 : Int → Int) (drawnNodes_0 : Int) (wayLength_0 : Int) (blockNodes_0 : Int) (fresh_1 : Int → Int) (way_1 : Int → Int) (drawnNodes_1 : Int) (wayLength_1 : Int) (blockNodes_1 : Int) (cycle_1 : Int → Int) (cycleLength_1 : Int → Int) (cycle_0 : Int → Int) (cycleLength_0 : Int → Int) (gu : Int) (fe_0_5_1 : blockNodes_0 = blockNodes_1) (fe_0_6_1 : drawnNodes_0 = drawnNodes_1) (fe_0_15_1 : wayLength_0 = wayLength_1) (hE_0_8_1 : ∀ j : Int, cycle_0 j = cycle_1 j) (hE_0_9_1 : ∀ j : Int, cycleLength_0 j = cycleLength_1 j) (hE_0_11_1 : ∀ j : Int, fresh_0 j = fresh_1 j) (hE_0_14_1 : ∀ j : Int, way_0 j = way_1 j) (kz_0_5 : 0 ≤ blockNodes_0 ∧ blockNodes_0 ≤ 33554431) (kz_0_6 : 0 ≤ drawnNodes_0 ∧ drawnNodes_0 ≤ 33554431) (kz_0_7 : 0 ≤ cycles_0 ∧ cycles_0 ≤ 50) (kz_0_15 : 0 ≤ wayLength_0 ∧ wayLength_0 ≤ 27) (eu2 : gu = cycles_0) : gu = cycles_0 := by
  subst fe_0_5_1
  subst fe_0_6_1
  subst fe_0_15_1
  have e_hE_0_8_1 := funext hE_0_8_1; subst e_hE_0_8_1
  have e_hE_0_9_1 := funext hE_0_9_1; subst e_hE_0_9_1
  have e_hE_0_11_1 := funext hE_0_11_1; subst e_hE_0_11_1
  have e_hE_0_14_1 := funext hE_0_14_1; subst e_hE_0_14_1
  first
    | omega
set_option maxHeartbeats 4000000 in
theorem vc_Em_splitCycle_4_6 (fresh_0 : Int → Int) (way_0 : Int → Int) (drawnNodes_0 : Int) (wayLength_0 : Int) (blockNodes_0 : Int) (fresh_1 : Int → Int) (way_1 : Int → Int) (drawnNodes_1 : Int) (wayLength_1 : Int) (blockNodes_1 : Int) (cycle_1 : Int → Int) (cycleLength_1 : Int → Int) (cycle_0 : Int → Int) (cycleLength_0 : Int → Int) (gw : Int) (fe_0_5_1 : blockNodes_0 = blockNodes_1) (fe_0_6_1 : drawnNodes_0 = drawnNodes_1) (fe_0_15_1 : wayLength_0 = wayLength_1) (hE_0_8_1 : ∀ j : Int, cycle_0 j = cycle_1 j) (hE_0_9_1 : ∀ j : Int, cycleLength_0 j = cycleLength_1 j) (hE_0_11_1 : ∀ j : Int, fresh_0 j = fresh_1 j) (hE_0_14_1 : ∀ j : Int, way_0 j = way_1 j) (kz_0_5 : 0 ≤ blockNodes_0 ∧ blockNodes_0 ≤ 33554431) (kz_0_6 : 0 ≤ drawnNodes_0 ∧ drawnNodes_0 ≤ 33554431) (kz_0_15 : 0 ≤ wayLength_0 ∧ wayLength_0 ≤ 27) (ew2 : gw = drawnNodes_0) : gw = drawnNodes_0 := by
  subst fe_0_5_1
  subst fe_0_6_1
  subst fe_0_15_1
  have e_hE_0_8_1 := funext hE_0_8_1; subst e_hE_0_8_1
  have e_hE_0_9_1 := funext hE_0_9_1; subst e_hE_0_9_1
  have e_hE_0_11_1 := funext hE_0_11_1; subst e_hE_0_11_1
  have e_hE_0_14_1 := funext hE_0_14_1; subst e_hE_0_14_1
  first
    | omega
set_option maxHeartbeats 4000000 in
theorem vc_Em_splitCycle_4_7 (fresh_0 : Int → Int) (way_0 : Int → Int) (drawnNodes_0 : Int) (wayLength_0 : Int) (blockNodes_0 : Int) (fresh_1 : Int → Int) (way_1 : Int → Int) (drawnNodes_1 : Int) (wayLength_1 : Int) (blockNodes_1 : Int) (cycle_1 : Int → Int) (cycleLength_1 : Int → Int) (cycle_0 : Int → Int) (cycleLength_0 : Int → Int) (gc : Int) (fe_0_5_1 : blockNodes_0 = blockNodes_1) (fe_0_6_1 : drawnNodes_0 = drawnNodes_1) (fe_0_15_1 : wayLength_0 = wayLength_1) (hE_0_8_1 : ∀ j : Int, cycle_0 j = cycle_1 j) (hE_0_9_1 : ∀ j : Int, cycleLength_0 j = cycleLength_1 j) (hE_0_11_1 : ∀ j : Int, fresh_0 j = fresh_1 j) (hE_0_14_1 : ∀ j : Int, way_0 j = way_1 j) (kz_0_5 : 0 ≤ blockNodes_0 ∧ blockNodes_0 ≤ 33554431) (kz_0_6 : 0 ≤ drawnNodes_0 ∧ drawnNodes_0 ≤ 33554431) (kz_0_15 : 0 ≤ wayLength_0 ∧ wayLength_0 ≤ 27) (ec2 : gc = wayLength_0) : gc = wayLength_0 := by
  subst fe_0_5_1
  subst fe_0_6_1
  subst fe_0_15_1
  have e_hE_0_8_1 := funext hE_0_8_1; subst e_hE_0_8_1
  have e_hE_0_9_1 := funext hE_0_9_1; subst e_hE_0_9_1
  have e_hE_0_11_1 := funext hE_0_11_1; subst e_hE_0_11_1
  have e_hE_0_14_1 := funext hE_0_14_1; subst e_hE_0_14_1
  first
    | omega
set_option maxHeartbeats 4000000 in
theorem vc_Em_splitCycle_4_8 (x4 : Int) (fresh_0 : Int → Int) (way_0 : Int → Int) (drawnNodes_0 : Int) (wayLength_0 : Int) (blockNodes_0 : Int) (fresh_1 : Int → Int) (way_1 : Int → Int) (drawnNodes_1 : Int) (wayLength_1 : Int) (blockNodes_1 : Int) (cycle_1 : Int → Int) (cycleLength_1 : Int → Int) (cycle_0 : Int → Int) (cycleLength_0 : Int → Int) (gd : Int) (k4 : 0 ≤ x4 ∧ x4 ≤ 49) (fe_0_5_1 : blockNodes_0 = blockNodes_1) (fe_0_6_1 : drawnNodes_0 = drawnNodes_1) (fe_0_15_1 : wayLength_0 = wayLength_1) (hE_0_8_1 : ∀ j : Int, cycle_0 j = cycle_1 j) (hE_0_9_1 : ∀ j : Int, cycleLength_0 j = cycleLength_1 j) (hE_0_11_1 : ∀ j : Int, fresh_0 j = fresh_1 j) (hE_0_14_1 : ∀ j : Int, way_0 j = way_1 j) (kz_0_5 : 0 ≤ blockNodes_0 ∧ blockNodes_0 ≤ 33554431) (kz_0_6 : 0 ≤ drawnNodes_0 ∧ drawnNodes_0 ≤ 33554431) (kz_0_15 : 0 ≤ wayLength_0 ∧ wayLength_0 ≤ 27) (ed2 : gd = x4) : 1 * gd + ((-1) * x4 + 0) ≤ 0 := by
  subst fe_0_5_1
  subst fe_0_6_1
  subst fe_0_15_1
  have e_hE_0_8_1 := funext hE_0_8_1; subst e_hE_0_8_1
  have e_hE_0_9_1 := funext hE_0_9_1; subst e_hE_0_9_1
  have e_hE_0_11_1 := funext hE_0_11_1; subst e_hE_0_11_1
  have e_hE_0_14_1 := funext hE_0_14_1; subst e_hE_0_14_1
  first
    | omega
set_option maxHeartbeats 4000000 in
theorem vc_Em_splitCycle_4_9 (x4 : Int) (fresh_0 : Int → Int) (way_0 : Int → Int) (drawnNodes_0 : Int) (wayLength_0 : Int) (blockNodes_0 : Int) (fresh_1 : Int → Int) (way_1 : Int → Int) (drawnNodes_1 : Int) (wayLength_1 : Int) (blockNodes_1 : Int) (cycle_1 : Int → Int) (cycleLength_1 : Int → Int) (cycle_0 : Int → Int) (cycleLength_0 : Int → Int) (gd : Int) (k4 : 0 ≤ x4 ∧ x4 ≤ 49) (fe_0_5_1 : blockNodes_0 = blockNodes_1) (fe_0_6_1 : drawnNodes_0 = drawnNodes_1) (fe_0_15_1 : wayLength_0 = wayLength_1) (hE_0_8_1 : ∀ j : Int, cycle_0 j = cycle_1 j) (hE_0_9_1 : ∀ j : Int, cycleLength_0 j = cycleLength_1 j) (hE_0_11_1 : ∀ j : Int, fresh_0 j = fresh_1 j) (hE_0_14_1 : ∀ j : Int, way_0 j = way_1 j) (kz_0_5 : 0 ≤ blockNodes_0 ∧ blockNodes_0 ≤ 33554431) (kz_0_6 : 0 ≤ drawnNodes_0 ∧ drawnNodes_0 ≤ 33554431) (kz_0_15 : 0 ≤ wayLength_0 ∧ wayLength_0 ≤ 27) (ed2 : gd = x4) : (-1) * gd + (1 * x4 + 0) ≤ 0 := by
  subst fe_0_5_1
  subst fe_0_6_1
  subst fe_0_15_1
  have e_hE_0_8_1 := funext hE_0_8_1; subst e_hE_0_8_1
  have e_hE_0_9_1 := funext hE_0_9_1; subst e_hE_0_9_1
  have e_hE_0_11_1 := funext hE_0_11_1; subst e_hE_0_11_1
  have e_hE_0_14_1 := funext hE_0_14_1; subst e_hE_0_14_1
  first
    | omega
set_option maxHeartbeats 4000000 in
theorem vc_Em_splitCycle_4_10 (x4 : Int) (x7 : Int) (x8 : Int) (x12 : Int) (x16 : Int) (x18 : Int) (x21 : Int) (cycles_0 : Int) (fresh_0 : Int → Int) (way_0 : Int → Int) (drawnNodes_0 : Int) (wayLength_0 : Int) (blockNodes_0 : Int) (cycles_1 : Int) (fresh_1 : Int → Int) (way_1 : Int → Int) (drawnNodes_1 : Int) (wayLength_1 : Int) (blockNodes_1 : Int) (cycle_1 : Int → Int) (cycleLength_1 : Int → Int) (cycle_0 : Int → Int) (cycleLength_0 : Int → Int) (gu : Int) (gw : Int) (gc : Int) (gd : Int) (k4 : 0 ≤ x4 ∧ x4 ≤ 49) (k7 : 0 ≤ x7 ∧ x7 ≤ 50) (k8 : (-2) ≤ x8 ∧ x8 ≤ 0) (k12 : 0 ≤ x12 ∧ x12 ≤ 49) (k16 : 1 ≤ x16 ∧ x16 ≤ 50) (k18 : 0 ≤ x18 ∧ x18 ≤ 0) (k21 : 0 ≤ x21 ∧ x21 ≤ 1225) (d0 : x12 + 1 ≤ x16 ∧ x16 ≤ x12 + 1) (g0 : x16 = cycles_0) (f3 : x21 = x4 * 25) (g16 : x12 = cycles_1) (f18 : FRW (drawnNodes_1) (wayLength_1) (fresh_1) (way_1) (x7) (x8)) (f22 : (0 ≤ x4) ∧ ((x4 + 1) ≤ cycles_1)) (f26 : SCZ (cycles_1) (drawnNodes_1) (wayLength_1) (cycle_1) (cycleLength_1) (way_1) (x12)) (fe_0_5_1 : blockNodes_0 = blockNodes_1) (fe_0_6_1 : drawnNodes_0 = drawnNodes_1) (fe_0_15_1 : wayLength_0 = wayLength_1) (hE_0_8_1 : ∀ j : Int, cycle_0 j = cycle_1 j) (hE_0_9_1 : ∀ j : Int, cycleLength_0 j = cycleLength_1 j) (hE_0_11_1 : ∀ j : Int, fresh_0 j = fresh_1 j) (hE_0_14_1 : ∀ j : Int, way_0 j = way_1 j) (kz_0_5 : 0 ≤ blockNodes_0 ∧ blockNodes_0 ≤ 33554431) (kz_0_6 : 0 ≤ drawnNodes_0 ∧ drawnNodes_0 ≤ 33554431) (kz_0_7 : 0 ≤ cycles_0 ∧ cycles_0 ≤ 50) (kz_0_15 : 0 ≤ wayLength_0 ∧ wayLength_0 ≤ 27) (eu2 : gu = cycles_0) (ew2 : gw = drawnNodes_0) (ec2 : gc = wayLength_0) (ed2 : gd = x4) : CPF (cycle_0) (fresh_0) (cycleLength_0) (way_0) (x18) (x21) (x7) (gu) (gw) (gc) (gd) := by
  subst fe_0_5_1
  subst fe_0_6_1
  subst fe_0_15_1
  have e_hE_0_8_1 := funext hE_0_8_1; subst e_hE_0_8_1
  have e_hE_0_9_1 := funext hE_0_9_1; subst e_hE_0_9_1
  have e_hE_0_11_1 := funext hE_0_11_1; subst e_hE_0_11_1
  have e_hE_0_14_1 := funext hE_0_14_1; subst e_hE_0_14_1
  first
    | (rw [show gw = drawnNodes_0 by omega, show gc = wayLength_0 by omega, show gd = x4 by omega]; have hz := (‹SCZ _ _ _ _ _ _ _›); rw [show cycles_1 = x12 by omega] at hz; exact cpf_of (C1 := x12) hz (by omega) ‹FRW _ _ _ _ _ _› (by omega) (by omega) (by omega) (by omega))
  
def o_Em_splitCycle_4 : or_T := (120, 22, [(0, (2, 0, 0, [1])), (1, (2, 0, 0, [30])), (2, (2, 0, 0, [35])), (3, (2, 0, 0, [1])), (4, (0, 0, 49, [])), (7, (0, 0, 50, [])), (8, (0, -2, 0, [])), (9, (2, 0, 0, [30])), (10, (2, 0, 0, [35])), (11, (0, 0, 25, [])), (12, (0, 0, 49, [])), (13, (0, 25, 25, [])), (14, (0, 0, 1225, [])), (15, (0, 1, 1, [])), (16, (0, 1, 50, [])), (17, (2, 0, 0, [32])), (18, (0, 0, 0, [])), (19, (2, 0, 0, [29])), (20, (0, 25, 25, [])), (21, (0, 0, 1225, []))], [(9, [16, 3], [7]), (9, [9, 3], [9]), (9, [10, 3], [14]), (3, [21, 4, 20], []), (9, [19, 3], [8]), (9, [17, 3], [11]), (20, [3, 7, 8], [60, 2, 2, 616, 6, 15, 11, 14]), (20, [3], [60, 2, 0, 602, 6, 5]), (24, [1, 9], []), (24, [2, 10], []), (20, [3], [60, 2, 1, 613, 6, 15, 14]), (20, [3], [50, 1, 0, 15, 0, 2, 0, 2, 2, 0, 15]), (24, [0, 3], []), (20, [11], [50, 0, 0, 2, 6, 0, 2, 0, 0, 1, 0, 0, 2, 1, 0, 0, 25]), (101, [3, 16], [7]), (1, [16, 12, 15], []), (9, [12, 3], [7]), (20, [12, 3], [50, 1, 0, 1007, 1, 2, 1, 0, 2, 1, 7]), (20, [3, 7, 8], [60, 2, 2, 616, 6, 15, 11, 14]), (20, [3], [60, 2, 0, 602, 6, 5]), (20, [3], [60, 2, 1, 613, 6, 15, 14]), (20, [3], [50, 1, 0, 7, 0, 7, 4, 3, 2, 0, 7, 0, 1, 0, 50]), (20, [4, 3], [50, 1, 0, 1007, 2, 6, 0, 2, 0, 0, 1, 0, 0, 6, 4, 2, 1, 0, 0, 1, 2, 1, 7]), (20, [3], [50, 1, 0, 15, 0, 2, 0, 2, 2, 0, 15]), (20, [3, 11], [60, 3, 2, 619, 7, 6, 15, 8, 14]), (20, [11], [50, 0, 0, 2, 6, 0, 2, 0, 0, 1, 0, 0, 2, 1, 0, 0, 25]), (20, [3, 12], [60, 3, 3, 621, 7, 6, 15, 8, 9, 14]), (102, [14], [3221225472]), (3, [14, 12, 13], []), (102, [10], [536870912]), (8, [8], [5])], [(7, (0, 0, 25, []))], [(2, 0, 0, [30]), (2, 0, 0, [35]), (0, 0, 50, []), (0, 0, 33554431, []), (0, 0, 27, []), (0, 0, 49, [])], [(20, [3], [50, 1, 0, 7, 0, 2, 0, 1, 2, 0, 7]), (21, [18, 7], [50]), (21, [21, 7], [1250]), (24, [1, 22], []), (24, [2, 23], []), (20, [24, 3], [50, 1, 0, 1007, 1, 2, 1, 0, 2, 1, 7]), (20, [25, 3], [50, 1, 0, 1006, 1, 2, 1, 0, 2, 1, 6]), (20, [26, 3], [50, 1, 0, 1015, 1, 2, 1, 0, 2, 1, 15]), (23, [27, 4], [0, 1, -1]), (23, [27, 4], [0, -1, 1]), (20, [19, 17, 22, 23, 18, 21, 7, 24, 25, 26, 27], [61, 4, 623])], [], [(16, 12, 1, 1)])
theorem oo_Em_splitCycle_4 {kA : Nat → ClassId} : or_ok PRD kA GG o_Em_splitCycle_4 := by
  refine or_mk fun A ta ws vs hD hth hl => ?_
  intro t0 r0 t1 r1 t2 r2 t3 r3 t4 k4 t7 k7 t8 k8 t9 r9 t10 r10 t11 k11 t12 k12 t13 k13 t14 k14 t15 k15 t16 k16 t17 r17 t18 k18 t19 r19 t20 k20 t21 k21 d0 f0 f1 f2 f3 f4 f5 f6 f7 f8 f9 f10 f11 f12 f13 ta1 w1 le1 s1 f15 f16 f17 f18 f19 f20 f21 f22 f23 f24 f25 f26 ta2 w2 le2 s2 f28 ta3 w3 le3 s3 f30
  replace f0 := shm_198 f0
  replace f1 := shm_119 f1
  replace f2 := shm_115 f2
  replace f3 := shm_38 f3
  rw [show v_iv (n_v vs 20) = 25 from by omega] at f3
  replace f4 := shm_293 f4
  replace f5 := shm_116 f5
  replace f8 := shm_5 f8
  replace f9 := shm_5 f9
  replace f12 := shm_5 f12
  have s1 : (∀ b j, w_el ws b j = w_el w1 b j) ∧ ∀ b j, w_fd ws b j = if b = v_ad (n_v vs 3) ∧ j = 7 then n_v vs 16 else w_fd w1 b j := s1.2
  replace f16 := shm_198 f16
  replace f18 := shm_1498 f18
  replace f22 := shm_802 f22
  replace f26 := shm_358 f26
  have q9 : n_v vs 9 = n_v vs 1 := f8.symm
  have q10 : n_v vs 10 = n_v vs 2 := f9.symm
  have q3 : n_v vs 3 = n_v vs 0 := f12.symm
  simp only [q3, q9, q10] at f0 f1 f2 f4 f5
  rw [q3] at s1
  simp only [q3] at f16 f18 f22 f26
  have ar_0_8_1 : w_ar w1 (n_v vs 0) 8 = w_ar ws (n_v vs 0) 8 := by show v_ad (w_fd w1 _ _) = v_ad (w_fd ws _ _); rw [s1.2, if_neg (fun e => absurd e.2 (by decide))]
  have ar_0_9_1 : w_ar w1 (n_v vs 0) 9 = w_ar ws (n_v vs 0) 9 := by show v_ad (w_fd w1 _ _) = v_ad (w_fd ws _ _); rw [s1.2, if_neg (fun e => absurd e.2 (by decide))]
  have ar_0_11_1 : w_ar w1 (n_v vs 0) 11 = w_ar ws (n_v vs 0) 11 := by show v_ad (w_fd w1 _ _) = v_ad (w_fd ws _ _); rw [s1.2, if_neg (fun e => absurd e.2 (by decide))]
  have ar_0_14_1 : w_ar w1 (n_v vs 0) 14 = w_ar ws (n_v vs 0) 14 := by show v_ad (w_fd w1 _ _) = v_ad (w_fd ws _ _); rw [s1.2, if_neg (fun e => absurd e.2 (by decide))]
  have ad_1 : v_ad (n_v vs 1) = w_ar ws (n_v vs 0) 9 := congrArg v_ad f1
  have ad_2 : v_ad (n_v vs 2) = w_ar ws (n_v vs 0) 14 := congrArg v_ad f2
  have ad_19 : v_ad (n_v vs 19) = w_ar ws (n_v vs 0) 8 := congrArg v_ad f4
  have ad_17 : v_ad (n_v vs 17) = w_ar ws (n_v vs 0) 11 := congrArg v_ad f5
  have g0 : v_iv (n_v vs 16) = w_fi ws (n_v vs 0) 7 := congrArg v_iv f0
  have g16 : v_iv (n_v vs 12) = w_fi w1 (n_v vs 0) 7 := congrArg v_iv f16
  simp only [ar_0_11_1, ar_0_14_1, ar_0_8_1, ar_0_9_1] at f18 f26
  have fe_0_5_1 : w_fi ws (n_v vs 0) 5 = w_fi w1 (n_v vs 0) 5 := by show v_iv (w_fd _ _ _) = v_iv (w_fd _ _ _); rw [s1.2, if_neg (fun e => absurd e.2 (by decide))]
  have fe_0_6_1 : w_fi ws (n_v vs 0) 6 = w_fi w1 (n_v vs 0) 6 := by show v_iv (w_fd _ _ _) = v_iv (w_fd _ _ _); rw [s1.2, if_neg (fun e => absurd e.2 (by decide))]
  have fe_0_15_1 : w_fi ws (n_v vs 0) 15 = w_fi w1 (n_v vs 0) 15 := by show v_iv (w_fd _ _ _) = v_iv (w_fd _ _ _); rw [s1.2, if_neg (fun e => absurd e.2 (by decide))]
  have hE_0_8_1 : ∀ j : Int, w_ei ws (w_ar ws (n_v vs 0) 8) j = w_ei w1 (w_ar ws (n_v vs 0) 8) j := fun j => s1.1 _ _
  have hE_0_9_1 : ∀ j : Int, w_ei ws (w_ar ws (n_v vs 0) 9) j = w_ei w1 (w_ar ws (n_v vs 0) 9) j := fun j => s1.1 _ _
  have hE_0_11_1 : ∀ j : Int, w_ei ws (w_ar ws (n_v vs 0) 11) j = w_ei w1 (w_ar ws (n_v vs 0) 11) j := fun j => s1.1 _ _
  have hE_0_14_1 : ∀ j : Int, w_ei ws (w_ar ws (n_v vs 0) 14) j = w_ei w1 (w_ar ws (n_v vs 0) 14) j := fun j => s1.1 _ _
  have kz_0_5 := fdq_283 hD hth r0
  have kz_0_6 := fdq_53 hD hth r0
  have kz_0_7 := fdq_49 hD hth r0
  have kz_0_15 := fdq_54 hD hth r0
  obtain ⟨u, eu, hu⟩ := iv_ex (ta := ta) (lo := 0) (hi := 50) (z := w_fi ws (n_v vs 0) 7) (by omega) (by omega) (by omega) (by omega)
  have eu2 : v_iv (Value.int u) = w_fi ws (n_v vs 0) 7 := eu
  have eu3 : 0 ≤ v_iv (Value.int u) ∧ v_iv (Value.int u) ≤ 50 := tv_rng hu
  obtain ⟨w, ew, hw⟩ := iv_ex (ta := ta) (lo := 0) (hi := 33554431) (z := w_fi ws (n_v vs 0) 6) (by omega) (by omega) (by omega) (by omega)
  have ew2 : v_iv (Value.int w) = w_fi ws (n_v vs 0) 6 := ew
  have ew3 : 0 ≤ v_iv (Value.int w) ∧ v_iv (Value.int w) ≤ 33554431 := tv_rng hw
  obtain ⟨c, ec, hc⟩ := iv_ex (ta := ta) (lo := 0) (hi := 27) (z := w_fi ws (n_v vs 0) 15) (by omega) (by omega) (by omega) (by omega)
  have ec2 : v_iv (Value.int c) = w_fi ws (n_v vs 0) 15 := ec
  have ec3 : 0 ≤ v_iv (Value.int c) ∧ v_iv (Value.int c) ≤ 27 := tv_rng hc
  obtain ⟨d, ed, hd⟩ := iv_ex (ta := ta) (lo := 0) (hi := 49) (z := v_iv (n_v vs 4)) (by omega) (by omega) (by omega) (by omega)
  have ed2 : v_iv (Value.int d) = v_iv (n_v vs 4) := ed
  have ed3 : 0 ≤ v_iv (Value.int d) ∧ v_iv (Value.int d) ≤ 49 := tv_rng hd
  have hrf0 : 0 ≤ v_iv (n_v vs 7) ∧ v_iv (n_v vs 7) ≤ 25 := vc_Em_splitCycle_4_r0 (v_iv (n_v vs 7)) (v_iv (n_v vs 8)) (w_ei ws (w_ar ws (n_v vs 0) 11)) (w_ei ws (w_ar ws (n_v vs 0) 14)) (w_fi ws (n_v vs 0) 6) (w_fi ws (n_v vs 0) 15) (w_fi ws (n_v vs 0) 5) (w_ei w1 (w_ar ws (n_v vs 0) 11)) (w_ei w1 (w_ar ws (n_v vs 0) 14)) (w_fi w1 (n_v vs 0) 6) (w_fi w1 (n_v vs 0) 15) (w_fi w1 (n_v vs 0) 5) (w_ei w1 (w_ar ws (n_v vs 0) 8)) (w_ei w1 (w_ar ws (n_v vs 0) 9)) (w_ei ws (w_ar ws (n_v vs 0) 8)) (w_ei ws (w_ar ws (n_v vs 0) 9)) k7 k8 f18 fe_0_5_1 fe_0_6_1 fe_0_15_1 hE_0_8_1 hE_0_9_1 hE_0_11_1 hE_0_14_1 kz_0_5 kz_0_6 kz_0_15
  have e_1 : n_v (vs ++ [n_v vs 1, n_v vs 2, Value.int u, Value.int w, Value.int c, Value.int d]) 1 = n_v vs 1 := n_v_old (by rw [hl]; decide)
  have e_2 : n_v (vs ++ [n_v vs 1, n_v vs 2, Value.int u, Value.int w, Value.int c, Value.int d]) 2 = n_v vs 2 := n_v_old (by rw [hl]; decide)
  have e_3 : n_v (vs ++ [n_v vs 1, n_v vs 2, Value.int u, Value.int w, Value.int c, Value.int d]) 3 = n_v vs 3 := n_v_old (by rw [hl]; decide)
  have e_4 : n_v (vs ++ [n_v vs 1, n_v vs 2, Value.int u, Value.int w, Value.int c, Value.int d]) 4 = n_v vs 4 := n_v_old (by rw [hl]; decide)
  have e_7 : n_v (vs ++ [n_v vs 1, n_v vs 2, Value.int u, Value.int w, Value.int c, Value.int d]) 7 = n_v vs 7 := n_v_old (by rw [hl]; decide)
  have e_17 : n_v (vs ++ [n_v vs 1, n_v vs 2, Value.int u, Value.int w, Value.int c, Value.int d]) 17 = n_v vs 17 := n_v_old (by rw [hl]; decide)
  have e_18 : n_v (vs ++ [n_v vs 1, n_v vs 2, Value.int u, Value.int w, Value.int c, Value.int d]) 18 = n_v vs 18 := n_v_old (by rw [hl]; decide)
  have e_19 : n_v (vs ++ [n_v vs 1, n_v vs 2, Value.int u, Value.int w, Value.int c, Value.int d]) 19 = n_v vs 19 := n_v_old (by rw [hl]; decide)
  have e_21 : n_v (vs ++ [n_v vs 1, n_v vs 2, Value.int u, Value.int w, Value.int c, Value.int d]) 21 = n_v vs 21 := n_v_old (by rw [hl]; decide)
  have e_22 : n_v (vs ++ [n_v vs 1, n_v vs 2, Value.int u, Value.int w, Value.int c, Value.int d]) 22 = n_v vs 1 := n_v_newk (k := 0) hl rfl
  have e_23 : n_v (vs ++ [n_v vs 1, n_v vs 2, Value.int u, Value.int w, Value.int c, Value.int d]) 23 = n_v vs 2 := n_v_newk (k := 1) hl rfl
  have e_24 : n_v (vs ++ [n_v vs 1, n_v vs 2, Value.int u, Value.int w, Value.int c, Value.int d]) 24 = Value.int u := n_v_newk (k := 2) hl rfl
  have e_25 : n_v (vs ++ [n_v vs 1, n_v vs 2, Value.int u, Value.int w, Value.int c, Value.int d]) 25 = Value.int w := n_v_newk (k := 3) hl rfl
  have e_26 : n_v (vs ++ [n_v vs 1, n_v vs 2, Value.int u, Value.int w, Value.int c, Value.int d]) 26 = Value.int c := n_v_newk (k := 4) hl rfl
  have e_27 : n_v (vs ++ [n_v vs 1, n_v vs 2, Value.int u, Value.int w, Value.int c, Value.int d]) 27 = Value.int d := n_v_newk (k := 5) hl rfl
  have nf0 : fc_1 PRD (20, [3], [50, 1, 0, 7, 0, 2, 0, 1, 2, 0, 7]) ws (vs ++ [n_v vs 1, n_v vs 2, Value.int u, Value.int w, Value.int c, Value.int d]) := by
    refine ⟨nf_inA hl rfl, sgq_1341 ?_⟩
    · show 1 ≤ w_fi ws (n_v (vs ++ [n_v vs 1, n_v vs 2, Value.int u, Value.int w, Value.int c, Value.int d]) 3) 7
      simp only [e_3, q3]
      exact vc_Em_splitCycle_4_0 (v_iv (n_v vs 12)) (v_iv (n_v vs 16)) (w_fi ws (n_v vs 0) 7) (w_ei ws (w_ar ws (n_v vs 0) 11)) (w_ei ws (w_ar ws (n_v vs 0) 14)) (w_fi ws (n_v vs 0) 6) (w_fi ws (n_v vs 0) 15) (w_fi ws (n_v vs 0) 5) (w_fi w1 (n_v vs 0) 7) (w_ei w1 (w_ar ws (n_v vs 0) 11)) (w_ei w1 (w_ar ws (n_v vs 0) 14)) (w_fi w1 (n_v vs 0) 6) (w_fi w1 (n_v vs 0) 15) (w_fi w1 (n_v vs 0) 5) (w_ei w1 (w_ar ws (n_v vs 0) 8)) (w_ei w1 (w_ar ws (n_v vs 0) 9)) (w_ei ws (w_ar ws (n_v vs 0) 8)) (w_ei ws (w_ar ws (n_v vs 0) 9)) (v_iv (Value.int u)) k12 k16 d0 g0 g16 fe_0_5_1 fe_0_6_1 fe_0_15_1 hE_0_8_1 hE_0_9_1 hE_0_11_1 hE_0_14_1 kz_0_5 kz_0_6 kz_0_7 kz_0_15 eu2
  have nf1 : fc_1 PRD (21, [18, 7], [50]) ws (vs ++ [n_v vs 1, n_v vs 2, Value.int u, Value.int w, Value.int c, Value.int d]) := by
    refine ⟨nf_inA hl rfl, sgq_1500 ?_⟩
    · show v_iv (n_v (vs ++ [n_v vs 1, n_v vs 2, Value.int u, Value.int w, Value.int c, Value.int d]) 18) + v_iv (n_v (vs ++ [n_v vs 1, n_v vs 2, Value.int u, Value.int w, Value.int c, Value.int d]) 7) ≤ 50
      simp only [e_7, e_18]
      exact vc_Em_splitCycle_4_1 (v_iv (n_v vs 7)) (v_iv (n_v vs 18)) (w_ei ws (w_ar ws (n_v vs 0) 11)) (w_ei ws (w_ar ws (n_v vs 0) 14)) (w_fi ws (n_v vs 0) 6) (w_fi ws (n_v vs 0) 15) (w_fi ws (n_v vs 0) 5) (w_ei w1 (w_ar ws (n_v vs 0) 11)) (w_ei w1 (w_ar ws (n_v vs 0) 14)) (w_fi w1 (n_v vs 0) 6) (w_fi w1 (n_v vs 0) 15) (w_fi w1 (n_v vs 0) 5) (w_ei w1 (w_ar ws (n_v vs 0) 8)) (w_ei w1 (w_ar ws (n_v vs 0) 9)) (w_ei ws (w_ar ws (n_v vs 0) 8)) (w_ei ws (w_ar ws (n_v vs 0) 9)) k7 k18 fe_0_5_1 fe_0_6_1 fe_0_15_1 hE_0_8_1 hE_0_9_1 hE_0_11_1 hE_0_14_1 kz_0_5 kz_0_6 kz_0_15
  have nf2 : fc_1 PRD (21, [21, 7], [1250]) ws (vs ++ [n_v vs 1, n_v vs 2, Value.int u, Value.int w, Value.int c, Value.int d]) := by
    refine ⟨nf_inA hl rfl, sgq_1501 ?_⟩
    · show v_iv (n_v (vs ++ [n_v vs 1, n_v vs 2, Value.int u, Value.int w, Value.int c, Value.int d]) 21) + v_iv (n_v (vs ++ [n_v vs 1, n_v vs 2, Value.int u, Value.int w, Value.int c, Value.int d]) 7) ≤ 1250
      simp only [e_7, e_21]
      exact vc_Em_splitCycle_4_2 (v_iv (n_v vs 4)) (v_iv (n_v vs 7)) (v_iv (n_v vs 12)) (v_iv (n_v vs 16)) (v_iv (n_v vs 21)) (w_fi ws (n_v vs 0) 7) (w_ei ws (w_ar ws (n_v vs 0) 11)) (w_ei ws (w_ar ws (n_v vs 0) 14)) (w_fi ws (n_v vs 0) 6) (w_fi ws (n_v vs 0) 15) (w_fi ws (n_v vs 0) 5) (w_fi w1 (n_v vs 0) 7) (w_ei w1 (w_ar ws (n_v vs 0) 11)) (w_ei w1 (w_ar ws (n_v vs 0) 14)) (w_fi w1 (n_v vs 0) 6) (w_fi w1 (n_v vs 0) 15) (w_fi w1 (n_v vs 0) 5) (w_ei w1 (w_ar ws (n_v vs 0) 8)) (w_ei w1 (w_ar ws (n_v vs 0) 9)) (w_ei ws (w_ar ws (n_v vs 0) 8)) (w_ei ws (w_ar ws (n_v vs 0) 9)) (v_iv (Value.int u)) (v_iv (Value.int d)) k4 k7 k12 k16 k21 d0 g0 f3 g16 f22 fe_0_5_1 fe_0_6_1 fe_0_15_1 hE_0_8_1 hE_0_9_1 hE_0_11_1 hE_0_14_1 kz_0_5 kz_0_6 kz_0_7 kz_0_15 eu2 ed2
  have nf3 : fc_1 PRD (24, [1, 22], []) ws (vs ++ [n_v vs 1, n_v vs 2, Value.int u, Value.int w, Value.int c, Value.int d]) := by
    refine ⟨nf_inA hl rfl, sgq_5 ?_⟩
    · show n_v (vs ++ [n_v vs 1, n_v vs 2, Value.int u, Value.int w, Value.int c, Value.int d]) 1 = n_v (vs ++ [n_v vs 1, n_v vs 2, Value.int u, Value.int w, Value.int c, Value.int d]) 22
      first | rfl | simp only [e_1, e_22, q9, q10, q3]
  have nf4 : fc_1 PRD (24, [2, 23], []) ws (vs ++ [n_v vs 1, n_v vs 2, Value.int u, Value.int w, Value.int c, Value.int d]) := by
    refine ⟨nf_inA hl rfl, sgq_5 ?_⟩
    · show n_v (vs ++ [n_v vs 1, n_v vs 2, Value.int u, Value.int w, Value.int c, Value.int d]) 2 = n_v (vs ++ [n_v vs 1, n_v vs 2, Value.int u, Value.int w, Value.int c, Value.int d]) 23
      first | rfl | simp only [e_2, e_23, q9, q10, q3]
  have nf5 : fc_1 PRD (20, [24, 3], [50, 1, 0, 1007, 1, 2, 1, 0, 2, 1, 7]) ws (vs ++ [n_v vs 1, n_v vs 2, Value.int u, Value.int w, Value.int c, Value.int d]) := by
    refine ⟨nf_inA hl rfl, sgq_1499 ?_⟩
    · show v_iv (n_v (vs ++ [n_v vs 1, n_v vs 2, Value.int u, Value.int w, Value.int c, Value.int d]) 24) = w_fi ws (n_v (vs ++ [n_v vs 1, n_v vs 2, Value.int u, Value.int w, Value.int c, Value.int d]) 3) 7
      simp only [e_3, e_24, q3]
      exact vc_Em_splitCycle_4_5 (w_fi ws (n_v vs 0) 7) (w_ei ws (w_ar ws (n_v vs 0) 11)) (w_ei ws (w_ar ws (n_v vs 0) 14)) (w_fi ws (n_v vs 0) 6) (w_fi ws (n_v vs 0) 15) (w_fi ws (n_v vs 0) 5) (w_ei w1 (w_ar ws (n_v vs 0) 11)) (w_ei w1 (w_ar ws (n_v vs 0) 14)) (w_fi w1 (n_v vs 0) 6) (w_fi w1 (n_v vs 0) 15) (w_fi w1 (n_v vs 0) 5) (w_ei w1 (w_ar ws (n_v vs 0) 8)) (w_ei w1 (w_ar ws (n_v vs 0) 9)) (w_ei ws (w_ar ws (n_v vs 0) 8)) (w_ei ws (w_ar ws (n_v vs 0) 9)) (v_iv (Value.int u)) fe_0_5_1 fe_0_6_1 fe_0_15_1 hE_0_8_1 hE_0_9_1 hE_0_11_1 hE_0_14_1 kz_0_5 kz_0_6 kz_0_7 kz_0_15 eu2
  have nf6 : fc_1 PRD (20, [25, 3], [50, 1, 0, 1006, 1, 2, 1, 0, 2, 1, 6]) ws (vs ++ [n_v vs 1, n_v vs 2, Value.int u, Value.int w, Value.int c, Value.int d]) := by
    refine ⟨nf_inA hl rfl, sgq_1502 ?_⟩
    · show v_iv (n_v (vs ++ [n_v vs 1, n_v vs 2, Value.int u, Value.int w, Value.int c, Value.int d]) 25) = w_fi ws (n_v (vs ++ [n_v vs 1, n_v vs 2, Value.int u, Value.int w, Value.int c, Value.int d]) 3) 6
      simp only [e_3, e_25, q3]
      exact vc_Em_splitCycle_4_6 (w_ei ws (w_ar ws (n_v vs 0) 11)) (w_ei ws (w_ar ws (n_v vs 0) 14)) (w_fi ws (n_v vs 0) 6) (w_fi ws (n_v vs 0) 15) (w_fi ws (n_v vs 0) 5) (w_ei w1 (w_ar ws (n_v vs 0) 11)) (w_ei w1 (w_ar ws (n_v vs 0) 14)) (w_fi w1 (n_v vs 0) 6) (w_fi w1 (n_v vs 0) 15) (w_fi w1 (n_v vs 0) 5) (w_ei w1 (w_ar ws (n_v vs 0) 8)) (w_ei w1 (w_ar ws (n_v vs 0) 9)) (w_ei ws (w_ar ws (n_v vs 0) 8)) (w_ei ws (w_ar ws (n_v vs 0) 9)) (v_iv (Value.int w)) fe_0_5_1 fe_0_6_1 fe_0_15_1 hE_0_8_1 hE_0_9_1 hE_0_11_1 hE_0_14_1 kz_0_5 kz_0_6 kz_0_15 ew2
  have nf7 : fc_1 PRD (20, [26, 3], [50, 1, 0, 1015, 1, 2, 1, 0, 2, 1, 15]) ws (vs ++ [n_v vs 1, n_v vs 2, Value.int u, Value.int w, Value.int c, Value.int d]) := by
    refine ⟨nf_inA hl rfl, sgq_1503 ?_⟩
    · show v_iv (n_v (vs ++ [n_v vs 1, n_v vs 2, Value.int u, Value.int w, Value.int c, Value.int d]) 26) = w_fi ws (n_v (vs ++ [n_v vs 1, n_v vs 2, Value.int u, Value.int w, Value.int c, Value.int d]) 3) 15
      simp only [e_3, e_26, q3]
      exact vc_Em_splitCycle_4_7 (w_ei ws (w_ar ws (n_v vs 0) 11)) (w_ei ws (w_ar ws (n_v vs 0) 14)) (w_fi ws (n_v vs 0) 6) (w_fi ws (n_v vs 0) 15) (w_fi ws (n_v vs 0) 5) (w_ei w1 (w_ar ws (n_v vs 0) 11)) (w_ei w1 (w_ar ws (n_v vs 0) 14)) (w_fi w1 (n_v vs 0) 6) (w_fi w1 (n_v vs 0) 15) (w_fi w1 (n_v vs 0) 5) (w_ei w1 (w_ar ws (n_v vs 0) 8)) (w_ei w1 (w_ar ws (n_v vs 0) 9)) (w_ei ws (w_ar ws (n_v vs 0) 8)) (w_ei ws (w_ar ws (n_v vs 0) 9)) (v_iv (Value.int c)) fe_0_5_1 fe_0_6_1 fe_0_15_1 hE_0_8_1 hE_0_9_1 hE_0_11_1 hE_0_14_1 kz_0_5 kz_0_6 kz_0_15 ec2
  have nf8 : fc_1 PRD (23, [27, 4], [0, 1, -1]) ws (vs ++ [n_v vs 1, n_v vs 2, Value.int u, Value.int w, Value.int c, Value.int d]) := by
    refine ⟨nf_inA hl rfl, sgq_7 ?_⟩
    · show 1 * v_iv (n_v (vs ++ [n_v vs 1, n_v vs 2, Value.int u, Value.int w, Value.int c, Value.int d]) 27) + ((-1) * v_iv (n_v (vs ++ [n_v vs 1, n_v vs 2, Value.int u, Value.int w, Value.int c, Value.int d]) 4) + 0) ≤ 0
      simp only [e_4, e_27]
      exact vc_Em_splitCycle_4_8 (v_iv (n_v vs 4)) (w_ei ws (w_ar ws (n_v vs 0) 11)) (w_ei ws (w_ar ws (n_v vs 0) 14)) (w_fi ws (n_v vs 0) 6) (w_fi ws (n_v vs 0) 15) (w_fi ws (n_v vs 0) 5) (w_ei w1 (w_ar ws (n_v vs 0) 11)) (w_ei w1 (w_ar ws (n_v vs 0) 14)) (w_fi w1 (n_v vs 0) 6) (w_fi w1 (n_v vs 0) 15) (w_fi w1 (n_v vs 0) 5) (w_ei w1 (w_ar ws (n_v vs 0) 8)) (w_ei w1 (w_ar ws (n_v vs 0) 9)) (w_ei ws (w_ar ws (n_v vs 0) 8)) (w_ei ws (w_ar ws (n_v vs 0) 9)) (v_iv (Value.int d)) k4 fe_0_5_1 fe_0_6_1 fe_0_15_1 hE_0_8_1 hE_0_9_1 hE_0_11_1 hE_0_14_1 kz_0_5 kz_0_6 kz_0_15 ed2
  have nf9 : fc_1 PRD (23, [27, 4], [0, -1, 1]) ws (vs ++ [n_v vs 1, n_v vs 2, Value.int u, Value.int w, Value.int c, Value.int d]) := by
    refine ⟨nf_inA hl rfl, sgq_22 ?_⟩
    · show (-1) * v_iv (n_v (vs ++ [n_v vs 1, n_v vs 2, Value.int u, Value.int w, Value.int c, Value.int d]) 27) + (1 * v_iv (n_v (vs ++ [n_v vs 1, n_v vs 2, Value.int u, Value.int w, Value.int c, Value.int d]) 4) + 0) ≤ 0
      simp only [e_4, e_27]
      exact vc_Em_splitCycle_4_9 (v_iv (n_v vs 4)) (w_ei ws (w_ar ws (n_v vs 0) 11)) (w_ei ws (w_ar ws (n_v vs 0) 14)) (w_fi ws (n_v vs 0) 6) (w_fi ws (n_v vs 0) 15) (w_fi ws (n_v vs 0) 5) (w_ei w1 (w_ar ws (n_v vs 0) 11)) (w_ei w1 (w_ar ws (n_v vs 0) 14)) (w_fi w1 (n_v vs 0) 6) (w_fi w1 (n_v vs 0) 15) (w_fi w1 (n_v vs 0) 5) (w_ei w1 (w_ar ws (n_v vs 0) 8)) (w_ei w1 (w_ar ws (n_v vs 0) 9)) (w_ei ws (w_ar ws (n_v vs 0) 8)) (w_ei ws (w_ar ws (n_v vs 0) 9)) (v_iv (Value.int d)) k4 fe_0_5_1 fe_0_6_1 fe_0_15_1 hE_0_8_1 hE_0_9_1 hE_0_11_1 hE_0_14_1 kz_0_5 kz_0_6 kz_0_15 ed2
  have nf10 : fc_1 PRD (20, [19, 17, 22, 23, 18, 21, 7, 24, 25, 26, 27], [61, 4, 623]) ws (vs ++ [n_v vs 1, n_v vs 2, Value.int u, Value.int w, Value.int c, Value.int d]) := by
    refine ⟨nf_inA hl rfl, sgq_1504 ?_⟩
    · show CPF (w_ei ws (v_ad (n_v (vs ++ [n_v vs 1, n_v vs 2, Value.int u, Value.int w, Value.int c, Value.int d]) 19))) (w_ei ws (v_ad (n_v (vs ++ [n_v vs 1, n_v vs 2, Value.int u, Value.int w, Value.int c, Value.int d]) 17))) (w_ei ws (v_ad (n_v (vs ++ [n_v vs 1, n_v vs 2, Value.int u, Value.int w, Value.int c, Value.int d]) 22))) (w_ei ws (v_ad (n_v (vs ++ [n_v vs 1, n_v vs 2, Value.int u, Value.int w, Value.int c, Value.int d]) 23))) (v_iv (n_v (vs ++ [n_v vs 1, n_v vs 2, Value.int u, Value.int w, Value.int c, Value.int d]) 18)) (v_iv (n_v (vs ++ [n_v vs 1, n_v vs 2, Value.int u, Value.int w, Value.int c, Value.int d]) 21)) (v_iv (n_v (vs ++ [n_v vs 1, n_v vs 2, Value.int u, Value.int w, Value.int c, Value.int d]) 7)) (v_iv (n_v (vs ++ [n_v vs 1, n_v vs 2, Value.int u, Value.int w, Value.int c, Value.int d]) 24)) (v_iv (n_v (vs ++ [n_v vs 1, n_v vs 2, Value.int u, Value.int w, Value.int c, Value.int d]) 25)) (v_iv (n_v (vs ++ [n_v vs 1, n_v vs 2, Value.int u, Value.int w, Value.int c, Value.int d]) 26)) (v_iv (n_v (vs ++ [n_v vs 1, n_v vs 2, Value.int u, Value.int w, Value.int c, Value.int d]) 27))
      simp only [e_7, e_17, e_18, e_19, e_21, e_22, e_23, e_24, e_25, e_26, e_27, ad_1, ad_2, ad_17, ad_19]
      exact vc_Em_splitCycle_4_10 (v_iv (n_v vs 4)) (v_iv (n_v vs 7)) (v_iv (n_v vs 8)) (v_iv (n_v vs 12)) (v_iv (n_v vs 16)) (v_iv (n_v vs 18)) (v_iv (n_v vs 21)) (w_fi ws (n_v vs 0) 7) (w_ei ws (w_ar ws (n_v vs 0) 11)) (w_ei ws (w_ar ws (n_v vs 0) 14)) (w_fi ws (n_v vs 0) 6) (w_fi ws (n_v vs 0) 15) (w_fi ws (n_v vs 0) 5) (w_fi w1 (n_v vs 0) 7) (w_ei w1 (w_ar ws (n_v vs 0) 11)) (w_ei w1 (w_ar ws (n_v vs 0) 14)) (w_fi w1 (n_v vs 0) 6) (w_fi w1 (n_v vs 0) 15) (w_fi w1 (n_v vs 0) 5) (w_ei w1 (w_ar ws (n_v vs 0) 8)) (w_ei w1 (w_ar ws (n_v vs 0) 9)) (w_ei ws (w_ar ws (n_v vs 0) 8)) (w_ei ws (w_ar ws (n_v vs 0) 9)) (v_iv (Value.int u)) (v_iv (Value.int w)) (v_iv (Value.int c)) (v_iv (Value.int d)) k4 k7 k8 k12 k16 k18 k21 d0 g0 f3 g16 f18 f22 f26 fe_0_5_1 fe_0_6_1 fe_0_15_1 hE_0_8_1 hE_0_9_1 hE_0_11_1 hE_0_14_1 kz_0_5 kz_0_6 kz_0_7 kz_0_15 eu2 ew2 ec2 ed2
  have rf7 : tv_ok ta (0, 0, 25, []) (n_v vs 7) := tv_in t7 (by first | omega | grind) (by first | omega | grind)
  exact ⟨List.forall_mem_cons.mpr ⟨rf7, (fun _ h => (by cases h))⟩, [n_v vs 1, n_v vs 2, Value.int u, Value.int w, Value.int c, Value.int d], ag_six t1 t2 hu hw hc hd, List.forall_mem_cons.mpr ⟨⟨show (20 : Nat) < 100 from by decide, nf0⟩, List.forall_mem_cons.mpr ⟨⟨show (21 : Nat) < 100 from by decide, nf1⟩, List.forall_mem_cons.mpr ⟨⟨show (21 : Nat) < 100 from by decide, nf2⟩, List.forall_mem_cons.mpr ⟨⟨show (24 : Nat) < 100 from by decide, nf3⟩, List.forall_mem_cons.mpr ⟨⟨show (24 : Nat) < 100 from by decide, nf4⟩, List.forall_mem_cons.mpr ⟨⟨show (20 : Nat) < 100 from by decide, nf5⟩, List.forall_mem_cons.mpr ⟨⟨show (20 : Nat) < 100 from by decide, nf6⟩, List.forall_mem_cons.mpr ⟨⟨show (20 : Nat) < 100 from by decide, nf7⟩, List.forall_mem_cons.mpr ⟨⟨show (23 : Nat) < 100 from by decide, nf8⟩, List.forall_mem_cons.mpr ⟨⟨show (23 : Nat) < 100 from by decide, nf9⟩, List.forall_mem_cons.mpr ⟨⟨show (20 : Nat) < 100 from by decide, nf10⟩, (fun _ h => (by cases h))⟩⟩⟩⟩⟩⟩⟩⟩⟩⟩⟩, (fun _ h => (by cases h))⟩
set_option maxHeartbeats 4000000 in
theorem vc_Em_splitCycle_5_0 (x4 : Int) (x7 : Int) (x18 : Int) (x21 : Int) (x24 : Int) (x25 : Int) (x26 : Int) (x27 : Int) (cycles_0 : Int) (drawnNodes_0 : Int) (wayLength_0 : Int) (fresh_0 : Int → Int) (way_0 : Int → Int) (cycle_0 : Int → Int) (cycleLength_0 : Int → Int) (k4 : 0 ≤ x4 ∧ x4 ≤ 49) (k7 : 0 ≤ x7 ∧ x7 ≤ 25) (k18 : 0 ≤ x18 ∧ x18 ≤ 0) (k21 : 0 ≤ x21 ∧ x21 ≤ 1225) (k24 : 0 ≤ x24 ∧ x24 ≤ 50) (k25 : 0 ≤ x25 ∧ x25 ≤ 33554431) (k26 : 0 ≤ x26 ∧ x26 ≤ 27) (k27 : 0 ≤ x27 ∧ x27 ≤ 49) (f11 : x24 = cycles_0) (f12 : x25 = drawnNodes_0) (f13 : x26 = wayLength_0) (f14 : 1 * x27 + ((-1) * x4 + 0) ≤ 0) (f15 : (-1) * x27 + (1 * x4 + 0) ≤ 0) (f24 : CPG (cycle_0) (fresh_0) (cycleLength_0) (way_0) (x18) (x21) (x7) (x24) (x25) (x26) (x27)) (kz_0_6 : 0 ≤ drawnNodes_0 ∧ drawnNodes_0 ≤ 33554431) (kz_0_7 : 0 ≤ cycles_0 ∧ cycles_0 ≤ 50) (kz_0_15 : 0 ≤ wayLength_0 ∧ wayLength_0 ≤ 27) : SCX (cycles_0) (drawnNodes_0) (wayLength_0) (cycle_0) (cycleLength_0) (way_0) (x4) (x7) := by
  first
    | (have q : SCX x24 x25 x26 cycle_0 cycleLength_0 way_0 x27 x7 := ‹CPG _ _ _ _ _ _ _ _ _ _ _›; rw [show x24 = cycles_0 by omega, show x25 = drawnNodes_0 by omega, show x26 = wayLength_0 by omega, show x27 = x4 by omega] at q; exact q)
def o_Em_splitCycle_5 : or_T := (131, 30, [(0, (2, 0, 0, [1])), (4, (0, 0, 49, [])), (7, (0, 0, 25, [])), (18, (0, 0, 0, [])), (21, (0, 0, 1225, [])), (24, (0, 0, 50, [])), (25, (0, 0, 33554431, [])), (26, (0, 0, 27, [])), (27, (0, 0, 49, []))], [(9, [19, 3], [8]), (9, [17, 3], [11]), (9, [9, 3], [9]), (9, [10, 3], [14]), (24, [1, 22], []), (24, [2, 23], []), (20, [24, 3], [50, 1, 0, 1007, 1, 2, 1, 0, 2, 1, 7]), (20, [25, 3], [50, 1, 0, 1006, 1, 2, 1, 0, 2, 1, 6]), (20, [26, 3], [50, 1, 0, 1015, 1, 2, 1, 0, 2, 1, 15]), (23, [27, 4], [0, 1, -1]), (23, [27, 4], [0, -1, 1]), (24, [1, 9], []), (24, [2, 10], []), (24, [0, 3], []), (20, [19, 17, 22, 23, 18, 21, 7, 24, 25, 26, 27], [61, 4, 624])], [], [], [(20, [3, 4, 7], [60, 3, 3, 620, 7, 6, 15, 8, 9, 14])], [], [])
theorem oo_Em_splitCycle_5 {kA : Nat → ClassId} : or_ok PRD kA GG o_Em_splitCycle_5 := by
  refine or_mk fun A ta ws vs hD hth hl => ?_
  intro t0 r0 t4 k4 t7 k7 t18 k18 t21 k21 t24 k24 t25 k25 t26 k26 t27 k27 f0 f1 f3 f4 f9 f10 f11 f12 f13 f14 f15 f18 f19 f22 f24
  replace f0 := shm_293 f0
  replace f1 := shm_116 f1
  replace f3 := shm_119 f3
  replace f4 := shm_115 f4
  replace f9 := shm_5 f9
  replace f10 := shm_5 f10
  replace f11 := shm_1499 f11
  replace f12 := shm_1502 f12
  replace f13 := shm_1503 f13
  replace f14 := shm_7 f14
  replace f15 := shm_22 f15
  replace f18 := shm_5 f18
  replace f19 := shm_5 f19
  replace f22 := shm_5 f22
  replace f24 := shm_1505 f24
  have q22 : n_v vs 22 = n_v vs 1 := f9.symm
  have q23 : n_v vs 23 = n_v vs 2 := f10.symm
  have q9 : n_v vs 9 = n_v vs 1 := f18.symm
  have q10 : n_v vs 10 = n_v vs 2 := f19.symm
  have q3 : n_v vs 3 = n_v vs 0 := f22.symm
  simp only [q3, q9, q10, q22, q23] at f0 f1 f3 f4 f11 f12 f13 f24
  have ad_19 : v_ad (n_v vs 19) = w_ar ws (n_v vs 0) 8 := congrArg v_ad f0
  have ad_17 : v_ad (n_v vs 17) = w_ar ws (n_v vs 0) 11 := congrArg v_ad f1
  have ad_1 : v_ad (n_v vs 1) = w_ar ws (n_v vs 0) 9 := congrArg v_ad f3
  have ad_2 : v_ad (n_v vs 2) = w_ar ws (n_v vs 0) 14 := congrArg v_ad f4
  simp only [ad_1, ad_2, ad_17, ad_19] at f24
  have kz_0_6 := fdq_53 hD hth r0
  have kz_0_7 := fdq_49 hD hth r0
  have kz_0_15 := fdq_54 hD hth r0
  have nf0 : fc_1 PRD (20, [3, 4, 7], [60, 3, 3, 620, 7, 6, 15, 8, 9, 14]) ws (vs) := by
    refine ⟨nf_in hl rfl, sgq_357 ?_⟩
    · show SCX (w_fi ws (n_v vs 3) 7) (w_fi ws (n_v vs 3) 6) (w_fi ws (n_v vs 3) 15) (w_ei ws (w_ar ws (n_v vs 3) 8)) (w_ei ws (w_ar ws (n_v vs 3) 9)) (w_ei ws (w_ar ws (n_v vs 3) 14)) (v_iv (n_v vs 4)) (v_iv (n_v vs 7))
      rw [q3]
      exact vc_Em_splitCycle_5_0 (v_iv (n_v vs 4)) (v_iv (n_v vs 7)) (v_iv (n_v vs 18)) (v_iv (n_v vs 21)) (v_iv (n_v vs 24)) (v_iv (n_v vs 25)) (v_iv (n_v vs 26)) (v_iv (n_v vs 27)) (w_fi ws (n_v vs 0) 7) (w_fi ws (n_v vs 0) 6) (w_fi ws (n_v vs 0) 15) (w_ei ws (w_ar ws (n_v vs 0) 11)) (w_ei ws (w_ar ws (n_v vs 0) 14)) (w_ei ws (w_ar ws (n_v vs 0) 8)) (w_ei ws (w_ar ws (n_v vs 0) 9)) k4 k7 k18 k21 k24 k25 k26 k27 f11 f12 f13 f14 f15 f24 kz_0_6 kz_0_7 kz_0_15
  refine ⟨(fun _ h => (by cases h)), [], trivial, ?_, (fun _ h => (by cases h))⟩
  rw [List.append_nil]
  exact List.forall_mem_cons.mpr ⟨⟨show (20 : Nat) < 100 from by decide, nf0⟩, (fun _ h => (by cases h))⟩
set_option maxHeartbeats 4000000 in
theorem vc_Em_splitCycle_6_0 (x4 : Int) (x14 : Int) (x16 : Int) (x18 : Int) (x30 : Int) (cycles_0 : Int) (drawnNodes_0 : Int) (wayLength_0 : Int) (way_0 : Int → Int) (cycle_0 : Int → Int) (cycleLength_0 : Int → Int) (k4 : 0 ≤ x4 ∧ x4 ≤ 49) (k30 : 1 ≤ x30 ∧ x30 ≤ 1) (f23 : SCZ (cycles_0) (drawnNodes_0) (wayLength_0) (cycle_0) (cycleLength_0) (way_0) (x4)) (kz_0_6 : 0 ≤ drawnNodes_0 ∧ drawnNodes_0 ≤ 33554431) (kz_0_7 : 0 ≤ cycles_0 ∧ cycles_0 ≤ 50) (kz_0_15 : 0 ≤ wayLength_0 ∧ wayLength_0 ≤ 27) : FNC (cycles_0) (drawnNodes_0) (wayLength_0) (cycle_0) (cycleLength_0) (way_0) (x30) := by
  first
    | exact fnc_start ‹SCZ _ _ _ _ _ _ _› (by omega)
def o_Em_splitCycle_6 : or_T := (137, 31, [(0, (2, 0, 0, [1])), (4, (0, 0, 49, [])), (30, (0, 1, 1, []))], [(24, [0, 3], []), (20, [3, 4], [60, 3, 3, 621, 7, 6, 15, 8, 9, 14])], [], [], [(20, [3, 30], [60, 3, 3, 622, 7, 6, 15, 8, 9, 14])], [], [])
theorem oo_Em_splitCycle_6 {kA : Nat → ClassId} : or_ok PRD kA GG o_Em_splitCycle_6 := by
  refine or_mk fun A ta ws vs hD hth hl => ?_
  intro t0 r0 t4 k4 t30 k30 f21 f23
  replace f21 := shm_5 f21
  replace f23 := shm_358 f23
  have q3 : n_v vs 3 = n_v vs 0 := f21.symm
  simp only [q3] at f23
  have kz_0_6 := fdq_53 hD hth r0
  have kz_0_7 := fdq_49 hD hth r0
  have kz_0_15 := fdq_54 hD hth r0
  have nf0 : fc_1 PRD (20, [3, 30], [60, 3, 3, 622, 7, 6, 15, 8, 9, 14]) ws (vs) := by
    refine ⟨nf_in hl rfl, sgq_1506 ?_⟩
    · show FNC (w_fi ws (n_v vs 3) 7) (w_fi ws (n_v vs 3) 6) (w_fi ws (n_v vs 3) 15) (w_ei ws (w_ar ws (n_v vs 3) 8)) (w_ei ws (w_ar ws (n_v vs 3) 9)) (w_ei ws (w_ar ws (n_v vs 3) 14)) (v_iv (n_v vs 30))
      rw [q3]
      exact vc_Em_splitCycle_6_0 (v_iv (n_v vs 4)) (v_iv (n_v vs 14)) (v_iv (n_v vs 16)) (v_iv (n_v vs 18)) (v_iv (n_v vs 30)) (w_fi ws (n_v vs 0) 7) (w_fi ws (n_v vs 0) 6) (w_fi ws (n_v vs 0) 15) (w_ei ws (w_ar ws (n_v vs 0) 14)) (w_ei ws (w_ar ws (n_v vs 0) 8)) (w_ei ws (w_ar ws (n_v vs 0) 9)) k4 k30 f23 kz_0_6 kz_0_7 kz_0_15
  refine ⟨(fun _ h => (by cases h)), [], trivial, ?_, (fun _ h => (by cases h))⟩
  rw [List.append_nil]
  exact List.forall_mem_cons.mpr ⟨⟨show (20 : Nat) < 100 from by decide, nf0⟩, (fun _ h => (by cases h))⟩
set_option maxHeartbeats 4000000 in
theorem vc_Em_splitCycle_7_r0 (x7 : Int) (x8 : Int) (way_0 : Int → Int) (fresh_0 : Int → Int) (drawnNodes_0 : Int) (wayLength_0 : Int) (k7 : 0 ≤ x7 ∧ x7 ≤ 50) (k8 : 1 ≤ x8 ∧ x8 ≤ 25) (f5 : FRW (drawnNodes_0) (wayLength_0) (fresh_0) (way_0) (x7) (x8)) (kz_0_6 : 0 ≤ drawnNodes_0 ∧ drawnNodes_0 ≤ 33554431) (kz_0_15 : 0 ≤ wayLength_0 ∧ wayLength_0 ≤ 27) : 0 ≤ x7 ∧ x7 ≤ 49 := by
  first
    | (have q := (‹FRW _ _ _ _ _ _›).2.2; have q2 := gdr_le q; have q1 := q.1; omega)
def o_Em_splitCycle_7 : or_T := (59, 13, [(0, (2, 0, 0, [1])), (1, (2, 0, 0, [30])), (2, (2, 0, 0, [35])), (3, (2, 0, 0, [1])), (4, (0, 0, 49, [])), (7, (0, 0, 50, [])), (8, (0, 1, 25, [])), (9, (2, 0, 0, [30])), (10, (2, 0, 0, [35])), (11, (2, 0, 0, [32])), (12, (0, 0, 24, []))], [(9, [9, 3], [9]), (10, [12, 10, 8], []), (9, [10, 3], [14]), (9, [11, 3], [11]), (8, [8], [4]), (20, [3, 7, 8], [60, 2, 2, 616, 6, 15, 11, 14]), (20, [3], [60, 2, 0, 602, 6, 5]), (24, [1, 9], []), (24, [2, 10], []), (20, [3], [60, 2, 2, 603, 7, 6, 8, 9]), (20, [3], [60, 2, 1, 613, 6, 15, 14]), (20, [3], [50, 1, 0, 7, 0, 7, 4, 3, 2, 0, 7, 0, 1, 0, 50]), (20, [4, 3], [50, 1, 0, 1007, 2, 6, 0, 2, 0, 0, 1, 0, 0, 6, 4, 2, 1, 0, 0, 1, 2, 1, 7]), (20, [3], [50, 1, 0, 15, 0, 2, 0, 2, 2, 0, 15]), (24, [0, 3], [])], [(7, (0, 0, 49, []))], [], [], [], [])
theorem oo_Em_splitCycle_7 {kA : Nat → ClassId} : or_ok PRD kA GG o_Em_splitCycle_7 := by
  refine or_mk fun A ta ws vs hD hth hl => ?_
  intro t0 r0 t1 r1 t2 r2 t3 r3 t4 k4 t7 k7 t8 k8 t9 r9 t10 r10 t11 r11 t12 k12 f0 f1 f2 f3 f4 f5 f6 f7 f8 f9 f10 f11 f12 f13 f14
  replace f5 := shm_1498 f5
  replace f14 := shm_5 f14
  have q3 : n_v vs 3 = n_v vs 0 := f14.symm
  simp only [q3] at f5
  have kz_0_6 := fdq_53 hD hth r0
  have kz_0_15 := fdq_54 hD hth r0
  have hrf0 : 0 ≤ v_iv (n_v vs 7) ∧ v_iv (n_v vs 7) ≤ 49 := vc_Em_splitCycle_7_r0 (v_iv (n_v vs 7)) (v_iv (n_v vs 8)) (w_ei ws (w_ar ws (n_v vs 0) 14)) (w_ei ws (w_ar ws (n_v vs 0) 11)) (w_fi ws (n_v vs 0) 6) (w_fi ws (n_v vs 0) 15) k7 k8 f5 kz_0_6 kz_0_15
  have rf7 : tv_ok ta (0, 0, 49, []) (n_v vs 7) := tv_in t7 (by first | omega | grind) (by first | omega | grind)
  refine ⟨List.forall_mem_cons.mpr ⟨rf7, (fun _ h => (by cases h))⟩, [], trivial, ?_, (fun _ h => (by cases h))⟩
  rw [List.append_nil]
  exact (fun _ h => (by cases h))
set_option maxHeartbeats 4000000 in
theorem vc_Em_splitCycle_8_0 (x7 : Int) (x8 : Int) (x12 : Int) (x13 : Int) (x14 : Int) (drawnNodes_0 : Int) (blockNodes_0 : Int) (cycle_0 : Int → Int) (cycleLength_0 : Int → Int) (cycles_0 : Int) (way_0 : Int → Int) (wayLength_0 : Int) (way_1 : Int → Int) (fresh_1 : Int → Int) (drawnNodes_1 : Int) (wayLength_1 : Int) (blockNodes_1 : Int) (cycle_1 : Int → Int) (cycleLength_1 : Int → Int) (cycles_1 : Int) (fresh_0 : Int → Int) (k7 : 0 ≤ x7 ∧ x7 ≤ 49) (k8 : 1 ≤ x8 ∧ x8 ≤ 25) (k12 : 0 ≤ x12 ∧ x12 ≤ 24) (k13 : 1 ≤ x13 ∧ x13 ≤ 50) (k14 : 0 ≤ x14 ∧ x14 ≤ 24) (d0 : x8 + (-1) ≤ x14 ∧ x14 ≤ x8 + (-1)) (f4 : x13 = x7 + 1) (h15 : x12 = way_1 (x8)) (f16 : 0 < x8) (f17 : FRW (drawnNodes_1) (wayLength_1) (fresh_1) (way_1) (x7) (x8)) (f20 : WYN (drawnNodes_1) (wayLength_1) (way_1)) (fe_0_5_1 : blockNodes_0 = blockNodes_1) (fe_0_6_1 : drawnNodes_0 = drawnNodes_1) (fe_0_7_1 : cycles_0 = cycles_1) (fe_0_15_1 : wayLength_0 = wayLength_1) (hE_0_8_1 : ∀ j : Int, cycle_0 j = cycle_1 j) (hE_0_9_1 : ∀ j : Int, cycleLength_0 j = cycleLength_1 j) (hE_0_11_1 : ∀ j : Int, 0 ≤ j → (j = x7 → fresh_0 j = x12) ∧ (j ≠ x7 → fresh_0 j = fresh_1 j)) (hE_0_14_1 : ∀ j : Int, way_0 j = way_1 j) (kz_0_5 : 0 ≤ blockNodes_0 ∧ blockNodes_0 ≤ 33554431) (kz_0_6 : 0 ≤ drawnNodes_0 ∧ drawnNodes_0 ≤ 33554431) (kz_0_7 : 0 ≤ cycles_0 ∧ cycles_0 ≤ 50) (kz_0_15 : 0 ≤ wayLength_0 ∧ wayLength_0 ≤ 27) : FRW (drawnNodes_0) (wayLength_0) (fresh_0) (way_0) (x13) (x14) := by
  subst fe_0_5_1
  subst fe_0_6_1
  subst fe_0_7_1
  subst fe_0_15_1
  have e_hE_0_8_1 := funext hE_0_8_1; subst e_hE_0_8_1
  have e_hE_0_9_1 := funext hE_0_9_1; subst e_hE_0_9_1
  have e_hE_0_14_1 := funext hE_0_14_1; subst e_hE_0_14_1
  first
    | exact frw_step ‹FRW _ _ _ _ _ _› ‹WYN _ _ _› (by omega) (by assumption) (by omega) (by assumption) (by omega) (by omega)
def o_Em_splitCycle_8 : or_T := (41, 15, [(0, (2, 0, 0, [1])), (7, (0, 0, 49, [])), (8, (0, 1, 25, [])), (11, (2, 0, 0, [32])), (12, (0, 0, 24, [])), (13, (0, 1, 50, [])), (14, (0, 0, 24, []))], [(9, [11, 3], [11]), (9, [10, 3], [14]), (6, [13, 7], [1]), (24, [2, 10], []), (24, [0, 3], []), (100, [11, 7, 12], []), (10, [12, 10, 8], []), (8, [8], [4]), (20, [3, 7, 8], [60, 2, 2, 616, 6, 15, 11, 14]), (20, [3], [60, 2, 1, 613, 6, 15, 14])], [], [], [(20, [3, 13, 14], [60, 2, 2, 616, 6, 15, 11, 14])], [], [(14, 8, -1, -1), (13, 7, 1, 1)])
theorem oo_Em_splitCycle_8 {kA : Nat → ClassId} : or_ok PRD kA GG o_Em_splitCycle_8 := by
  refine or_mk fun A ta ws vs hD hth hl => ?_
  intro t0 r0 t7 k7 t8 k8 t11 r11 t12 k12 t13 k13 t14 k14 d0 d1 f0 f2 f4 f7 f13 ta1 w1 le1 s1 f15 f16 f17 f20
  replace f0 := shm_116 f0
  replace f2 := shm_115 f2
  replace f4 := shm_4 f4
  replace f7 := shm_5 f7
  replace f13 := shm_5 f13
  have s1 : (∀ b j, w_el ws b j = if b = v_ad (n_v vs 11) ∧ j = (v_iv (n_v vs 7)).toNat then v_iv (n_v vs 12) else w_el w1 b j) ∧ ∀ b k, w_fd ws b k = w_fd w1 b k := s1.2
  replace f15 := shm_107 f15
  replace f16 := shm_308 f16
  replace f17 := shm_1498 f17
  replace f20 := shm_801 f20
  have q10 : n_v vs 10 = n_v vs 2 := f7.symm
  have q3 : n_v vs 3 = n_v vs 0 := f13.symm
  simp only [q3, q10] at f0 f2 f15 f17 f20
  have ar_0_8_1 : w_ar w1 (n_v vs 0) 8 = w_ar ws (n_v vs 0) 8 := congrArg v_ad (s1.2 _ _).symm
  have cr_0_8 := fdq_51 hD hth r0
  have ar_0_9_1 : w_ar w1 (n_v vs 0) 9 = w_ar ws (n_v vs 0) 9 := congrArg v_ad (s1.2 _ _).symm
  have cr_0_9 := fdq_50 hD hth r0
  have ar_0_11_1 : w_ar w1 (n_v vs 0) 11 = w_ar ws (n_v vs 0) 11 := congrArg v_ad (s1.2 _ _).symm
  have ar_0_14_1 : w_ar w1 (n_v vs 0) 14 = w_ar ws (n_v vs 0) 14 := congrArg v_ad (s1.2 _ _).symm
  have cr_0_14 := fdq_52 hD hth r0
  have ad_11 : v_ad (n_v vs 11) = w_ar ws (n_v vs 0) 11 := congrArg v_ad f0
  have ad_2 : v_ad (n_v vs 2) = w_ar ws (n_v vs 0) 14 := congrArg v_ad f2
  simp only [ad_2] at f15
  have h15 : v_iv (n_v vs 12) = w_ei w1 (w_ar ws (n_v vs 0) 14) (v_iv (n_v vs 8)) := f15
  simp only [ar_0_11_1, ar_0_14_1, ar_0_8_1, ar_0_9_1] at f17 f20
  have fe_0_5_1 : w_fi ws (n_v vs 0) 5 = w_fi w1 (n_v vs 0) 5 := congrArg v_iv (s1.2 _ _)
  have fe_0_6_1 : w_fi ws (n_v vs 0) 6 = w_fi w1 (n_v vs 0) 6 := congrArg v_iv (s1.2 _ _)
  have fe_0_7_1 : w_fi ws (n_v vs 0) 7 = w_fi w1 (n_v vs 0) 7 := congrArg v_iv (s1.2 _ _)
  have fe_0_15_1 : w_fi ws (n_v vs 0) 15 = w_fi w1 (n_v vs 0) 15 := congrArg v_iv (s1.2 _ _)
  have hE_0_8_1 : ∀ j : Int, w_ei ws (w_ar ws (n_v vs 0) 8) j = w_ei w1 (w_ar ws (n_v vs 0) 8) j := el_kp s1.1 r11 cr_0_8 (by decide)
  have hE_0_9_1 : ∀ j : Int, w_ei ws (w_ar ws (n_v vs 0) 9) j = w_ei w1 (w_ar ws (n_v vs 0) 9) j := el_kp s1.1 r11 cr_0_9 (by decide)
  have hE_0_11_1 : ∀ j : Int, 0 ≤ j → (j = v_iv (n_v vs 7) → w_ei ws (w_ar ws (n_v vs 0) 11) j = v_iv (n_v vs 12)) ∧ (j ≠ v_iv (n_v vs 7) → w_ei ws (w_ar ws (n_v vs 0) 11) j = w_ei w1 (w_ar ws (n_v vs 0) 11) j) := fun j hj => ⟨fun h => by unfold w_ei; rw [s1.1, if_pos ⟨ad_11.symm, by rw [h]⟩], fun h => by unfold w_ei; rw [s1.1, if_neg (fun e => h (by have := e.2; omega))]⟩
  have hE_0_14_1 : ∀ j : Int, w_ei ws (w_ar ws (n_v vs 0) 14) j = w_ei w1 (w_ar ws (n_v vs 0) 14) j := el_kp s1.1 r11 cr_0_14 (by decide)
  have kz_0_5 := fdq_283 hD hth r0
  have kz_0_6 := fdq_53 hD hth r0
  have kz_0_7 := fdq_49 hD hth r0
  have kz_0_15 := fdq_54 hD hth r0
  have nf0 : fc_1 PRD (20, [3, 13, 14], [60, 2, 2, 616, 6, 15, 11, 14]) ws (vs) := by
    refine ⟨nf_in hl rfl, sgq_1498 ?_⟩
    · show FRW (w_fi ws (n_v vs 3) 6) (w_fi ws (n_v vs 3) 15) (w_ei ws (w_ar ws (n_v vs 3) 11)) (w_ei ws (w_ar ws (n_v vs 3) 14)) (v_iv (n_v vs 13)) (v_iv (n_v vs 14))
      rw [q3]
      exact vc_Em_splitCycle_8_0 (v_iv (n_v vs 7)) (v_iv (n_v vs 8)) (v_iv (n_v vs 12)) (v_iv (n_v vs 13)) (v_iv (n_v vs 14)) (w_fi ws (n_v vs 0) 6) (w_fi ws (n_v vs 0) 5) (w_ei ws (w_ar ws (n_v vs 0) 8)) (w_ei ws (w_ar ws (n_v vs 0) 9)) (w_fi ws (n_v vs 0) 7) (w_ei ws (w_ar ws (n_v vs 0) 14)) (w_fi ws (n_v vs 0) 15) (w_ei w1 (w_ar ws (n_v vs 0) 14)) (w_ei w1 (w_ar ws (n_v vs 0) 11)) (w_fi w1 (n_v vs 0) 6) (w_fi w1 (n_v vs 0) 15) (w_fi w1 (n_v vs 0) 5) (w_ei w1 (w_ar ws (n_v vs 0) 8)) (w_ei w1 (w_ar ws (n_v vs 0) 9)) (w_fi w1 (n_v vs 0) 7) (w_ei ws (w_ar ws (n_v vs 0) 11)) k7 k8 k12 k13 k14 d0 f4 h15 f16 f17 f20 fe_0_5_1 fe_0_6_1 fe_0_7_1 fe_0_15_1 hE_0_8_1 hE_0_9_1 hE_0_11_1 hE_0_14_1 kz_0_5 kz_0_6 kz_0_7 kz_0_15
  refine ⟨(fun _ h => (by cases h)), [], trivial, ?_, (fun _ h => (by cases h))⟩
  rw [List.append_nil]
  exact List.forall_mem_cons.mpr ⟨⟨show (20 : Nat) < 100 from by decide, nf0⟩, (fun _ h => (by cases h))⟩
set_option maxHeartbeats 4000000 in
theorem vc_Em_splitCycle_9_0 (x9 : Int) (x11 : Int) (x13 : Int) (drawnNodes_0 : Int) (wayLength_0 : Int) (cycle_0 : Int → Int) (cycleLength_0 : Int → Int) (way_0 : Int → Int) (cycles_0 : Int) (k9 : 1 ≤ x9 ∧ x9 ≤ 26) (k11 : 0 ≤ x11 ∧ x11 ≤ 27) (k13 : (-1) ≤ x13 ∧ x13 ≤ 26) (d0 : x13 + 0 ≤ x9 ∧ x9 ≤ x13 + 4294967296) (d1 : x11 + (-1) ≤ x13 ∧ x13 ≤ x11 + (-1)) (g3 : x11 = wayLength_0) (f4 : FNC (cycles_0) (drawnNodes_0) (wayLength_0) (cycle_0) (cycleLength_0) (way_0) (x9)) (kz_0_6 : 0 ≤ drawnNodes_0 ∧ drawnNodes_0 ≤ 33554431) (kz_0_7 : 0 ≤ cycles_0 ∧ cycles_0 ≤ 50) (kz_0_15 : 0 ≤ wayLength_0 ∧ wayLength_0 ≤ 27) : CYR (cycles_0) (drawnNodes_0) (cycle_0) (cycleLength_0) := by
  first
    | exact cyc_fnc ‹FNC _ _ _ _ _ _ _› (by omega)
set_option maxHeartbeats 4000000 in
theorem vc_Em_splitCycle_9_1 (cycles_0 : Int) (f5 : 1 ≤ cycles_0) (kz_0_7 : 0 ≤ cycles_0 ∧ cycles_0 ≤ 50) : 1 ≤ cycles_0 := by
  first
    | omega
set_option maxHeartbeats 4000000 in
theorem vc_Em_splitCycle_9_2 (x10 : Int) (drawnNodes_0 : Int) (blockNodes_0 : Int) (f6 : DBN (drawnNodes_0) (blockNodes_0)) (kz_0_5 : 0 ≤ blockNodes_0 ∧ blockNodes_0 ≤ 33554431) (kz_0_6 : 0 ≤ drawnNodes_0 ∧ drawnNodes_0 ≤ 33554431) : DBN (drawnNodes_0) (blockNodes_0) := by
  first
    | assumption
def o_Em_splitCycle_9 : or_T := (172, 14, [(0, (2, 0, 0, [1])), (9, (0, 1, 26, [])), (11, (0, 0, 27, [])), (13, (0, -1, 26, []))], [(9, [11, 3], [15]), (20, [3, 9], [60, 3, 3, 622, 7, 6, 15, 8, 9, 14]), (20, [3], [50, 1, 0, 7, 0, 2, 0, 1, 2, 0, 7]), (20, [3], [60, 2, 0, 602, 6, 5]), (24, [0, 3], [])], [], [], [(20, [0], [60, 2, 2, 603, 7, 6, 8, 9]), (20, [0], [50, 1, 0, 7, 0, 2, 0, 1, 2, 0, 7]), (20, [0], [60, 2, 0, 602, 6, 5])], [], [(9, 13, 0, 4294967296), (13, 11, -1, -1)])
theorem oo_Em_splitCycle_9 {kA : Nat → ClassId} : or_ok PRD kA GG o_Em_splitCycle_9 := by
  refine or_mk fun A ta ws vs hD hth hl => ?_
  intro t0 r0 t9 k9 t11 k11 t13 k13 d0 d1 f3 f4 f5 f6 f7
  replace f3 := shm_177 f3
  replace f4 := shm_1506 f4
  replace f5 := shm_1341 f5
  replace f6 := shm_1340 f6
  replace f7 := shm_5 f7
  have q3 : n_v vs 3 = n_v vs 0 := f7.symm
  simp only [q3] at f3 f4 f5 f6
  have g3 : v_iv (n_v vs 11) = w_fi ws (n_v vs 0) 15 := congrArg v_iv f3
  have kz_0_5 := fdq_283 hD hth r0
  have kz_0_6 := fdq_53 hD hth r0
  have kz_0_7 := fdq_49 hD hth r0
  have kz_0_15 := fdq_54 hD hth r0
  have nf0 : fc_1 PRD (20, [0], [60, 2, 2, 603, 7, 6, 8, 9]) ws (vs) := ⟨nf_in hl rfl, sgq_351 (vc_Em_splitCycle_9_0 (v_iv (n_v vs 9)) (v_iv (n_v vs 11)) (v_iv (n_v vs 13)) (w_fi ws (n_v vs 0) 6) (w_fi ws (n_v vs 0) 15) (w_ei ws (w_ar ws (n_v vs 0) 8)) (w_ei ws (w_ar ws (n_v vs 0) 9)) (w_ei ws (w_ar ws (n_v vs 0) 14)) (w_fi ws (n_v vs 0) 7) k9 k11 k13 d0 d1 g3 f4 kz_0_6 kz_0_7 kz_0_15)⟩
  have nf1 : fc_1 PRD (20, [0], [50, 1, 0, 7, 0, 2, 0, 1, 2, 0, 7]) ws (vs) := ⟨nf_in hl rfl, sgq_1341 (vc_Em_splitCycle_9_1 (w_fi ws (n_v vs 0) 7) f5 kz_0_7)⟩
  have nf2 : fc_1 PRD (20, [0], [60, 2, 0, 602, 6, 5]) ws (vs) := ⟨nf_in hl rfl, sgq_1340 (vc_Em_splitCycle_9_2 (v_iv (n_v vs 10)) (w_fi ws (n_v vs 0) 6) (w_fi ws (n_v vs 0) 5) f6 kz_0_5 kz_0_6)⟩
  refine ⟨(fun _ h => (by cases h)), [], trivial, ?_, (fun _ h => (by cases h))⟩
  rw [List.append_nil]
  exact List.forall_mem_cons.mpr ⟨⟨show (20 : Nat) < 100 from by decide, nf0⟩, List.forall_mem_cons.mpr ⟨⟨show (20 : Nat) < 100 from by decide, nf1⟩, List.forall_mem_cons.mpr ⟨⟨show (20 : Nat) < 100 from by decide, nf2⟩, (fun _ h => (by cases h))⟩⟩⟩
set_option maxHeartbeats 4000000 in
theorem vc_Em_splitCycle_10_0 (x9 : Int) (x10 : Int) (x14 : Int) (x16 : Int) (x17 : Int) (x18 : Int) (x19 : Int) (drawnNodes_0 : Int) (wayLength_0 : Int) (cycles_0 : Int) (way_1 : Int → Int) (drawnNodes_1 : Int) (cycle_1 : Int → Int) (cycleLength_1 : Int → Int) (cycles_1 : Int) (wayLength_1 : Int) (blockNodes_1 : Int) (blockNodes_0 : Int) (cycle_0 : Int → Int) (cycleLength_0 : Int → Int) (way_0 : Int → Int) (k9 : 1 ≤ x9 ∧ x9 ≤ 25) (k10 : 0 ≤ x10 ∧ x10 ≤ 33554431) (k14 : 1 ≤ x14 ∧ x14 ≤ 1) (k16 : 0 ≤ x16 ∧ x16 ≤ 24) (k17 : 1 ≤ x17 ∧ x17 ≤ 16777216) (k18 : 0 ≤ x18 ∧ x18 ≤ 33554431) (k19 : 2 ≤ x19 ∧ x19 ≤ 26) (f3 : x19 = x9 + 1) (f8 : bvp (x18) = bvp (x10) ||| bvp (x17)) (f9 : bvp (x17) = bvp (x14) <<< (x16).toNat) (h10 : x16 = way_1 (x9)) (g11 : x10 = drawnNodes_1) (f14 : FNC (cycles_1) (drawnNodes_1) (wayLength_1) (cycle_1) (cycleLength_1) (way_1) (x9)) (fe_0_5_1 : blockNodes_0 = blockNodes_1) (fe_0_6_1 : drawnNodes_0 = x18) (fe_0_7_1 : cycles_0 = cycles_1) (fe_0_15_1 : wayLength_0 = wayLength_1) (hE_0_8_1 : ∀ j : Int, cycle_0 j = cycle_1 j) (hE_0_9_1 : ∀ j : Int, cycleLength_0 j = cycleLength_1 j) (hE_0_14_1 : ∀ j : Int, way_0 j = way_1 j) (kz_0_5 : 0 ≤ blockNodes_0 ∧ blockNodes_0 ≤ 33554431) (kz_0_6 : 0 ≤ drawnNodes_0 ∧ drawnNodes_0 ≤ 33554431) (kz_0_7 : 0 ≤ cycles_0 ∧ cycles_0 ≤ 50) (kz_0_15 : 0 ≤ wayLength_0 ∧ wayLength_0 ≤ 27) : FNC (cycles_0) (drawnNodes_0) (wayLength_0) (cycle_0) (cycleLength_0) (way_0) (x19) := by
  subst fe_0_5_1
  subst fe_0_7_1
  subst fe_0_15_1
  have e_hE_0_8_1 := funext hE_0_8_1; subst e_hE_0_8_1
  have e_hE_0_9_1 := funext hE_0_9_1; subst e_hE_0_9_1
  have e_hE_0_14_1 := funext hE_0_14_1; subst e_hE_0_14_1
  first
    | (have o1 : x14 = 1 := by omega
       subst o1
       rw [show drawnNodes_0 = x18 by omega]
       have hf := (‹FNC _ _ _ _ _ _ _›)
       rw [show drawnNodes_1 = x10 by omega] at hf
       exact fnc_step (v := x16) (q := x17) hf (by assumption) (by omega) (by omega) (by assumption) (by assumption) (by omega))
set_option maxHeartbeats 4000000 in
theorem vc_Em_splitCycle_10_1 (x10 : Int) (x17 : Int) (x18 : Int) (drawnNodes_0 : Int) (wayLength_0 : Int) (cycles_0 : Int) (way_1 : Int → Int) (drawnNodes_1 : Int) (cycle_1 : Int → Int) (cycleLength_1 : Int → Int) (cycles_1 : Int) (wayLength_1 : Int) (blockNodes_1 : Int) (blockNodes_0 : Int) (cycle_0 : Int → Int) (cycleLength_0 : Int → Int) (way_0 : Int → Int) (k10 : 0 ≤ x10 ∧ x10 ≤ 33554431) (k17 : 1 ≤ x17 ∧ x17 ≤ 16777216) (k18 : 0 ≤ x18 ∧ x18 ≤ 33554431) (f8 : bvp (x18) = bvp (x10) ||| bvp (x17)) (g11 : x10 = drawnNodes_1) (f16 : DBN (drawnNodes_1) (blockNodes_1)) (fe_0_5_1 : blockNodes_0 = blockNodes_1) (fe_0_6_1 : drawnNodes_0 = x18) (fe_0_7_1 : cycles_0 = cycles_1) (fe_0_15_1 : wayLength_0 = wayLength_1) (hE_0_8_1 : ∀ j : Int, cycle_0 j = cycle_1 j) (hE_0_9_1 : ∀ j : Int, cycleLength_0 j = cycleLength_1 j) (hE_0_14_1 : ∀ j : Int, way_0 j = way_1 j) (kz_0_5 : 0 ≤ blockNodes_0 ∧ blockNodes_0 ≤ 33554431) (kz_0_6 : 0 ≤ drawnNodes_0 ∧ drawnNodes_0 ≤ 33554431) (kz_0_7 : 0 ≤ cycles_0 ∧ cycles_0 ≤ 50) (kz_0_15 : 0 ≤ wayLength_0 ∧ wayLength_0 ≤ 27) : DBN (drawnNodes_0) (blockNodes_0) := by
  subst fe_0_5_1
  subst fe_0_7_1
  subst fe_0_15_1
  have e_hE_0_8_1 := funext hE_0_8_1; subst e_hE_0_8_1
  have e_hE_0_9_1 := funext hE_0_9_1; subst e_hE_0_9_1
  have e_hE_0_14_1 := funext hE_0_14_1; subst e_hE_0_14_1
  first
    | (rw [show drawnNodes_0 = x18 by omega]; have hd := (‹DBN _ _›); rw [show drawnNodes_1 = x10 by omega] at hd; exact dbn_or hd (by assumption))
def o_Em_splitCycle_10 : or_T := (137, 20, [(0, (2, 0, 0, [1])), (9, (0, 1, 25, [])), (10, (0, 0, 33554431, [])), (14, (0, 1, 1, [])), (16, (0, 0, 24, [])), (17, (0, 1, 16777216, [])), (18, (0, 0, 33554431, [])), (19, (0, 2, 26, []))], [(9, [15, 3], [14]), (6, [19, 9], [1]), (24, [0, 3], []), (101, [3, 18], [6]), (16, [18, 10, 17], [1]), (16, [17, 14, 16], [3]), (10, [16, 15, 9], []), (9, [10, 3], [6]), (20, [3, 9], [60, 3, 3, 622, 7, 6, 15, 8, 9, 14]), (20, [3], [60, 2, 0, 602, 6, 5])], [], [], [(20, [3, 19], [60, 3, 3, 622, 7, 6, 15, 8, 9, 14]), (20, [3], [60, 2, 0, 602, 6, 5])], [], [])
theorem oo_Em_splitCycle_10 {kA : Nat → ClassId} : or_ok PRD kA GG o_Em_splitCycle_10 := by
  refine or_mk fun A ta ws vs hD hth hl => ?_
  intro t0 r0 t9 k9 t10 k10 t14 k14 t16 k16 t17 k17 t18 k18 t19 k19 f1 f3 f5 ta1 w1 le1 s1 f8 f9 f10 f11 f14 f16
  replace f1 := shm_115 f1
  replace f3 := shm_4 f3
  replace f5 := shm_5 f5
  have s1 : (∀ b j, w_el ws b j = w_el w1 b j) ∧ ∀ b j, w_fd ws b j = if b = v_ad (n_v vs 3) ∧ j = 6 then n_v vs 18 else w_fd w1 b j := s1.2
  replace f8 := shm_354 f8
  replace f9 := shm_349 f9
  replace f10 := shm_107 f10
  replace f11 := shm_111 f11
  replace f14 := shm_1506 f14
  replace f16 := shm_1340 f16
  have q3 : n_v vs 3 = n_v vs 0 := f5.symm
  simp only [q3] at f1
  rw [q3] at s1
  simp only [q3] at f11 f14 f16
  have ar_0_8_1 : w_ar w1 (n_v vs 0) 8 = w_ar ws (n_v vs 0) 8 := by show v_ad (w_fd w1 _ _) = v_ad (w_fd ws _ _); rw [s1.2, if_neg (fun e => absurd e.2 (by decide))]
  have ar_0_9_1 : w_ar w1 (n_v vs 0) 9 = w_ar ws (n_v vs 0) 9 := by show v_ad (w_fd w1 _ _) = v_ad (w_fd ws _ _); rw [s1.2, if_neg (fun e => absurd e.2 (by decide))]
  have ar_0_14_1 : w_ar w1 (n_v vs 0) 14 = w_ar ws (n_v vs 0) 14 := by show v_ad (w_fd w1 _ _) = v_ad (w_fd ws _ _); rw [s1.2, if_neg (fun e => absurd e.2 (by decide))]
  have ad_15 : v_ad (n_v vs 15) = w_ar ws (n_v vs 0) 14 := congrArg v_ad f1
  simp only [ad_15] at f10
  have h10 : v_iv (n_v vs 16) = w_ei w1 (w_ar ws (n_v vs 0) 14) (v_iv (n_v vs 9)) := f10
  have g11 : v_iv (n_v vs 10) = w_fi w1 (n_v vs 0) 6 := congrArg v_iv f11
  simp only [ar_0_8_1, ar_0_9_1, ar_0_14_1] at f14
  have fe_0_5_1 : w_fi ws (n_v vs 0) 5 = w_fi w1 (n_v vs 0) 5 := by show v_iv (w_fd _ _ _) = v_iv (w_fd _ _ _); rw [s1.2, if_neg (fun e => absurd e.2 (by decide))]
  have fe_0_6_1 : w_fi ws (n_v vs 0) 6 = v_iv (n_v vs 18) := by show v_iv (w_fd _ _ _) = _; rw [s1.2, if_pos ⟨rfl, rfl⟩]
  have fe_0_7_1 : w_fi ws (n_v vs 0) 7 = w_fi w1 (n_v vs 0) 7 := by show v_iv (w_fd _ _ _) = v_iv (w_fd _ _ _); rw [s1.2, if_neg (fun e => absurd e.2 (by decide))]
  have fe_0_15_1 : w_fi ws (n_v vs 0) 15 = w_fi w1 (n_v vs 0) 15 := by show v_iv (w_fd _ _ _) = v_iv (w_fd _ _ _); rw [s1.2, if_neg (fun e => absurd e.2 (by decide))]
  have hE_0_8_1 : ∀ j : Int, w_ei ws (w_ar ws (n_v vs 0) 8) j = w_ei w1 (w_ar ws (n_v vs 0) 8) j := fun j => s1.1 _ _
  have hE_0_9_1 : ∀ j : Int, w_ei ws (w_ar ws (n_v vs 0) 9) j = w_ei w1 (w_ar ws (n_v vs 0) 9) j := fun j => s1.1 _ _
  have hE_0_14_1 : ∀ j : Int, w_ei ws (w_ar ws (n_v vs 0) 14) j = w_ei w1 (w_ar ws (n_v vs 0) 14) j := fun j => s1.1 _ _
  have kz_0_5 := fdq_283 hD hth r0
  have kz_0_6 := fdq_53 hD hth r0
  have kz_0_7 := fdq_49 hD hth r0
  have kz_0_15 := fdq_54 hD hth r0
  have nf0 : fc_1 PRD (20, [3, 19], [60, 3, 3, 622, 7, 6, 15, 8, 9, 14]) ws (vs) := by
    refine ⟨nf_in hl rfl, sgq_1506 ?_⟩
    · show FNC (w_fi ws (n_v vs 3) 7) (w_fi ws (n_v vs 3) 6) (w_fi ws (n_v vs 3) 15) (w_ei ws (w_ar ws (n_v vs 3) 8)) (w_ei ws (w_ar ws (n_v vs 3) 9)) (w_ei ws (w_ar ws (n_v vs 3) 14)) (v_iv (n_v vs 19))
      rw [q3]
      exact vc_Em_splitCycle_10_0 (v_iv (n_v vs 9)) (v_iv (n_v vs 10)) (v_iv (n_v vs 14)) (v_iv (n_v vs 16)) (v_iv (n_v vs 17)) (v_iv (n_v vs 18)) (v_iv (n_v vs 19)) (w_fi ws (n_v vs 0) 6) (w_fi ws (n_v vs 0) 15) (w_fi ws (n_v vs 0) 7) (w_ei w1 (w_ar ws (n_v vs 0) 14)) (w_fi w1 (n_v vs 0) 6) (w_ei w1 (w_ar ws (n_v vs 0) 8)) (w_ei w1 (w_ar ws (n_v vs 0) 9)) (w_fi w1 (n_v vs 0) 7) (w_fi w1 (n_v vs 0) 15) (w_fi w1 (n_v vs 0) 5) (w_fi ws (n_v vs 0) 5) (w_ei ws (w_ar ws (n_v vs 0) 8)) (w_ei ws (w_ar ws (n_v vs 0) 9)) (w_ei ws (w_ar ws (n_v vs 0) 14)) k9 k10 k14 k16 k17 k18 k19 f3 f8 f9 h10 g11 f14 fe_0_5_1 fe_0_6_1 fe_0_7_1 fe_0_15_1 hE_0_8_1 hE_0_9_1 hE_0_14_1 kz_0_5 kz_0_6 kz_0_7 kz_0_15
  have nf1 : fc_1 PRD (20, [3], [60, 2, 0, 602, 6, 5]) ws (vs) := by
    refine ⟨nf_in hl rfl, sgq_1340 ?_⟩
    · show DBN (w_fi ws (n_v vs 3) 6) (w_fi ws (n_v vs 3) 5)
      rw [q3]
      exact vc_Em_splitCycle_10_1 (v_iv (n_v vs 10)) (v_iv (n_v vs 17)) (v_iv (n_v vs 18)) (w_fi ws (n_v vs 0) 6) (w_fi ws (n_v vs 0) 15) (w_fi ws (n_v vs 0) 7) (w_ei w1 (w_ar ws (n_v vs 0) 14)) (w_fi w1 (n_v vs 0) 6) (w_ei w1 (w_ar ws (n_v vs 0) 8)) (w_ei w1 (w_ar ws (n_v vs 0) 9)) (w_fi w1 (n_v vs 0) 7) (w_fi w1 (n_v vs 0) 15) (w_fi w1 (n_v vs 0) 5) (w_fi ws (n_v vs 0) 5) (w_ei ws (w_ar ws (n_v vs 0) 8)) (w_ei ws (w_ar ws (n_v vs 0) 9)) (w_ei ws (w_ar ws (n_v vs 0) 14)) k10 k17 k18 f8 g11 f16 fe_0_5_1 fe_0_6_1 fe_0_7_1 fe_0_15_1 hE_0_8_1 hE_0_9_1 hE_0_14_1 kz_0_5 kz_0_6 kz_0_7 kz_0_15
  refine ⟨(fun _ h => (by cases h)), [], trivial, ?_, (fun _ h => (by cases h))⟩
  rw [List.append_nil]
  exact List.forall_mem_cons.mpr ⟨⟨show (20 : Nat) < 100 from by decide, nf0⟩, List.forall_mem_cons.mpr ⟨⟨show (20 : Nat) < 100 from by decide, nf1⟩, (fun _ h => (by cases h))⟩⟩
def n_Em_splitCycle_an : List an_T := [(41, [(0, (2, 0, 0, [1])), (1, (0, 0, 49, [])), (2, (0, 0, 24, [])), (3, (0, 0, 24, [])), (4, (0, 0, 50, [])), (5, (0, (Int.negSucc 1), 25, []))], [], (0, 0), [(0, 0, 99959), (1, 7, 50), (0, 0, 100000)], [], [((0, 9), (2, 0, 0, [30])), ((0, 14), (2, 0, 0, [35]))], [(2, 0, 0, [1]), (2, 0, 0, [30]), (2, 0, 0, [35])], 0, [], [(20, [3, 7, 8], [60, 2, 2, 616, 6, 15, 11, 14]), (20, [3], [60, 2, 0, 602, 6, 5]), (24, [1, 9], []), (24, [2, 10], []), (20, [3], [60, 2, 2, 603, 7, 6, 8, 9]), (20, [3], [60, 2, 1, 613, 6, 15, 14]), (20, [3], [50, 1, 0, 7, 0, 7, 4, 3, 2, 0, 7, 0, 1, 0, 50]), (20, [4, 3], [50, 1, 0, 1007, 2, 6, 0, 2, 0, 0, 1, 0, 0, 6, 4, 2, 1, 0, 0, 1, 2, 1, 7]), (20, [3], [50, 1, 0, 15, 0, 2, 0, 2, 2, 0, 15]), (24, [0, 3], [])]), (137, [(0, (2, 0, 0, [1])), (1, (0, 0, 49, [])), (2, (0, 0, 24, [])), (3, (0, 0, 24, [])), (4, (0, 0, 25, [])), (5, (0, 0, 25, [])), (6, (0, 1, 26, []))], [], (0, 0), [(0, 0, 99863), (1, 9, 26), (0, 0, 100000)], [], [((0, 6), (0, 0, 33554431, []))], [(2, 0, 0, [1]), (2, 0, 0, [30]), (2, 0, 0, [35])], 0, [], [(20, [3, 9], [60, 3, 3, 622, 7, 6, 15, 8, 9, 14]), (20, [3], [50, 1, 0, 7, 0, 2, 0, 1, 2, 0, 7]), (20, [3], [60, 2, 0, 602, 6, 5]), (24, [0, 3], [])])]
def t_Em_splitCycle_ct : ct_L := [(1, 197, e_Em_copyStretch), (1, 201, e_Em_copyOther), (1, 204, e_Em_storeCycle), (363, 208, e_acp_76)]
set_option maxRecDepth 100000 in
theorem c_Em_splitCycle {l : Launch} {D : va_G} {kA : Nat → ClassId} (h_Em_copyOther : ct_ok PRD l D kA GG y_Em_copyOther z_Em_copyOther e_Em_copyOther) (h_Em_copyStretch : ct_ok PRD l D kA GG y_Em_copyStretch z_Em_copyStretch e_Em_copyStretch) (h_Em_storeCycle : ct_ok PRD l D kA GG y_Em_storeCycle z_Em_storeCycle e_Em_storeCycle) : ct_ok PRD l D kA GG y_Em_splitCycle z_Em_splitCycle e_Em_splitCycle := chk_all_ok (FT := [(36, 1, 6), (39, 1, 7), (42, 1, 8), (51, 1, 11), (60, 1, 14), (63, 1, 15), (72, 1, 18)]) (PT := [(36, 1, 6, .int), (39, 1, 7, .int)]) (CT := t_Em_splitCycle_ct) (KT := []) (NT := []) (AN := n_Em_splitCycle_an) (OT := [o_Em_splitCycle_0, o_Em_splitCycle_1, o_Em_splitCycle_2, o_Em_splitCycle_3, o_Em_splitCycle_4, o_Em_splitCycle_5, o_Em_splitCycle_6, o_Em_splitCycle_7, o_Em_splitCycle_8, o_Em_splitCycle_9, o_Em_splitCycle_10]) 3 400 (List.forall_mem_cons.mpr ⟨oo_Em_splitCycle_0, List.forall_mem_cons.mpr ⟨oo_Em_splitCycle_1, List.forall_mem_cons.mpr ⟨oo_Em_splitCycle_2, List.forall_mem_cons.mpr ⟨oo_Em_splitCycle_3, List.forall_mem_cons.mpr ⟨oo_Em_splitCycle_4, List.forall_mem_cons.mpr ⟨oo_Em_splitCycle_5, List.forall_mem_cons.mpr ⟨oo_Em_splitCycle_6, List.forall_mem_cons.mpr ⟨oo_Em_splitCycle_7, List.forall_mem_cons.mpr ⟨oo_Em_splitCycle_8, List.forall_mem_cons.mpr ⟨oo_Em_splitCycle_9, List.forall_mem_cons.mpr ⟨oo_Em_splitCycle_10, List.forall_mem_nil _⟩⟩⟩⟩⟩⟩⟩⟩⟩⟩⟩) (by decide +kernel) ⟨List.forall_mem_cons.mpr ⟨gf_Em_36, List.forall_mem_cons.mpr ⟨gf_Em_39, List.forall_mem_cons.mpr ⟨gf_Em_42, List.forall_mem_cons.mpr ⟨gf_Em_51, List.forall_mem_cons.mpr ⟨gf_Em_60, List.forall_mem_cons.mpr ⟨gf_Em_63, List.forall_mem_cons.mpr ⟨gf_Em_72, List.forall_mem_nil _⟩⟩⟩⟩⟩⟩⟩, List.forall_mem_cons.mpr ⟨pf_Em_36, List.forall_mem_cons.mpr ⟨pf_Em_39, List.forall_mem_nil _⟩⟩, List.forall_mem_cons.mpr ⟨cl_virtual (y := y_Em_copyStretch) (ci := 1) rfl rfl ⟨_, _, rfl⟩ (by decide +kernel) h_Em_copyStretch wm_1117 wm_5 wm_1114 wm_1116 wv_3_15 ⟨by decide, by decide, by decide +kernel⟩ (by decide), List.forall_mem_cons.mpr ⟨cl_virtual (y := y_Em_copyOther) (ci := 1) rfl rfl ⟨_, _, rfl⟩ (by decide +kernel) h_Em_copyOther wm_1125 wm_5 wm_1122 wm_1124 wv_4_1 ⟨by decide, by decide, by decide +kernel⟩ (by decide), List.forall_mem_cons.mpr ⟨cl_virtual (y := y_Em_storeCycle) (ci := 1) rfl rfl ⟨_, _, rfl⟩ (by decide +kernel) h_Em_storeCycle wm_1129 wm_5 wm_1126 wm_1128 wv_4_2 ⟨by decide, by decide, by decide +kernel⟩ (by decide), List.forall_mem_cons.mpr ⟨cl_copyU (na := 4) rfl rfl (by decide) (Or.inr (fun U xs sp dp n a b c e1 e2 e3 h => cpf_le (U := U) (xs := xs) (sp := sp) (dp := dp) (n := n) a b c e1 e2 e3 h)) (fun U U_zq xs sp dp n a b c d e f e1 e2 e3 h => cpf_cpg (U := U) (U_zq := U_zq) (xs := xs) (sp := sp) (dp := dp) (n := n) a b c d e f e1 e2 e3 h) wm_1130 wm_750 wm_749 wm_15, List.forall_mem_nil _⟩⟩⟩⟩, List.forall_mem_nil _, List.forall_mem_nil _, GG_pl⟩ (by decide +kernel)
set_option maxHeartbeats 4000000 in
theorem vc_Fa_orderLarge_0_0 (x5 : Int) (x6 : Int) (member_0 : Int → Int) (k5 : 0 ≤ x5 ∧ x5 ≤ 0) (k6 : 0 ≤ x6 ∧ x6 ≤ 0) : ORA (member_0) (x5) (x6) := by
  first
    | exact ora_start (by omega) (by omega)
set_option maxHeartbeats 4000000 in
theorem vc_Fa_orderLarge_0_1 (x2 : Int) (x6 : Int) (k2 : 8 ≤ x2 ∧ x2 ≤ 24) (k6 : 0 ≤ x6 ∧ x6 ≤ 0) : x6 ≤ x2 := by
  first
    | omega
    | (have q := (‹ORL _ _ _ _ _ _ _›).2.1; have q2 := (‹ORL _ _ _ _ _ _ _›).2.2.1; have q3 := (‹ORL _ _ _ _ _ _ _›).2.2.2.1; omega)
def o_Fa_orderLarge_0 : or_T := (5, 7, [(2, (0, 8, 24, [])), (5, (0, 0, 0, [])), (6, (0, 0, 0, []))], [], [], [], [(20, [0, 5, 6], [60, 0, 1, 571, 13]), (20, [6, 2], [50, 0, 0, 0, 2, 1, 0, 1, 1]), (24, [0, 0], []), (24, [1, 1], []), (24, [2, 2], [])], [], [])
theorem oo_Fa_orderLarge_0 {kA : Nat → ClassId} : or_ok PRD kA GG o_Fa_orderLarge_0 := by
  refine or_mk fun A ta ws vs hD hth hl => ?_
  intro t2 k2 t5 k5 t6 k6
  have nf0 : fc_1 PRD (20, [0, 5, 6], [60, 0, 1, 571, 13]) ws (vs) := ⟨nf_in hl rfl, sgq_1507 (vc_Fa_orderLarge_0_0 (v_iv (n_v vs 5)) (v_iv (n_v vs 6)) (w_ei ws (w_ar ws (n_v vs 0) 13)) k5 k6)⟩
  have nf1 : fc_1 PRD (20, [6, 2], [50, 0, 0, 0, 2, 1, 0, 1, 1]) ws (vs) := ⟨nf_in hl rfl, sgq_360 (vc_Fa_orderLarge_0_1 (v_iv (n_v vs 2)) (v_iv (n_v vs 6)) k2 k6)⟩
  have nf2 : fc_1 PRD (24, [0, 0], []) ws (vs) := by
    refine ⟨nf_in hl rfl, sgq_1 ?_⟩
    · show n_v vs 0 = n_v vs 0
      first | rfl | simp only [true_and]
  have nf3 : fc_1 PRD (24, [1, 1], []) ws (vs) := by
    refine ⟨nf_in hl rfl, sgq_1 ?_⟩
    · show n_v vs 1 = n_v vs 1
      first | rfl | simp only [true_and]
  have nf4 : fc_1 PRD (24, [2, 2], []) ws (vs) := by
    refine ⟨nf_in hl rfl, sgq_1 ?_⟩
    · show n_v vs 2 = n_v vs 2
      first | rfl | simp only [true_and]
  refine ⟨(fun _ h => (by cases h)), [], trivial, ?_, (fun _ h => (by cases h))⟩
  rw [List.append_nil]
  exact List.forall_mem_cons.mpr ⟨⟨show (20 : Nat) < 100 from by decide, nf0⟩, List.forall_mem_cons.mpr ⟨⟨show (20 : Nat) < 100 from by decide, nf1⟩, List.forall_mem_cons.mpr ⟨⟨show (24 : Nat) < 100 from by decide, nf2⟩, List.forall_mem_cons.mpr ⟨⟨show (24 : Nat) < 100 from by decide, nf3⟩, List.forall_mem_cons.mpr ⟨⟨show (24 : Nat) < 100 from by decide, nf4⟩, (fun _ h => (by cases h))⟩⟩⟩⟩⟩
set_option maxHeartbeats 4000000 in
theorem vc_Fa_orderLarge_1_0 (x2 : Int) (x7 : Int) (x8 : Int) (x9 : Int) (x10 : Int) (x12 : Int) (x13 : Int) (member_0 : Int → Int) (rank_0 : Int → Int) (k2 : 8 ≤ x2 ∧ x2 ≤ 24) (k7 : 8 ≤ x7 ∧ x7 ≤ 24) (k8 : 0 ≤ x8 ∧ x8 ≤ 16777215) (k9 : 8 ≤ x9 ∧ x9 ≤ 24) (k10 : 0 ≤ x10 ∧ x10 ≤ 0) (k12 : 7 ≤ x12 ∧ x12 ≤ 23) (k13 : 0 ≤ x13 ∧ x13 ≤ 0) (d0 : x7 + (-1) ≤ x12 ∧ x12 ≤ x7 + (-1)) (d1 : x2 + (-4294967296) ≤ x12 ∧ x12 ≤ x2 + (-1)) (d3 : x7 + (-4294967296) ≤ x2 ∧ x2 ≤ x7 + 0) (f1 : x2 ≤ x9) (f2 : ORA (member_0) (x8) (x9)) (f3 : x9 ≤ x2) (f4 : MGD (member_0) (x2)) : ORL (rank_0) (member_0) (x2) (x8) (x10) (x12) (x13) := by
  first
    | exact orl_start ‹ORA _ _ _› ‹MGD _ _› (by omega) (by omega) (by omega) (by omega) (by omega)
set_option maxHeartbeats 4000000 in
theorem vc_Fa_orderLarge_1_1 (x2 : Int) (x7 : Int) (x9 : Int) (x12 : Int) (x13 : Int) (k2 : 8 ≤ x2 ∧ x2 ≤ 24) (k7 : 8 ≤ x7 ∧ x7 ≤ 24) (k9 : 8 ≤ x9 ∧ x9 ≤ 24) (k12 : 7 ≤ x12 ∧ x12 ≤ 23) (k13 : 0 ≤ x13 ∧ x13 ≤ 0) (d0 : x7 + (-1) ≤ x12 ∧ x12 ≤ x7 + (-1)) (d1 : x2 + (-4294967296) ≤ x12 ∧ x12 ≤ x2 + (-1)) (d2 : x7 + 0 ≤ x9 ∧ x9 ≤ x7 + 4294967296) (d3 : x7 + (-4294967296) ≤ x2 ∧ x2 ≤ x7 + 0) (f3 : x9 ≤ x2) : x13 ≤ x2 := by
  first
    | omega
    | (have q := (‹ORL _ _ _ _ _ _ _›).2.1; have q2 := (‹ORL _ _ _ _ _ _ _›).2.2.1; have q3 := (‹ORL _ _ _ _ _ _ _›).2.2.2.1; omega)
def o_Fa_orderLarge_1 : or_T := (40, 14, [(2, (0, 8, 24, [])), (7, (0, 8, 24, [])), (8, (0, 0, 16777215, [])), (9, (0, 8, 24, [])), (10, (0, 0, 0, [])), (12, (0, 7, 23, [])), (13, (0, 0, 0, []))], [(7, [9, 7], [3]), (20, [5, 8, 9], [60, 0, 1, 571, 13]), (20, [9, 7], [50, 0, 0, 0, 2, 1, 0, 1, 1]), (20, [5, 7], [60, 0, 1, 570, 13]), (24, [0, 5], []), (24, [2, 7], [])], [], [], [(20, [5, 7, 8, 10, 12, 13], [60, 0, 2, 572, 12, 13]), (20, [13, 7], [50, 0, 0, 0, 2, 1, 0, 1, 1])], [], [(12, 7, -1, -1), (12, 2, -4294967296, -1), (9, 7, 0, 4294967296), (2, 7, -4294967296, 0)])
theorem oo_Fa_orderLarge_1 {kA : Nat → ClassId} : or_ok PRD kA GG o_Fa_orderLarge_1 := by
  refine or_mk fun A ta ws vs hD hth hl => ?_
  intro t2 k2 t7 k7 t8 k8 t9 k9 t10 k10 t12 k12 t13 k13 d0 d1 d2 d3 f1 f2 f3 f4 f6 f8
  replace f1 := shm_2 f1
  replace f2 := shm_1507 f2
  replace f3 := shm_360 f3
  replace f4 := shm_1345 f4
  replace f6 := shm_5 f6
  replace f8 := shm_5 f8
  have q5 : n_v vs 5 = n_v vs 0 := f6.symm
  have q7 : n_v vs 7 = n_v vs 2 := f8.symm
  simp only [q7, q5] at f1 f2 f3 f4
  have nf0 : fc_1 PRD (20, [5, 7, 8, 10, 12, 13], [60, 0, 2, 572, 12, 13]) ws (vs) := by
    refine ⟨nf_in hl rfl, sgq_1508 ?_⟩
    · show ORL (w_ei ws (w_ar ws (n_v vs 5) 12)) (w_ei ws (w_ar ws (n_v vs 5) 13)) (v_iv (n_v vs 7)) (v_iv (n_v vs 8)) (v_iv (n_v vs 10)) (v_iv (n_v vs 12)) (v_iv (n_v vs 13))
      simp only [q5, q7]
      exact vc_Fa_orderLarge_1_0 (v_iv (n_v vs 2)) (v_iv (n_v vs 7)) (v_iv (n_v vs 8)) (v_iv (n_v vs 9)) (v_iv (n_v vs 10)) (v_iv (n_v vs 12)) (v_iv (n_v vs 13)) (w_ei ws (w_ar ws (n_v vs 0) 13)) (w_ei ws (w_ar ws (n_v vs 0) 12)) k2 k7 k8 k9 k10 k12 k13 d0 d1 d3 f1 f2 f3 f4
  have nf1 : fc_1 PRD (20, [13, 7], [50, 0, 0, 0, 2, 1, 0, 1, 1]) ws (vs) := by
    refine ⟨nf_in hl rfl, sgq_360 ?_⟩
    · show v_iv (n_v vs 13) ≤ v_iv (n_v vs 7)
      rw [q7]
      exact vc_Fa_orderLarge_1_1 (v_iv (n_v vs 2)) (v_iv (n_v vs 7)) (v_iv (n_v vs 9)) (v_iv (n_v vs 12)) (v_iv (n_v vs 13)) k2 k7 k9 k12 k13 d0 d1 d2 d3 f3
  refine ⟨(fun _ h => (by cases h)), [], trivial, ?_, (fun _ h => (by cases h))⟩
  rw [List.append_nil]
  exact List.forall_mem_cons.mpr ⟨⟨show (20 : Nat) < 100 from by decide, nf0⟩, List.forall_mem_cons.mpr ⟨⟨show (20 : Nat) < 100 from by decide, nf1⟩, (fun _ h => (by cases h))⟩⟩
set_option maxHeartbeats 4000000 in
theorem vc_Fa_orderLarge_2_0 (x8 : Int) (x9 : Int) (x10 : Int) (x12 : Int) (x13 : Int) (x14 : Int) (x15 : Int) (member_0 : Int → Int) (k8 : 0 ≤ x8 ∧ x8 ≤ 16777215) (k9 : 0 ≤ x9 ∧ x9 ≤ 23) (k10 : 1 ≤ x10 ∧ x10 ≤ 1) (k12 : 0 ≤ x12 ∧ x12 ≤ 23) (k13 : 1 ≤ x13 ∧ x13 ≤ 8388608) (k14 : 0 ≤ x14 ∧ x14 ≤ 16777215) (k15 : 1 ≤ x15 ∧ x15 ≤ 24) (f0 : x15 = x9 + 1) (f2 : bvp (x14) = bvp (x8) ||| bvp (x13)) (f3 : bvp (x13) = bvp (x10) <<< (x12).toNat) (h4 : x12 = member_0 (x9)) (f7 : ORA (member_0) (x8) (x9)) : ORA (member_0) (x14) (x15) := by
  first
    | exact ora_step ‹ORA _ _ _› (by assumption) (by omega) (by assumption) (by omega) (by assumption) (by omega)
set_option maxHeartbeats 4000000 in
theorem vc_Fa_orderLarge_2_1 (x2 : Int) (x7 : Int) (x9 : Int) (x15 : Int) (k2 : 8 ≤ x2 ∧ x2 ≤ 24) (k7 : 8 ≤ x7 ∧ x7 ≤ 24) (k9 : 0 ≤ x9 ∧ x9 ≤ 23) (k15 : 1 ≤ x15 ∧ x15 ≤ 24) (d0 : x9 + 1 ≤ x15 ∧ x15 ≤ x9 + 1) (d1 : x7 + (-4294967296) ≤ x15 ∧ x15 ≤ x7 + 0) (d2 : x7 + (-4294967296) ≤ x9 ∧ x9 ≤ x7 + (-1)) (d3 : x7 + (-4294967296) ≤ x2 ∧ x2 ≤ x7 + 0) (d4 : x2 + (-4294967296) ≤ x7 ∧ x7 ≤ x2 + 0) : x15 ≤ x2 := by
  first
    | omega
    | (have q := (‹ORL _ _ _ _ _ _ _›).2.1; have q2 := (‹ORL _ _ _ _ _ _ _›).2.2.1; have q3 := (‹ORL _ _ _ _ _ _ _›).2.2.2.1; omega)
def o_Fa_orderLarge_2 : or_T := (5, 16, [(2, (0, 8, 24, [])), (7, (0, 8, 24, [])), (8, (0, 0, 16777215, [])), (9, (0, 0, 23, [])), (10, (0, 1, 1, [])), (12, (0, 0, 23, [])), (13, (0, 1, 8388608, [])), (14, (0, 0, 16777215, [])), (15, (0, 1, 24, []))], [(6, [15, 9], [1]), (16, [14, 8, 13], [1]), (16, [13, 10, 12], [3]), (10, [12, 11, 9], []), (9, [11, 5], [13]), (20, [5, 8, 9], [60, 0, 1, 571, 13]), (24, [0, 5], []), (24, [2, 7], [])], [], [], [(20, [5, 14, 15], [60, 0, 1, 571, 13]), (20, [15, 7], [50, 0, 0, 0, 2, 1, 0, 1, 1])], [], [(15, 9, 1, 1), (15, 7, -4294967296, 0), (9, 7, -4294967296, -1), (2, 7, -4294967296, 0), (7, 2, -4294967296, 0)])
theorem oo_Fa_orderLarge_2 {kA : Nat → ClassId} : or_ok PRD kA GG o_Fa_orderLarge_2 := by
  refine or_mk fun A ta ws vs hD hth hl => ?_
  intro t2 k2 t7 k7 t8 k8 t9 k9 t10 k10 t12 k12 t13 k13 t14 k14 t15 k15 d0 d1 d2 d3 d4 f0 f2 f3 f4 f5 f7 f11 f13
  replace f0 := shm_4 f0
  replace f2 := shm_354 f2
  replace f3 := shm_349 f3
  replace f4 := shm_107 f4
  replace f5 := shm_361 f5
  replace f7 := shm_1507 f7
  replace f11 := shm_5 f11
  replace f13 := shm_5 f13
  have q5 : n_v vs 5 = n_v vs 0 := f11.symm
  have q7 : n_v vs 7 = n_v vs 2 := f13.symm
  simp only [q5] at f5 f7
  have ad_11 : v_ad (n_v vs 11) = w_ar ws (n_v vs 0) 13 := congrArg v_ad f5
  simp only [ad_11] at f4
  have h4 : v_iv (n_v vs 12) = w_ei ws (w_ar ws (n_v vs 0) 13) (v_iv (n_v vs 9)) := f4
  have nf0 : fc_1 PRD (20, [5, 14, 15], [60, 0, 1, 571, 13]) ws (vs) := by
    refine ⟨nf_in hl rfl, sgq_1507 ?_⟩
    · show ORA (w_ei ws (w_ar ws (n_v vs 5) 13)) (v_iv (n_v vs 14)) (v_iv (n_v vs 15))
      rw [q5]
      exact vc_Fa_orderLarge_2_0 (v_iv (n_v vs 8)) (v_iv (n_v vs 9)) (v_iv (n_v vs 10)) (v_iv (n_v vs 12)) (v_iv (n_v vs 13)) (v_iv (n_v vs 14)) (v_iv (n_v vs 15)) (w_ei ws (w_ar ws (n_v vs 0) 13)) k8 k9 k10 k12 k13 k14 k15 f0 f2 f3 h4 f7
  have nf1 : fc_1 PRD (20, [15, 7], [50, 0, 0, 0, 2, 1, 0, 1, 1]) ws (vs) := by
    refine ⟨nf_in hl rfl, sgq_360 ?_⟩
    · show v_iv (n_v vs 15) ≤ v_iv (n_v vs 7)
      rw [q7]
      exact vc_Fa_orderLarge_2_1 (v_iv (n_v vs 2)) (v_iv (n_v vs 7)) (v_iv (n_v vs 9)) (v_iv (n_v vs 15)) k2 k7 k9 k15 d0 d1 d2 d3 d4
  refine ⟨(fun _ h => (by cases h)), [], trivial, ?_, (fun _ h => (by cases h))⟩
  rw [List.append_nil]
  exact List.forall_mem_cons.mpr ⟨⟨show (20 : Nat) < 100 from by decide, nf0⟩, List.forall_mem_cons.mpr ⟨⟨show (20 : Nat) < 100 from by decide, nf1⟩, (fun _ h => (by cases h))⟩⟩
set_option maxHeartbeats 4000000 in
theorem vc_Fa_orderLarge_3_0 (x2 : Int) (x8 : Int) (x9 : Int) (x10 : Int) (x11 : Int) (rank_0 : Int → Int) (member_0 : Int → Int) (k2 : 8 ≤ x2 ∧ x2 ≤ 24) (k8 : 0 ≤ x8 ∧ x8 ≤ 16777215) (k9 : 0 ≤ x9 ∧ x9 ≤ 24) (k10 : (-1) ≤ x10 ∧ x10 ≤ 23) (k11 : 8 ≤ x11 ∧ x11 ≤ 24) (f0 : x2 ≤ x11) (f1 : ORL (rank_0) (member_0) (x2) (x8) (x9) (x10) (x11)) (f2 : x11 ≤ x2) : ORE (rank_0) (member_0) (x2) := by
  exact ore_of ‹ORL _ _ _ _ _ _ _› (by omega) (by omega)
set_option maxHeartbeats 4000000 in
theorem vc_Fa_orderLarge_3_1 (x2 : Int) (x3 : Int) (x4 : Int) (x8 : Int) (rank_0 : Int → Int) (member_0 : Int → Int) (loop_0 : Int → Int) (k2 : 8 ≤ x2 ∧ x2 ≤ 24) (k3 : 0 ≤ x3 ∧ x3 ≤ 24) (k4 : 0 ≤ x4 ∧ x4 ≤ 24) (f4 : RKM (rank_0) (loop_0) (member_0) (x3) (x4) (x2)) : RKM (rank_0) (loop_0) (member_0) (x3) (x4) (x2) := by
  first
    | assumption
def o_Fa_orderLarge_3 : or_T := (121, 12, [(2, (0, 8, 24, [])), (3, (0, 0, 24, [])), (4, (0, 0, 24, [])), (8, (0, 0, 16777215, [])), (9, (0, 0, 24, [])), (10, (0, -1, 23, [])), (11, (0, 8, 24, []))], [(7, [11, 7], [3]), (20, [5, 7, 8, 9, 10, 11], [60, 0, 2, 572, 12, 13]), (20, [11, 7], [50, 0, 0, 0, 2, 1, 0, 1, 1]), (20, [5, 3, 4, 7], [60, 0, 3, 716, 12, 11, 13]), (24, [0, 5], []), (24, [2, 7], [])], [], [], [(20, [0, 2], [60, 0, 2, 573, 12, 13]), (20, [0, 3, 4, 2], [60, 0, 3, 716, 12, 11, 13])], [], [])
theorem oo_Fa_orderLarge_3 {kA : Nat → ClassId} : or_ok PRD kA GG o_Fa_orderLarge_3 := by
  refine or_mk fun A ta ws vs hD hth hl => ?_
  intro t2 k2 t3 k3 t4 k4 t8 k8 t9 k9 t10 k10 t11 k11 f0 f1 f2 f4 f5 f7
  replace f0 := shm_2 f0
  replace f1 := shm_1508 f1
  replace f2 := shm_360 f2
  replace f4 := shm_1346 f4
  replace f5 := shm_5 f5
  replace f7 := shm_5 f7
  have q5 : n_v vs 5 = n_v vs 0 := f5.symm
  have q7 : n_v vs 7 = n_v vs 2 := f7.symm
  simp only [q7, q5] at f0 f1 f2 f4
  have nf0 : fc_1 PRD (20, [0, 2], [60, 0, 2, 573, 12, 13]) ws (vs) := ⟨nf_in hl rfl, sgq_1351 (vc_Fa_orderLarge_3_0 (v_iv (n_v vs 2)) (v_iv (n_v vs 8)) (v_iv (n_v vs 9)) (v_iv (n_v vs 10)) (v_iv (n_v vs 11)) (w_ei ws (w_ar ws (n_v vs 0) 12)) (w_ei ws (w_ar ws (n_v vs 0) 13)) k2 k8 k9 k10 k11 f0 f1 f2)⟩
  have nf1 : fc_1 PRD (20, [0, 3, 4, 2], [60, 0, 3, 716, 12, 11, 13]) ws (vs) := ⟨nf_in hl rfl, sgq_1346 (vc_Fa_orderLarge_3_1 (v_iv (n_v vs 2)) (v_iv (n_v vs 3)) (v_iv (n_v vs 4)) (v_iv (n_v vs 8)) (w_ei ws (w_ar ws (n_v vs 0) 12)) (w_ei ws (w_ar ws (n_v vs 0) 13)) (w_ei ws (w_ar ws (n_v vs 0) 11)) k2 k3 k4 f4)⟩
  refine ⟨(fun _ h => (by cases h)), [], trivial, ?_, (fun _ h => (by cases h))⟩
  rw [List.append_nil]
  exact List.forall_mem_cons.mpr ⟨⟨show (20 : Nat) < 100 from by decide, nf0⟩, List.forall_mem_cons.mpr ⟨⟨show (20 : Nat) < 100 from by decide, nf1⟩, (fun _ h => (by cases h))⟩⟩
set_option maxHeartbeats 4000000 in
theorem vc_Fa_orderLarge_4_r0 (x2 : Int) (x8 : Int) (x9 : Int) (x10 : Int) (x11 : Int) (x14 : Int) (rank_0 : Int → Int) (member_0 : Int → Int) (k2 : 8 ≤ x2 ∧ x2 ≤ 24) (k8 : 0 ≤ x8 ∧ x8 ≤ 16777215) (k9 : 0 ≤ x9 ∧ x9 ≤ 23) (k10 : (-1) ≤ x10 ∧ x10 ≤ 23) (k11 : 0 ≤ x11 ∧ x11 ≤ 23) (k14 : 0 ≤ x14 ∧ x14 ≤ 63) (f1 : LOW (x8) (x14)) (f4 : x11 < x2) (f5 : ORL (rank_0) (member_0) (x2) (x8) (x9) (x10) (x11)) : 0 ≤ x14 ∧ x14 ≤ 23 := by
  first
    | (have q := orl_first ‹ORL _ _ _ _ _ _ _› (by omega) (by omega) (by omega) ‹LOW _ _›; omega)
def o_Fa_orderLarge_4 : or_T := (102, 16, [(0, (2, 0, 0, [2])), (1, (2, 0, 0, [3])), (2, (0, 8, 24, [])), (3, (0, 0, 24, [])), (4, (0, 0, 24, [])), (5, (2, 0, 0, [2])), (6, (2, 0, 0, [3])), (7, (0, 8, 24, [])), (8, (0, 0, 16777215, [])), (9, (0, 0, 23, [])), (10, (0, -1, 23, [])), (11, (0, 0, 23, [])), (12, (0, -1, -1, [])), (13, (0, -1, -1, [])), (14, (0, 0, 63, [])), (15, (2, 0, 0, [45]))], [(9, [15, 5], [12]), (20, [8, 14], [61, 0, 555]), (7, [12, 13], [0]), (20, [8, 12], [61, 0, 574]), (7, [11, 7], [2]), (20, [5, 7, 8, 9, 10, 11], [60, 0, 2, 572, 12, 13]), (20, [11, 7], [50, 0, 0, 0, 2, 1, 0, 1, 1]), (20, [5, 7], [60, 0, 1, 570, 13]), (20, [5, 3, 4, 7], [60, 0, 3, 716, 12, 11, 13]), (24, [0, 5], []), (24, [1, 6], []), (24, [2, 7], [])], [(14, (0, 0, 23, []))], [], [], [], [(11, 7, -4294967296, -1), (2, 7, -4294967296, 0), (7, 2, -4294967296, 0), (9, 11, -4294967296, 0), (10, 2, -4294967296, -1), (10, 7, -4294967296, -1)])
theorem oo_Fa_orderLarge_4 {kA : Nat → ClassId} : or_ok PRD kA GG o_Fa_orderLarge_4 := by
  refine or_mk fun A ta ws vs hD hth hl => ?_
  intro t0 r0 t1 r1 t2 k2 t3 k3 t4 k4 t5 r5 t6 r6 t7 k7 t8 k8 t9 k9 t10 k10 t11 k11 t12 k12 t13 k13 t14 k14 t15 r15 d0 d1 d2 d3 d4 d5 f0 f1 f2 f3 f4 f5 f6 f7 f8 f9 f10 f11
  replace f4 := shm_6 f4
  replace f5 := shm_1508 f5
  replace f9 := shm_5 f9
  replace f11 := shm_5 f11
  have q5 : n_v vs 5 = n_v vs 0 := f9.symm
  have q7 : n_v vs 7 = n_v vs 2 := f11.symm
  simp only [q5, q7] at f4 f5
  have hrf0 : 0 ≤ v_iv (n_v vs 14) ∧ v_iv (n_v vs 14) ≤ 23 := vc_Fa_orderLarge_4_r0 (v_iv (n_v vs 2)) (v_iv (n_v vs 8)) (v_iv (n_v vs 9)) (v_iv (n_v vs 10)) (v_iv (n_v vs 11)) (v_iv (n_v vs 14)) (w_ei ws (w_ar ws (n_v vs 0) 12)) (w_ei ws (w_ar ws (n_v vs 0) 13)) k2 k8 k9 k10 k11 k14 (shm_810 f1) f4 f5
  have rf14 : tv_ok ta (0, 0, 23, []) (n_v vs 14) := tv_in t14 (by first | omega | grind) (by first | omega | grind)
  refine ⟨List.forall_mem_cons.mpr ⟨rf14, (fun _ h => (by cases h))⟩, [], trivial, ?_, (fun _ h => (by cases h))⟩
  rw [List.append_nil]
  exact (fun _ h => (by cases h))
set_option maxHeartbeats 4000000 in
theorem vc_Fa_orderLarge_5_0 (x2 : Int) (x8 : Int) (x9 : Int) (x10 : Int) (x11 : Int) (x12 : Int) (x14 : Int) (x16 : Int) (x17 : Int) (x18 : Int) (x19 : Int) (x20 : Int) (x21 : Int) (x22 : Int) (member_0 : Int → Int) (rank_1 : Int → Int) (member_1 : Int → Int) (loop_1 : Int → Int) (loop_0 : Int → Int) (rank_0 : Int → Int) (k2 : 8 ≤ x2 ∧ x2 ≤ 24) (k8 : 0 ≤ x8 ∧ x8 ≤ 16777215) (k9 : 0 ≤ x9 ∧ x9 ≤ 23) (k10 : (-1) ≤ x10 ∧ x10 ≤ 23) (k11 : 0 ≤ x11 ∧ x11 ≤ 23) (k14 : 0 ≤ x14 ∧ x14 ≤ 23) (k16 : 1 ≤ x16 ∧ x16 ≤ 24) (k17 : 1 ≤ x17 ∧ x17 ≤ 1) (k18 : 1 ≤ x18 ∧ x18 ≤ 8388608) (k19 : (-1) ≤ x19 ∧ x19 ≤ (-1)) (k20 : (-2147483648) ≤ x20 ∧ x20 ≤ 2147483647) (k21 : 0 ≤ x21 ∧ x21 ≤ 16777215) (k22 : 1 ≤ x22 ∧ x22 ≤ 24) (f1 : x22 = x11 + 1) (f2 : bvp (x21) = bvp (x8) &&& bvp (x20)) (f3 : bvp (x20) = bvp (x18) ^^^ bvp (x19)) (f4 : bvp (x18) = bvp (x17) <<< (x14).toNat) (f5 : x16 = x9 + 1) (f14 : LOW (x8) (x14)) (f17 : x11 < x2) (f18 : ORL (rank_1) (member_1) (x2) (x8) (x9) (x10) (x11)) (hE_0_11_1 : ∀ j : Int, loop_0 j = loop_1 j) (hE_0_12_1 : ∀ j : Int, 0 ≤ j → (j = x14 → rank_0 j = x9) ∧ (j ≠ x14 → rank_0 j = rank_1 j)) (hE_0_13_1 : ∀ j : Int, member_0 j = member_1 j) : ORL (rank_0) (member_0) (x2) (x21) (x16) (x10) (x22) := by
  have e_hE_0_11_1 := funext hE_0_11_1; subst e_hE_0_11_1
  have e_hE_0_13_1 := funext hE_0_13_1; subst e_hE_0_13_1
  first
    | exact orl_take (q := x18) (r := x20) (m1 := x19) ‹ORL _ _ _ _ _ _ _› (by omega) (orl_first ‹ORL _ _ _ _ _ _ _› (by omega) (by omega) (by omega) ‹LOW _ _›) (by assumption) rfl ‹bvp x18 = _› (by omega) ‹bvp x20 = _› (by omega) ‹bvp x21 = _› (by omega) (Or.inr ⟨rfl, by omega, rfl⟩)
    | exact orl_take (q := x17) (r := x19) (m1 := x18) ‹ORL _ _ _ _ _ _ _› (by omega) (((‹PKL _ _› : PKL x8 x12)).resolve_left (by omega)) (by assumption) rfl ‹bvp x17 = _› (by omega) ‹bvp x19 = _› (by omega) ‹bvp x20 = _› (by omega) (Or.inl ⟨rfl, by omega, rfl⟩)
set_option maxHeartbeats 4000000 in
theorem vc_Fa_orderLarge_5_1 (x2 : Int) (x7 : Int) (x11 : Int) (x22 : Int) (member_0 : Int → Int) (member_1 : Int → Int) (loop_1 : Int → Int) (loop_0 : Int → Int) (k2 : 8 ≤ x2 ∧ x2 ≤ 24) (k7 : 8 ≤ x7 ∧ x7 ≤ 24) (k11 : 0 ≤ x11 ∧ x11 ≤ 23) (k22 : 1 ≤ x22 ∧ x22 ≤ 24) (d0 : x11 + 1 ≤ x22 ∧ x22 ≤ x11 + 1) (d1 : x7 + (-4294967296) ≤ x22 ∧ x22 ≤ x7 + 0) (d4 : x7 + (-4294967296) ≤ x11 ∧ x11 ≤ x7 + (-1)) (d5 : x7 + (-4294967296) ≤ x2 ∧ x2 ≤ x7 + 0) (d6 : x2 + (-4294967296) ≤ x7 ∧ x7 ≤ x2 + 0) (hE_0_11_1 : ∀ j : Int, loop_0 j = loop_1 j) (hE_0_13_1 : ∀ j : Int, member_0 j = member_1 j) : x22 ≤ x2 := by
  have e_hE_0_11_1 := funext hE_0_11_1; subst e_hE_0_11_1
  have e_hE_0_13_1 := funext hE_0_13_1; subst e_hE_0_13_1
  first
    | omega
    | (have q := (‹ORL _ _ _ _ _ _ _›).2.1; have q2 := (‹ORL _ _ _ _ _ _ _›).2.2.1; have q3 := (‹ORL _ _ _ _ _ _ _›).2.2.2.1; omega)
set_option maxHeartbeats 4000000 in
theorem vc_Fa_orderLarge_5_2 (x2 : Int) (x3 : Int) (x4 : Int) (x8 : Int) (x9 : Int) (x10 : Int) (x11 : Int) (x12 : Int) (x14 : Int) (member_0 : Int → Int) (rank_1 : Int → Int) (member_1 : Int → Int) (loop_1 : Int → Int) (loop_0 : Int → Int) (rank_0 : Int → Int) (k2 : 8 ≤ x2 ∧ x2 ≤ 24) (k3 : 0 ≤ x3 ∧ x3 ≤ 24) (k4 : 0 ≤ x4 ∧ x4 ≤ 24) (k8 : 0 ≤ x8 ∧ x8 ≤ 16777215) (k9 : 0 ≤ x9 ∧ x9 ≤ 23) (k10 : (-1) ≤ x10 ∧ x10 ≤ 23) (k11 : 0 ≤ x11 ∧ x11 ≤ 23) (k14 : 0 ≤ x14 ∧ x14 ≤ 23) (f14 : LOW (x8) (x14)) (f17 : x11 < x2) (f18 : ORL (rank_1) (member_1) (x2) (x8) (x9) (x10) (x11)) (f21 : RKM (rank_1) (loop_1) (member_1) (x3) (x4) (x2)) (hE_0_11_1 : ∀ j : Int, loop_0 j = loop_1 j) (hE_0_12_1 : ∀ j : Int, 0 ≤ j → (j = x14 → rank_0 j = x9) ∧ (j ≠ x14 → rank_0 j = rank_1 j)) (hE_0_13_1 : ∀ j : Int, member_0 j = member_1 j) : RKM (rank_0) (loop_0) (member_0) (x3) (x4) (x2) := by
  have e_hE_0_11_1 := funext hE_0_11_1; subst e_hE_0_11_1
  have e_hE_0_13_1 := funext hE_0_13_1; subst e_hE_0_13_1
  first
    | (have q := orl_first ‹ORL _ _ _ _ _ _ _› (by omega) (by omega) (by omega) ‹LOW x8 x14›; exact rkm_orl ‹RKM _ _ _ _ _ _› ‹ORL _ _ _ _ _ _ _› q.1 q.2.1 q.2.2 hE_0_12_1)
    | (have q := (‹PKL x8 x12›).resolve_left (by omega); exact rkm_orl ‹RKM _ _ _ _ _ _› ‹ORL _ _ _ _ _ _ _› q.1 q.2.1 q.2.2 hE_0_12_1)
def o_Fa_orderLarge_5 : or_T := (40, 23, [(0, (2, 0, 0, [2])), (2, (0, 8, 24, [])), (3, (0, 0, 24, [])), (4, (0, 0, 24, [])), (7, (0, 8, 24, [])), (8, (0, 0, 16777215, [])), (9, (0, 0, 23, [])), (10, (0, -1, 23, [])), (11, (0, 0, 23, [])), (14, (0, 0, 23, [])), (15, (2, 0, 0, [45])), (16, (0, 1, 24, [])), (17, (0, 1, 1, [])), (18, (0, 1, 8388608, [])), (19, (0, -1, -1, [])), (20, (0, -2147483648, 2147483647, [])), (21, (0, 0, 16777215, [])), (22, (0, 1, 24, []))], [(9, [15, 5], [12]), (6, [22, 11], [1]), (16, [21, 8, 20], [0]), (16, [20, 18, 19], [2]), (16, [18, 17, 14], [3]), (6, [16, 9], [1]), (24, [0, 5], []), (24, [2, 7], []), (100, [15, 14, 9], []), (20, [8, 14], [61, 0, 555]), (7, [11, 7], [2]), (20, [5, 7, 8, 9, 10, 11], [60, 0, 2, 572, 12, 13]), (20, [5, 3, 4, 7], [60, 0, 3, 716, 12, 11, 13])], [], [], [(20, [5, 7, 21, 16, 10, 22], [60, 0, 2, 572, 12, 13]), (20, [22, 7], [50, 0, 0, 0, 2, 1, 0, 1, 1]), (20, [5, 3, 4, 7], [60, 0, 3, 716, 12, 11, 13])], [], [(22, 11, 1, 1), (22, 7, -4294967296, 0), (16, 9, 1, 1), (11, 7, -4294967296, -1), (2, 7, -4294967296, 0), (7, 2, -4294967296, 0), (9, 11, -4294967296, 0)])
theorem oo_Fa_orderLarge_5 {kA : Nat → ClassId} : or_ok PRD kA GG o_Fa_orderLarge_5 := by
  refine or_mk fun A ta ws vs hD hth hl => ?_
  intro t0 r0 t2 k2 t3 k3 t4 k4 t7 k7 t8 k8 t9 k9 t10 k10 t11 k11 t14 k14 t15 r15 t16 k16 t17 k17 t18 k18 t19 k19 t20 k20 t21 k21 t22 k22 d0 d1 d2 d4 d5 d6 d7 f0 f1 f2 f3 f4 f5 f10 f12 ta1 w1 le1 s1 f14 f17 f18 f21
  replace f0 := shm_103 f0
  replace f1 := shm_4 f1
  replace f2 := shm_11 f2
  replace f3 := shm_33 f3
  replace f4 := shm_349 f4
  replace f5 := shm_4 f5
  replace f10 := shm_5 f10
  replace f12 := shm_5 f12
  have s1 : (∀ b j, w_el ws b j = if b = v_ad (n_v vs 15) ∧ j = (v_iv (n_v vs 14)).toNat then v_iv (n_v vs 9) else w_el w1 b j) ∧ ∀ b k, w_fd ws b k = w_fd w1 b k := s1.2
  replace f14 := shm_810 f14
  replace f17 := shm_6 f17
  replace f18 := shm_1508 f18
  replace f21 := shm_1346 f21
  have q5 : n_v vs 5 = n_v vs 0 := f10.symm
  have q7 : n_v vs 7 = n_v vs 2 := f12.symm
  simp only [q5, q7] at f0 f17 f18 f21
  have ar_0_11_1 : w_ar w1 (n_v vs 0) 11 = w_ar ws (n_v vs 0) 11 := congrArg v_ad (s1.2 _ _).symm
  have cr_0_11 := fdq_63 hD hth r0
  have ar_0_12_1 : w_ar w1 (n_v vs 0) 12 = w_ar ws (n_v vs 0) 12 := congrArg v_ad (s1.2 _ _).symm
  have ar_0_13_1 : w_ar w1 (n_v vs 0) 13 = w_ar ws (n_v vs 0) 13 := congrArg v_ad (s1.2 _ _).symm
  have cr_0_13 := fdq_64 hD hth r0
  have ad_15 : v_ad (n_v vs 15) = w_ar ws (n_v vs 0) 12 := congrArg v_ad f0
  simp only [ar_0_12_1, ar_0_13_1, ar_0_11_1] at f18 f21
  have hE_0_11_1 : ∀ j : Int, w_ei ws (w_ar ws (n_v vs 0) 11) j = w_ei w1 (w_ar ws (n_v vs 0) 11) j := el_kp s1.1 r15 cr_0_11 (by decide)
  have hE_0_12_1 : ∀ j : Int, 0 ≤ j → (j = v_iv (n_v vs 14) → w_ei ws (w_ar ws (n_v vs 0) 12) j = v_iv (n_v vs 9)) ∧ (j ≠ v_iv (n_v vs 14) → w_ei ws (w_ar ws (n_v vs 0) 12) j = w_ei w1 (w_ar ws (n_v vs 0) 12) j) := fun j hj => ⟨fun h => by unfold w_ei; rw [s1.1, if_pos ⟨ad_15.symm, by rw [h]⟩], fun h => by unfold w_ei; rw [s1.1, if_neg (fun e => h (by have := e.2; omega))]⟩
  have hE_0_13_1 : ∀ j : Int, w_ei ws (w_ar ws (n_v vs 0) 13) j = w_ei w1 (w_ar ws (n_v vs 0) 13) j := el_kp s1.1 r15 cr_0_13 (by decide)
  have nf0 : fc_1 PRD (20, [5, 7, 21, 16, 10, 22], [60, 0, 2, 572, 12, 13]) ws (vs) := by
    refine ⟨nf_in hl rfl, sgq_1508 ?_⟩
    · show ORL (w_ei ws (w_ar ws (n_v vs 5) 12)) (w_ei ws (w_ar ws (n_v vs 5) 13)) (v_iv (n_v vs 7)) (v_iv (n_v vs 21)) (v_iv (n_v vs 16)) (v_iv (n_v vs 10)) (v_iv (n_v vs 22))
      simp only [q5, q7]
      exact vc_Fa_orderLarge_5_0 (v_iv (n_v vs 2)) (v_iv (n_v vs 8)) (v_iv (n_v vs 9)) (v_iv (n_v vs 10)) (v_iv (n_v vs 11)) (v_iv (n_v vs 12)) (v_iv (n_v vs 14)) (v_iv (n_v vs 16)) (v_iv (n_v vs 17)) (v_iv (n_v vs 18)) (v_iv (n_v vs 19)) (v_iv (n_v vs 20)) (v_iv (n_v vs 21)) (v_iv (n_v vs 22)) (w_ei ws (w_ar ws (n_v vs 0) 13)) (w_ei w1 (w_ar ws (n_v vs 0) 12)) (w_ei w1 (w_ar ws (n_v vs 0) 13)) (w_ei w1 (w_ar ws (n_v vs 0) 11)) (w_ei ws (w_ar ws (n_v vs 0) 11)) (w_ei ws (w_ar ws (n_v vs 0) 12)) k2 k8 k9 k10 k11 k14 k16 k17 k18 k19 k20 k21 k22 f1 f2 f3 f4 f5 f14 f17 f18 hE_0_11_1 hE_0_12_1 hE_0_13_1
  have nf1 : fc_1 PRD (20, [22, 7], [50, 0, 0, 0, 2, 1, 0, 1, 1]) ws (vs) := by
    refine ⟨nf_in hl rfl, sgq_360 ?_⟩
    · show v_iv (n_v vs 22) ≤ v_iv (n_v vs 7)
      rw [q7]
      exact vc_Fa_orderLarge_5_1 (v_iv (n_v vs 2)) (v_iv (n_v vs 7)) (v_iv (n_v vs 11)) (v_iv (n_v vs 22)) (w_ei ws (w_ar ws (n_v vs 0) 13)) (w_ei w1 (w_ar ws (n_v vs 0) 13)) (w_ei w1 (w_ar ws (n_v vs 0) 11)) (w_ei ws (w_ar ws (n_v vs 0) 11)) k2 k7 k11 k22 d0 d1 d4 d5 d6 hE_0_11_1 hE_0_13_1
  have nf2 : fc_1 PRD (20, [5, 3, 4, 7], [60, 0, 3, 716, 12, 11, 13]) ws (vs) := by
    refine ⟨nf_in hl rfl, sgq_1346 ?_⟩
    · show RKM (w_ei ws (w_ar ws (n_v vs 5) 12)) (w_ei ws (w_ar ws (n_v vs 5) 11)) (w_ei ws (w_ar ws (n_v vs 5) 13)) (v_iv (n_v vs 3)) (v_iv (n_v vs 4)) (v_iv (n_v vs 7))
      simp only [q5, q7]
      exact vc_Fa_orderLarge_5_2 (v_iv (n_v vs 2)) (v_iv (n_v vs 3)) (v_iv (n_v vs 4)) (v_iv (n_v vs 8)) (v_iv (n_v vs 9)) (v_iv (n_v vs 10)) (v_iv (n_v vs 11)) (v_iv (n_v vs 12)) (v_iv (n_v vs 14)) (w_ei ws (w_ar ws (n_v vs 0) 13)) (w_ei w1 (w_ar ws (n_v vs 0) 12)) (w_ei w1 (w_ar ws (n_v vs 0) 13)) (w_ei w1 (w_ar ws (n_v vs 0) 11)) (w_ei ws (w_ar ws (n_v vs 0) 11)) (w_ei ws (w_ar ws (n_v vs 0) 12)) k2 k3 k4 k8 k9 k10 k11 k14 f14 f17 f18 f21 hE_0_11_1 hE_0_12_1 hE_0_13_1
  refine ⟨(fun _ h => (by cases h)), [], trivial, ?_, (fun _ h => (by cases h))⟩
  rw [List.append_nil]
  exact List.forall_mem_cons.mpr ⟨⟨show (20 : Nat) < 100 from by decide, nf0⟩, List.forall_mem_cons.mpr ⟨⟨show (20 : Nat) < 100 from by decide, nf1⟩, List.forall_mem_cons.mpr ⟨⟨show (20 : Nat) < 100 from by decide, nf2⟩, (fun _ h => (by cases h))⟩⟩⟩
set_option maxHeartbeats 4000000 in
theorem vc_Fa_orderLarge_6_r0 (x2 : Int) (x7 : Int) (x8 : Int) (x9 : Int) (x10 : Int) (x11 : Int) (rank_0 : Int → Int) (member_0 : Int → Int) (k2 : 8 ≤ x2 ∧ x2 ≤ 24) (k7 : 8 ≤ x7 ∧ x7 ≤ 24) (k8 : 0 ≤ x8 ∧ x8 ≤ 16777215) (k9 : 0 ≤ x9 ∧ x9 ≤ 23) (k10 : (-1) ≤ x10 ∧ x10 ≤ 23) (k11 : 0 ≤ x11 ∧ x11 ≤ 23) (d0 : x7 + (-4294967296) ≤ x11 ∧ x11 ≤ x7 + (-1)) (d1 : x7 + (-4294967296) ≤ x2 ∧ x2 ≤ x7 + 0) (d2 : x2 + (-4294967296) ≤ x7 ∧ x7 ≤ x2 + 0) (f4 : ORL (rank_0) (member_0) (x2) (x8) (x9) (x10) (x11)) : 0 ≤ x10 ∧ x10 ≤ 23 := by
  first
    | omega
    | (have q := (‹ORL _ _ _ _ _ _ _›).2.1; have q2 := (‹ORL _ _ _ _ _ _ _›).2.2.1; have q3 := (‹ORL _ _ _ _ _ _ _›).2.2.2.1; omega)
def o_Fa_orderLarge_6 : or_T := (69, 15, [(0, (2, 0, 0, [2])), (1, (2, 0, 0, [3])), (2, (0, 8, 24, [])), (3, (0, 0, 24, [])), (4, (0, 0, 24, [])), (5, (2, 0, 0, [2])), (6, (2, 0, 0, [3])), (7, (0, 8, 24, [])), (8, (0, 0, 16777215, [])), (9, (0, 0, 23, [])), (10, (0, -1, 23, [])), (11, (0, 0, 23, [])), (12, (0, 0, 23, [])), (13, (0, -1, -1, [])), (14, (2, 0, 0, [45]))], [(9, [14, 5], [12]), (7, [12, 13], [1]), (20, [8, 12], [61, 0, 574]), (7, [11, 7], [2]), (20, [5, 7, 8, 9, 10, 11], [60, 0, 2, 572, 12, 13]), (20, [11, 7], [50, 0, 0, 0, 2, 1, 0, 1, 1]), (20, [5, 7], [60, 0, 1, 570, 13]), (20, [5, 3, 4, 7], [60, 0, 3, 716, 12, 11, 13]), (24, [0, 5], []), (24, [1, 6], []), (24, [2, 7], [])], [(10, (0, 0, 23, []))], [], [], [], [(11, 7, -4294967296, -1), (2, 7, -4294967296, 0), (7, 2, -4294967296, 0), (9, 11, -4294967296, 0), (10, 2, -4294967296, -1), (10, 7, -4294967296, -1)])
theorem oo_Fa_orderLarge_6 {kA : Nat → ClassId} : or_ok PRD kA GG o_Fa_orderLarge_6 := by
  refine or_mk fun A ta ws vs hD hth hl => ?_
  intro t0 r0 t1 r1 t2 k2 t3 k3 t4 k4 t5 r5 t6 r6 t7 k7 t8 k8 t9 k9 t10 k10 t11 k11 t12 k12 t13 k13 t14 r14 d0 d1 d2 d3 d4 d5 f0 f1 f2 f3 f4 f5 f6 f7 f8 f9 f10
  replace f4 := shm_1508 f4
  replace f8 := shm_5 f8
  replace f10 := shm_5 f10
  have q5 : n_v vs 5 = n_v vs 0 := f8.symm
  have q7 : n_v vs 7 = n_v vs 2 := f10.symm
  simp only [q5, q7] at f4
  have hrf0 : 0 ≤ v_iv (n_v vs 10) ∧ v_iv (n_v vs 10) ≤ 23 := vc_Fa_orderLarge_6_r0 (v_iv (n_v vs 2)) (v_iv (n_v vs 7)) (v_iv (n_v vs 8)) (v_iv (n_v vs 9)) (v_iv (n_v vs 10)) (v_iv (n_v vs 11)) (w_ei ws (w_ar ws (n_v vs 0) 12)) (w_ei ws (w_ar ws (n_v vs 0) 13)) k2 k7 k8 k9 k10 k11 d0 d1 d2 f4
  have rf10 : tv_ok ta (0, 0, 23, []) (n_v vs 10) := tv_in t10 (by first | omega | grind) (by first | omega | grind)
  refine ⟨List.forall_mem_cons.mpr ⟨rf10, (fun _ h => (by cases h))⟩, [], trivial, ?_, (fun _ h => (by cases h))⟩
  rw [List.append_nil]
  exact (fun _ h => (by cases h))
set_option maxHeartbeats 4000000 in
theorem vc_Fa_orderLarge_7_0 (x2 : Int) (x8 : Int) (x9 : Int) (x10 : Int) (x11 : Int) (x12 : Int) (x15 : Int) (x16 : Int) (x17 : Int) (x18 : Int) (x19 : Int) (x20 : Int) (x21 : Int) (member_0 : Int → Int) (rank_1 : Int → Int) (member_1 : Int → Int) (loop_1 : Int → Int) (loop_0 : Int → Int) (rank_0 : Int → Int) (k2 : 8 ≤ x2 ∧ x2 ≤ 24) (k8 : 0 ≤ x8 ∧ x8 ≤ 16777215) (k9 : 0 ≤ x9 ∧ x9 ≤ 23) (k10 : 0 ≤ x10 ∧ x10 ≤ 23) (k11 : 0 ≤ x11 ∧ x11 ≤ 23) (k12 : 0 ≤ x12 ∧ x12 ≤ 23) (k15 : (-1) ≤ x15 ∧ x15 ≤ 22) (k16 : 1 ≤ x16 ∧ x16 ≤ 1) (k17 : 1 ≤ x17 ∧ x17 ≤ 8388608) (k18 : (-1) ≤ x18 ∧ x18 ≤ (-1)) (k19 : (-2147483648) ≤ x19 ∧ x19 ≤ 2147483647) (k20 : 0 ≤ x20 ∧ x20 ≤ 16777215) (k21 : 1 ≤ x21 ∧ x21 ≤ 24) (d2 : x10 + (-1) ≤ x15 ∧ x15 ≤ x10 + (-1)) (f1 : x21 = x11 + 1) (f2 : bvp (x20) = bvp (x8) &&& bvp (x19)) (f3 : bvp (x19) = bvp (x17) ^^^ bvp (x18)) (f4 : bvp (x17) = bvp (x16) <<< (x12).toNat) (f14 : PKL (x8) (x12)) (f15 : x11 < x2) (f16 : ORL (rank_1) (member_1) (x2) (x8) (x9) (x10) (x11)) (hE_0_11_1 : ∀ j : Int, loop_0 j = loop_1 j) (hE_0_12_1 : ∀ j : Int, 0 ≤ j → (j = x12 → rank_0 j = x10) ∧ (j ≠ x12 → rank_0 j = rank_1 j)) (hE_0_13_1 : ∀ j : Int, member_0 j = member_1 j) : ORL (rank_0) (member_0) (x2) (x20) (x9) (x15) (x21) := by
  have e_hE_0_11_1 := funext hE_0_11_1; subst e_hE_0_11_1
  have e_hE_0_13_1 := funext hE_0_13_1; subst e_hE_0_13_1
  first
    | exact orl_take (q := x17) (r := x19) (m1 := x18) ‹ORL _ _ _ _ _ _ _› (by omega) (((‹PKL _ _› : PKL x8 x12)).resolve_left (by omega)) (by assumption) rfl ‹bvp x17 = _› (by omega) ‹bvp x19 = _› (by omega) ‹bvp x20 = _› (by omega) (Or.inl ⟨rfl, by omega, rfl⟩)
set_option maxHeartbeats 4000000 in
theorem vc_Fa_orderLarge_7_1 (x2 : Int) (x7 : Int) (x11 : Int) (x21 : Int) (member_0 : Int → Int) (member_1 : Int → Int) (loop_1 : Int → Int) (loop_0 : Int → Int) (k2 : 8 ≤ x2 ∧ x2 ≤ 24) (k7 : 8 ≤ x7 ∧ x7 ≤ 24) (k11 : 0 ≤ x11 ∧ x11 ≤ 23) (k21 : 1 ≤ x21 ∧ x21 ≤ 24) (d0 : x11 + 1 ≤ x21 ∧ x21 ≤ x11 + 1) (d1 : x7 + (-4294967296) ≤ x21 ∧ x21 ≤ x7 + 0) (d5 : x7 + (-4294967296) ≤ x11 ∧ x11 ≤ x7 + (-1)) (d6 : x7 + (-4294967296) ≤ x2 ∧ x2 ≤ x7 + 0) (d7 : x2 + (-4294967296) ≤ x7 ∧ x7 ≤ x2 + 0) (hE_0_11_1 : ∀ j : Int, loop_0 j = loop_1 j) (hE_0_13_1 : ∀ j : Int, member_0 j = member_1 j) : x21 ≤ x2 := by
  have e_hE_0_11_1 := funext hE_0_11_1; subst e_hE_0_11_1
  have e_hE_0_13_1 := funext hE_0_13_1; subst e_hE_0_13_1
  first
    | omega
    | (have q := (‹ORL _ _ _ _ _ _ _›).2.1; have q2 := (‹ORL _ _ _ _ _ _ _›).2.2.1; have q3 := (‹ORL _ _ _ _ _ _ _›).2.2.2.1; omega)
set_option maxHeartbeats 4000000 in
theorem vc_Fa_orderLarge_7_2 (x2 : Int) (x3 : Int) (x4 : Int) (x8 : Int) (x9 : Int) (x10 : Int) (x11 : Int) (x12 : Int) (member_0 : Int → Int) (rank_1 : Int → Int) (member_1 : Int → Int) (loop_1 : Int → Int) (loop_0 : Int → Int) (rank_0 : Int → Int) (k2 : 8 ≤ x2 ∧ x2 ≤ 24) (k3 : 0 ≤ x3 ∧ x3 ≤ 24) (k4 : 0 ≤ x4 ∧ x4 ≤ 24) (k8 : 0 ≤ x8 ∧ x8 ≤ 16777215) (k9 : 0 ≤ x9 ∧ x9 ≤ 23) (k10 : 0 ≤ x10 ∧ x10 ≤ 23) (k11 : 0 ≤ x11 ∧ x11 ≤ 23) (k12 : 0 ≤ x12 ∧ x12 ≤ 23) (f14 : PKL (x8) (x12)) (f16 : ORL (rank_1) (member_1) (x2) (x8) (x9) (x10) (x11)) (f19 : RKM (rank_1) (loop_1) (member_1) (x3) (x4) (x2)) (hE_0_11_1 : ∀ j : Int, loop_0 j = loop_1 j) (hE_0_12_1 : ∀ j : Int, 0 ≤ j → (j = x12 → rank_0 j = x10) ∧ (j ≠ x12 → rank_0 j = rank_1 j)) (hE_0_13_1 : ∀ j : Int, member_0 j = member_1 j) : RKM (rank_0) (loop_0) (member_0) (x3) (x4) (x2) := by
  have e_hE_0_11_1 := funext hE_0_11_1; subst e_hE_0_11_1
  have e_hE_0_13_1 := funext hE_0_13_1; subst e_hE_0_13_1
  first
    | (have q := (‹PKL x8 x12›).resolve_left (by omega); exact rkm_orl ‹RKM _ _ _ _ _ _› ‹ORL _ _ _ _ _ _ _› q.1 q.2.1 q.2.2 hE_0_12_1)
def o_Fa_orderLarge_7 : or_T := (40, 22, [(0, (2, 0, 0, [2])), (2, (0, 8, 24, [])), (3, (0, 0, 24, [])), (4, (0, 0, 24, [])), (7, (0, 8, 24, [])), (8, (0, 0, 16777215, [])), (9, (0, 0, 23, [])), (10, (0, 0, 23, [])), (11, (0, 0, 23, [])), (12, (0, 0, 23, [])), (14, (2, 0, 0, [45])), (15, (0, -1, 22, [])), (16, (0, 1, 1, [])), (17, (0, 1, 8388608, [])), (18, (0, -1, -1, [])), (19, (0, -2147483648, 2147483647, [])), (20, (0, 0, 16777215, [])), (21, (0, 1, 24, []))], [(9, [14, 5], [12]), (6, [21, 11], [1]), (16, [20, 8, 19], [0]), (16, [19, 17, 18], [2]), (16, [17, 16, 12], [3]), (24, [0, 5], []), (24, [2, 7], []), (100, [14, 12, 10], []), (20, [8, 12], [61, 0, 574]), (7, [11, 7], [2]), (20, [5, 7, 8, 9, 10, 11], [60, 0, 2, 572, 12, 13]), (20, [5, 3, 4, 7], [60, 0, 3, 716, 12, 11, 13])], [], [], [(20, [5, 7, 20, 9, 15, 21], [60, 0, 2, 572, 12, 13]), (20, [21, 7], [50, 0, 0, 0, 2, 1, 0, 1, 1]), (20, [5, 3, 4, 7], [60, 0, 3, 716, 12, 11, 13])], [], [(21, 11, 1, 1), (21, 7, -4294967296, 0), (15, 10, -1, -1), (11, 7, -4294967296, -1), (2, 7, -4294967296, 0), (7, 2, -4294967296, 0), (10, 2, -4294967296, -1), (10, 7, -4294967296, -1)])
theorem oo_Fa_orderLarge_7 {kA : Nat → ClassId} : or_ok PRD kA GG o_Fa_orderLarge_7 := by
  refine or_mk fun A ta ws vs hD hth hl => ?_
  intro t0 r0 t2 k2 t3 k3 t4 k4 t7 k7 t8 k8 t9 k9 t10 k10 t11 k11 t12 k12 t14 r14 t15 k15 t16 k16 t17 k17 t18 k18 t19 k19 t20 k20 t21 k21 d0 d1 d2 d5 d6 d7 d9 d10 f0 f1 f2 f3 f4 f9 f11 ta1 w1 le1 s1 f14 f15 f16 f19
  replace f0 := shm_103 f0
  replace f1 := shm_4 f1
  replace f2 := shm_11 f2
  replace f3 := shm_33 f3
  replace f4 := shm_349 f4
  replace f9 := shm_5 f9
  replace f11 := shm_5 f11
  have s1 : (∀ b j, w_el ws b j = if b = v_ad (n_v vs 14) ∧ j = (v_iv (n_v vs 12)).toNat then v_iv (n_v vs 10) else w_el w1 b j) ∧ ∀ b k, w_fd ws b k = w_fd w1 b k := s1.2
  replace f14 := shm_819 f14
  replace f15 := shm_6 f15
  replace f16 := shm_1508 f16
  replace f19 := shm_1346 f19
  have q5 : n_v vs 5 = n_v vs 0 := f9.symm
  have q7 : n_v vs 7 = n_v vs 2 := f11.symm
  simp only [q5, q7] at f0 f15 f16 f19
  have ar_0_11_1 : w_ar w1 (n_v vs 0) 11 = w_ar ws (n_v vs 0) 11 := congrArg v_ad (s1.2 _ _).symm
  have cr_0_11 := fdq_63 hD hth r0
  have ar_0_12_1 : w_ar w1 (n_v vs 0) 12 = w_ar ws (n_v vs 0) 12 := congrArg v_ad (s1.2 _ _).symm
  have ar_0_13_1 : w_ar w1 (n_v vs 0) 13 = w_ar ws (n_v vs 0) 13 := congrArg v_ad (s1.2 _ _).symm
  have cr_0_13 := fdq_64 hD hth r0
  have ad_14 : v_ad (n_v vs 14) = w_ar ws (n_v vs 0) 12 := congrArg v_ad f0
  simp only [ar_0_12_1, ar_0_13_1, ar_0_11_1] at f16 f19
  have hE_0_11_1 : ∀ j : Int, w_ei ws (w_ar ws (n_v vs 0) 11) j = w_ei w1 (w_ar ws (n_v vs 0) 11) j := el_kp s1.1 r14 cr_0_11 (by decide)
  have hE_0_12_1 : ∀ j : Int, 0 ≤ j → (j = v_iv (n_v vs 12) → w_ei ws (w_ar ws (n_v vs 0) 12) j = v_iv (n_v vs 10)) ∧ (j ≠ v_iv (n_v vs 12) → w_ei ws (w_ar ws (n_v vs 0) 12) j = w_ei w1 (w_ar ws (n_v vs 0) 12) j) := fun j hj => ⟨fun h => by unfold w_ei; rw [s1.1, if_pos ⟨ad_14.symm, by rw [h]⟩], fun h => by unfold w_ei; rw [s1.1, if_neg (fun e => h (by have := e.2; omega))]⟩
  have hE_0_13_1 : ∀ j : Int, w_ei ws (w_ar ws (n_v vs 0) 13) j = w_ei w1 (w_ar ws (n_v vs 0) 13) j := el_kp s1.1 r14 cr_0_13 (by decide)
  have nf0 : fc_1 PRD (20, [5, 7, 20, 9, 15, 21], [60, 0, 2, 572, 12, 13]) ws (vs) := by
    refine ⟨nf_in hl rfl, sgq_1508 ?_⟩
    · show ORL (w_ei ws (w_ar ws (n_v vs 5) 12)) (w_ei ws (w_ar ws (n_v vs 5) 13)) (v_iv (n_v vs 7)) (v_iv (n_v vs 20)) (v_iv (n_v vs 9)) (v_iv (n_v vs 15)) (v_iv (n_v vs 21))
      simp only [q5, q7]
      exact vc_Fa_orderLarge_7_0 (v_iv (n_v vs 2)) (v_iv (n_v vs 8)) (v_iv (n_v vs 9)) (v_iv (n_v vs 10)) (v_iv (n_v vs 11)) (v_iv (n_v vs 12)) (v_iv (n_v vs 15)) (v_iv (n_v vs 16)) (v_iv (n_v vs 17)) (v_iv (n_v vs 18)) (v_iv (n_v vs 19)) (v_iv (n_v vs 20)) (v_iv (n_v vs 21)) (w_ei ws (w_ar ws (n_v vs 0) 13)) (w_ei w1 (w_ar ws (n_v vs 0) 12)) (w_ei w1 (w_ar ws (n_v vs 0) 13)) (w_ei w1 (w_ar ws (n_v vs 0) 11)) (w_ei ws (w_ar ws (n_v vs 0) 11)) (w_ei ws (w_ar ws (n_v vs 0) 12)) k2 k8 k9 k10 k11 k12 k15 k16 k17 k18 k19 k20 k21 d2 f1 f2 f3 f4 f14 f15 f16 hE_0_11_1 hE_0_12_1 hE_0_13_1
  have nf1 : fc_1 PRD (20, [21, 7], [50, 0, 0, 0, 2, 1, 0, 1, 1]) ws (vs) := by
    refine ⟨nf_in hl rfl, sgq_360 ?_⟩
    · show v_iv (n_v vs 21) ≤ v_iv (n_v vs 7)
      rw [q7]
      exact vc_Fa_orderLarge_7_1 (v_iv (n_v vs 2)) (v_iv (n_v vs 7)) (v_iv (n_v vs 11)) (v_iv (n_v vs 21)) (w_ei ws (w_ar ws (n_v vs 0) 13)) (w_ei w1 (w_ar ws (n_v vs 0) 13)) (w_ei w1 (w_ar ws (n_v vs 0) 11)) (w_ei ws (w_ar ws (n_v vs 0) 11)) k2 k7 k11 k21 d0 d1 d5 d6 d7 hE_0_11_1 hE_0_13_1
  have nf2 : fc_1 PRD (20, [5, 3, 4, 7], [60, 0, 3, 716, 12, 11, 13]) ws (vs) := by
    refine ⟨nf_in hl rfl, sgq_1346 ?_⟩
    · show RKM (w_ei ws (w_ar ws (n_v vs 5) 12)) (w_ei ws (w_ar ws (n_v vs 5) 11)) (w_ei ws (w_ar ws (n_v vs 5) 13)) (v_iv (n_v vs 3)) (v_iv (n_v vs 4)) (v_iv (n_v vs 7))
      simp only [q5, q7]
      exact vc_Fa_orderLarge_7_2 (v_iv (n_v vs 2)) (v_iv (n_v vs 3)) (v_iv (n_v vs 4)) (v_iv (n_v vs 8)) (v_iv (n_v vs 9)) (v_iv (n_v vs 10)) (v_iv (n_v vs 11)) (v_iv (n_v vs 12)) (w_ei ws (w_ar ws (n_v vs 0) 13)) (w_ei w1 (w_ar ws (n_v vs 0) 12)) (w_ei w1 (w_ar ws (n_v vs 0) 13)) (w_ei w1 (w_ar ws (n_v vs 0) 11)) (w_ei ws (w_ar ws (n_v vs 0) 11)) (w_ei ws (w_ar ws (n_v vs 0) 12)) k2 k3 k4 k8 k9 k10 k11 k12 f14 f16 f19 hE_0_11_1 hE_0_12_1 hE_0_13_1
  refine ⟨(fun _ h => (by cases h)), [], trivial, ?_, (fun _ h => (by cases h))⟩
  rw [List.append_nil]
  exact List.forall_mem_cons.mpr ⟨⟨show (20 : Nat) < 100 from by decide, nf0⟩, List.forall_mem_cons.mpr ⟨⟨show (20 : Nat) < 100 from by decide, nf1⟩, List.forall_mem_cons.mpr ⟨⟨show (20 : Nat) < 100 from by decide, nf2⟩, (fun _ h => (by cases h))⟩⟩⟩
def n_Fa_orderLarge_an : List an_T := [(5, [(0, (2, 0, 0, [2])), (1, (2, 0, 0, [3])), (2, (0, 8, 24, [])), (3, (0, 0, 16777215, [])), (4, (0, 0, 24, []))], [], (0, 0), [(0, 0, 99995), (1, 9, 24), (0, 0, 100000)], [(2, 7, (Int.negSucc 999999999999), 0), (7, 2, (Int.negSucc 999999999999), 0), (8, 9, (Int.negSucc 999999999999), 16777214)], [], [(2, 0, 0, [2]), (2, 0, 0, [3]), (0, 8, 24, []), (0, 0, 24, []), (0, 0, 24, [])], 0, [], [(20, [5, 8, 9], [60, 0, 1, 571, 13]), (20, [9, 7], [50, 0, 0, 0, 2, 1, 0, 1, 1]), (20, [5, 7], [60, 0, 1, 570, 13]), (20, [5, 3, 4, 7], [60, 0, 3, 716, 12, 11, 13]), (24, [0, 5], []), (24, [1, 6], []), (24, [2, 7], [])]), (40, [(0, (2, 0, 0, [2])), (1, (2, 0, 0, [3])), (2, (0, 8, 24, [])), (3, (0, 0, 16777215, [])), (4, (0, 0, 24, [])), (5, (0, (Int.negSucc 0), 23, [])), (6, (0, 0, 24, []))], [], (0, 0), [(0, 0, 99960), (1, 11, 24), (0, 0, 100000)], [(2, 7, (Int.negSucc 999999999999), 0), (7, 2, (Int.negSucc 999999999999), 0), (9, 11, (Int.negSucc 999999999999), 0), (10, 2, (Int.negSucc 999999999999), (Int.negSucc 0)), (10, 7, (Int.negSucc 999999999999), (Int.negSucc 0))], [], [(2, 0, 0, [2]), (2, 0, 0, [3]), (0, 8, 24, []), (0, 0, 24, []), (0, 0, 24, [])], 0, [], [(20, [5, 7, 8, 9, 10, 11], [60, 0, 2, 572, 12, 13]), (20, [11, 7], [50, 0, 0, 0, 2, 1, 0, 1, 1]), (20, [5, 7], [60, 0, 1, 570, 13]), (20, [5, 3, 4, 7], [60, 0, 3, 716, 12, 11, 13]), (24, [0, 5], []), (24, [1, 6], []), (24, [2, 7], [])])]
def t_Fa_orderLarge_ct : ct_L := [(1, 180, e_Fa_pickLast), (1, 183, e_Fa_pickFirst)]
set_option maxRecDepth 100000 in
theorem c_Fa_orderLarge {l : Launch} {D : va_G} {kA : Nat → ClassId} (h_Fa_pickFirst : ct_ok PRD l D kA GG y_Fa_pickFirst z_Fa_pickFirst e_Fa_pickFirst) (h_Fa_pickLast : ct_ok PRD l D kA GG y_Fa_pickLast z_Fa_pickLast e_Fa_pickLast) : ct_ok PRD l D kA GG y_Fa_orderLarge z_Fa_orderLarge e_Fa_orderLarge := chk_all_ok (FT := [(51, 2, 12), (54, 2, 13)]) (PT := []) (CT := t_Fa_orderLarge_ct) (KT := []) (NT := []) (AN := n_Fa_orderLarge_an) (OT := [o_Fa_orderLarge_0, o_Fa_orderLarge_1, o_Fa_orderLarge_2, o_Fa_orderLarge_3, o_Fa_orderLarge_4, o_Fa_orderLarge_5, o_Fa_orderLarge_6, o_Fa_orderLarge_7]) 3 312 (List.forall_mem_cons.mpr ⟨oo_Fa_orderLarge_0, List.forall_mem_cons.mpr ⟨oo_Fa_orderLarge_1, List.forall_mem_cons.mpr ⟨oo_Fa_orderLarge_2, List.forall_mem_cons.mpr ⟨oo_Fa_orderLarge_3, List.forall_mem_cons.mpr ⟨oo_Fa_orderLarge_4, List.forall_mem_cons.mpr ⟨oo_Fa_orderLarge_5, List.forall_mem_cons.mpr ⟨oo_Fa_orderLarge_6, List.forall_mem_cons.mpr ⟨oo_Fa_orderLarge_7, List.forall_mem_nil _⟩⟩⟩⟩⟩⟩⟩⟩) (by decide +kernel) ⟨List.forall_mem_cons.mpr ⟨gf_Fa_51, List.forall_mem_cons.mpr ⟨gf_Fa_54, List.forall_mem_nil _⟩⟩, List.forall_mem_nil _, List.forall_mem_cons.mpr ⟨cl_virtual (y := y_Fa_pickLast) (ci := 2) rfl rfl ⟨_, _, rfl⟩ (by decide +kernel) h_Fa_pickLast wm_889 wm_7 wm_886 wm_888 wv_2_8 ⟨by decide, by decide, by decide +kernel⟩ (by decide), List.forall_mem_cons.mpr ⟨cl_virtual (y := y_Fa_pickFirst) (ci := 2) rfl rfl ⟨_, _, rfl⟩ (by decide +kernel) h_Fa_pickFirst wm_896 wm_7 wm_893 wm_895 wv_2_9 ⟨by decide, by decide, by decide +kernel⟩ (by decide), List.forall_mem_nil _⟩⟩, List.forall_mem_nil _, List.forall_mem_nil _, GG_pl⟩ (by decide +kernel)

set_option maxHeartbeats 4000000 in
theorem vc_Gr_removeNode_0_0 (x1 : Int) (x2 : Int) (x4 : Int) (edges_0 : Int) (tail_0 : Int → Int) (head_0 : Int → Int) (k1 : 0 ≤ x1 ∧ x1 ≤ 23) (k2 : 0 ≤ x2 ∧ x2 ≤ 48) (k4 : (-1) ≤ x4 ∧ x4 ≤ 47) (d0 : x2 + (-1) ≤ x4 ∧ x4 ≤ x2 + (-1)) (g1 : x2 = edges_0) (kz_0_1 : 0 ≤ edges_0 ∧ edges_0 ≤ 48) : RN1 (edges_0) (tail_0) (head_0) (x1) (x4) := by
  first
    | exact ⟨by omega, by omega, fun j a b => by omega⟩
def o_Gr_removeNode_0 : or_T := (7, 5, [(0, (2, 0, 0, [3])), (1, (0, 0, 23, [])), (2, (0, 0, 48, [])), (4, (0, -1, 47, []))], [(9, [2, 0], [1])], [], [], [(20, [0, 1, 4], [60, 1, 2, 759, 1, 7, 8]), (24, [0, 0], [])], [], [(4, 2, -1, -1)])
theorem oo_Gr_removeNode_0 {kA : Nat → ClassId} : or_ok PRD kA GG o_Gr_removeNode_0 := by
  refine or_mk fun A ta ws vs hD hth hl => ?_
  intro t0 r0 t1 k1 t2 k2 t4 k4 d0 f1
  replace f1 := shm_215 f1
  have g1 : v_iv (n_v vs 2) = w_fi ws (n_v vs 0) 1 := congrArg v_iv f1
  have kz_0_1 := fdq_30 hD hth r0
  have nf0 : fc_1 PRD (20, [0, 1, 4], [60, 1, 2, 759, 1, 7, 8]) ws (vs) := ⟨nf_in hl rfl, sgq_1509 (vc_Gr_removeNode_0_0 (v_iv (n_v vs 1)) (v_iv (n_v vs 2)) (v_iv (n_v vs 4)) (w_fi ws (n_v vs 0) 1) (w_ei ws (w_ar ws (n_v vs 0) 7)) (w_ei ws (w_ar ws (n_v vs 0) 8)) k1 k2 k4 d0 g1 kz_0_1)⟩
  have nf1 : fc_1 PRD (24, [0, 0], []) ws (vs) := by
    refine ⟨nf_in hl rfl, sgq_1 ?_⟩
    · show n_v vs 0 = n_v vs 0
      first | rfl | simp only [true_and]
  refine ⟨(fun _ h => (by cases h)), [], trivial, ?_, (fun _ h => (by cases h))⟩
  rw [List.append_nil]
  exact List.forall_mem_cons.mpr ⟨⟨show (20 : Nat) < 100 from by decide, nf0⟩, List.forall_mem_cons.mpr ⟨⟨show (24 : Nat) < 100 from by decide, nf1⟩, (fun _ h => (by cases h))⟩⟩
set_option maxHeartbeats 4000000 in
theorem vc_Gr_removeNode_1_0 (x3 : Int) (x4 : Int) (x6 : Int) (edges_0 : Int) (nodes_0 : Int) (tail_0 : Int → Int) (head_0 : Int → Int) (k3 : 0 ≤ x3 ∧ x3 ≤ 23) (k4 : (-1) ≤ x4 ∧ x4 ≤ (-1)) (k6 : 0 ≤ x6 ∧ x6 ≤ 0) (f1 : x4 < 0) (f3 : GKE (nodes_0) (edges_0) (tail_0) (head_0)) (f4 : RN1 (edges_0) (tail_0) (head_0) (x3) (x4)) (kz_0_0 : 0 ≤ nodes_0 ∧ nodes_0 ≤ 24) (kz_0_1 : 0 ≤ edges_0 ∧ edges_0 ≤ 48) : RN2 (nodes_0) (edges_0) (tail_0) (head_0) (x3) (x6) := by
  first
    | exact rn2_start ‹RN1 _ _ _ _ _› ‹GKE _ _ _ _› (by omega) (by omega)
def o_Gr_removeNode_1 : or_T := (44, 7, [(0, (2, 0, 0, [3])), (3, (0, 0, 23, [])), (4, (0, -1, -1, [])), (6, (0, 0, 0, []))], [(8, [4], [2]), (20, [2], [60, 2, 2, 596, 0, 1, 7, 8]), (20, [2, 3, 4], [60, 1, 2, 759, 1, 7, 8]), (24, [0, 2], [])], [], [], [(20, [2, 3, 6], [60, 2, 2, 760, 0, 1, 7, 8])], [], [])
theorem oo_Gr_removeNode_1 {kA : Nat → ClassId} : or_ok PRD kA GG o_Gr_removeNode_1 := by
  refine or_mk fun A ta ws vs hD hth hl => ?_
  intro t0 r0 t3 k3 t4 k4 t6 k6 f1 f3 f4 f5
  replace f1 := shm_39 f1
  replace f3 := shm_386 f3
  replace f4 := shm_1509 f4
  replace f5 := shm_5 f5
  have q2 : n_v vs 2 = n_v vs 0 := f5.symm
  simp only [q2] at f3 f4
  have kz_0_0 := fdq_21 hD hth r0
  have kz_0_1 := fdq_30 hD hth r0
  have nf0 : fc_1 PRD (20, [2, 3, 6], [60, 2, 2, 760, 0, 1, 7, 8]) ws (vs) := by
    refine ⟨nf_in hl rfl, sgq_1510 ?_⟩
    · show RN2 (w_fi ws (n_v vs 2) 0) (w_fi ws (n_v vs 2) 1) (w_ei ws (w_ar ws (n_v vs 2) 7)) (w_ei ws (w_ar ws (n_v vs 2) 8)) (v_iv (n_v vs 3)) (v_iv (n_v vs 6))
      rw [q2]
      exact vc_Gr_removeNode_1_0 (v_iv (n_v vs 3)) (v_iv (n_v vs 4)) (v_iv (n_v vs 6)) (w_fi ws (n_v vs 0) 1) (w_fi ws (n_v vs 0) 0) (w_ei ws (w_ar ws (n_v vs 0) 7)) (w_ei ws (w_ar ws (n_v vs 0) 8)) k3 k4 k6 f1 f3 f4 kz_0_0 kz_0_1
  refine ⟨(fun _ h => (by cases h)), [], trivial, ?_, (fun _ h => (by cases h))⟩
  rw [List.append_nil]
  exact List.forall_mem_cons.mpr ⟨⟨show (20 : Nat) < 100 from by decide, nf0⟩, (fun _ h => (by cases h))⟩
set_option maxHeartbeats 4000000 in
theorem vc_Gr_removeNode_2_0 (x3 : Int) (x4 : Int) (x7 : Int) (tail_0 : Int → Int) (gx : Int) (k3 : 0 ≤ x3 ∧ x3 ≤ 23) (k4 : 0 ≤ x4 ∧ x4 ≤ 47) (k7 : 0 ≤ x7 ∧ x7 ≤ 23) (d0 : x3 + 0 ≤ x7 ∧ x7 ≤ x3 + 0) (h2 : x7 = tail_0 (x4)) (ex2 : gx = x3) : 1 * gx + ((-1) * x3 + 0) ≤ 0 := by
  first
    | omega
set_option maxHeartbeats 4000000 in
theorem vc_Gr_removeNode_2_1 (x3 : Int) (x4 : Int) (x7 : Int) (tail_0 : Int → Int) (gx : Int) (k3 : 0 ≤ x3 ∧ x3 ≤ 23) (k4 : 0 ≤ x4 ∧ x4 ≤ 47) (k7 : 0 ≤ x7 ∧ x7 ≤ 23) (d0 : x3 + 0 ≤ x7 ∧ x7 ≤ x3 + 0) (h2 : x7 = tail_0 (x4)) (ex2 : gx = x3) : (-1) * gx + (1 * x3 + 0) ≤ 0 := by
  first
    | omega
set_option maxHeartbeats 4000000 in
theorem vc_Gr_removeNode_2_2 (x4 : Int) (x5 : Int) (edges_0 : Int) (k4 : 0 ≤ x4 ∧ x4 ≤ 47) (k5 : 1 ≤ x5 ∧ x5 ≤ 48) (d1 : x5 + (-4294967296) ≤ x4 ∧ x4 ≤ x5 + (-1)) (g0 : x5 = edges_0) (kz_0_1 : 0 ≤ edges_0 ∧ edges_0 ≤ 48) : (0 ≤ x4) ∧ ((x4 + 1) ≤ edges_0) := by
  first
    | omega
set_option maxHeartbeats 4000000 in
theorem vc_Gr_removeNode_2_3 (edges_0 : Int) (tail_0 : Int → Int) (nodes_0 : Int) (head_0 : Int → Int) (f6 : GKE (nodes_0) (edges_0) (tail_0) (head_0)) (kz_0_0 : 0 ≤ nodes_0 ∧ nodes_0 ≤ 24) (kz_0_1 : 0 ≤ edges_0 ∧ edges_0 ≤ 48) : GKE (nodes_0) (edges_0) (tail_0) (head_0) := by
  first
    | assumption
set_option maxHeartbeats 4000000 in
theorem vc_Gr_removeNode_2_4 (x3 : Int) (x4 : Int) (edges_0 : Int) (tail_0 : Int → Int) (head_0 : Int → Int) (gx : Int) (k3 : 0 ≤ x3 ∧ x3 ≤ 23) (k4 : 0 ≤ x4 ∧ x4 ≤ 47) (f7 : RN1 (edges_0) (tail_0) (head_0) (x3) (x4)) (kz_0_1 : 0 ≤ edges_0 ∧ edges_0 ≤ 48) (ex2 : gx = x3) : NOQ (edges_0) (tail_0) (head_0) (x4) (gx) := by
  first
    | exact rn1_noq ‹RN1 _ _ _ _ _› (by omega) (by omega)
  
def o_Gr_removeNode_2 : or_T := (33, 8, [(0, (2, 0, 0, [3])), (3, (0, 0, 23, [])), (4, (0, 0, 47, [])), (5, (0, 1, 48, [])), (7, (0, 0, 23, []))], [(9, [5, 2], [1]), (10, [7, 6, 4], []), (9, [6, 2], [7]), (20, [2], [60, 2, 2, 596, 0, 1, 7, 8]), (20, [2, 3, 4], [60, 1, 2, 759, 1, 7, 8]), (24, [0, 2], [])], [], [(0, 0, 23, [])], [(23, [8, 3], [0, 1, -1]), (23, [8, 3], [0, -1, 1]), (20, [4, 2], [50, 1, 0, 1001, 2, 6, 0, 2, 0, 0, 1, 0, 0, 6, 4, 2, 1, 0, 0, 1, 2, 1, 1]), (20, [2], [60, 2, 2, 596, 0, 1, 7, 8]), (20, [2, 4, 8], [60, 1, 2, 757, 1, 7, 8])], [], [(7, 3, 0, 0), (4, 5, -4294967296, -1)])
theorem oo_Gr_removeNode_2 {kA : Nat → ClassId} : or_ok PRD kA GG o_Gr_removeNode_2 := by
  refine or_mk fun A ta ws vs hD hth hl => ?_
  intro t0 r0 t3 k3 t4 k4 t5 k5 t7 k7 d0 d1 f0 f2 f3 f6 f7 f8
  replace f0 := shm_215 f0
  replace f2 := shm_107 f2
  replace f3 := shm_198 f3
  replace f6 := shm_386 f6
  replace f7 := shm_1509 f7
  replace f8 := shm_5 f8
  have q2 : n_v vs 2 = n_v vs 0 := f8.symm
  simp only [q2] at f0 f3 f6 f7
  have ad_6 : v_ad (n_v vs 6) = w_ar ws (n_v vs 0) 7 := congrArg v_ad f3
  have g0 : v_iv (n_v vs 5) = w_fi ws (n_v vs 0) 1 := congrArg v_iv f0
  simp only [ad_6] at f2
  have h2 : v_iv (n_v vs 7) = w_ei ws (w_ar ws (n_v vs 0) 7) (v_iv (n_v vs 4)) := f2
  have kz_0_0 := fdq_21 hD hth r0
  have kz_0_1 := fdq_30 hD hth r0
  obtain ⟨x, ex, hx⟩ := iv_ex (ta := ta) (lo := 0) (hi := 23) (z := v_iv (n_v vs 3)) (by omega) (by omega) (by omega) (by omega)
  have ex2 : v_iv (Value.int x) = v_iv (n_v vs 3) := ex
  have ex3 : 0 ≤ v_iv (Value.int x) ∧ v_iv (Value.int x) ≤ 23 := tv_rng hx
  have e_2 : n_v (vs ++ [Value.int x]) 2 = n_v vs 2 := n_v_old (by rw [hl]; decide)
  have e_3 : n_v (vs ++ [Value.int x]) 3 = n_v vs 3 := n_v_old (by rw [hl]; decide)
  have e_4 : n_v (vs ++ [Value.int x]) 4 = n_v vs 4 := n_v_old (by rw [hl]; decide)
  have e_8 : n_v (vs ++ [Value.int x]) 8 = Value.int x := n_v_new hl
  have nf0 : fc_1 PRD (23, [8, 3], [0, 1, -1]) ws (vs ++ [Value.int x]) := by
    refine ⟨nf_inA hl rfl, sgq_7 ?_⟩
    · show 1 * v_iv (n_v (vs ++ [Value.int x]) 8) + ((-1) * v_iv (n_v (vs ++ [Value.int x]) 3) + 0) ≤ 0
      simp only [e_3, e_8]
      exact vc_Gr_removeNode_2_0 (v_iv (n_v vs 3)) (v_iv (n_v vs 4)) (v_iv (n_v vs 7)) (w_ei ws (w_ar ws (n_v vs 0) 7)) (v_iv (Value.int x)) k3 k4 k7 d0 h2 ex2
  have nf1 : fc_1 PRD (23, [8, 3], [0, -1, 1]) ws (vs ++ [Value.int x]) := by
    refine ⟨nf_inA hl rfl, sgq_22 ?_⟩
    · show (-1) * v_iv (n_v (vs ++ [Value.int x]) 8) + (1 * v_iv (n_v (vs ++ [Value.int x]) 3) + 0) ≤ 0
      simp only [e_3, e_8]
      exact vc_Gr_removeNode_2_1 (v_iv (n_v vs 3)) (v_iv (n_v vs 4)) (v_iv (n_v vs 7)) (w_ei ws (w_ar ws (n_v vs 0) 7)) (v_iv (Value.int x)) k3 k4 k7 d0 h2 ex2
  have nf2 : fc_1 PRD (20, [4, 2], [50, 1, 0, 1001, 2, 6, 0, 2, 0, 0, 1, 0, 0, 6, 4, 2, 1, 0, 0, 1, 2, 1, 1]) ws (vs ++ [Value.int x]) := by
    refine ⟨nf_inA hl rfl, sgq_387 ?_⟩
    · show (0 ≤ v_iv (n_v (vs ++ [Value.int x]) 4)) ∧ ((v_iv (n_v (vs ++ [Value.int x]) 4) + 1) ≤ w_fi ws (n_v (vs ++ [Value.int x]) 2) 1)
      simp only [e_2, e_4, q2]
      exact vc_Gr_removeNode_2_2 (v_iv (n_v vs 4)) (v_iv (n_v vs 5)) (w_fi ws (n_v vs 0) 1) k4 k5 d1 g0 kz_0_1
  have nf3 : fc_1 PRD (20, [2], [60, 2, 2, 596, 0, 1, 7, 8]) ws (vs ++ [Value.int x]) := by
    refine ⟨nf_inA hl rfl, sgq_386 ?_⟩
    · show GKE (w_fi ws (n_v (vs ++ [Value.int x]) 2) 0) (w_fi ws (n_v (vs ++ [Value.int x]) 2) 1) (w_ei ws (w_ar ws (n_v (vs ++ [Value.int x]) 2) 7)) (w_ei ws (w_ar ws (n_v (vs ++ [Value.int x]) 2) 8))
      simp only [e_2, q2]
      exact vc_Gr_removeNode_2_3 (w_fi ws (n_v vs 0) 1) (w_ei ws (w_ar ws (n_v vs 0) 7)) (w_fi ws (n_v vs 0) 0) (w_ei ws (w_ar ws (n_v vs 0) 8)) f6 kz_0_0 kz_0_1
  have nf4 : fc_1 PRD (20, [2, 4, 8], [60, 1, 2, 757, 1, 7, 8]) ws (vs ++ [Value.int x]) := by
    refine ⟨nf_inA hl rfl, sgq_857 ?_⟩
    · show NOQ (w_fi ws (n_v (vs ++ [Value.int x]) 2) 1) (w_ei ws (w_ar ws (n_v (vs ++ [Value.int x]) 2) 7)) (w_ei ws (w_ar ws (n_v (vs ++ [Value.int x]) 2) 8)) (v_iv (n_v (vs ++ [Value.int x]) 4)) (v_iv (n_v (vs ++ [Value.int x]) 8))
      simp only [e_2, e_4, e_8, q2]
      exact vc_Gr_removeNode_2_4 (v_iv (n_v vs 3)) (v_iv (n_v vs 4)) (w_fi ws (n_v vs 0) 1) (w_ei ws (w_ar ws (n_v vs 0) 7)) (w_ei ws (w_ar ws (n_v vs 0) 8)) (v_iv (Value.int x)) k3 k4 f7 kz_0_1 ex2
  exact ⟨(fun _ h => (by cases h)), [Value.int x], ag_one hx, List.forall_mem_cons.mpr ⟨⟨show (23 : Nat) < 100 from by decide, nf0⟩, List.forall_mem_cons.mpr ⟨⟨show (23 : Nat) < 100 from by decide, nf1⟩, List.forall_mem_cons.mpr ⟨⟨show (20 : Nat) < 100 from by decide, nf2⟩, List.forall_mem_cons.mpr ⟨⟨show (20 : Nat) < 100 from by decide, nf3⟩, List.forall_mem_cons.mpr ⟨⟨show (20 : Nat) < 100 from by decide, nf4⟩, (fun _ h => (by cases h))⟩⟩⟩⟩⟩, (fun _ h => (by cases h))⟩
set_option maxHeartbeats 4000000 in
theorem vc_Gr_removeNode_3_0 (x3 : Int) (x4 : Int) (x7 : Int) (x8 : Int) (x11 : Int) (edges_0 : Int) (tail_0 : Int → Int) (head_0 : Int → Int) (k3 : 0 ≤ x3 ∧ x3 ≤ 23) (k4 : 0 ≤ x4 ∧ x4 ≤ 47) (k7 : 0 ≤ x7 ∧ x7 ≤ 23) (k8 : 0 ≤ x8 ∧ x8 ≤ 23) (k11 : (-1) ≤ x11 ∧ x11 ≤ 46) (d0 : x4 + (-1) ≤ x11 ∧ x11 ≤ x4 + (-1)) (d1 : x3 + 0 ≤ x7 ∧ x7 ≤ x3 + 0) (f4 : 1 * x8 + ((-1) * x3 + 0) ≤ 0) (f5 : (-1) * x8 + (1 * x3 + 0) ≤ 0) (f9 : NOS (edges_0) (tail_0) (head_0) (x4) (x8)) (f10 : x4 ≤ edges_0) (f15 : 0 ≤ x4) (kz_0_1 : 0 ≤ edges_0 ∧ edges_0 ≤ 48) : RN1 (edges_0) (tail_0) (head_0) (x3) (x11) := by
  first
    | exact rn1_drop ‹NOS _ _ _ _ _› (by omega) (by omega) (by omega) (by omega) (by omega)
def o_Gr_removeNode_3 : or_T := (7, 12, [(0, (2, 0, 0, [3])), (3, (0, 0, 23, [])), (4, (0, 0, 47, [])), (7, (0, 0, 23, [])), (8, (0, 0, 23, [])), (11, (0, -1, 46, []))], [(23, [8, 3], [0, 1, -1]), (23, [8, 3], [0, -1, 1]), (24, [0, 2], []), (20, [2, 4, 8], [60, 1, 2, 758, 1, 7, 8]), (20, [4, 2], [50, 1, 0, 1001, 0, 2, 1, 0, 2, 1, 1]), (102, [8], [67553994410557440, 3001]), (8, [4], [3])], [], [], [(20, [2, 3, 11], [60, 1, 2, 759, 1, 7, 8])], [], [(11, 4, -1, -1), (7, 3, 0, 0)])
theorem oo_Gr_removeNode_3 {kA : Nat → ClassId} : or_ok PRD kA GG o_Gr_removeNode_3 := by
  refine or_mk fun A ta ws vs hD hth hl => ?_
  intro t0 r0 t3 k3 t4 k4 t7 k7 t8 k8 t11 k11 d0 d1 f4 f5 f7 f9 f10 ta1 w1 le1 s1 f15
  replace f4 := shm_7 f4
  replace f5 := shm_22 f5
  replace f7 := shm_5 f7
  replace f9 := shm_864 f9
  replace f10 := shm_483 f10
  replace f15 := shm_32 f15
  have q2 : n_v vs 2 = n_v vs 0 := f7.symm
  simp only [q2] at f9 f10
  have kz_0_1 := fdq_30 hD hth r0
  have nf0 : fc_1 PRD (20, [2, 3, 11], [60, 1, 2, 759, 1, 7, 8]) ws (vs) := by
    refine ⟨nf_in hl rfl, sgq_1509 ?_⟩
    · show RN1 (w_fi ws (n_v vs 2) 1) (w_ei ws (w_ar ws (n_v vs 2) 7)) (w_ei ws (w_ar ws (n_v vs 2) 8)) (v_iv (n_v vs 3)) (v_iv (n_v vs 11))
      rw [q2]
      exact vc_Gr_removeNode_3_0 (v_iv (n_v vs 3)) (v_iv (n_v vs 4)) (v_iv (n_v vs 7)) (v_iv (n_v vs 8)) (v_iv (n_v vs 11)) (w_fi ws (n_v vs 0) 1) (w_ei ws (w_ar ws (n_v vs 0) 7)) (w_ei ws (w_ar ws (n_v vs 0) 8)) k3 k4 k7 k8 k11 d0 d1 f4 f5 f9 f10 f15 kz_0_1
  refine ⟨(fun _ h => (by cases h)), [], trivial, ?_, (fun _ h => (by cases h))⟩
  rw [List.append_nil]
  exact List.forall_mem_cons.mpr ⟨⟨show (20 : Nat) < 100 from by decide, nf0⟩, (fun _ h => (by cases h))⟩
set_option maxHeartbeats 4000000 in
theorem vc_Gr_removeNode_4_0 (x3 : Int) (x4 : Int) (x7 : Int) (x9 : Int) (x10 : Int) (edges_0 : Int) (head_0 : Int → Int) (tail_0 : Int → Int) (k3 : 0 ≤ x3 ∧ x3 ≤ 23) (k4 : 0 ≤ x4 ∧ x4 ≤ 47) (k7 : 0 ≤ x7 ∧ x7 ≤ 23) (k9 : 0 ≤ x9 ∧ x9 ≤ 23) (k10 : (-1) ≤ x10 ∧ x10 ≤ 46) (d0 : x4 + (-1) ≤ x10 ∧ x10 ≤ x4 + (-1)) (f2 : x9 ≠ x3) (h3 : x9 = head_0 (x4)) (f5 : x7 ≠ x3) (h6 : x7 = tail_0 (x4)) (f8 : 0 ≤ x4) (f11 : RN1 (edges_0) (tail_0) (head_0) (x3) (x4)) (kz_0_1 : 0 ≤ edges_0 ∧ edges_0 ≤ 48) : RN1 (edges_0) (tail_0) (head_0) (x3) (x10) := by
  first
    | exact rn1_keep ‹RN1 _ _ _ _ _› (by omega) (by omega) (by omega) (by omega)
def o_Gr_removeNode_4 : or_T := (7, 11, [(0, (2, 0, 0, [3])), (3, (0, 0, 23, [])), (4, (0, 0, 47, [])), (7, (0, 0, 23, [])), (9, (0, 0, 23, [])), (10, (0, -1, 46, []))], [(7, [9, 3], [1]), (10, [9, 8, 4], []), (9, [8, 2], [8]), (7, [7, 3], [1]), (10, [7, 6, 4], []), (9, [6, 2], [7]), (8, [4], [3]), (20, [2, 3, 4], [60, 1, 2, 759, 1, 7, 8]), (24, [0, 2], [])], [], [], [(20, [2, 3, 10], [60, 1, 2, 759, 1, 7, 8])], [], [(10, 4, -1, -1)])
theorem oo_Gr_removeNode_4 {kA : Nat → ClassId} : or_ok PRD kA GG o_Gr_removeNode_4 := by
  refine or_mk fun A ta ws vs hD hth hl => ?_
  intro t0 r0 t3 k3 t4 k4 t7 k7 t9 k9 t10 k10 d0 f2 f3 f4 f5 f6 f7 f8 f11 f12
  replace f2 := shm_40 f2
  replace f3 := shm_107 f3
  replace f4 := shm_293 f4
  replace f5 := shm_40 f5
  replace f6 := shm_107 f6
  replace f7 := shm_198 f7
  replace f8 := shm_32 f8
  replace f11 := shm_1509 f11
  replace f12 := shm_5 f12
  have q2 : n_v vs 2 = n_v vs 0 := f12.symm
  simp only [q2] at f4 f7 f11
  have ad_8 : v_ad (n_v vs 8) = w_ar ws (n_v vs 0) 8 := congrArg v_ad f4
  have ad_6 : v_ad (n_v vs 6) = w_ar ws (n_v vs 0) 7 := congrArg v_ad f7
  simp only [ad_8] at f3
  have h3 : v_iv (n_v vs 9) = w_ei ws (w_ar ws (n_v vs 0) 8) (v_iv (n_v vs 4)) := f3
  simp only [ad_6] at f6
  have h6 : v_iv (n_v vs 7) = w_ei ws (w_ar ws (n_v vs 0) 7) (v_iv (n_v vs 4)) := f6
  have kz_0_1 := fdq_30 hD hth r0
  have nf0 : fc_1 PRD (20, [2, 3, 10], [60, 1, 2, 759, 1, 7, 8]) ws (vs) := by
    refine ⟨nf_in hl rfl, sgq_1509 ?_⟩
    · show RN1 (w_fi ws (n_v vs 2) 1) (w_ei ws (w_ar ws (n_v vs 2) 7)) (w_ei ws (w_ar ws (n_v vs 2) 8)) (v_iv (n_v vs 3)) (v_iv (n_v vs 10))
      rw [q2]
      exact vc_Gr_removeNode_4_0 (v_iv (n_v vs 3)) (v_iv (n_v vs 4)) (v_iv (n_v vs 7)) (v_iv (n_v vs 9)) (v_iv (n_v vs 10)) (w_fi ws (n_v vs 0) 1) (w_ei ws (w_ar ws (n_v vs 0) 8)) (w_ei ws (w_ar ws (n_v vs 0) 7)) k3 k4 k7 k9 k10 d0 f2 h3 f5 h6 f8 f11 kz_0_1
  refine ⟨(fun _ h => (by cases h)), [], trivial, ?_, (fun _ h => (by cases h))⟩
  rw [List.append_nil]
  exact List.forall_mem_cons.mpr ⟨⟨show (20 : Nat) < 100 from by decide, nf0⟩, (fun _ h => (by cases h))⟩
set_option maxHeartbeats 4000000 in
theorem vc_Gr_removeNode_5_0 (x3 : Int) (x4 : Int) (x9 : Int) (head_0 : Int → Int) (gx : Int) (k3 : 0 ≤ x3 ∧ x3 ≤ 23) (k4 : 0 ≤ x4 ∧ x4 ≤ 47) (k9 : 0 ≤ x9 ∧ x9 ≤ 23) (d0 : x3 + 0 ≤ x9 ∧ x9 ≤ x3 + 0) (h2 : x9 = head_0 (x4)) (ex2 : gx = x3) : 1 * gx + ((-1) * x3 + 0) ≤ 0 := by
  first
    | omega
set_option maxHeartbeats 4000000 in
theorem vc_Gr_removeNode_5_1 (x3 : Int) (x4 : Int) (x9 : Int) (head_0 : Int → Int) (gx : Int) (k3 : 0 ≤ x3 ∧ x3 ≤ 23) (k4 : 0 ≤ x4 ∧ x4 ≤ 47) (k9 : 0 ≤ x9 ∧ x9 ≤ 23) (d0 : x3 + 0 ≤ x9 ∧ x9 ≤ x3 + 0) (h2 : x9 = head_0 (x4)) (ex2 : gx = x3) : (-1) * gx + (1 * x3 + 0) ≤ 0 := by
  first
    | omega
set_option maxHeartbeats 4000000 in
theorem vc_Gr_removeNode_5_2 (x4 : Int) (x5 : Int) (edges_0 : Int) (k4 : 0 ≤ x4 ∧ x4 ≤ 47) (k5 : 1 ≤ x5 ∧ x5 ≤ 48) (d1 : x5 + (-4294967296) ≤ x4 ∧ x4 ≤ x5 + (-1)) (g0 : x5 = edges_0) (kz_0_1 : 0 ≤ edges_0 ∧ edges_0 ≤ 48) : (0 ≤ x4) ∧ ((x4 + 1) ≤ edges_0) := by
  first
    | omega
set_option maxHeartbeats 4000000 in
theorem vc_Gr_removeNode_5_3 (edges_0 : Int) (head_0 : Int → Int) (tail_0 : Int → Int) (nodes_0 : Int) (f9 : GKE (nodes_0) (edges_0) (tail_0) (head_0)) (kz_0_0 : 0 ≤ nodes_0 ∧ nodes_0 ≤ 24) (kz_0_1 : 0 ≤ edges_0 ∧ edges_0 ≤ 48) : GKE (nodes_0) (edges_0) (tail_0) (head_0) := by
  first
    | assumption
set_option maxHeartbeats 4000000 in
theorem vc_Gr_removeNode_5_4 (x3 : Int) (x4 : Int) (edges_0 : Int) (head_0 : Int → Int) (tail_0 : Int → Int) (gx : Int) (k3 : 0 ≤ x3 ∧ x3 ≤ 23) (k4 : 0 ≤ x4 ∧ x4 ≤ 47) (f10 : RN1 (edges_0) (tail_0) (head_0) (x3) (x4)) (kz_0_1 : 0 ≤ edges_0 ∧ edges_0 ≤ 48) (ex2 : gx = x3) : NOQ (edges_0) (tail_0) (head_0) (x4) (gx) := by
  first
    | exact rn1_noq ‹RN1 _ _ _ _ _› (by omega) (by omega)
  
def o_Gr_removeNode_5 : or_T := (33, 10, [(0, (2, 0, 0, [3])), (3, (0, 0, 23, [])), (4, (0, 0, 47, [])), (5, (0, 1, 48, [])), (9, (0, 0, 23, []))], [(9, [5, 2], [1]), (10, [9, 8, 4], []), (9, [8, 2], [8]), (20, [2], [60, 2, 2, 596, 0, 1, 7, 8]), (20, [2, 3, 4], [60, 1, 2, 759, 1, 7, 8]), (24, [0, 2], [])], [], [(0, 0, 23, [])], [(23, [10, 3], [0, 1, -1]), (23, [10, 3], [0, -1, 1]), (20, [4, 2], [50, 1, 0, 1001, 2, 6, 0, 2, 0, 0, 1, 0, 0, 6, 4, 2, 1, 0, 0, 1, 2, 1, 1]), (20, [2], [60, 2, 2, 596, 0, 1, 7, 8]), (20, [2, 4, 10], [60, 1, 2, 757, 1, 7, 8])], [], [(9, 3, 0, 0), (4, 5, -4294967296, -1)])
theorem oo_Gr_removeNode_5 {kA : Nat → ClassId} : or_ok PRD kA GG o_Gr_removeNode_5 := by
  refine or_mk fun A ta ws vs hD hth hl => ?_
  intro t0 r0 t3 k3 t4 k4 t5 k5 t9 k9 d0 d1 f0 f2 f3 f9 f10 f11
  replace f0 := shm_215 f0
  replace f2 := shm_107 f2
  replace f3 := shm_293 f3
  replace f9 := shm_386 f9
  replace f10 := shm_1509 f10
  replace f11 := shm_5 f11
  have q2 : n_v vs 2 = n_v vs 0 := f11.symm
  simp only [q2] at f0 f3 f9 f10
  have ad_8 : v_ad (n_v vs 8) = w_ar ws (n_v vs 0) 8 := congrArg v_ad f3
  have g0 : v_iv (n_v vs 5) = w_fi ws (n_v vs 0) 1 := congrArg v_iv f0
  simp only [ad_8] at f2
  have h2 : v_iv (n_v vs 9) = w_ei ws (w_ar ws (n_v vs 0) 8) (v_iv (n_v vs 4)) := f2
  have kz_0_0 := fdq_21 hD hth r0
  have kz_0_1 := fdq_30 hD hth r0
  obtain ⟨x, ex, hx⟩ := iv_ex (ta := ta) (lo := 0) (hi := 23) (z := v_iv (n_v vs 3)) (by omega) (by omega) (by omega) (by omega)
  have ex2 : v_iv (Value.int x) = v_iv (n_v vs 3) := ex
  have ex3 : 0 ≤ v_iv (Value.int x) ∧ v_iv (Value.int x) ≤ 23 := tv_rng hx
  have e_2 : n_v (vs ++ [Value.int x]) 2 = n_v vs 2 := n_v_old (by rw [hl]; decide)
  have e_3 : n_v (vs ++ [Value.int x]) 3 = n_v vs 3 := n_v_old (by rw [hl]; decide)
  have e_4 : n_v (vs ++ [Value.int x]) 4 = n_v vs 4 := n_v_old (by rw [hl]; decide)
  have e_10 : n_v (vs ++ [Value.int x]) 10 = Value.int x := n_v_new hl
  have nf0 : fc_1 PRD (23, [10, 3], [0, 1, -1]) ws (vs ++ [Value.int x]) := by
    refine ⟨nf_inA hl rfl, sgq_7 ?_⟩
    · show 1 * v_iv (n_v (vs ++ [Value.int x]) 10) + ((-1) * v_iv (n_v (vs ++ [Value.int x]) 3) + 0) ≤ 0
      simp only [e_3, e_10]
      exact vc_Gr_removeNode_5_0 (v_iv (n_v vs 3)) (v_iv (n_v vs 4)) (v_iv (n_v vs 9)) (w_ei ws (w_ar ws (n_v vs 0) 8)) (v_iv (Value.int x)) k3 k4 k9 d0 h2 ex2
  have nf1 : fc_1 PRD (23, [10, 3], [0, -1, 1]) ws (vs ++ [Value.int x]) := by
    refine ⟨nf_inA hl rfl, sgq_22 ?_⟩
    · show (-1) * v_iv (n_v (vs ++ [Value.int x]) 10) + (1 * v_iv (n_v (vs ++ [Value.int x]) 3) + 0) ≤ 0
      simp only [e_3, e_10]
      exact vc_Gr_removeNode_5_1 (v_iv (n_v vs 3)) (v_iv (n_v vs 4)) (v_iv (n_v vs 9)) (w_ei ws (w_ar ws (n_v vs 0) 8)) (v_iv (Value.int x)) k3 k4 k9 d0 h2 ex2
  have nf2 : fc_1 PRD (20, [4, 2], [50, 1, 0, 1001, 2, 6, 0, 2, 0, 0, 1, 0, 0, 6, 4, 2, 1, 0, 0, 1, 2, 1, 1]) ws (vs ++ [Value.int x]) := by
    refine ⟨nf_inA hl rfl, sgq_387 ?_⟩
    · show (0 ≤ v_iv (n_v (vs ++ [Value.int x]) 4)) ∧ ((v_iv (n_v (vs ++ [Value.int x]) 4) + 1) ≤ w_fi ws (n_v (vs ++ [Value.int x]) 2) 1)
      simp only [e_2, e_4, q2]
      exact vc_Gr_removeNode_5_2 (v_iv (n_v vs 4)) (v_iv (n_v vs 5)) (w_fi ws (n_v vs 0) 1) k4 k5 d1 g0 kz_0_1
  have nf3 : fc_1 PRD (20, [2], [60, 2, 2, 596, 0, 1, 7, 8]) ws (vs ++ [Value.int x]) := by
    refine ⟨nf_inA hl rfl, sgq_386 ?_⟩
    · show GKE (w_fi ws (n_v (vs ++ [Value.int x]) 2) 0) (w_fi ws (n_v (vs ++ [Value.int x]) 2) 1) (w_ei ws (w_ar ws (n_v (vs ++ [Value.int x]) 2) 7)) (w_ei ws (w_ar ws (n_v (vs ++ [Value.int x]) 2) 8))
      simp only [e_2, q2]
      exact vc_Gr_removeNode_5_3 (w_fi ws (n_v vs 0) 1) (w_ei ws (w_ar ws (n_v vs 0) 8)) (w_ei ws (w_ar ws (n_v vs 0) 7)) (w_fi ws (n_v vs 0) 0) f9 kz_0_0 kz_0_1
  have nf4 : fc_1 PRD (20, [2, 4, 10], [60, 1, 2, 757, 1, 7, 8]) ws (vs ++ [Value.int x]) := by
    refine ⟨nf_inA hl rfl, sgq_857 ?_⟩
    · show NOQ (w_fi ws (n_v (vs ++ [Value.int x]) 2) 1) (w_ei ws (w_ar ws (n_v (vs ++ [Value.int x]) 2) 7)) (w_ei ws (w_ar ws (n_v (vs ++ [Value.int x]) 2) 8)) (v_iv (n_v (vs ++ [Value.int x]) 4)) (v_iv (n_v (vs ++ [Value.int x]) 10))
      simp only [e_2, e_4, e_10, q2]
      exact vc_Gr_removeNode_5_4 (v_iv (n_v vs 3)) (v_iv (n_v vs 4)) (w_fi ws (n_v vs 0) 1) (w_ei ws (w_ar ws (n_v vs 0) 8)) (w_ei ws (w_ar ws (n_v vs 0) 7)) (v_iv (Value.int x)) k3 k4 f10 kz_0_1 ex2
  exact ⟨(fun _ h => (by cases h)), [Value.int x], ag_one hx, List.forall_mem_cons.mpr ⟨⟨show (23 : Nat) < 100 from by decide, nf0⟩, List.forall_mem_cons.mpr ⟨⟨show (23 : Nat) < 100 from by decide, nf1⟩, List.forall_mem_cons.mpr ⟨⟨show (20 : Nat) < 100 from by decide, nf2⟩, List.forall_mem_cons.mpr ⟨⟨show (20 : Nat) < 100 from by decide, nf3⟩, List.forall_mem_cons.mpr ⟨⟨show (20 : Nat) < 100 from by decide, nf4⟩, (fun _ h => (by cases h))⟩⟩⟩⟩⟩, (fun _ h => (by cases h))⟩
set_option maxHeartbeats 4000000 in
theorem vc_Gr_removeNode_6_0 (x3 : Int) (x4 : Int) (x9 : Int) (x10 : Int) (x12 : Int) (edges_0 : Int) (tail_0 : Int → Int) (head_0 : Int → Int) (k3 : 0 ≤ x3 ∧ x3 ≤ 23) (k4 : 0 ≤ x4 ∧ x4 ≤ 47) (k9 : 0 ≤ x9 ∧ x9 ≤ 23) (k10 : 0 ≤ x10 ∧ x10 ≤ 23) (k12 : (-1) ≤ x12 ∧ x12 ≤ 46) (d0 : x4 + (-1) ≤ x12 ∧ x12 ≤ x4 + (-1)) (d1 : x3 + 0 ≤ x9 ∧ x9 ≤ x3 + 0) (f4 : 1 * x10 + ((-1) * x3 + 0) ≤ 0) (f5 : (-1) * x10 + (1 * x3 + 0) ≤ 0) (f9 : NOS (edges_0) (tail_0) (head_0) (x4) (x10)) (f10 : x4 ≤ edges_0) (f16 : 0 ≤ x4) (kz_0_1 : 0 ≤ edges_0 ∧ edges_0 ≤ 48) : RN1 (edges_0) (tail_0) (head_0) (x3) (x12) := by
  first
    | exact rn1_drop ‹NOS _ _ _ _ _› (by omega) (by omega) (by omega) (by omega) (by omega)
def o_Gr_removeNode_6 : or_T := (7, 13, [(0, (2, 0, 0, [3])), (3, (0, 0, 23, [])), (4, (0, 0, 47, [])), (9, (0, 0, 23, [])), (10, (0, 0, 23, [])), (12, (0, -1, 46, []))], [(23, [10, 3], [0, 1, -1]), (23, [10, 3], [0, -1, 1]), (24, [0, 2], []), (20, [2, 4, 10], [60, 1, 2, 758, 1, 7, 8]), (20, [4, 2], [50, 1, 0, 1001, 0, 2, 1, 0, 2, 1, 1]), (102, [10], [67553994410557440, 3001]), (8, [4], [3])], [], [], [(20, [2, 3, 12], [60, 1, 2, 759, 1, 7, 8])], [], [(12, 4, -1, -1), (9, 3, 0, 0)])
theorem oo_Gr_removeNode_6 {kA : Nat → ClassId} : or_ok PRD kA GG o_Gr_removeNode_6 := by
  refine or_mk fun A ta ws vs hD hth hl => ?_
  intro t0 r0 t3 k3 t4 k4 t9 k9 t10 k10 t12 k12 d0 d1 f4 f5 f7 f9 f10 ta1 w1 le1 s1 f16
  replace f4 := shm_7 f4
  replace f5 := shm_22 f5
  replace f7 := shm_5 f7
  replace f9 := shm_864 f9
  replace f10 := shm_483 f10
  replace f16 := shm_32 f16
  have q2 : n_v vs 2 = n_v vs 0 := f7.symm
  simp only [q2] at f9 f10
  have kz_0_1 := fdq_30 hD hth r0
  have nf0 : fc_1 PRD (20, [2, 3, 12], [60, 1, 2, 759, 1, 7, 8]) ws (vs) := by
    refine ⟨nf_in hl rfl, sgq_1509 ?_⟩
    · show RN1 (w_fi ws (n_v vs 2) 1) (w_ei ws (w_ar ws (n_v vs 2) 7)) (w_ei ws (w_ar ws (n_v vs 2) 8)) (v_iv (n_v vs 3)) (v_iv (n_v vs 12))
      rw [q2]
      exact vc_Gr_removeNode_6_0 (v_iv (n_v vs 3)) (v_iv (n_v vs 4)) (v_iv (n_v vs 9)) (v_iv (n_v vs 10)) (v_iv (n_v vs 12)) (w_fi ws (n_v vs 0) 1) (w_ei ws (w_ar ws (n_v vs 0) 7)) (w_ei ws (w_ar ws (n_v vs 0) 8)) k3 k4 k9 k10 k12 d0 d1 f4 f5 f9 f10 f16 kz_0_1
  refine ⟨(fun _ h => (by cases h)), [], trivial, ?_, (fun _ h => (by cases h))⟩
  rw [List.append_nil]
  exact List.forall_mem_cons.mpr ⟨⟨show (20 : Nat) < 100 from by decide, nf0⟩, (fun _ h => (by cases h))⟩
set_option maxHeartbeats 4000000 in
theorem vc_Gr_removeNode_7_r0 (x3 : Int) (x6 : Int) (nodes_0 : Int) (k3 : 0 ≤ x3 ∧ x3 ≤ 23) (k6 : 0 ≤ x6 ∧ x6 ≤ 24) (g0 : x6 = nodes_0) (f3 : (0 ≤ x3) ∧ ((x3 + 1) ≤ nodes_0)) (kz_0_0 : 0 ≤ nodes_0 ∧ nodes_0 ≤ 24) : 1 ≤ x6 ∧ x6 ≤ 24 := by
  first
    | omega
def o_Gr_removeNode_7 : or_T := (110, 7, [(0, (2, 0, 0, [3])), (2, (2, 0, 0, [3])), (3, (0, 0, 23, [])), (4, (0, 0, 48, [])), (5, (0, 0, 48, [])), (6, (0, 0, 24, []))], [(9, [6, 2], [0]), (7, [4, 5], [3]), (9, [5, 2], [1]), (20, [3, 2], [50, 1, 0, 1000, 2, 6, 0, 2, 0, 0, 1, 0, 0, 6, 4, 2, 1, 0, 0, 1, 2, 1, 0]), (20, [2, 3, 4], [60, 2, 2, 760, 0, 1, 7, 8]), (24, [0, 2], [])], [(6, (0, 1, 24, []))], [], [], [], [(4, 5, 0, 4294967296)])
theorem oo_Gr_removeNode_7 {kA : Nat → ClassId} : or_ok PRD kA GG o_Gr_removeNode_7 := by
  refine or_mk fun A ta ws vs hD hth hl => ?_
  intro t0 r0 t2 r2 t3 k3 t4 k4 t5 k5 t6 k6 d0 f0 f1 f2 f3 f4 f5
  replace f0 := shm_163 f0
  replace f3 := shm_416 f3
  replace f5 := shm_5 f5
  have q2 : n_v vs 2 = n_v vs 0 := f5.symm
  simp only [q2] at f0 f3
  have g0 : v_iv (n_v vs 6) = w_fi ws (n_v vs 0) 0 := congrArg v_iv f0
  have kz_0_0 := fdq_21 hD hth r0
  have hrf0 : 1 ≤ v_iv (n_v vs 6) ∧ v_iv (n_v vs 6) ≤ 24 := vc_Gr_removeNode_7_r0 (v_iv (n_v vs 3)) (v_iv (n_v vs 6)) (w_fi ws (n_v vs 0) 0) k3 k6 g0 f3 kz_0_0
  have rf6 : tv_ok ta (0, 1, 24, []) (n_v vs 6) := tv_in t6 (by first | omega | grind) (by first | omega | grind)
  refine ⟨List.forall_mem_cons.mpr ⟨rf6, (fun _ h => (by cases h))⟩, [], trivial, ?_, (fun _ h => (by cases h))⟩
  rw [List.append_nil]
  exact (fun _ h => (by cases h))
set_option maxHeartbeats 4000000 in
theorem vc_Gr_removeNode_8_r0 (x3 : Int) (x6 : Int) (x7 : Int) (x9 : Int) (nodes_0 : Int) (k3 : 0 ≤ x3 ∧ x3 ≤ 23) (k6 : 1 ≤ x6 ∧ x6 ≤ 24) (k7 : (-22) ≤ x7 ∧ x7 ≤ 24) (k9 : (-23) ≤ x9 ∧ x9 ≤ 23) (d0 : x7 + (-1) ≤ x9 ∧ x9 ≤ x7 + (-1)) (f1 : x7 = x6 - x3) (g2 : x6 = nodes_0) (f5 : (0 ≤ x3) ∧ ((x3 + 1) ≤ nodes_0)) (kz_0_0 : 0 ≤ nodes_0 ∧ nodes_0 ≤ 24) : 0 ≤ x9 ∧ x9 ≤ 23 := by
  first
    | omega
def o_Gr_removeNode_8 : or_T := (114, 10, [(0, (2, 0, 0, [3])), (2, (2, 0, 0, [3])), (3, (0, 0, 23, [])), (4, (0, 0, 48, [])), (5, (0, 0, 48, [])), (6, (0, 1, 24, [])), (7, (0, -22, 24, [])), (8, (0, 1, 1, [])), (9, (0, -23, 23, []))], [(2, [9, 7, 8], []), (2, [7, 6, 3], []), (9, [6, 2], [0]), (7, [4, 5], [3]), (9, [5, 2], [1]), (20, [3, 2], [50, 1, 0, 1000, 2, 6, 0, 2, 0, 0, 1, 0, 0, 6, 4, 2, 1, 0, 0, 1, 2, 1, 0]), (20, [2, 3, 4], [60, 2, 2, 760, 0, 1, 7, 8]), (24, [0, 2], [])], [(9, (0, 0, 23, []))], [], [], [], [(9, 7, -1, -1), (9, 6, -24, -1), (7, 6, -23, 0), (4, 5, 0, 4294967296)])
theorem oo_Gr_removeNode_8 {kA : Nat → ClassId} : or_ok PRD kA GG o_Gr_removeNode_8 := by
  refine or_mk fun A ta ws vs hD hth hl => ?_
  intro t0 r0 t2 r2 t3 k3 t4 k4 t5 k5 t6 k6 t7 k7 t8 k8 t9 k9 d0 d1 d2 d3 f0 f1 f2 f3 f4 f5 f6 f7
  replace f2 := shm_163 f2
  replace f5 := shm_416 f5
  replace f7 := shm_5 f7
  have q2 : n_v vs 2 = n_v vs 0 := f7.symm
  simp only [q2] at f2 f5
  have g2 : v_iv (n_v vs 6) = w_fi ws (n_v vs 0) 0 := congrArg v_iv f2
  have kz_0_0 := fdq_21 hD hth r0
  have hrf0 : 0 ≤ v_iv (n_v vs 9) ∧ v_iv (n_v vs 9) ≤ 23 := vc_Gr_removeNode_8_r0 (v_iv (n_v vs 3)) (v_iv (n_v vs 6)) (v_iv (n_v vs 7)) (v_iv (n_v vs 9)) (w_fi ws (n_v vs 0) 0) k3 k6 k7 k9 d0 (shm_14 f1) g2 f5 kz_0_0
  have rf9 : tv_ok ta (0, 0, 23, []) (n_v vs 9) := tv_in t9 (by first | omega | grind) (by first | omega | grind)
  refine ⟨List.forall_mem_cons.mpr ⟨rf9, (fun _ h => (by cases h))⟩, [], trivial, ?_, (fun _ h => (by cases h))⟩
  rw [List.append_nil]
  exact (fun _ h => (by cases h))
set_option maxHeartbeats 4000000 in
theorem vc_Gr_removeNode_9_0 (x3 : Int) (x6 : Int) (x7 : Int) (x9 : Int) (x12 : Int) (x14 : Int) (x18 : Int) (nodes_0 : Int) (k3 : 0 ≤ x3 ∧ x3 ≤ 23) (k6 : 1 ≤ x6 ∧ x6 ≤ 24) (k7 : (-22) ≤ x7 ∧ x7 ≤ 24) (k9 : 0 ≤ x9 ∧ x9 ≤ 23) (k12 : 1 ≤ x12 ∧ x12 ≤ 24) (k14 : 8 ≤ x14 ∧ x14 ≤ 192) (k18 : 0 ≤ x18 ∧ x18 ≤ 184) (d0 : x3 + 1 ≤ x12 ∧ x12 ≤ x3 + 1) (d1 : x7 + (-1) ≤ x9 ∧ x9 ≤ x7 + (-1)) (f0 : x18 = x9 * 8) (f2 : x14 = x12 * 8) (f5 : x7 = x6 - x3) (g6 : x6 = nodes_0) (kz_0_0 : 0 ≤ nodes_0 ∧ nodes_0 ≤ 24) : x14 + x18 ≤ 192 := by
  first
    | omega
set_option maxHeartbeats 4000000 in
theorem vc_Gr_removeNode_9_1 (x3 : Int) (x6 : Int) (x7 : Int) (x9 : Int) (x12 : Int) (x16 : Int) (x18 : Int) (nodes_0 : Int) (k3 : 0 ≤ x3 ∧ x3 ≤ 23) (k6 : 1 ≤ x6 ∧ x6 ≤ 24) (k7 : (-22) ≤ x7 ∧ x7 ≤ 24) (k9 : 0 ≤ x9 ∧ x9 ≤ 23) (k12 : 1 ≤ x12 ∧ x12 ≤ 24) (k16 : 0 ≤ x16 ∧ x16 ≤ 184) (k18 : 0 ≤ x18 ∧ x18 ≤ 184) (d0 : x3 + 1 ≤ x12 ∧ x12 ≤ x3 + 1) (d1 : x7 + (-1) ≤ x9 ∧ x9 ≤ x7 + (-1)) (f0 : x18 = x9 * 8) (f1 : x16 = x3 * 8) (f5 : x7 = x6 - x3) (g6 : x6 = nodes_0) (kz_0_0 : 0 ≤ nodes_0 ∧ nodes_0 ≤ 24) : x16 + x18 ≤ 192 := by
  first
    | omega
def o_Gr_removeNode_9 : or_T := (137, 19, [(0, (2, 0, 0, [3])), (3, (0, 0, 23, [])), (6, (0, 1, 24, [])), (7, (0, -22, 24, [])), (9, (0, 0, 23, [])), (12, (0, 1, 24, [])), (13, (0, 8, 8, [])), (14, (0, 8, 192, [])), (15, (0, 8, 8, [])), (16, (0, 0, 184, [])), (17, (0, 8, 8, [])), (18, (0, 0, 184, []))], [(3, [18, 9, 17], []), (3, [16, 3, 15], []), (3, [14, 12, 13], []), (2, [7, 6, 3], []), (9, [6, 2], [0]), (24, [0, 2], [])], [], [], [(21, [14, 18], [192]), (21, [16, 18], [192])], [], [(12, 3, 1, 1), (9, 7, -1, -1)])
theorem oo_Gr_removeNode_9 {kA : Nat → ClassId} : or_ok PRD kA GG o_Gr_removeNode_9 := by
  refine or_mk fun A ta ws vs hD hth hl => ?_
  intro t0 r0 t3 k3 t6 k6 t7 k7 t9 k9 t12 k12 t13 k13 t14 k14 t15 k15 t16 k16 t17 k17 t18 k18 d0 d1 f0 f1 f2 f5 f6 f11
  replace f0 := shm_38 f0
  rw [show v_iv (n_v vs 17) = 8 from by omega] at f0
  replace f1 := shm_38 f1
  rw [show v_iv (n_v vs 15) = 8 from by omega] at f1
  replace f2 := shm_38 f2
  rw [show v_iv (n_v vs 13) = 8 from by omega] at f2
  replace f6 := shm_163 f6
  replace f11 := shm_5 f11
  have q2 : n_v vs 2 = n_v vs 0 := f11.symm
  simp only [q2] at f6
  have g6 : v_iv (n_v vs 6) = w_fi ws (n_v vs 0) 0 := congrArg v_iv f6
  have kz_0_0 := fdq_21 hD hth r0
  have nf0 : fc_1 PRD (21, [14, 18], [192]) ws (vs) := ⟨nf_in hl rfl, sgq_835 (vc_Gr_removeNode_9_0 (v_iv (n_v vs 3)) (v_iv (n_v vs 6)) (v_iv (n_v vs 7)) (v_iv (n_v vs 9)) (v_iv (n_v vs 12)) (v_iv (n_v vs 14)) (v_iv (n_v vs 18)) (w_fi ws (n_v vs 0) 0) k3 k6 k7 k9 k12 k14 k18 d0 d1 f0 f2 (shm_14 f5) g6 kz_0_0)⟩
  have nf1 : fc_1 PRD (21, [16, 18], [192]) ws (vs) := ⟨nf_in hl rfl, sgq_835 (vc_Gr_removeNode_9_1 (v_iv (n_v vs 3)) (v_iv (n_v vs 6)) (v_iv (n_v vs 7)) (v_iv (n_v vs 9)) (v_iv (n_v vs 12)) (v_iv (n_v vs 16)) (v_iv (n_v vs 18)) (w_fi ws (n_v vs 0) 0) k3 k6 k7 k9 k12 k16 k18 d0 d1 f0 f1 (shm_14 f5) g6 kz_0_0)⟩
  refine ⟨(fun _ h => (by cases h)), [], trivial, ?_, (fun _ h => (by cases h))⟩
  rw [List.append_nil]
  exact List.forall_mem_cons.mpr ⟨⟨show (21 : Nat) < 100 from by decide, nf0⟩, List.forall_mem_cons.mpr ⟨⟨show (21 : Nat) < 100 from by decide, nf1⟩, (fun _ h => (by cases h))⟩⟩
set_option maxHeartbeats 4000000 in
theorem vc_Gr_removeNode_10_0 (x3 : Int) (x6 : Int) (x7 : Int) (x9 : Int) (x21 : Int) (nodes_0 : Int) (k3 : 0 ≤ x3 ∧ x3 ≤ 23) (k6 : 1 ≤ x6 ∧ x6 ≤ 24) (k7 : (-22) ≤ x7 ∧ x7 ≤ 24) (k9 : 0 ≤ x9 ∧ x9 ≤ 23) (k21 : 1 ≤ x21 ∧ x21 ≤ 24) (d0 : x3 + 1 ≤ x21 ∧ x21 ≤ x3 + 1) (d2 : x7 + (-1) ≤ x9 ∧ x9 ≤ x7 + (-1)) (g0 : x6 = nodes_0) (f9 : x7 = x6 - x3) (kz_0_0 : 0 ≤ nodes_0 ∧ nodes_0 ≤ 24) : x21 + x9 ≤ 24 := by
  first
    | omega
set_option maxHeartbeats 4000000 in
theorem vc_Gr_removeNode_10_1 (x3 : Int) (x6 : Int) (x7 : Int) (x9 : Int) (x21 : Int) (nodes_0 : Int) (k3 : 0 ≤ x3 ∧ x3 ≤ 23) (k6 : 1 ≤ x6 ∧ x6 ≤ 24) (k7 : (-22) ≤ x7 ∧ x7 ≤ 24) (k9 : 0 ≤ x9 ∧ x9 ≤ 23) (k21 : 1 ≤ x21 ∧ x21 ≤ 24) (d0 : x3 + 1 ≤ x21 ∧ x21 ≤ x3 + 1) (d2 : x7 + (-1) ≤ x9 ∧ x9 ≤ x7 + (-1)) (g0 : x6 = nodes_0) (f9 : x7 = x6 - x3) (kz_0_0 : 0 ≤ nodes_0 ∧ nodes_0 ≤ 24) : x3 + x9 ≤ 24 := by
  first
    | omega
def o_Gr_removeNode_10 : or_T := (153, 22, [(0, (2, 0, 0, [3])), (3, (0, 0, 23, [])), (6, (0, 1, 24, [])), (7, (0, -22, 24, [])), (9, (0, 0, 23, [])), (21, (0, 1, 24, []))], [(9, [6, 2], [0]), (24, [0, 2], []), (102, [18], [281474976710656]), (2, [7, 6, 3], [])], [], [], [(21, [21, 9], [24]), (21, [3, 9], [24])], [], [(21, 3, 1, 1), (9, 7, -1, -1)])
theorem oo_Gr_removeNode_10 {kA : Nat → ClassId} : or_ok PRD kA GG o_Gr_removeNode_10 := by
  refine or_mk fun A ta ws vs hD hth hl => ?_
  intro t0 r0 t3 k3 t6 k6 t7 k7 t9 k9 t21 k21 d0 d2 f0 f5 ta1 w1 le1 s1 f9
  replace f0 := shm_163 f0
  replace f5 := shm_5 f5
  have q2 : n_v vs 2 = n_v vs 0 := f5.symm
  simp only [q2] at f0
  have g0 : v_iv (n_v vs 6) = w_fi ws (n_v vs 0) 0 := congrArg v_iv f0
  have kz_0_0 := fdq_21 hD hth r0
  have nf0 : fc_1 PRD (21, [21, 9], [24]) ws (vs) := ⟨nf_in hl rfl, sgq_140 (vc_Gr_removeNode_10_0 (v_iv (n_v vs 3)) (v_iv (n_v vs 6)) (v_iv (n_v vs 7)) (v_iv (n_v vs 9)) (v_iv (n_v vs 21)) (w_fi ws (n_v vs 0) 0) k3 k6 k7 k9 k21 d0 d2 g0 (shm_14 f9) kz_0_0)⟩
  have nf1 : fc_1 PRD (21, [3, 9], [24]) ws (vs) := ⟨nf_in hl rfl, sgq_140 (vc_Gr_removeNode_10_1 (v_iv (n_v vs 3)) (v_iv (n_v vs 6)) (v_iv (n_v vs 7)) (v_iv (n_v vs 9)) (v_iv (n_v vs 21)) (w_fi ws (n_v vs 0) 0) k3 k6 k7 k9 k21 d0 d2 g0 (shm_14 f9) kz_0_0)⟩
  refine ⟨(fun _ h => (by cases h)), [], trivial, ?_, (fun _ h => (by cases h))⟩
  rw [List.append_nil]
  exact List.forall_mem_cons.mpr ⟨⟨show (21 : Nat) < 100 from by decide, nf0⟩, List.forall_mem_cons.mpr ⟨⟨show (21 : Nat) < 100 from by decide, nf1⟩, (fun _ h => (by cases h))⟩⟩
set_option maxHeartbeats 4000000 in
theorem vc_Gr_removeNode_11_0 (x3 : Int) (x6 : Int) (x7 : Int) (x9 : Int) (x24 : Int) (nodes_0 : Int) (k3 : 0 ≤ x3 ∧ x3 ≤ 23) (k6 : 1 ≤ x6 ∧ x6 ≤ 24) (k7 : (-22) ≤ x7 ∧ x7 ≤ 24) (k9 : 0 ≤ x9 ∧ x9 ≤ 23) (k24 : 1 ≤ x24 ∧ x24 ≤ 24) (d0 : x3 + 1 ≤ x24 ∧ x24 ≤ x3 + 1) (d3 : x7 + (-1) ≤ x9 ∧ x9 ≤ x7 + (-1)) (g0 : x6 = nodes_0) (f15 : x7 = x6 - x3) (kz_0_0 : 0 ≤ nodes_0 ∧ nodes_0 ≤ 24) : x24 + x9 ≤ 24 := by
  first
    | omega
def o_Gr_removeNode_11 : or_T := (169, 25, [(0, (2, 0, 0, [3])), (3, (0, 0, 23, [])), (6, (0, 1, 24, [])), (7, (0, -22, 24, [])), (9, (0, 0, 23, [])), (24, (0, 1, 24, []))], [(9, [6, 2], [0]), (24, [0, 2], []), (102, [21], [562949953421312]), (102, [18], [281474976710656]), (2, [7, 6, 3], [])], [], [], [(21, [24, 9], [24])], [], [(24, 3, 1, 1), (9, 7, -1, -1)])
theorem oo_Gr_removeNode_11 {kA : Nat → ClassId} : or_ok PRD kA GG o_Gr_removeNode_11 := by
  refine or_mk fun A ta ws vs hD hth hl => ?_
  intro t0 r0 t3 k3 t6 k6 t7 k7 t9 k9 t24 k24 d0 d3 f0 f7 ta1 w1 le1 s1 ta2 w2 le2 s2 f15
  replace f0 := shm_163 f0
  replace f7 := shm_5 f7
  have q2 : n_v vs 2 = n_v vs 0 := f7.symm
  simp only [q2] at f0
  have g0 : v_iv (n_v vs 6) = w_fi ws (n_v vs 0) 0 := congrArg v_iv f0
  have kz_0_0 := fdq_21 hD hth r0
  have nf0 : fc_1 PRD (21, [24, 9], [24]) ws (vs) := ⟨nf_in hl rfl, sgq_140 (vc_Gr_removeNode_11_0 (v_iv (n_v vs 3)) (v_iv (n_v vs 6)) (v_iv (n_v vs 7)) (v_iv (n_v vs 9)) (v_iv (n_v vs 24)) (w_fi ws (n_v vs 0) 0) k3 k6 k7 k9 k24 d0 d3 g0 (shm_14 f15) kz_0_0)⟩
  refine ⟨(fun _ h => (by cases h)), [], trivial, ?_, (fun _ h => (by cases h))⟩
  rw [List.append_nil]
  exact List.forall_mem_cons.mpr ⟨⟨show (21 : Nat) < 100 from by decide, nf0⟩, (fun _ h => (by cases h))⟩
set_option maxHeartbeats 4000000 in
theorem vc_Gr_removeNode_12_0 (x3 : Int) (x6 : Int) (x7 : Int) (x9 : Int) (x27 : Int) (nodes_0 : Int) (k3 : 0 ≤ x3 ∧ x3 ≤ 23) (k6 : 1 ≤ x6 ∧ x6 ≤ 24) (k7 : (-22) ≤ x7 ∧ x7 ≤ 24) (k9 : 0 ≤ x9 ∧ x9 ≤ 23) (k27 : 1 ≤ x27 ∧ x27 ≤ 24) (d0 : x3 + 1 ≤ x27 ∧ x27 ≤ x3 + 1) (d4 : x7 + (-1) ≤ x9 ∧ x9 ≤ x7 + (-1)) (g0 : x6 = nodes_0) (f21 : x7 = x6 - x3) (kz_0_0 : 0 ≤ nodes_0 ∧ nodes_0 ≤ 24) : x27 + x9 ≤ 24 := by
  first
    | omega
def o_Gr_removeNode_12 : or_T := (185, 28, [(0, (2, 0, 0, [3])), (3, (0, 0, 23, [])), (6, (0, 1, 24, [])), (7, (0, -22, 24, [])), (9, (0, 0, 23, [])), (27, (0, 1, 24, []))], [(9, [6, 2], [0]), (24, [0, 2], []), (102, [24], [1125899906842624]), (102, [21], [562949953421312]), (102, [18], [281474976710656]), (2, [7, 6, 3], [])], [], [], [(21, [27, 9], [24])], [], [(27, 3, 1, 1), (9, 7, -1, -1)])
theorem oo_Gr_removeNode_12 {kA : Nat → ClassId} : or_ok PRD kA GG o_Gr_removeNode_12 := by
  refine or_mk fun A ta ws vs hD hth hl => ?_
  intro t0 r0 t3 k3 t6 k6 t7 k7 t9 k9 t27 k27 d0 d4 f0 f8 ta1 w1 le1 s1 ta2 w2 le2 s2 ta3 w3 le3 s3 f21
  replace f0 := shm_163 f0
  replace f8 := shm_5 f8
  have q2 : n_v vs 2 = n_v vs 0 := f8.symm
  simp only [q2] at f0
  have g0 : v_iv (n_v vs 6) = w_fi ws (n_v vs 0) 0 := congrArg v_iv f0
  have kz_0_0 := fdq_21 hD hth r0
  have nf0 : fc_1 PRD (21, [27, 9], [24]) ws (vs) := ⟨nf_in hl rfl, sgq_140 (vc_Gr_removeNode_12_0 (v_iv (n_v vs 3)) (v_iv (n_v vs 6)) (v_iv (n_v vs 7)) (v_iv (n_v vs 9)) (v_iv (n_v vs 27)) (w_fi ws (n_v vs 0) 0) k3 k6 k7 k9 k27 d0 d4 g0 (shm_14 f21) kz_0_0)⟩
  refine ⟨(fun _ h => (by cases h)), [], trivial, ?_, (fun _ h => (by cases h))⟩
  rw [List.append_nil]
  exact List.forall_mem_cons.mpr ⟨⟨show (21 : Nat) < 100 from by decide, nf0⟩, (fun _ h => (by cases h))⟩
set_option maxHeartbeats 4000000 in
theorem vc_Gr_removeNode_13_0 (x3 : Int) (x4 : Int) (x5 : Int) (x6 : Int) (x29 : Int) (nodes_0 : Int) (edges_0 : Int) (nodes_1 : Int) (tail_1 : Int → Int) (head_1 : Int → Int) (edges_1 : Int) (tail_0 : Int → Int) (head_0 : Int → Int) (k3 : 0 ≤ x3 ∧ x3 ≤ 23) (k4 : 0 ≤ x4 ∧ x4 ≤ 48) (k5 : 0 ≤ x5 ∧ x5 ≤ 48) (k6 : 1 ≤ x6 ∧ x6 ≤ 24) (k29 : 0 ≤ x29 ∧ x29 ≤ 23) (d0 : x6 + (-1) ≤ x29 ∧ x29 ≤ x6 + (-1)) (d8 : x5 + 0 ≤ x4 ∧ x4 ≤ x5 + 4294967296) (g0 : x29 = nodes_0) (g1 : x5 = edges_0) (g9 : x6 = nodes_1) (f15 : RN2 (nodes_1) (edges_1) (tail_1) (head_1) (x3) (x4)) (fe_0_1_1 : edges_0 = edges_1) (hE_0_7_1 : ∀ j : Int, tail_0 j = tail_1 j) (hE_0_8_1 : ∀ j : Int, head_0 j = head_1 j) (kz_0_0 : 0 ≤ nodes_0 ∧ nodes_0 ≤ 24) (kz_0_1 : 0 ≤ edges_0 ∧ edges_0 ≤ 48) : GKE (nodes_0) (edges_0) (tail_0) (head_0) := by
  subst fe_0_1_1
  have e_hE_0_7_1 := funext hE_0_7_1; subst e_hE_0_7_1
  have e_hE_0_8_1 := funext hE_0_8_1; subst e_hE_0_8_1
  first
    | exact rn2_end ‹RN2 _ _ _ _ _ _› (by omega) (by omega)
def o_Gr_removeNode_13 : or_T := (199, 30, [(0, (2, 0, 0, [3])), (3, (0, 0, 23, [])), (4, (0, 0, 48, [])), (5, (0, 0, 48, [])), (6, (0, 1, 24, [])), (29, (0, 0, 23, []))], [(9, [29, 2], [0]), (9, [5, 2], [1]), (24, [0, 2], []), (101, [2, 29], [0]), (9, [6, 2], [0]), (20, [2, 3, 4], [60, 2, 2, 760, 0, 1, 7, 8])], [], [], [(20, [2], [60, 2, 2, 596, 0, 1, 7, 8])], [], [(29, 6, -1, -1), (4, 5, 0, 4294967296)])
theorem oo_Gr_removeNode_13 {kA : Nat → ClassId} : or_ok PRD kA GG o_Gr_removeNode_13 := by
  refine or_mk fun A ta ws vs hD hth hl => ?_
  intro t0 r0 t3 k3 t4 k4 t5 k5 t6 k6 t29 k29 d0 d8 f0 f1 f6 ta1 w1 le1 s1 f9 f15
  replace f0 := shm_163 f0
  replace f1 := shm_215 f1
  replace f6 := shm_5 f6
  have s1 : (∀ b j, w_el ws b j = w_el w1 b j) ∧ ∀ b j, w_fd ws b j = if b = v_ad (n_v vs 2) ∧ j = 0 then n_v vs 29 else w_fd w1 b j := s1.2
  replace f9 := shm_163 f9
  replace f15 := shm_1510 f15
  have q2 : n_v vs 2 = n_v vs 0 := f6.symm
  simp only [q2] at f0 f1
  rw [q2] at s1
  simp only [q2] at f9 f15
  have ar_0_7_1 : w_ar w1 (n_v vs 0) 7 = w_ar ws (n_v vs 0) 7 := by show v_ad (w_fd w1 _ _) = v_ad (w_fd ws _ _); rw [s1.2, if_neg (fun e => absurd e.2 (by decide))]
  have ar_0_8_1 : w_ar w1 (n_v vs 0) 8 = w_ar ws (n_v vs 0) 8 := by show v_ad (w_fd w1 _ _) = v_ad (w_fd ws _ _); rw [s1.2, if_neg (fun e => absurd e.2 (by decide))]
  have g0 : v_iv (n_v vs 29) = w_fi ws (n_v vs 0) 0 := congrArg v_iv f0
  have g1 : v_iv (n_v vs 5) = w_fi ws (n_v vs 0) 1 := congrArg v_iv f1
  have g9 : v_iv (n_v vs 6) = w_fi w1 (n_v vs 0) 0 := congrArg v_iv f9
  simp only [ar_0_7_1, ar_0_8_1] at f15
  have fe_0_1_1 : w_fi ws (n_v vs 0) 1 = w_fi w1 (n_v vs 0) 1 := by show v_iv (w_fd _ _ _) = v_iv (w_fd _ _ _); rw [s1.2, if_neg (fun e => absurd e.2 (by decide))]
  have hE_0_7_1 : ∀ j : Int, w_ei ws (w_ar ws (n_v vs 0) 7) j = w_ei w1 (w_ar ws (n_v vs 0) 7) j := fun j => s1.1 _ _
  have hE_0_8_1 : ∀ j : Int, w_ei ws (w_ar ws (n_v vs 0) 8) j = w_ei w1 (w_ar ws (n_v vs 0) 8) j := fun j => s1.1 _ _
  have kz_0_0 := fdq_21 hD hth r0
  have kz_0_1 := fdq_30 hD hth r0
  have nf0 : fc_1 PRD (20, [2], [60, 2, 2, 596, 0, 1, 7, 8]) ws (vs) := by
    refine ⟨nf_in hl rfl, sgq_386 ?_⟩
    · show GKE (w_fi ws (n_v vs 2) 0) (w_fi ws (n_v vs 2) 1) (w_ei ws (w_ar ws (n_v vs 2) 7)) (w_ei ws (w_ar ws (n_v vs 2) 8))
      rw [q2]
      exact vc_Gr_removeNode_13_0 (v_iv (n_v vs 3)) (v_iv (n_v vs 4)) (v_iv (n_v vs 5)) (v_iv (n_v vs 6)) (v_iv (n_v vs 29)) (w_fi ws (n_v vs 0) 0) (w_fi ws (n_v vs 0) 1) (w_fi w1 (n_v vs 0) 0) (w_ei w1 (w_ar ws (n_v vs 0) 7)) (w_ei w1 (w_ar ws (n_v vs 0) 8)) (w_fi w1 (n_v vs 0) 1) (w_ei ws (w_ar ws (n_v vs 0) 7)) (w_ei ws (w_ar ws (n_v vs 0) 8)) k3 k4 k5 k6 k29 d0 d8 g0 g1 g9 f15 fe_0_1_1 hE_0_7_1 hE_0_8_1 kz_0_0 kz_0_1
  refine ⟨(fun _ h => (by cases h)), [], trivial, ?_, (fun _ h => (by cases h))⟩
  rw [List.append_nil]
  exact List.forall_mem_cons.mpr ⟨⟨show (20 : Nat) < 100 from by decide, nf0⟩, (fun _ h => (by cases h))⟩
set_option maxHeartbeats 4000000 in
theorem vc_Gr_removeNode_14_0 (nodes_0 : Int) (edges_0 : Int) (near_0 : Int → Int) (tail_0 : Int → Int) (head_0 : Int → Int) (f3 : GNB (nodes_0) (edges_0) (near_0) (tail_0) (head_0)) (kz_0_0 : 0 ≤ nodes_0 ∧ nodes_0 ≤ 24) (kz_0_1 : 0 ≤ edges_0 ∧ edges_0 ≤ 48) : GNB (nodes_0) (edges_0) (near_0) (tail_0) (head_0) := by
  first
    | assumption
  
set_option maxHeartbeats 4000000 in
theorem vc_Gr_removeNode_14_1 (nodes_0 : Int) (edges_0 : Int) (tail_0 : Int → Int) (head_0 : Int → Int) (f4 : GKE (nodes_0) (edges_0) (tail_0) (head_0)) (kz_0_0 : 0 ≤ nodes_0 ∧ nodes_0 ≤ 24) (kz_0_1 : 0 ≤ edges_0 ∧ edges_0 ≤ 48) : GKE (nodes_0) (edges_0) (tail_0) (head_0) := by
  first
    | assumption
def o_Gr_removeNode_14 : or_T := (202, 30, [(0, (2, 0, 0, [3]))], [(24, [0, 2], []), (20, [2], [60, 2, 3, 670, 0, 1, 14, 7, 8]), (20, [2], [60, 2, 2, 596, 0, 1, 7, 8])], [], [], [(20, [0], [60, 2, 3, 670, 0, 1, 14, 7, 8]), (20, [0], [60, 2, 2, 596, 0, 1, 7, 8])], [], [])
theorem oo_Gr_removeNode_14 {kA : Nat → ClassId} : or_ok PRD kA GG o_Gr_removeNode_14 := by
  refine or_mk fun A ta ws vs hD hth hl => ?_
  intro t0 r0 f2 f3 f4
  replace f2 := shm_5 f2
  replace f3 := shm_825 f3
  replace f4 := shm_386 f4
  have q2 : n_v vs 2 = n_v vs 0 := f2.symm
  simp only [q2] at f3 f4
  have kz_0_0 := fdq_21 hD hth r0
  have kz_0_1 := fdq_30 hD hth r0
  have nf0 : fc_1 PRD (20, [0], [60, 2, 3, 670, 0, 1, 14, 7, 8]) ws (vs) := ⟨nf_in hl rfl, sgq_825 (vc_Gr_removeNode_14_0 (w_fi ws (n_v vs 0) 0) (w_fi ws (n_v vs 0) 1) (w_ei ws (w_ar ws (n_v vs 0) 14)) (w_ei ws (w_ar ws (n_v vs 0) 7)) (w_ei ws (w_ar ws (n_v vs 0) 8)) f3 kz_0_0 kz_0_1)⟩
  have nf1 : fc_1 PRD (20, [0], [60, 2, 2, 596, 0, 1, 7, 8]) ws (vs) := ⟨nf_in hl rfl, sgq_386 (vc_Gr_removeNode_14_1 (w_fi ws (n_v vs 0) 0) (w_fi ws (n_v vs 0) 1) (w_ei ws (w_ar ws (n_v vs 0) 7)) (w_ei ws (w_ar ws (n_v vs 0) 8)) f4 kz_0_0 kz_0_1)⟩
  refine ⟨(fun _ h => (by cases h)), [], trivial, ?_, (fun _ h => (by cases h))⟩
  rw [List.append_nil]
  exact List.forall_mem_cons.mpr ⟨⟨show (20 : Nat) < 100 from by decide, nf0⟩, List.forall_mem_cons.mpr ⟨⟨show (20 : Nat) < 100 from by decide, nf1⟩, (fun _ h => (by cases h))⟩⟩
set_option maxHeartbeats 4000000 in
theorem vc_Gr_removeNode_15_0 (x3 : Int) (x4 : Int) (x5 : Int) (x7 : Int) (x8 : Int) (x10 : Int) (x12 : Int) (x13 : Int) (x15 : Int) (x16 : Int) (edges_0 : Int) (nodes_0 : Int) (head_1 : Int → Int) (nodes_1 : Int) (tail_2 : Int → Int) (nodes_2 : Int) (head_2 : Int → Int) (edges_2 : Int) (edges_1 : Int) (tail_0 : Int → Int) (tail_1 : Int → Int) (head_0 : Int → Int) (k3 : 0 ≤ x3 ∧ x3 ≤ 23) (k4 : 0 ≤ x4 ∧ x4 ≤ 47) (k5 : 1 ≤ x5 ∧ x5 ≤ 48) (k7 : 0 ≤ x7 ∧ x7 ≤ 23) (k8 : 0 ≤ x8 ∧ x8 ≤ 23) (k10 : 0 ≤ x10 ∧ x10 ≤ 23) (k12 : 0 ≤ x12 ∧ x12 ≤ 23) (k13 : 0 ≤ x13 ∧ x13 ≤ 23) (k15 : 0 ≤ x15 ∧ x15 ≤ 23) (k16 : 1 ≤ x16 ∧ x16 ≤ 48) (d0 : x4 + 1 ≤ x16 ∧ x16 ≤ x4 + 1) (d1 : x5 + (-4294967296) ≤ x16 ∧ x16 ≤ x5 + 0) (d2 : x12 + 0 ≤ x15 ∧ x15 ≤ x12 + 0) (d3 : x3 + (-4294967296) ≤ x13 ∧ x13 ≤ x3 + 0) (d4 : x7 + 0 ≤ x10 ∧ x10 ≤ x7 + 0) (d5 : x3 + (-4294967296) ≤ x8 ∧ x8 ≤ x3 + 0) (d6 : x5 + (-4294967296) ≤ x4 ∧ x4 ≤ x5 + (-1)) (g2 : x5 = edges_0) (f3 : x16 = x4 + 1) (f4 : (0 ≤ x3) ∧ ((x3 + 1) ≤ nodes_0)) (h9 : x13 = head_1 (x4)) (h10 : x12 = head_1 (x4)) (h15 : x8 = tail_2 (x4)) (h16 : x7 = tail_2 (x4)) (f19 : RN2 (nodes_2) (edges_2) (tail_2) (head_2) (x3) (x4)) (fe_0_0_1 : nodes_0 = nodes_1) (fe_0_1_1 : edges_0 = edges_1) (fe_0_0_2 : nodes_1 = nodes_2) (fe_0_1_2 : edges_1 = edges_2) (hE_0_7_1 : ∀ j : Int, tail_0 j = tail_1 j) (hE_0_7_2 : ∀ j : Int, 0 ≤ j → (j = x4 → tail_1 j = x10) ∧ (j ≠ x4 → tail_1 j = tail_2 j)) (hE_0_8_1 : ∀ j : Int, 0 ≤ j → (j = x4 → head_0 j = x15) ∧ (j ≠ x4 → head_0 j = head_1 j)) (hE_0_8_2 : ∀ j : Int, head_1 j = head_2 j) (kz_0_0 : 0 ≤ nodes_0 ∧ nodes_0 ≤ 24) (kz_0_1 : 0 ≤ edges_0 ∧ edges_0 ≤ 48) : RN2 (nodes_0) (edges_0) (tail_0) (head_0) (x3) (x16) := by
  subst fe_0_0_1
  subst fe_0_1_1
  subst fe_0_0_2
  subst fe_0_1_2
  have e_hE_0_7_1 := funext hE_0_7_1; subst e_hE_0_7_1
  have e_hE_0_8_2 := funext hE_0_8_2; subst e_hE_0_8_2
  first
    | exact rn2_step (x := x10) (y := x15) ‹RN2 _ _ _ _ _ _› (by omega) (by omega) (by omega) (by omega) (by omega) hE_0_7_2 (by omega) hE_0_8_1 (by omega) (by omega)
def o_Gr_removeNode_15 : or_T := (44, 17, [(0, (2, 0, 0, [3])), (2, (2, 0, 0, [3])), (3, (0, 0, 23, [])), (4, (0, 0, 47, [])), (5, (0, 1, 48, [])), (6, (2, 0, 0, [52])), (7, (0, 0, 23, [])), (8, (0, 0, 23, [])), (9, (0, 0, 0, [])), (10, (0, 0, 23, [])), (11, (2, 0, 0, [53])), (12, (0, 0, 23, [])), (13, (0, 0, 23, [])), (14, (0, 0, 0, [])), (15, (0, 0, 23, [])), (16, (0, 1, 48, []))], [(9, [11, 2], [8]), (9, [6, 2], [7]), (9, [5, 2], [1]), (6, [16, 4], [1]), (20, [3, 2], [50, 1, 0, 1000, 2, 6, 0, 2, 0, 0, 1, 0, 0, 6, 4, 2, 1, 0, 0, 1, 2, 1, 0]), (24, [0, 2], []), (100, [11, 4, 15], []), (2, [15, 12, 14], []), (7, [13, 3], [5]), (10, [13, 11, 4], []), (10, [12, 11, 4], []), (20, [3, 2], [50, 1, 0, 1000, 2, 6, 0, 2, 0, 0, 1, 0, 0, 6, 4, 2, 1, 0, 0, 1, 2, 1, 0]), (100, [6, 4, 10], []), (2, [10, 7, 9], []), (7, [8, 3], [5]), (10, [8, 6, 4], []), (10, [7, 6, 4], []), (7, [4, 5], [2]), (20, [3, 2], [50, 1, 0, 1000, 2, 6, 0, 2, 0, 0, 1, 0, 0, 6, 4, 2, 1, 0, 0, 1, 2, 1, 0]), (20, [2, 3, 4], [60, 2, 2, 760, 0, 1, 7, 8])], [], [], [(20, [2, 3, 16], [60, 2, 2, 760, 0, 1, 7, 8])], [], [(16, 4, 1, 1), (16, 5, -4294967296, 0), (15, 12, 0, 0), (13, 3, -4294967296, 0), (10, 7, 0, 0), (8, 3, -4294967296, 0), (4, 5, -4294967296, -1)])
theorem oo_Gr_removeNode_15 {kA : Nat → ClassId} : or_ok PRD kA GG o_Gr_removeNode_15 := by
  refine or_mk fun A ta ws vs hD hth hl => ?_
  intro t0 r0 t2 r2 t3 k3 t4 k4 t5 k5 t6 r6 t7 k7 t8 k8 t9 k9 t10 k10 t11 r11 t12 k12 t13 k13 t14 k14 t15 k15 t16 k16 d0 d1 d2 d3 d4 d5 d6 f0 f1 f2 f3 f4 f5 ta1 w1 le1 s1 f7 f8 f9 f10 f11 ta2 w2 le2 s2 f13 f14 f15 f16 f17 f18 f19
  replace f0 := shm_293 f0
  replace f1 := shm_198 f1
  replace f2 := shm_215 f2
  replace f3 := shm_4 f3
  replace f4 := shm_416 f4
  replace f5 := shm_5 f5
  have s1 : (∀ b j, w_el ws b j = if b = v_ad (n_v vs 11) ∧ j = (v_iv (n_v vs 4)).toNat then v_iv (n_v vs 15) else w_el w1 b j) ∧ ∀ b k, w_fd ws b k = w_fd w1 b k := s1.2
  replace f9 := shm_107 f9
  replace f10 := shm_107 f10
  have s2 : (∀ b j, w_el w1 b j = if b = v_ad (n_v vs 6) ∧ j = (v_iv (n_v vs 4)).toNat then v_iv (n_v vs 10) else w_el w2 b j) ∧ ∀ b k, w_fd w1 b k = w_fd w2 b k := s2.2
  replace f15 := shm_107 f15
  replace f16 := shm_107 f16
  replace f19 := shm_1510 f19
  have q2 : n_v vs 2 = n_v vs 0 := f5.symm
  simp only [q2] at f0 f1 f2 f4 f19
  have ar_0_7_1 : w_ar w1 (n_v vs 0) 7 = w_ar ws (n_v vs 0) 7 := congrArg v_ad (s1.2 _ _).symm
  have ar_0_7_2 : w_ar w2 (n_v vs 0) 7 = w_ar ws (n_v vs 0) 7 := by rw [← ar_0_7_1]; show v_ad (w_fd w2 _ _) = v_ad (w_fd w1 _ _); rw [s2.2]
  have cr_0_7 := fdq_46 hD hth r0
  have ar_0_8_1 : w_ar w1 (n_v vs 0) 8 = w_ar ws (n_v vs 0) 8 := congrArg v_ad (s1.2 _ _).symm
  have ar_0_8_2 : w_ar w2 (n_v vs 0) 8 = w_ar ws (n_v vs 0) 8 := by rw [← ar_0_8_1]; show v_ad (w_fd w2 _ _) = v_ad (w_fd w1 _ _); rw [s2.2]
  have cr_0_8 := fdq_47 hD hth r0
  have ad_11 : v_ad (n_v vs 11) = w_ar ws (n_v vs 0) 8 := congrArg v_ad f0
  have ad_6 : v_ad (n_v vs 6) = w_ar ws (n_v vs 0) 7 := congrArg v_ad f1
  have g2 : v_iv (n_v vs 5) = w_fi ws (n_v vs 0) 1 := congrArg v_iv f2
  simp only [ad_11] at f9
  have h9 : v_iv (n_v vs 13) = w_ei w1 (w_ar ws (n_v vs 0) 8) (v_iv (n_v vs 4)) := f9
  simp only [ad_11] at f10
  have h10 : v_iv (n_v vs 12) = w_ei w1 (w_ar ws (n_v vs 0) 8) (v_iv (n_v vs 4)) := f10
  simp only [ad_6] at f15
  have h15 : v_iv (n_v vs 8) = w_ei w2 (w_ar ws (n_v vs 0) 7) (v_iv (n_v vs 4)) := f15
  simp only [ad_6] at f16
  have h16 : v_iv (n_v vs 7) = w_ei w2 (w_ar ws (n_v vs 0) 7) (v_iv (n_v vs 4)) := f16
  simp only [ar_0_7_2, ar_0_8_2] at f19
  have fe_0_0_1 : w_fi ws (n_v vs 0) 0 = w_fi w1 (n_v vs 0) 0 := congrArg v_iv (s1.2 _ _)
  have fe_0_1_1 : w_fi ws (n_v vs 0) 1 = w_fi w1 (n_v vs 0) 1 := congrArg v_iv (s1.2 _ _)
  have fe_0_0_2 : w_fi w1 (n_v vs 0) 0 = w_fi w2 (n_v vs 0) 0 := congrArg v_iv (s2.2 _ _)
  have fe_0_1_2 : w_fi w1 (n_v vs 0) 1 = w_fi w2 (n_v vs 0) 1 := congrArg v_iv (s2.2 _ _)
  have hE_0_7_1 : ∀ j : Int, w_ei ws (w_ar ws (n_v vs 0) 7) j = w_ei w1 (w_ar ws (n_v vs 0) 7) j := el_kp s1.1 r11 cr_0_7 (by decide)
  have hE_0_7_2 : ∀ j : Int, 0 ≤ j → (j = v_iv (n_v vs 4) → w_ei w1 (w_ar ws (n_v vs 0) 7) j = v_iv (n_v vs 10)) ∧ (j ≠ v_iv (n_v vs 4) → w_ei w1 (w_ar ws (n_v vs 0) 7) j = w_ei w2 (w_ar ws (n_v vs 0) 7) j) := fun j hj => ⟨fun h => by unfold w_ei; rw [s2.1, if_pos ⟨ad_6.symm, by rw [h]⟩], fun h => by unfold w_ei; rw [s2.1, if_neg (fun e => h (by have := e.2; omega))]⟩
  have hE_0_8_1 : ∀ j : Int, 0 ≤ j → (j = v_iv (n_v vs 4) → w_ei ws (w_ar ws (n_v vs 0) 8) j = v_iv (n_v vs 15)) ∧ (j ≠ v_iv (n_v vs 4) → w_ei ws (w_ar ws (n_v vs 0) 8) j = w_ei w1 (w_ar ws (n_v vs 0) 8) j) := fun j hj => ⟨fun h => by unfold w_ei; rw [s1.1, if_pos ⟨ad_11.symm, by rw [h]⟩], fun h => by unfold w_ei; rw [s1.1, if_neg (fun e => h (by have := e.2; omega))]⟩
  have hE_0_8_2 : ∀ j : Int, w_ei w1 (w_ar ws (n_v vs 0) 8) j = w_ei w2 (w_ar ws (n_v vs 0) 8) j := el_kp s2.1 r6 cr_0_8 (by decide)
  have kz_0_0 := fdq_21 hD hth r0
  have kz_0_1 := fdq_30 hD hth r0
  have nf0 : fc_1 PRD (20, [2, 3, 16], [60, 2, 2, 760, 0, 1, 7, 8]) ws (vs) := by
    refine ⟨nf_in hl rfl, sgq_1510 ?_⟩
    · show RN2 (w_fi ws (n_v vs 2) 0) (w_fi ws (n_v vs 2) 1) (w_ei ws (w_ar ws (n_v vs 2) 7)) (w_ei ws (w_ar ws (n_v vs 2) 8)) (v_iv (n_v vs 3)) (v_iv (n_v vs 16))
      rw [q2]
      exact vc_Gr_removeNode_15_0 (v_iv (n_v vs 3)) (v_iv (n_v vs 4)) (v_iv (n_v vs 5)) (v_iv (n_v vs 7)) (v_iv (n_v vs 8)) (v_iv (n_v vs 10)) (v_iv (n_v vs 12)) (v_iv (n_v vs 13)) (v_iv (n_v vs 15)) (v_iv (n_v vs 16)) (w_fi ws (n_v vs 0) 1) (w_fi ws (n_v vs 0) 0) (w_ei w1 (w_ar ws (n_v vs 0) 8)) (w_fi w1 (n_v vs 0) 0) (w_ei w2 (w_ar ws (n_v vs 0) 7)) (w_fi w2 (n_v vs 0) 0) (w_ei w2 (w_ar ws (n_v vs 0) 8)) (w_fi w2 (n_v vs 0) 1) (w_fi w1 (n_v vs 0) 1) (w_ei ws (w_ar ws (n_v vs 0) 7)) (w_ei w1 (w_ar ws (n_v vs 0) 7)) (w_ei ws (w_ar ws (n_v vs 0) 8)) k3 k4 k5 k7 k8 k10 k12 k13 k15 k16 d0 d1 d2 d3 d4 d5 d6 g2 f3 f4 h9 h10 h15 h16 f19 fe_0_0_1 fe_0_1_1 fe_0_0_2 fe_0_1_2 hE_0_7_1 hE_0_7_2 hE_0_8_1 hE_0_8_2 kz_0_0 kz_0_1
  refine ⟨(fun _ h => (by cases h)), [], trivial, ?_, (fun _ h => (by cases h))⟩
  rw [List.append_nil]
  exact List.forall_mem_cons.mpr ⟨⟨show (20 : Nat) < 100 from by decide, nf0⟩, (fun _ h => (by cases h))⟩
set_option maxHeartbeats 4000000 in
theorem vc_Gr_removeNode_16_r0 (x4 : Int) (x12 : Int) (x13 : Int) (x15 : Int) (edges_0 : Int) (head_0 : Int → Int) (nodes_0 : Int) (nodes_1 : Int) (head_1 : Int → Int) (edges_1 : Int) (k4 : 0 ≤ x4 ∧ x4 ≤ 47) (k12 : 0 ≤ x12 ∧ x12 ≤ 23) (k13 : 1 ≤ x13 ∧ x13 ≤ 23) (k15 : (-1) ≤ x15 ∧ x15 ≤ 22) (d0 : x12 + (-1) ≤ x15 ∧ x15 ≤ x12 + (-1)) (h4 : x13 = head_0 (x4)) (h6 : x12 = head_0 (x4)) (fe_0_0_1 : nodes_0 = nodes_1) (fe_0_1_1 : edges_0 = edges_1) (hE_0_8_1 : ∀ j : Int, head_0 j = head_1 j) (kz_0_0 : 0 ≤ nodes_0 ∧ nodes_0 ≤ 24) (kz_0_1 : 0 ≤ edges_0 ∧ edges_0 ≤ 48) : 0 ≤ x15 ∧ x15 ≤ 22 := by
  subst fe_0_0_1
  subst fe_0_1_1
  have e_hE_0_8_1 := funext hE_0_8_1; subst e_hE_0_8_1
  first
    | omega
def o_Gr_removeNode_16 : or_T := (99, 16, [(0, (2, 0, 0, [3])), (2, (2, 0, 0, [3])), (3, (0, 0, 22, [])), (4, (0, 0, 47, [])), (5, (0, 1, 48, [])), (6, (2, 0, 0, [52])), (7, (0, 0, 23, [])), (8, (0, 0, 22, [])), (9, (0, 0, 0, [])), (10, (0, 0, 23, [])), (11, (2, 0, 0, [53])), (12, (0, 0, 23, [])), (13, (0, 1, 23, [])), (14, (0, 1, 1, [])), (15, (0, -1, 22, []))], [(9, [6, 2], [7]), (9, [5, 2], [1]), (2, [15, 12, 14], []), (7, [13, 3], [4]), (10, [13, 11, 4], []), (9, [11, 2], [8]), (10, [12, 11, 4], []), (20, [3, 2], [50, 1, 0, 1000, 2, 6, 0, 2, 0, 0, 1, 0, 0, 6, 4, 2, 1, 0, 0, 1, 2, 1, 0]), (24, [0, 2], []), (100, [6, 4, 10], []), (2, [10, 7, 9], []), (7, [8, 3], [5]), (10, [8, 6, 4], []), (10, [7, 6, 4], []), (7, [4, 5], [2]), (20, [3, 2], [50, 1, 0, 1000, 2, 6, 0, 2, 0, 0, 1, 0, 0, 6, 4, 2, 1, 0, 0, 1, 2, 1, 0]), (20, [2, 3, 4], [60, 2, 2, 760, 0, 1, 7, 8])], [(15, (0, 0, 22, []))], [], [], [], [(15, 12, -1, -1), (13, 3, 1, 4294967296), (10, 7, 0, 0), (8, 3, -4294967296, 0), (4, 5, -4294967296, -1)])
theorem oo_Gr_removeNode_16 {kA : Nat → ClassId} : or_ok PRD kA GG o_Gr_removeNode_16 := by
  refine or_mk fun A ta ws vs hD hth hl => ?_
  intro t0 r0 t2 r2 t3 k3 t4 k4 t5 k5 t6 r6 t7 k7 t8 k8 t9 k9 t10 k10 t11 r11 t12 k12 t13 k13 t14 k14 t15 k15 d0 d1 d2 d3 d4 f0 f1 f2 f3 f4 f5 f6 f7 f8 ta1 w1 le1 s1 f10 f11 f12 f13 f14 f15 f16
  replace f4 := shm_107 f4
  replace f5 := shm_293 f5
  replace f6 := shm_107 f6
  replace f8 := shm_5 f8
  have s1 : (∀ b j, w_el ws b j = if b = v_ad (n_v vs 6) ∧ j = (v_iv (n_v vs 4)).toNat then v_iv (n_v vs 10) else w_el w1 b j) ∧ ∀ b k, w_fd ws b k = w_fd w1 b k := s1.2
  have q2 : n_v vs 2 = n_v vs 0 := f8.symm
  simp only [q2] at f5
  have cr_0_8 := fdq_47 hD hth r0
  have ad_11 : v_ad (n_v vs 11) = w_ar ws (n_v vs 0) 8 := congrArg v_ad f5
  simp only [ad_11] at f4
  have h4 : v_iv (n_v vs 13) = w_ei ws (w_ar ws (n_v vs 0) 8) (v_iv (n_v vs 4)) := f4
  simp only [ad_11] at f6
  have h6 : v_iv (n_v vs 12) = w_ei ws (w_ar ws (n_v vs 0) 8) (v_iv (n_v vs 4)) := f6
  have fe_0_0_1 : w_fi ws (n_v vs 0) 0 = w_fi w1 (n_v vs 0) 0 := congrArg v_iv (s1.2 _ _)
  have fe_0_1_1 : w_fi ws (n_v vs 0) 1 = w_fi w1 (n_v vs 0) 1 := congrArg v_iv (s1.2 _ _)
  have hE_0_8_1 : ∀ j : Int, w_ei ws (w_ar ws (n_v vs 0) 8) j = w_ei w1 (w_ar ws (n_v vs 0) 8) j := el_kp s1.1 r6 cr_0_8 (by decide)
  have kz_0_0 := fdq_21 hD hth r0
  have kz_0_1 := fdq_30 hD hth r0
  have hrf0 : 0 ≤ v_iv (n_v vs 15) ∧ v_iv (n_v vs 15) ≤ 22 := vc_Gr_removeNode_16_r0 (v_iv (n_v vs 4)) (v_iv (n_v vs 12)) (v_iv (n_v vs 13)) (v_iv (n_v vs 15)) (w_fi ws (n_v vs 0) 1) (w_ei ws (w_ar ws (n_v vs 0) 8)) (w_fi ws (n_v vs 0) 0) (w_fi w1 (n_v vs 0) 0) (w_ei w1 (w_ar ws (n_v vs 0) 8)) (w_fi w1 (n_v vs 0) 1) k4 k12 k13 k15 d0 h4 h6 fe_0_0_1 fe_0_1_1 hE_0_8_1 kz_0_0 kz_0_1
  have rf15 : tv_ok ta (0, 0, 22, []) (n_v vs 15) := tv_in t15 (by first | omega | grind) (by first | omega | grind)
  refine ⟨List.forall_mem_cons.mpr ⟨rf15, (fun _ h => (by cases h))⟩, [], trivial, ?_, (fun _ h => (by cases h))⟩
  rw [List.append_nil]
  exact (fun _ h => (by cases h))
set_option maxHeartbeats 4000000 in
theorem vc_Gr_removeNode_17_0 (x3 : Int) (x4 : Int) (x5 : Int) (x7 : Int) (x8 : Int) (x10 : Int) (x12 : Int) (x13 : Int) (x15 : Int) (x16 : Int) (edges_0 : Int) (nodes_0 : Int) (head_1 : Int → Int) (nodes_1 : Int) (tail_2 : Int → Int) (nodes_2 : Int) (head_2 : Int → Int) (edges_2 : Int) (edges_1 : Int) (tail_0 : Int → Int) (tail_1 : Int → Int) (head_0 : Int → Int) (k3 : 0 ≤ x3 ∧ x3 ≤ 22) (k4 : 0 ≤ x4 ∧ x4 ≤ 47) (k5 : 1 ≤ x5 ∧ x5 ≤ 48) (k7 : 0 ≤ x7 ∧ x7 ≤ 23) (k8 : 0 ≤ x8 ∧ x8 ≤ 22) (k10 : 0 ≤ x10 ∧ x10 ≤ 23) (k12 : 0 ≤ x12 ∧ x12 ≤ 23) (k13 : 1 ≤ x13 ∧ x13 ≤ 23) (k15 : 0 ≤ x15 ∧ x15 ≤ 22) (k16 : 1 ≤ x16 ∧ x16 ≤ 48) (d0 : x4 + 1 ≤ x16 ∧ x16 ≤ x4 + 1) (d1 : x5 + (-4294967296) ≤ x16 ∧ x16 ≤ x5 + 0) (d2 : x12 + (-1) ≤ x15 ∧ x15 ≤ x12 + (-1)) (d3 : x3 + 1 ≤ x13 ∧ x13 ≤ x3 + 4294967296) (d4 : x7 + 0 ≤ x10 ∧ x10 ≤ x7 + 0) (d5 : x3 + (-4294967296) ≤ x8 ∧ x8 ≤ x3 + 0) (d6 : x5 + (-4294967296) ≤ x4 ∧ x4 ≤ x5 + (-1)) (g2 : x5 = edges_0) (f3 : x16 = x4 + 1) (f4 : (0 ≤ x3) ∧ ((x3 + 1) ≤ nodes_0)) (h9 : x13 = head_1 (x4)) (h10 : x12 = head_1 (x4)) (h15 : x8 = tail_2 (x4)) (h16 : x7 = tail_2 (x4)) (f19 : RN2 (nodes_2) (edges_2) (tail_2) (head_2) (x3) (x4)) (fe_0_0_1 : nodes_0 = nodes_1) (fe_0_1_1 : edges_0 = edges_1) (fe_0_0_2 : nodes_1 = nodes_2) (fe_0_1_2 : edges_1 = edges_2) (hE_0_7_1 : ∀ j : Int, tail_0 j = tail_1 j) (hE_0_7_2 : ∀ j : Int, 0 ≤ j → (j = x4 → tail_1 j = x10) ∧ (j ≠ x4 → tail_1 j = tail_2 j)) (hE_0_8_1 : ∀ j : Int, 0 ≤ j → (j = x4 → head_0 j = x15) ∧ (j ≠ x4 → head_0 j = head_1 j)) (hE_0_8_2 : ∀ j : Int, head_1 j = head_2 j) (kz_0_0 : 0 ≤ nodes_0 ∧ nodes_0 ≤ 24) (kz_0_1 : 0 ≤ edges_0 ∧ edges_0 ≤ 48) : RN2 (nodes_0) (edges_0) (tail_0) (head_0) (x3) (x16) := by
  subst fe_0_0_1
  subst fe_0_1_1
  subst fe_0_0_2
  subst fe_0_1_2
  have e_hE_0_7_1 := funext hE_0_7_1; subst e_hE_0_7_1
  have e_hE_0_8_2 := funext hE_0_8_2; subst e_hE_0_8_2
  first
    | exact rn2_step (x := x10) (y := x15) ‹RN2 _ _ _ _ _ _› (by omega) (by omega) (by omega) (by omega) (by omega) hE_0_7_2 (by omega) hE_0_8_1 (by omega) (by omega)
def o_Gr_removeNode_17 : or_T := (44, 17, [(0, (2, 0, 0, [3])), (2, (2, 0, 0, [3])), (3, (0, 0, 22, [])), (4, (0, 0, 47, [])), (5, (0, 1, 48, [])), (6, (2, 0, 0, [52])), (7, (0, 0, 23, [])), (8, (0, 0, 22, [])), (9, (0, 0, 0, [])), (10, (0, 0, 23, [])), (11, (2, 0, 0, [53])), (12, (0, 0, 23, [])), (13, (0, 1, 23, [])), (14, (0, 1, 1, [])), (15, (0, 0, 22, [])), (16, (0, 1, 48, []))], [(9, [11, 2], [8]), (9, [6, 2], [7]), (9, [5, 2], [1]), (6, [16, 4], [1]), (20, [3, 2], [50, 1, 0, 1000, 2, 6, 0, 2, 0, 0, 1, 0, 0, 6, 4, 2, 1, 0, 0, 1, 2, 1, 0]), (24, [0, 2], []), (100, [11, 4, 15], []), (2, [15, 12, 14], []), (7, [13, 3], [4]), (10, [13, 11, 4], []), (10, [12, 11, 4], []), (20, [3, 2], [50, 1, 0, 1000, 2, 6, 0, 2, 0, 0, 1, 0, 0, 6, 4, 2, 1, 0, 0, 1, 2, 1, 0]), (100, [6, 4, 10], []), (2, [10, 7, 9], []), (7, [8, 3], [5]), (10, [8, 6, 4], []), (10, [7, 6, 4], []), (7, [4, 5], [2]), (20, [3, 2], [50, 1, 0, 1000, 2, 6, 0, 2, 0, 0, 1, 0, 0, 6, 4, 2, 1, 0, 0, 1, 2, 1, 0]), (20, [2, 3, 4], [60, 2, 2, 760, 0, 1, 7, 8])], [], [], [(20, [2, 3, 16], [60, 2, 2, 760, 0, 1, 7, 8])], [], [(16, 4, 1, 1), (16, 5, -4294967296, 0), (15, 12, -1, -1), (13, 3, 1, 4294967296), (10, 7, 0, 0), (8, 3, -4294967296, 0), (4, 5, -4294967296, -1)])
theorem oo_Gr_removeNode_17 {kA : Nat → ClassId} : or_ok PRD kA GG o_Gr_removeNode_17 := by
  refine or_mk fun A ta ws vs hD hth hl => ?_
  intro t0 r0 t2 r2 t3 k3 t4 k4 t5 k5 t6 r6 t7 k7 t8 k8 t9 k9 t10 k10 t11 r11 t12 k12 t13 k13 t14 k14 t15 k15 t16 k16 d0 d1 d2 d3 d4 d5 d6 f0 f1 f2 f3 f4 f5 ta1 w1 le1 s1 f7 f8 f9 f10 f11 ta2 w2 le2 s2 f13 f14 f15 f16 f17 f18 f19
  replace f0 := shm_293 f0
  replace f1 := shm_198 f1
  replace f2 := shm_215 f2
  replace f3 := shm_4 f3
  replace f4 := shm_416 f4
  replace f5 := shm_5 f5
  have s1 : (∀ b j, w_el ws b j = if b = v_ad (n_v vs 11) ∧ j = (v_iv (n_v vs 4)).toNat then v_iv (n_v vs 15) else w_el w1 b j) ∧ ∀ b k, w_fd ws b k = w_fd w1 b k := s1.2
  replace f9 := shm_107 f9
  replace f10 := shm_107 f10
  have s2 : (∀ b j, w_el w1 b j = if b = v_ad (n_v vs 6) ∧ j = (v_iv (n_v vs 4)).toNat then v_iv (n_v vs 10) else w_el w2 b j) ∧ ∀ b k, w_fd w1 b k = w_fd w2 b k := s2.2
  replace f15 := shm_107 f15
  replace f16 := shm_107 f16
  replace f19 := shm_1510 f19
  have q2 : n_v vs 2 = n_v vs 0 := f5.symm
  simp only [q2] at f0 f1 f2 f4 f19
  have ar_0_7_1 : w_ar w1 (n_v vs 0) 7 = w_ar ws (n_v vs 0) 7 := congrArg v_ad (s1.2 _ _).symm
  have ar_0_7_2 : w_ar w2 (n_v vs 0) 7 = w_ar ws (n_v vs 0) 7 := by rw [← ar_0_7_1]; show v_ad (w_fd w2 _ _) = v_ad (w_fd w1 _ _); rw [s2.2]
  have cr_0_7 := fdq_46 hD hth r0
  have ar_0_8_1 : w_ar w1 (n_v vs 0) 8 = w_ar ws (n_v vs 0) 8 := congrArg v_ad (s1.2 _ _).symm
  have ar_0_8_2 : w_ar w2 (n_v vs 0) 8 = w_ar ws (n_v vs 0) 8 := by rw [← ar_0_8_1]; show v_ad (w_fd w2 _ _) = v_ad (w_fd w1 _ _); rw [s2.2]
  have cr_0_8 := fdq_47 hD hth r0
  have ad_11 : v_ad (n_v vs 11) = w_ar ws (n_v vs 0) 8 := congrArg v_ad f0
  have ad_6 : v_ad (n_v vs 6) = w_ar ws (n_v vs 0) 7 := congrArg v_ad f1
  have g2 : v_iv (n_v vs 5) = w_fi ws (n_v vs 0) 1 := congrArg v_iv f2
  simp only [ad_11] at f9
  have h9 : v_iv (n_v vs 13) = w_ei w1 (w_ar ws (n_v vs 0) 8) (v_iv (n_v vs 4)) := f9
  simp only [ad_11] at f10
  have h10 : v_iv (n_v vs 12) = w_ei w1 (w_ar ws (n_v vs 0) 8) (v_iv (n_v vs 4)) := f10
  simp only [ad_6] at f15
  have h15 : v_iv (n_v vs 8) = w_ei w2 (w_ar ws (n_v vs 0) 7) (v_iv (n_v vs 4)) := f15
  simp only [ad_6] at f16
  have h16 : v_iv (n_v vs 7) = w_ei w2 (w_ar ws (n_v vs 0) 7) (v_iv (n_v vs 4)) := f16
  simp only [ar_0_7_2, ar_0_8_2] at f19
  have fe_0_0_1 : w_fi ws (n_v vs 0) 0 = w_fi w1 (n_v vs 0) 0 := congrArg v_iv (s1.2 _ _)
  have fe_0_1_1 : w_fi ws (n_v vs 0) 1 = w_fi w1 (n_v vs 0) 1 := congrArg v_iv (s1.2 _ _)
  have fe_0_0_2 : w_fi w1 (n_v vs 0) 0 = w_fi w2 (n_v vs 0) 0 := congrArg v_iv (s2.2 _ _)
  have fe_0_1_2 : w_fi w1 (n_v vs 0) 1 = w_fi w2 (n_v vs 0) 1 := congrArg v_iv (s2.2 _ _)
  have hE_0_7_1 : ∀ j : Int, w_ei ws (w_ar ws (n_v vs 0) 7) j = w_ei w1 (w_ar ws (n_v vs 0) 7) j := el_kp s1.1 r11 cr_0_7 (by decide)
  have hE_0_7_2 : ∀ j : Int, 0 ≤ j → (j = v_iv (n_v vs 4) → w_ei w1 (w_ar ws (n_v vs 0) 7) j = v_iv (n_v vs 10)) ∧ (j ≠ v_iv (n_v vs 4) → w_ei w1 (w_ar ws (n_v vs 0) 7) j = w_ei w2 (w_ar ws (n_v vs 0) 7) j) := fun j hj => ⟨fun h => by unfold w_ei; rw [s2.1, if_pos ⟨ad_6.symm, by rw [h]⟩], fun h => by unfold w_ei; rw [s2.1, if_neg (fun e => h (by have := e.2; omega))]⟩
  have hE_0_8_1 : ∀ j : Int, 0 ≤ j → (j = v_iv (n_v vs 4) → w_ei ws (w_ar ws (n_v vs 0) 8) j = v_iv (n_v vs 15)) ∧ (j ≠ v_iv (n_v vs 4) → w_ei ws (w_ar ws (n_v vs 0) 8) j = w_ei w1 (w_ar ws (n_v vs 0) 8) j) := fun j hj => ⟨fun h => by unfold w_ei; rw [s1.1, if_pos ⟨ad_11.symm, by rw [h]⟩], fun h => by unfold w_ei; rw [s1.1, if_neg (fun e => h (by have := e.2; omega))]⟩
  have hE_0_8_2 : ∀ j : Int, w_ei w1 (w_ar ws (n_v vs 0) 8) j = w_ei w2 (w_ar ws (n_v vs 0) 8) j := el_kp s2.1 r6 cr_0_8 (by decide)
  have kz_0_0 := fdq_21 hD hth r0
  have kz_0_1 := fdq_30 hD hth r0
  have nf0 : fc_1 PRD (20, [2, 3, 16], [60, 2, 2, 760, 0, 1, 7, 8]) ws (vs) := by
    refine ⟨nf_in hl rfl, sgq_1510 ?_⟩
    · show RN2 (w_fi ws (n_v vs 2) 0) (w_fi ws (n_v vs 2) 1) (w_ei ws (w_ar ws (n_v vs 2) 7)) (w_ei ws (w_ar ws (n_v vs 2) 8)) (v_iv (n_v vs 3)) (v_iv (n_v vs 16))
      rw [q2]
      exact vc_Gr_removeNode_17_0 (v_iv (n_v vs 3)) (v_iv (n_v vs 4)) (v_iv (n_v vs 5)) (v_iv (n_v vs 7)) (v_iv (n_v vs 8)) (v_iv (n_v vs 10)) (v_iv (n_v vs 12)) (v_iv (n_v vs 13)) (v_iv (n_v vs 15)) (v_iv (n_v vs 16)) (w_fi ws (n_v vs 0) 1) (w_fi ws (n_v vs 0) 0) (w_ei w1 (w_ar ws (n_v vs 0) 8)) (w_fi w1 (n_v vs 0) 0) (w_ei w2 (w_ar ws (n_v vs 0) 7)) (w_fi w2 (n_v vs 0) 0) (w_ei w2 (w_ar ws (n_v vs 0) 8)) (w_fi w2 (n_v vs 0) 1) (w_fi w1 (n_v vs 0) 1) (w_ei ws (w_ar ws (n_v vs 0) 7)) (w_ei w1 (w_ar ws (n_v vs 0) 7)) (w_ei ws (w_ar ws (n_v vs 0) 8)) k3 k4 k5 k7 k8 k10 k12 k13 k15 k16 d0 d1 d2 d3 d4 d5 d6 g2 f3 f4 h9 h10 h15 h16 f19 fe_0_0_1 fe_0_1_1 fe_0_0_2 fe_0_1_2 hE_0_7_1 hE_0_7_2 hE_0_8_1 hE_0_8_2 kz_0_0 kz_0_1
  refine ⟨(fun _ h => (by cases h)), [], trivial, ?_, (fun _ h => (by cases h))⟩
  rw [List.append_nil]
  exact List.forall_mem_cons.mpr ⟨⟨show (20 : Nat) < 100 from by decide, nf0⟩, (fun _ h => (by cases h))⟩
set_option maxHeartbeats 4000000 in
theorem vc_Gr_removeNode_18_r0 (x4 : Int) (x7 : Int) (x8 : Int) (x10 : Int) (tail_0 : Int → Int) (k4 : 0 ≤ x4 ∧ x4 ≤ 47) (k7 : 0 ≤ x7 ∧ x7 ≤ 23) (k8 : 1 ≤ x8 ∧ x8 ≤ 23) (k10 : (-1) ≤ x10 ∧ x10 ≤ 22) (d0 : x7 + (-1) ≤ x10 ∧ x10 ≤ x7 + (-1)) (h2 : x8 = tail_0 (x4)) (h4 : x7 = tail_0 (x4)) : 0 ≤ x10 ∧ x10 ≤ 22 := by
  first
    | omega
def o_Gr_removeNode_18 : or_T := (75, 11, [(0, (2, 0, 0, [3])), (2, (2, 0, 0, [3])), (3, (0, 0, 22, [])), (4, (0, 0, 47, [])), (5, (0, 1, 48, [])), (6, (2, 0, 0, [52])), (7, (0, 0, 23, [])), (8, (0, 1, 23, [])), (9, (0, 1, 1, [])), (10, (0, -1, 22, []))], [(2, [10, 7, 9], []), (7, [8, 3], [4]), (10, [8, 6, 4], []), (9, [6, 2], [7]), (10, [7, 6, 4], []), (7, [4, 5], [2]), (9, [5, 2], [1]), (20, [3, 2], [50, 1, 0, 1000, 2, 6, 0, 2, 0, 0, 1, 0, 0, 6, 4, 2, 1, 0, 0, 1, 2, 1, 0]), (20, [2, 3, 4], [60, 2, 2, 760, 0, 1, 7, 8]), (24, [0, 2], [])], [(10, (0, 0, 22, []))], [], [], [], [(10, 7, -1, -1), (8, 3, 1, 4294967296), (4, 5, -4294967296, -1)])
theorem oo_Gr_removeNode_18 {kA : Nat → ClassId} : or_ok PRD kA GG o_Gr_removeNode_18 := by
  refine or_mk fun A ta ws vs hD hth hl => ?_
  intro t0 r0 t2 r2 t3 k3 t4 k4 t5 k5 t6 r6 t7 k7 t8 k8 t9 k9 t10 k10 d0 d1 d2 f0 f1 f2 f3 f4 f5 f6 f7 f8 f9
  replace f2 := shm_107 f2
  replace f3 := shm_198 f3
  replace f4 := shm_107 f4
  replace f9 := shm_5 f9
  have q2 : n_v vs 2 = n_v vs 0 := f9.symm
  simp only [q2] at f3
  have ad_6 : v_ad (n_v vs 6) = w_ar ws (n_v vs 0) 7 := congrArg v_ad f3
  simp only [ad_6] at f2
  have h2 : v_iv (n_v vs 8) = w_ei ws (w_ar ws (n_v vs 0) 7) (v_iv (n_v vs 4)) := f2
  simp only [ad_6] at f4
  have h4 : v_iv (n_v vs 7) = w_ei ws (w_ar ws (n_v vs 0) 7) (v_iv (n_v vs 4)) := f4
  have hrf0 : 0 ≤ v_iv (n_v vs 10) ∧ v_iv (n_v vs 10) ≤ 22 := vc_Gr_removeNode_18_r0 (v_iv (n_v vs 4)) (v_iv (n_v vs 7)) (v_iv (n_v vs 8)) (v_iv (n_v vs 10)) (w_ei ws (w_ar ws (n_v vs 0) 7)) k4 k7 k8 k10 d0 h2 h4
  have rf10 : tv_ok ta (0, 0, 22, []) (n_v vs 10) := tv_in t10 (by first | omega | grind) (by first | omega | grind)
  refine ⟨List.forall_mem_cons.mpr ⟨rf10, (fun _ h => (by cases h))⟩, [], trivial, ?_, (fun _ h => (by cases h))⟩
  rw [List.append_nil]
  exact (fun _ h => (by cases h))
set_option maxHeartbeats 4000000 in
theorem vc_Gr_removeNode_19_0 (x3 : Int) (x4 : Int) (x5 : Int) (x7 : Int) (x8 : Int) (x10 : Int) (x12 : Int) (x13 : Int) (x15 : Int) (x16 : Int) (edges_0 : Int) (nodes_0 : Int) (head_1 : Int → Int) (nodes_1 : Int) (tail_2 : Int → Int) (nodes_2 : Int) (head_2 : Int → Int) (edges_2 : Int) (edges_1 : Int) (tail_0 : Int → Int) (tail_1 : Int → Int) (head_0 : Int → Int) (k3 : 0 ≤ x3 ∧ x3 ≤ 22) (k4 : 0 ≤ x4 ∧ x4 ≤ 47) (k5 : 1 ≤ x5 ∧ x5 ≤ 48) (k7 : 0 ≤ x7 ∧ x7 ≤ 23) (k8 : 1 ≤ x8 ∧ x8 ≤ 23) (k10 : 0 ≤ x10 ∧ x10 ≤ 22) (k12 : 0 ≤ x12 ∧ x12 ≤ 23) (k13 : 0 ≤ x13 ∧ x13 ≤ 22) (k15 : 0 ≤ x15 ∧ x15 ≤ 23) (k16 : 1 ≤ x16 ∧ x16 ≤ 48) (d0 : x4 + 1 ≤ x16 ∧ x16 ≤ x4 + 1) (d1 : x5 + (-4294967296) ≤ x16 ∧ x16 ≤ x5 + 0) (d2 : x12 + 0 ≤ x15 ∧ x15 ≤ x12 + 0) (d3 : x3 + (-4294967296) ≤ x13 ∧ x13 ≤ x3 + 0) (d4 : x7 + (-1) ≤ x10 ∧ x10 ≤ x7 + (-1)) (d5 : x3 + 1 ≤ x8 ∧ x8 ≤ x3 + 4294967296) (d6 : x5 + (-4294967296) ≤ x4 ∧ x4 ≤ x5 + (-1)) (g2 : x5 = edges_0) (f3 : x16 = x4 + 1) (f4 : (0 ≤ x3) ∧ ((x3 + 1) ≤ nodes_0)) (h9 : x13 = head_1 (x4)) (h10 : x12 = head_1 (x4)) (h15 : x8 = tail_2 (x4)) (h16 : x7 = tail_2 (x4)) (f19 : RN2 (nodes_2) (edges_2) (tail_2) (head_2) (x3) (x4)) (fe_0_0_1 : nodes_0 = nodes_1) (fe_0_1_1 : edges_0 = edges_1) (fe_0_0_2 : nodes_1 = nodes_2) (fe_0_1_2 : edges_1 = edges_2) (hE_0_7_1 : ∀ j : Int, tail_0 j = tail_1 j) (hE_0_7_2 : ∀ j : Int, 0 ≤ j → (j = x4 → tail_1 j = x10) ∧ (j ≠ x4 → tail_1 j = tail_2 j)) (hE_0_8_1 : ∀ j : Int, 0 ≤ j → (j = x4 → head_0 j = x15) ∧ (j ≠ x4 → head_0 j = head_1 j)) (hE_0_8_2 : ∀ j : Int, head_1 j = head_2 j) (kz_0_0 : 0 ≤ nodes_0 ∧ nodes_0 ≤ 24) (kz_0_1 : 0 ≤ edges_0 ∧ edges_0 ≤ 48) : RN2 (nodes_0) (edges_0) (tail_0) (head_0) (x3) (x16) := by
  subst fe_0_0_1
  subst fe_0_1_1
  subst fe_0_0_2
  subst fe_0_1_2
  have e_hE_0_7_1 := funext hE_0_7_1; subst e_hE_0_7_1
  have e_hE_0_8_2 := funext hE_0_8_2; subst e_hE_0_8_2
  first
    | exact rn2_step (x := x10) (y := x15) ‹RN2 _ _ _ _ _ _› (by omega) (by omega) (by omega) (by omega) (by omega) hE_0_7_2 (by omega) hE_0_8_1 (by omega) (by omega)
def o_Gr_removeNode_19 : or_T := (44, 17, [(0, (2, 0, 0, [3])), (2, (2, 0, 0, [3])), (3, (0, 0, 22, [])), (4, (0, 0, 47, [])), (5, (0, 1, 48, [])), (6, (2, 0, 0, [52])), (7, (0, 0, 23, [])), (8, (0, 1, 23, [])), (9, (0, 1, 1, [])), (10, (0, 0, 22, [])), (11, (2, 0, 0, [53])), (12, (0, 0, 23, [])), (13, (0, 0, 22, [])), (14, (0, 0, 0, [])), (15, (0, 0, 23, [])), (16, (0, 1, 48, []))], [(9, [11, 2], [8]), (9, [6, 2], [7]), (9, [5, 2], [1]), (6, [16, 4], [1]), (20, [3, 2], [50, 1, 0, 1000, 2, 6, 0, 2, 0, 0, 1, 0, 0, 6, 4, 2, 1, 0, 0, 1, 2, 1, 0]), (24, [0, 2], []), (100, [11, 4, 15], []), (2, [15, 12, 14], []), (7, [13, 3], [5]), (10, [13, 11, 4], []), (10, [12, 11, 4], []), (20, [3, 2], [50, 1, 0, 1000, 2, 6, 0, 2, 0, 0, 1, 0, 0, 6, 4, 2, 1, 0, 0, 1, 2, 1, 0]), (100, [6, 4, 10], []), (2, [10, 7, 9], []), (7, [8, 3], [4]), (10, [8, 6, 4], []), (10, [7, 6, 4], []), (7, [4, 5], [2]), (20, [3, 2], [50, 1, 0, 1000, 2, 6, 0, 2, 0, 0, 1, 0, 0, 6, 4, 2, 1, 0, 0, 1, 2, 1, 0]), (20, [2, 3, 4], [60, 2, 2, 760, 0, 1, 7, 8])], [], [], [(20, [2, 3, 16], [60, 2, 2, 760, 0, 1, 7, 8])], [], [(16, 4, 1, 1), (16, 5, -4294967296, 0), (15, 12, 0, 0), (13, 3, -4294967296, 0), (10, 7, -1, -1), (8, 3, 1, 4294967296), (4, 5, -4294967296, -1)])
theorem oo_Gr_removeNode_19 {kA : Nat → ClassId} : or_ok PRD kA GG o_Gr_removeNode_19 := by
  refine or_mk fun A ta ws vs hD hth hl => ?_
  intro t0 r0 t2 r2 t3 k3 t4 k4 t5 k5 t6 r6 t7 k7 t8 k8 t9 k9 t10 k10 t11 r11 t12 k12 t13 k13 t14 k14 t15 k15 t16 k16 d0 d1 d2 d3 d4 d5 d6 f0 f1 f2 f3 f4 f5 ta1 w1 le1 s1 f7 f8 f9 f10 f11 ta2 w2 le2 s2 f13 f14 f15 f16 f17 f18 f19
  replace f0 := shm_293 f0
  replace f1 := shm_198 f1
  replace f2 := shm_215 f2
  replace f3 := shm_4 f3
  replace f4 := shm_416 f4
  replace f5 := shm_5 f5
  have s1 : (∀ b j, w_el ws b j = if b = v_ad (n_v vs 11) ∧ j = (v_iv (n_v vs 4)).toNat then v_iv (n_v vs 15) else w_el w1 b j) ∧ ∀ b k, w_fd ws b k = w_fd w1 b k := s1.2
  replace f9 := shm_107 f9
  replace f10 := shm_107 f10
  have s2 : (∀ b j, w_el w1 b j = if b = v_ad (n_v vs 6) ∧ j = (v_iv (n_v vs 4)).toNat then v_iv (n_v vs 10) else w_el w2 b j) ∧ ∀ b k, w_fd w1 b k = w_fd w2 b k := s2.2
  replace f15 := shm_107 f15
  replace f16 := shm_107 f16
  replace f19 := shm_1510 f19
  have q2 : n_v vs 2 = n_v vs 0 := f5.symm
  simp only [q2] at f0 f1 f2 f4 f19
  have ar_0_7_1 : w_ar w1 (n_v vs 0) 7 = w_ar ws (n_v vs 0) 7 := congrArg v_ad (s1.2 _ _).symm
  have ar_0_7_2 : w_ar w2 (n_v vs 0) 7 = w_ar ws (n_v vs 0) 7 := by rw [← ar_0_7_1]; show v_ad (w_fd w2 _ _) = v_ad (w_fd w1 _ _); rw [s2.2]
  have cr_0_7 := fdq_46 hD hth r0
  have ar_0_8_1 : w_ar w1 (n_v vs 0) 8 = w_ar ws (n_v vs 0) 8 := congrArg v_ad (s1.2 _ _).symm
  have ar_0_8_2 : w_ar w2 (n_v vs 0) 8 = w_ar ws (n_v vs 0) 8 := by rw [← ar_0_8_1]; show v_ad (w_fd w2 _ _) = v_ad (w_fd w1 _ _); rw [s2.2]
  have cr_0_8 := fdq_47 hD hth r0
  have ad_11 : v_ad (n_v vs 11) = w_ar ws (n_v vs 0) 8 := congrArg v_ad f0
  have ad_6 : v_ad (n_v vs 6) = w_ar ws (n_v vs 0) 7 := congrArg v_ad f1
  have g2 : v_iv (n_v vs 5) = w_fi ws (n_v vs 0) 1 := congrArg v_iv f2
  simp only [ad_11] at f9
  have h9 : v_iv (n_v vs 13) = w_ei w1 (w_ar ws (n_v vs 0) 8) (v_iv (n_v vs 4)) := f9
  simp only [ad_11] at f10
  have h10 : v_iv (n_v vs 12) = w_ei w1 (w_ar ws (n_v vs 0) 8) (v_iv (n_v vs 4)) := f10
  simp only [ad_6] at f15
  have h15 : v_iv (n_v vs 8) = w_ei w2 (w_ar ws (n_v vs 0) 7) (v_iv (n_v vs 4)) := f15
  simp only [ad_6] at f16
  have h16 : v_iv (n_v vs 7) = w_ei w2 (w_ar ws (n_v vs 0) 7) (v_iv (n_v vs 4)) := f16
  simp only [ar_0_7_2, ar_0_8_2] at f19
  have fe_0_0_1 : w_fi ws (n_v vs 0) 0 = w_fi w1 (n_v vs 0) 0 := congrArg v_iv (s1.2 _ _)
  have fe_0_1_1 : w_fi ws (n_v vs 0) 1 = w_fi w1 (n_v vs 0) 1 := congrArg v_iv (s1.2 _ _)
  have fe_0_0_2 : w_fi w1 (n_v vs 0) 0 = w_fi w2 (n_v vs 0) 0 := congrArg v_iv (s2.2 _ _)
  have fe_0_1_2 : w_fi w1 (n_v vs 0) 1 = w_fi w2 (n_v vs 0) 1 := congrArg v_iv (s2.2 _ _)
  have hE_0_7_1 : ∀ j : Int, w_ei ws (w_ar ws (n_v vs 0) 7) j = w_ei w1 (w_ar ws (n_v vs 0) 7) j := el_kp s1.1 r11 cr_0_7 (by decide)
  have hE_0_7_2 : ∀ j : Int, 0 ≤ j → (j = v_iv (n_v vs 4) → w_ei w1 (w_ar ws (n_v vs 0) 7) j = v_iv (n_v vs 10)) ∧ (j ≠ v_iv (n_v vs 4) → w_ei w1 (w_ar ws (n_v vs 0) 7) j = w_ei w2 (w_ar ws (n_v vs 0) 7) j) := fun j hj => ⟨fun h => by unfold w_ei; rw [s2.1, if_pos ⟨ad_6.symm, by rw [h]⟩], fun h => by unfold w_ei; rw [s2.1, if_neg (fun e => h (by have := e.2; omega))]⟩
  have hE_0_8_1 : ∀ j : Int, 0 ≤ j → (j = v_iv (n_v vs 4) → w_ei ws (w_ar ws (n_v vs 0) 8) j = v_iv (n_v vs 15)) ∧ (j ≠ v_iv (n_v vs 4) → w_ei ws (w_ar ws (n_v vs 0) 8) j = w_ei w1 (w_ar ws (n_v vs 0) 8) j) := fun j hj => ⟨fun h => by unfold w_ei; rw [s1.1, if_pos ⟨ad_11.symm, by rw [h]⟩], fun h => by unfold w_ei; rw [s1.1, if_neg (fun e => h (by have := e.2; omega))]⟩
  have hE_0_8_2 : ∀ j : Int, w_ei w1 (w_ar ws (n_v vs 0) 8) j = w_ei w2 (w_ar ws (n_v vs 0) 8) j := el_kp s2.1 r6 cr_0_8 (by decide)
  have kz_0_0 := fdq_21 hD hth r0
  have kz_0_1 := fdq_30 hD hth r0
  have nf0 : fc_1 PRD (20, [2, 3, 16], [60, 2, 2, 760, 0, 1, 7, 8]) ws (vs) := by
    refine ⟨nf_in hl rfl, sgq_1510 ?_⟩
    · show RN2 (w_fi ws (n_v vs 2) 0) (w_fi ws (n_v vs 2) 1) (w_ei ws (w_ar ws (n_v vs 2) 7)) (w_ei ws (w_ar ws (n_v vs 2) 8)) (v_iv (n_v vs 3)) (v_iv (n_v vs 16))
      rw [q2]
      exact vc_Gr_removeNode_19_0 (v_iv (n_v vs 3)) (v_iv (n_v vs 4)) (v_iv (n_v vs 5)) (v_iv (n_v vs 7)) (v_iv (n_v vs 8)) (v_iv (n_v vs 10)) (v_iv (n_v vs 12)) (v_iv (n_v vs 13)) (v_iv (n_v vs 15)) (v_iv (n_v vs 16)) (w_fi ws (n_v vs 0) 1) (w_fi ws (n_v vs 0) 0) (w_ei w1 (w_ar ws (n_v vs 0) 8)) (w_fi w1 (n_v vs 0) 0) (w_ei w2 (w_ar ws (n_v vs 0) 7)) (w_fi w2 (n_v vs 0) 0) (w_ei w2 (w_ar ws (n_v vs 0) 8)) (w_fi w2 (n_v vs 0) 1) (w_fi w1 (n_v vs 0) 1) (w_ei ws (w_ar ws (n_v vs 0) 7)) (w_ei w1 (w_ar ws (n_v vs 0) 7)) (w_ei ws (w_ar ws (n_v vs 0) 8)) k3 k4 k5 k7 k8 k10 k12 k13 k15 k16 d0 d1 d2 d3 d4 d5 d6 g2 f3 f4 h9 h10 h15 h16 f19 fe_0_0_1 fe_0_1_1 fe_0_0_2 fe_0_1_2 hE_0_7_1 hE_0_7_2 hE_0_8_1 hE_0_8_2 kz_0_0 kz_0_1
  refine ⟨(fun _ h => (by cases h)), [], trivial, ?_, (fun _ h => (by cases h))⟩
  rw [List.append_nil]
  exact List.forall_mem_cons.mpr ⟨⟨show (20 : Nat) < 100 from by decide, nf0⟩, (fun _ h => (by cases h))⟩
set_option maxHeartbeats 4000000 in
theorem vc_Gr_removeNode_20_r0 (x4 : Int) (x12 : Int) (x13 : Int) (x15 : Int) (edges_0 : Int) (head_0 : Int → Int) (nodes_0 : Int) (nodes_1 : Int) (head_1 : Int → Int) (edges_1 : Int) (k4 : 0 ≤ x4 ∧ x4 ≤ 47) (k12 : 0 ≤ x12 ∧ x12 ≤ 23) (k13 : 1 ≤ x13 ∧ x13 ≤ 23) (k15 : (-1) ≤ x15 ∧ x15 ≤ 22) (d0 : x12 + (-1) ≤ x15 ∧ x15 ≤ x12 + (-1)) (h4 : x13 = head_0 (x4)) (h6 : x12 = head_0 (x4)) (fe_0_0_1 : nodes_0 = nodes_1) (fe_0_1_1 : edges_0 = edges_1) (hE_0_8_1 : ∀ j : Int, head_0 j = head_1 j) (kz_0_0 : 0 ≤ nodes_0 ∧ nodes_0 ≤ 24) (kz_0_1 : 0 ≤ edges_0 ∧ edges_0 ≤ 48) : 0 ≤ x15 ∧ x15 ≤ 22 := by
  subst fe_0_0_1
  subst fe_0_1_1
  have e_hE_0_8_1 := funext hE_0_8_1; subst e_hE_0_8_1
  first
    | omega
def o_Gr_removeNode_20 : or_T := (99, 16, [(0, (2, 0, 0, [3])), (2, (2, 0, 0, [3])), (3, (0, 0, 22, [])), (4, (0, 0, 47, [])), (5, (0, 1, 48, [])), (6, (2, 0, 0, [52])), (7, (0, 0, 23, [])), (8, (0, 1, 23, [])), (9, (0, 1, 1, [])), (10, (0, 0, 22, [])), (11, (2, 0, 0, [53])), (12, (0, 0, 23, [])), (13, (0, 1, 23, [])), (14, (0, 1, 1, [])), (15, (0, -1, 22, []))], [(9, [6, 2], [7]), (9, [5, 2], [1]), (2, [15, 12, 14], []), (7, [13, 3], [4]), (10, [13, 11, 4], []), (9, [11, 2], [8]), (10, [12, 11, 4], []), (20, [3, 2], [50, 1, 0, 1000, 2, 6, 0, 2, 0, 0, 1, 0, 0, 6, 4, 2, 1, 0, 0, 1, 2, 1, 0]), (24, [0, 2], []), (100, [6, 4, 10], []), (2, [10, 7, 9], []), (7, [8, 3], [4]), (10, [8, 6, 4], []), (10, [7, 6, 4], []), (7, [4, 5], [2]), (20, [3, 2], [50, 1, 0, 1000, 2, 6, 0, 2, 0, 0, 1, 0, 0, 6, 4, 2, 1, 0, 0, 1, 2, 1, 0]), (20, [2, 3, 4], [60, 2, 2, 760, 0, 1, 7, 8])], [(15, (0, 0, 22, []))], [], [], [], [(15, 12, -1, -1), (13, 3, 1, 4294967296), (10, 7, -1, -1), (8, 3, 1, 4294967296), (4, 5, -4294967296, -1)])
theorem oo_Gr_removeNode_20 {kA : Nat → ClassId} : or_ok PRD kA GG o_Gr_removeNode_20 := by
  refine or_mk fun A ta ws vs hD hth hl => ?_
  intro t0 r0 t2 r2 t3 k3 t4 k4 t5 k5 t6 r6 t7 k7 t8 k8 t9 k9 t10 k10 t11 r11 t12 k12 t13 k13 t14 k14 t15 k15 d0 d1 d2 d3 d4 f0 f1 f2 f3 f4 f5 f6 f7 f8 ta1 w1 le1 s1 f10 f11 f12 f13 f14 f15 f16
  replace f4 := shm_107 f4
  replace f5 := shm_293 f5
  replace f6 := shm_107 f6
  replace f8 := shm_5 f8
  have s1 : (∀ b j, w_el ws b j = if b = v_ad (n_v vs 6) ∧ j = (v_iv (n_v vs 4)).toNat then v_iv (n_v vs 10) else w_el w1 b j) ∧ ∀ b k, w_fd ws b k = w_fd w1 b k := s1.2
  have q2 : n_v vs 2 = n_v vs 0 := f8.symm
  simp only [q2] at f5
  have cr_0_8 := fdq_47 hD hth r0
  have ad_11 : v_ad (n_v vs 11) = w_ar ws (n_v vs 0) 8 := congrArg v_ad f5
  simp only [ad_11] at f4
  have h4 : v_iv (n_v vs 13) = w_ei ws (w_ar ws (n_v vs 0) 8) (v_iv (n_v vs 4)) := f4
  simp only [ad_11] at f6
  have h6 : v_iv (n_v vs 12) = w_ei ws (w_ar ws (n_v vs 0) 8) (v_iv (n_v vs 4)) := f6
  have fe_0_0_1 : w_fi ws (n_v vs 0) 0 = w_fi w1 (n_v vs 0) 0 := congrArg v_iv (s1.2 _ _)
  have fe_0_1_1 : w_fi ws (n_v vs 0) 1 = w_fi w1 (n_v vs 0) 1 := congrArg v_iv (s1.2 _ _)
  have hE_0_8_1 : ∀ j : Int, w_ei ws (w_ar ws (n_v vs 0) 8) j = w_ei w1 (w_ar ws (n_v vs 0) 8) j := el_kp s1.1 r6 cr_0_8 (by decide)
  have kz_0_0 := fdq_21 hD hth r0
  have kz_0_1 := fdq_30 hD hth r0
  have hrf0 : 0 ≤ v_iv (n_v vs 15) ∧ v_iv (n_v vs 15) ≤ 22 := vc_Gr_removeNode_20_r0 (v_iv (n_v vs 4)) (v_iv (n_v vs 12)) (v_iv (n_v vs 13)) (v_iv (n_v vs 15)) (w_fi ws (n_v vs 0) 1) (w_ei ws (w_ar ws (n_v vs 0) 8)) (w_fi ws (n_v vs 0) 0) (w_fi w1 (n_v vs 0) 0) (w_ei w1 (w_ar ws (n_v vs 0) 8)) (w_fi w1 (n_v vs 0) 1) k4 k12 k13 k15 d0 h4 h6 fe_0_0_1 fe_0_1_1 hE_0_8_1 kz_0_0 kz_0_1
  have rf15 : tv_ok ta (0, 0, 22, []) (n_v vs 15) := tv_in t15 (by first | omega | grind) (by first | omega | grind)
  refine ⟨List.forall_mem_cons.mpr ⟨rf15, (fun _ h => (by cases h))⟩, [], trivial, ?_, (fun _ h => (by cases h))⟩
  rw [List.append_nil]
  exact (fun _ h => (by cases h))
set_option maxHeartbeats 4000000 in
theorem vc_Gr_removeNode_21_0 (x3 : Int) (x4 : Int) (x5 : Int) (x7 : Int) (x8 : Int) (x10 : Int) (x12 : Int) (x13 : Int) (x15 : Int) (x16 : Int) (edges_0 : Int) (nodes_0 : Int) (head_1 : Int → Int) (nodes_1 : Int) (tail_2 : Int → Int) (nodes_2 : Int) (head_2 : Int → Int) (edges_2 : Int) (edges_1 : Int) (tail_0 : Int → Int) (tail_1 : Int → Int) (head_0 : Int → Int) (k3 : 0 ≤ x3 ∧ x3 ≤ 22) (k4 : 0 ≤ x4 ∧ x4 ≤ 47) (k5 : 1 ≤ x5 ∧ x5 ≤ 48) (k7 : 0 ≤ x7 ∧ x7 ≤ 23) (k8 : 1 ≤ x8 ∧ x8 ≤ 23) (k10 : 0 ≤ x10 ∧ x10 ≤ 22) (k12 : 0 ≤ x12 ∧ x12 ≤ 23) (k13 : 1 ≤ x13 ∧ x13 ≤ 23) (k15 : 0 ≤ x15 ∧ x15 ≤ 22) (k16 : 1 ≤ x16 ∧ x16 ≤ 48) (d0 : x4 + 1 ≤ x16 ∧ x16 ≤ x4 + 1) (d1 : x5 + (-4294967296) ≤ x16 ∧ x16 ≤ x5 + 0) (d2 : x12 + (-1) ≤ x15 ∧ x15 ≤ x12 + (-1)) (d3 : x3 + 1 ≤ x13 ∧ x13 ≤ x3 + 4294967296) (d4 : x7 + (-1) ≤ x10 ∧ x10 ≤ x7 + (-1)) (d5 : x3 + 1 ≤ x8 ∧ x8 ≤ x3 + 4294967296) (d6 : x5 + (-4294967296) ≤ x4 ∧ x4 ≤ x5 + (-1)) (g2 : x5 = edges_0) (f3 : x16 = x4 + 1) (f4 : (0 ≤ x3) ∧ ((x3 + 1) ≤ nodes_0)) (h9 : x13 = head_1 (x4)) (h10 : x12 = head_1 (x4)) (h15 : x8 = tail_2 (x4)) (h16 : x7 = tail_2 (x4)) (f19 : RN2 (nodes_2) (edges_2) (tail_2) (head_2) (x3) (x4)) (fe_0_0_1 : nodes_0 = nodes_1) (fe_0_1_1 : edges_0 = edges_1) (fe_0_0_2 : nodes_1 = nodes_2) (fe_0_1_2 : edges_1 = edges_2) (hE_0_7_1 : ∀ j : Int, tail_0 j = tail_1 j) (hE_0_7_2 : ∀ j : Int, 0 ≤ j → (j = x4 → tail_1 j = x10) ∧ (j ≠ x4 → tail_1 j = tail_2 j)) (hE_0_8_1 : ∀ j : Int, 0 ≤ j → (j = x4 → head_0 j = x15) ∧ (j ≠ x4 → head_0 j = head_1 j)) (hE_0_8_2 : ∀ j : Int, head_1 j = head_2 j) (kz_0_0 : 0 ≤ nodes_0 ∧ nodes_0 ≤ 24) (kz_0_1 : 0 ≤ edges_0 ∧ edges_0 ≤ 48) : RN2 (nodes_0) (edges_0) (tail_0) (head_0) (x3) (x16) := by
  subst fe_0_0_1
  subst fe_0_1_1
  subst fe_0_0_2
  subst fe_0_1_2
  have e_hE_0_7_1 := funext hE_0_7_1; subst e_hE_0_7_1
  have e_hE_0_8_2 := funext hE_0_8_2; subst e_hE_0_8_2
  first
    | exact rn2_step (x := x10) (y := x15) ‹RN2 _ _ _ _ _ _› (by omega) (by omega) (by omega) (by omega) (by omega) hE_0_7_2 (by omega) hE_0_8_1 (by omega) (by omega)
def o_Gr_removeNode_21 : or_T := (44, 17, [(0, (2, 0, 0, [3])), (2, (2, 0, 0, [3])), (3, (0, 0, 22, [])), (4, (0, 0, 47, [])), (5, (0, 1, 48, [])), (6, (2, 0, 0, [52])), (7, (0, 0, 23, [])), (8, (0, 1, 23, [])), (9, (0, 1, 1, [])), (10, (0, 0, 22, [])), (11, (2, 0, 0, [53])), (12, (0, 0, 23, [])), (13, (0, 1, 23, [])), (14, (0, 1, 1, [])), (15, (0, 0, 22, [])), (16, (0, 1, 48, []))], [(9, [11, 2], [8]), (9, [6, 2], [7]), (9, [5, 2], [1]), (6, [16, 4], [1]), (20, [3, 2], [50, 1, 0, 1000, 2, 6, 0, 2, 0, 0, 1, 0, 0, 6, 4, 2, 1, 0, 0, 1, 2, 1, 0]), (24, [0, 2], []), (100, [11, 4, 15], []), (2, [15, 12, 14], []), (7, [13, 3], [4]), (10, [13, 11, 4], []), (10, [12, 11, 4], []), (20, [3, 2], [50, 1, 0, 1000, 2, 6, 0, 2, 0, 0, 1, 0, 0, 6, 4, 2, 1, 0, 0, 1, 2, 1, 0]), (100, [6, 4, 10], []), (2, [10, 7, 9], []), (7, [8, 3], [4]), (10, [8, 6, 4], []), (10, [7, 6, 4], []), (7, [4, 5], [2]), (20, [3, 2], [50, 1, 0, 1000, 2, 6, 0, 2, 0, 0, 1, 0, 0, 6, 4, 2, 1, 0, 0, 1, 2, 1, 0]), (20, [2, 3, 4], [60, 2, 2, 760, 0, 1, 7, 8])], [], [], [(20, [2, 3, 16], [60, 2, 2, 760, 0, 1, 7, 8])], [], [(16, 4, 1, 1), (16, 5, -4294967296, 0), (15, 12, -1, -1), (13, 3, 1, 4294967296), (10, 7, -1, -1), (8, 3, 1, 4294967296), (4, 5, -4294967296, -1)])
theorem oo_Gr_removeNode_21 {kA : Nat → ClassId} : or_ok PRD kA GG o_Gr_removeNode_21 := by
  refine or_mk fun A ta ws vs hD hth hl => ?_
  intro t0 r0 t2 r2 t3 k3 t4 k4 t5 k5 t6 r6 t7 k7 t8 k8 t9 k9 t10 k10 t11 r11 t12 k12 t13 k13 t14 k14 t15 k15 t16 k16 d0 d1 d2 d3 d4 d5 d6 f0 f1 f2 f3 f4 f5 ta1 w1 le1 s1 f7 f8 f9 f10 f11 ta2 w2 le2 s2 f13 f14 f15 f16 f17 f18 f19
  replace f0 := shm_293 f0
  replace f1 := shm_198 f1
  replace f2 := shm_215 f2
  replace f3 := shm_4 f3
  replace f4 := shm_416 f4
  replace f5 := shm_5 f5
  have s1 : (∀ b j, w_el ws b j = if b = v_ad (n_v vs 11) ∧ j = (v_iv (n_v vs 4)).toNat then v_iv (n_v vs 15) else w_el w1 b j) ∧ ∀ b k, w_fd ws b k = w_fd w1 b k := s1.2
  replace f9 := shm_107 f9
  replace f10 := shm_107 f10
  have s2 : (∀ b j, w_el w1 b j = if b = v_ad (n_v vs 6) ∧ j = (v_iv (n_v vs 4)).toNat then v_iv (n_v vs 10) else w_el w2 b j) ∧ ∀ b k, w_fd w1 b k = w_fd w2 b k := s2.2
  replace f15 := shm_107 f15
  replace f16 := shm_107 f16
  replace f19 := shm_1510 f19
  have q2 : n_v vs 2 = n_v vs 0 := f5.symm
  simp only [q2] at f0 f1 f2 f4 f19
  have ar_0_7_1 : w_ar w1 (n_v vs 0) 7 = w_ar ws (n_v vs 0) 7 := congrArg v_ad (s1.2 _ _).symm
  have ar_0_7_2 : w_ar w2 (n_v vs 0) 7 = w_ar ws (n_v vs 0) 7 := by rw [← ar_0_7_1]; show v_ad (w_fd w2 _ _) = v_ad (w_fd w1 _ _); rw [s2.2]
  have cr_0_7 := fdq_46 hD hth r0
  have ar_0_8_1 : w_ar w1 (n_v vs 0) 8 = w_ar ws (n_v vs 0) 8 := congrArg v_ad (s1.2 _ _).symm
  have ar_0_8_2 : w_ar w2 (n_v vs 0) 8 = w_ar ws (n_v vs 0) 8 := by rw [← ar_0_8_1]; show v_ad (w_fd w2 _ _) = v_ad (w_fd w1 _ _); rw [s2.2]
  have cr_0_8 := fdq_47 hD hth r0
  have ad_11 : v_ad (n_v vs 11) = w_ar ws (n_v vs 0) 8 := congrArg v_ad f0
  have ad_6 : v_ad (n_v vs 6) = w_ar ws (n_v vs 0) 7 := congrArg v_ad f1
  have g2 : v_iv (n_v vs 5) = w_fi ws (n_v vs 0) 1 := congrArg v_iv f2
  simp only [ad_11] at f9
  have h9 : v_iv (n_v vs 13) = w_ei w1 (w_ar ws (n_v vs 0) 8) (v_iv (n_v vs 4)) := f9
  simp only [ad_11] at f10
  have h10 : v_iv (n_v vs 12) = w_ei w1 (w_ar ws (n_v vs 0) 8) (v_iv (n_v vs 4)) := f10
  simp only [ad_6] at f15
  have h15 : v_iv (n_v vs 8) = w_ei w2 (w_ar ws (n_v vs 0) 7) (v_iv (n_v vs 4)) := f15
  simp only [ad_6] at f16
  have h16 : v_iv (n_v vs 7) = w_ei w2 (w_ar ws (n_v vs 0) 7) (v_iv (n_v vs 4)) := f16
  simp only [ar_0_7_2, ar_0_8_2] at f19
  have fe_0_0_1 : w_fi ws (n_v vs 0) 0 = w_fi w1 (n_v vs 0) 0 := congrArg v_iv (s1.2 _ _)
  have fe_0_1_1 : w_fi ws (n_v vs 0) 1 = w_fi w1 (n_v vs 0) 1 := congrArg v_iv (s1.2 _ _)
  have fe_0_0_2 : w_fi w1 (n_v vs 0) 0 = w_fi w2 (n_v vs 0) 0 := congrArg v_iv (s2.2 _ _)
  have fe_0_1_2 : w_fi w1 (n_v vs 0) 1 = w_fi w2 (n_v vs 0) 1 := congrArg v_iv (s2.2 _ _)
  have hE_0_7_1 : ∀ j : Int, w_ei ws (w_ar ws (n_v vs 0) 7) j = w_ei w1 (w_ar ws (n_v vs 0) 7) j := el_kp s1.1 r11 cr_0_7 (by decide)
  have hE_0_7_2 : ∀ j : Int, 0 ≤ j → (j = v_iv (n_v vs 4) → w_ei w1 (w_ar ws (n_v vs 0) 7) j = v_iv (n_v vs 10)) ∧ (j ≠ v_iv (n_v vs 4) → w_ei w1 (w_ar ws (n_v vs 0) 7) j = w_ei w2 (w_ar ws (n_v vs 0) 7) j) := fun j hj => ⟨fun h => by unfold w_ei; rw [s2.1, if_pos ⟨ad_6.symm, by rw [h]⟩], fun h => by unfold w_ei; rw [s2.1, if_neg (fun e => h (by have := e.2; omega))]⟩
  have hE_0_8_1 : ∀ j : Int, 0 ≤ j → (j = v_iv (n_v vs 4) → w_ei ws (w_ar ws (n_v vs 0) 8) j = v_iv (n_v vs 15)) ∧ (j ≠ v_iv (n_v vs 4) → w_ei ws (w_ar ws (n_v vs 0) 8) j = w_ei w1 (w_ar ws (n_v vs 0) 8) j) := fun j hj => ⟨fun h => by unfold w_ei; rw [s1.1, if_pos ⟨ad_11.symm, by rw [h]⟩], fun h => by unfold w_ei; rw [s1.1, if_neg (fun e => h (by have := e.2; omega))]⟩
  have hE_0_8_2 : ∀ j : Int, w_ei w1 (w_ar ws (n_v vs 0) 8) j = w_ei w2 (w_ar ws (n_v vs 0) 8) j := el_kp s2.1 r6 cr_0_8 (by decide)
  have kz_0_0 := fdq_21 hD hth r0
  have kz_0_1 := fdq_30 hD hth r0
  have nf0 : fc_1 PRD (20, [2, 3, 16], [60, 2, 2, 760, 0, 1, 7, 8]) ws (vs) := by
    refine ⟨nf_in hl rfl, sgq_1510 ?_⟩
    · show RN2 (w_fi ws (n_v vs 2) 0) (w_fi ws (n_v vs 2) 1) (w_ei ws (w_ar ws (n_v vs 2) 7)) (w_ei ws (w_ar ws (n_v vs 2) 8)) (v_iv (n_v vs 3)) (v_iv (n_v vs 16))
      rw [q2]
      exact vc_Gr_removeNode_21_0 (v_iv (n_v vs 3)) (v_iv (n_v vs 4)) (v_iv (n_v vs 5)) (v_iv (n_v vs 7)) (v_iv (n_v vs 8)) (v_iv (n_v vs 10)) (v_iv (n_v vs 12)) (v_iv (n_v vs 13)) (v_iv (n_v vs 15)) (v_iv (n_v vs 16)) (w_fi ws (n_v vs 0) 1) (w_fi ws (n_v vs 0) 0) (w_ei w1 (w_ar ws (n_v vs 0) 8)) (w_fi w1 (n_v vs 0) 0) (w_ei w2 (w_ar ws (n_v vs 0) 7)) (w_fi w2 (n_v vs 0) 0) (w_ei w2 (w_ar ws (n_v vs 0) 8)) (w_fi w2 (n_v vs 0) 1) (w_fi w1 (n_v vs 0) 1) (w_ei ws (w_ar ws (n_v vs 0) 7)) (w_ei w1 (w_ar ws (n_v vs 0) 7)) (w_ei ws (w_ar ws (n_v vs 0) 8)) k3 k4 k5 k7 k8 k10 k12 k13 k15 k16 d0 d1 d2 d3 d4 d5 d6 g2 f3 f4 h9 h10 h15 h16 f19 fe_0_0_1 fe_0_1_1 fe_0_0_2 fe_0_1_2 hE_0_7_1 hE_0_7_2 hE_0_8_1 hE_0_8_2 kz_0_0 kz_0_1
  refine ⟨(fun _ h => (by cases h)), [], trivial, ?_, (fun _ h => (by cases h))⟩
  rw [List.append_nil]
  exact List.forall_mem_cons.mpr ⟨⟨show (20 : Nat) < 100 from by decide, nf0⟩, (fun _ h => (by cases h))⟩
def n_Gr_removeNode_an : List an_T := [(7, [(0, (2, 0, 0, [3])), (1, (0, 0, 23, [])), (2, (0, (Int.negSucc 0), 47, []))], [], (0, 0), [(0, 0, 99993), (2, 4, (Int.negSucc 0)), (0, 0, 100000)], [(1, 3, (Int.negSucc 999999999999), 0), (3, 1, (Int.negSucc 999999999999), 0), (4, 5, (Int.negSucc 999999999999), (Int.negSucc 0))], [((0, 1), (0, 0, 48, []))], [(2, 0, 0, [3]), (0, 0, 23, [])], 0, [], [(20, [3, 2], [50, 1, 0, 1000, 2, 6, 0, 2, 0, 0, 1, 0, 0, 6, 4, 2, 1, 0, 0, 1, 2, 1, 0]), (20, [2], [60, 2, 2, 596, 0, 1, 7, 8]), (20, [2, 3, 4], [60, 1, 2, 759, 1, 7, 8]), (24, [0, 2], [])]), (44, [(0, (2, 0, 0, [3])), (1, (0, 0, 23, [])), (2, (0, 0, 48, []))], [], (0, 0), [(0, 0, 99956), (1, 4, 48), (0, 0, 100000)], [(1, 3, (Int.negSucc 999999999999), 0), (3, 1, (Int.negSucc 999999999999), 0)], [], [(2, 0, 0, [3]), (0, 0, 23, [])], 0, [], [(20, [3, 2], [50, 1, 0, 1000, 2, 6, 0, 2, 0, 0, 1, 0, 0, 6, 4, 2, 1, 0, 0, 1, 2, 1, 0]), (20, [2, 3, 4], [60, 2, 2, 760, 0, 1, 7, 8]), (24, [0, 2], [])])]
def t_Gr_removeNode_ct : ct_L := [(1, 83, e_Gr_relink), (103, 140, e_Gr_removeEdge_at_gn), (414, 77, e_acp_77), (462, 77, e_acp_78), (510, 77, e_acp_79), (558, 77, e_acp_80)]
set_option maxRecDepth 100000 in
theorem c_Gr_removeNode {l : Launch} {D : va_G} {kA : Nat → ClassId} (h_Gr_relink : ct_ok PRD l D kA GG y_Gr_relink z_Gr_relink e_Gr_relink) (h_Gr_removeEdge_at_gn : ct_ok PRD l D kA GG y_Gr_removeEdge_at_gn z_Gr_removeEdge_at_gn e_Gr_removeEdge_at_gn) : ct_ok PRD l D kA GG y_Gr_removeNode z_Gr_removeNode e_Gr_removeNode := chk_all_ok (FT := [(9, 3, 0), (15, 3, 1), (21, 3, 3), (25, 3, 4), (29, 3, 5), (32, 3, 6), (35, 3, 7), (38, 3, 8)]) (PT := [(9, 3, 0, .int)]) (CT := t_Gr_removeNode_ct) (KT := []) (NT := []) (AN := n_Gr_removeNode_an) (OT := [o_Gr_removeNode_0, o_Gr_removeNode_1, o_Gr_removeNode_2, o_Gr_removeNode_3, o_Gr_removeNode_4, o_Gr_removeNode_5, o_Gr_removeNode_6, o_Gr_removeNode_7, o_Gr_removeNode_8, o_Gr_removeNode_9, o_Gr_removeNode_10, o_Gr_removeNode_11, o_Gr_removeNode_12, o_Gr_removeNode_13, o_Gr_removeNode_14, o_Gr_removeNode_15, o_Gr_removeNode_16, o_Gr_removeNode_17, o_Gr_removeNode_18, o_Gr_removeNode_19, o_Gr_removeNode_20, o_Gr_removeNode_21]) 3 644 (List.forall_mem_cons.mpr ⟨oo_Gr_removeNode_0, List.forall_mem_cons.mpr ⟨oo_Gr_removeNode_1, List.forall_mem_cons.mpr ⟨oo_Gr_removeNode_2, List.forall_mem_cons.mpr ⟨oo_Gr_removeNode_3, List.forall_mem_cons.mpr ⟨oo_Gr_removeNode_4, List.forall_mem_cons.mpr ⟨oo_Gr_removeNode_5, List.forall_mem_cons.mpr ⟨oo_Gr_removeNode_6, List.forall_mem_cons.mpr ⟨oo_Gr_removeNode_7, List.forall_mem_cons.mpr ⟨oo_Gr_removeNode_8, List.forall_mem_cons.mpr ⟨oo_Gr_removeNode_9, List.forall_mem_cons.mpr ⟨oo_Gr_removeNode_10, List.forall_mem_cons.mpr ⟨oo_Gr_removeNode_11, List.forall_mem_cons.mpr ⟨oo_Gr_removeNode_12, List.forall_mem_cons.mpr ⟨oo_Gr_removeNode_13, List.forall_mem_cons.mpr ⟨oo_Gr_removeNode_14, List.forall_mem_cons.mpr ⟨oo_Gr_removeNode_15, List.forall_mem_cons.mpr ⟨oo_Gr_removeNode_16, List.forall_mem_cons.mpr ⟨oo_Gr_removeNode_17, List.forall_mem_cons.mpr ⟨oo_Gr_removeNode_18, List.forall_mem_cons.mpr ⟨oo_Gr_removeNode_19, List.forall_mem_cons.mpr ⟨oo_Gr_removeNode_20, List.forall_mem_cons.mpr ⟨oo_Gr_removeNode_21, List.forall_mem_nil _⟩⟩⟩⟩⟩⟩⟩⟩⟩⟩⟩⟩⟩⟩⟩⟩⟩⟩⟩⟩⟩⟩) (by decide +kernel) ⟨List.forall_mem_cons.mpr ⟨gf_Gr_9, List.forall_mem_cons.mpr ⟨gf_Gr_15, List.forall_mem_cons.mpr ⟨gf_Gr_21, List.forall_mem_cons.mpr ⟨gf_Gr_25, List.forall_mem_cons.mpr ⟨gf_Gr_29, List.forall_mem_cons.mpr ⟨gf_Gr_32, List.forall_mem_cons.mpr ⟨gf_Gr_35, List.forall_mem_cons.mpr ⟨gf_Gr_38, List.forall_mem_nil _⟩⟩⟩⟩⟩⟩⟩⟩, List.forall_mem_cons.mpr ⟨pf_Gr_9, List.forall_mem_nil _⟩, List.forall_mem_cons.mpr ⟨cl_virtual (y := y_Gr_relink) (ci := 3) rfl rfl ⟨_, _, rfl⟩ (by decide +kernel) h_Gr_relink wm_785 wm_3 wm_782 wm_784 wv_1_12 ⟨by decide, by decide, by decide +kernel⟩ (by decide), List.forall_mem_cons.mpr ⟨cl_virtual (y := y_Gr_removeEdge_at_gn) (ci := 3) rfl rfl ⟨_, _, rfl⟩ (by decide +kernel) h_Gr_removeEdge_at_gn wm_993 wm_3 wm_990 wm_992 wv_3_1 ⟨by decide, by decide, by decide +kernel⟩ (by decide), List.forall_mem_cons.mpr ⟨cl_copy rfl rfl (by decide) (by decide) (by decide) wm_748 wm_750 wm_749 wm_15, List.forall_mem_cons.mpr ⟨cl_copy rfl rfl (by decide) (by decide) (by decide) wm_748 wm_750 wm_749 wm_15, List.forall_mem_cons.mpr ⟨cl_copy rfl rfl (by decide) (by decide) (by decide) wm_748 wm_750 wm_749 wm_15, List.forall_mem_cons.mpr ⟨cl_copy rfl rfl (by decide) (by decide) (by decide) wm_748 wm_750 wm_749 wm_15, List.forall_mem_nil _⟩⟩⟩⟩⟩⟩, List.forall_mem_nil _, List.forall_mem_nil _, GG_pl⟩ (by decide +kernel)

set_option maxHeartbeats 4000000 in
theorem vc_Gr_step_0_0 (x6 : Int) (tail_0 : Int → Int) (head_0 : Int → Int) (nodes_0 : Int) (edges_0 : Int) (near_0 : Int → Int) (part_0o3 : Int → Int) (turned_0o3 : Int → Int) (near_0o4 : Int → Int) (first_0o4 : Int → Int) (faceOf_0o4 : Int → Int) (known_0o3 : Int) (parts_0o3 : Int) (blocks_0o3 : Int) (planar_0o4 : Int) (barredEdges_0o4 : Int) (nodes_0o4 : Int) (edges_0o4 : Int) (k6 : 0 ≤ x6 ∧ x6 ≤ 0) (f6 : HFN (nodes_0) (edges_0) (known_0o3) (parts_0o3) (blocks_0o3) (planar_0o4) (barredEdges_0o4) (nodes_0o4) (edges_0o4) (near_0) (tail_0) (head_0) (part_0o3) (turned_0o3) (near_0o4) (first_0o4) (faceOf_0o4)) (kz_0_0 : 0 ≤ nodes_0 ∧ nodes_0 ≤ 24) (kz_0_1 : 0 ≤ edges_0 ∧ edges_0 ≤ 48) (kz_3_0 : 0 ≤ known_0o3 ∧ known_0o3 ≤ 1) (kz_3_1 : 0 ≤ parts_0o3 ∧ parts_0o3 ≤ 24) (kz_3_2 : 0 ≤ blocks_0o3 ∧ blocks_0o3 ≤ 48) (kz_4_0 : (-1) ≤ planar_0o4 ∧ planar_0o4 ≤ 1) (kz_4_3 : 0 ≤ barredEdges_0o4 ∧ barredEdges_0o4 ≤ 48) (kz_4_5 : 0 ≤ nodes_0o4 ∧ nodes_0o4 ≤ 24) (kz_4_6 : 0 ≤ edges_0o4 ∧ edges_0o4 ≤ 72) : HFA (nodes_0) (edges_0) (known_0o3) (parts_0o3) (blocks_0o3) (planar_0o4) (barredEdges_0o4) (nodes_0o4) (edges_0o4) (near_0) (tail_0) (head_0) (part_0o3) (turned_0o3) (near_0o4) (first_0o4) (faceOf_0o4) (x6) := by
  first
    | assumption
    | exact fun z => by omega
    | exact fun _ => ‹HFN _ _ _ _ _ _ _ _ _ _ _ _ _ _ _ _ _›
def o_Gr_step_0 : or_T := (8, 7, [(0, (2, 0, 0, [3])), (3, (2, 0, 0, [2])), (4, (2, 0, 0, [5])), (6, (0, 0, 0, []))], [(20, [0, 3, 4], [60, 9, 8, 745, 0, 1, 1000, 1001, 1002, 2000, 2003, 2005, 2006, 14, 7, 8, 1004, 1009, 2009, 2012, 2016])], [], [], [(20, [0, 3, 4, 6], [60, 9, 8, 746, 0, 1, 1000, 1001, 1002, 2000, 2003, 2005, 2006, 14, 7, 8, 1004, 1009, 2009, 2012, 2016])], [], [])
theorem oo_Gr_step_0 {kA : Nat → ClassId} : or_ok PRD kA GG o_Gr_step_0 := by
  refine or_mk fun A ta ws vs hD hth hl => ?_
  intro t0 r0 t3 r3 t4 r4 t6 k6 f6
  have kz_0_0 := fdq_21 hD hth r0
  have kz_0_1 := fdq_30 hD hth r0
  have kz_3_0 := fdq_294 hD hth r3
  have kz_3_1 := fdq_278 hD hth r3
  have kz_3_2 := fdq_295 hD hth r3
  have kz_4_0 := fdq_78 hD hth r4
  have kz_4_3 := fdq_79 hD hth r4
  have kz_4_5 := fdq_82 hD hth r4
  have kz_4_6 := fdq_59 hD hth r4
  have nf0 : fc_1 PRD (20, [0, 3, 4, 6], [60, 9, 8, 746, 0, 1, 1000, 1001, 1002, 2000, 2003, 2005, 2006, 14, 7, 8, 1004, 1009, 2009, 2012, 2016]) ws (vs) := ⟨nf_in hl rfl, sgq_1514 (vc_Gr_step_0_0 (v_iv (n_v vs 6)) (w_ei ws (w_ar ws (n_v vs 0) 7)) (w_ei ws (w_ar ws (n_v vs 0) 8)) (w_fi ws (n_v vs 0) 0) (w_fi ws (n_v vs 0) 1) (w_ei ws (w_ar ws (n_v vs 0) 14)) (w_ei ws (w_ar ws (n_v vs 3) 4)) (w_ei ws (w_ar ws (n_v vs 3) 9)) (w_ei ws (w_ar ws (n_v vs 4) 9)) (w_ei ws (w_ar ws (n_v vs 4) 12)) (w_ei ws (w_ar ws (n_v vs 4) 16)) (w_fi ws (n_v vs 3) 0) (w_fi ws (n_v vs 3) 1) (w_fi ws (n_v vs 3) 2) (w_fi ws (n_v vs 4) 0) (w_fi ws (n_v vs 4) 3) (w_fi ws (n_v vs 4) 5) (w_fi ws (n_v vs 4) 6) k6 (shm_1513 f6) kz_0_0 kz_0_1 kz_3_0 kz_3_1 kz_3_2 kz_4_0 kz_4_3 kz_4_5 kz_4_6)⟩
  refine ⟨(fun _ h => (by cases h)), [], trivial, ?_, (fun _ h => (by cases h))⟩
  rw [List.append_nil]
  exact List.forall_mem_cons.mpr ⟨⟨show (20 : Nat) < 100 from by decide, nf0⟩, (fun _ h => (by cases h))⟩
set_option maxHeartbeats 4000000 in
theorem vc_Gr_step_1_0 (x7 : Int) (tail_0 : Int → Int) (head_0 : Int → Int) (nodes_0 : Int) (edges_0 : Int) (near_0 : Int → Int) (part_0o3 : Int → Int) (turned_0o3 : Int → Int) (near_0o4 : Int → Int) (first_0o4 : Int → Int) (faceOf_0o4 : Int → Int) (known_0o3 : Int) (parts_0o3 : Int) (blocks_0o3 : Int) (planar_0o4 : Int) (barredEdges_0o4 : Int) (nodes_0o4 : Int) (edges_0o4 : Int) (k7 : 0 ≤ x7 ∧ x7 ≤ 0) (f6 : HFN (nodes_0) (edges_0) (known_0o3) (parts_0o3) (blocks_0o3) (planar_0o4) (barredEdges_0o4) (nodes_0o4) (edges_0o4) (near_0) (tail_0) (head_0) (part_0o3) (turned_0o3) (near_0o4) (first_0o4) (faceOf_0o4)) (kz_0_0 : 0 ≤ nodes_0 ∧ nodes_0 ≤ 24) (kz_0_1 : 0 ≤ edges_0 ∧ edges_0 ≤ 48) (kz_3_0 : 0 ≤ known_0o3 ∧ known_0o3 ≤ 1) (kz_3_1 : 0 ≤ parts_0o3 ∧ parts_0o3 ≤ 24) (kz_3_2 : 0 ≤ blocks_0o3 ∧ blocks_0o3 ≤ 48) (kz_4_0 : (-1) ≤ planar_0o4 ∧ planar_0o4 ≤ 1) (kz_4_3 : 0 ≤ barredEdges_0o4 ∧ barredEdges_0o4 ≤ 48) (kz_4_5 : 0 ≤ nodes_0o4 ∧ nodes_0o4 ≤ 24) (kz_4_6 : 0 ≤ edges_0o4 ∧ edges_0o4 ≤ 72) : HFA (nodes_0) (edges_0) (known_0o3) (parts_0o3) (blocks_0o3) (planar_0o4) (barredEdges_0o4) (nodes_0o4) (edges_0o4) (near_0) (tail_0) (head_0) (part_0o3) (turned_0o3) (near_0o4) (first_0o4) (faceOf_0o4) (x7) := by
  first
    | assumption
    | exact fun z => by omega
    | exact fun _ => ‹HFN _ _ _ _ _ _ _ _ _ _ _ _ _ _ _ _ _›
def o_Gr_step_1 : or_T := (79, 8, [(0, (2, 0, 0, [3])), (3, (2, 0, 0, [2])), (4, (2, 0, 0, [5])), (7, (0, 0, 0, []))], [(20, [0, 3, 4], [60, 9, 8, 745, 0, 1, 1000, 1001, 1002, 2000, 2003, 2005, 2006, 14, 7, 8, 1004, 1009, 2009, 2012, 2016])], [], [], [(20, [0, 3, 4, 7], [60, 9, 8, 746, 0, 1, 1000, 1001, 1002, 2000, 2003, 2005, 2006, 14, 7, 8, 1004, 1009, 2009, 2012, 2016])], [], [])
theorem oo_Gr_step_1 {kA : Nat → ClassId} : or_ok PRD kA GG o_Gr_step_1 := by
  refine or_mk fun A ta ws vs hD hth hl => ?_
  intro t0 r0 t3 r3 t4 r4 t7 k7 f6
  have kz_0_0 := fdq_21 hD hth r0
  have kz_0_1 := fdq_30 hD hth r0
  have kz_3_0 := fdq_294 hD hth r3
  have kz_3_1 := fdq_278 hD hth r3
  have kz_3_2 := fdq_295 hD hth r3
  have kz_4_0 := fdq_78 hD hth r4
  have kz_4_3 := fdq_79 hD hth r4
  have kz_4_5 := fdq_82 hD hth r4
  have kz_4_6 := fdq_59 hD hth r4
  have nf0 : fc_1 PRD (20, [0, 3, 4, 7], [60, 9, 8, 746, 0, 1, 1000, 1001, 1002, 2000, 2003, 2005, 2006, 14, 7, 8, 1004, 1009, 2009, 2012, 2016]) ws (vs) := ⟨nf_in hl rfl, sgq_1514 (vc_Gr_step_1_0 (v_iv (n_v vs 7)) (w_ei ws (w_ar ws (n_v vs 0) 7)) (w_ei ws (w_ar ws (n_v vs 0) 8)) (w_fi ws (n_v vs 0) 0) (w_fi ws (n_v vs 0) 1) (w_ei ws (w_ar ws (n_v vs 0) 14)) (w_ei ws (w_ar ws (n_v vs 3) 4)) (w_ei ws (w_ar ws (n_v vs 3) 9)) (w_ei ws (w_ar ws (n_v vs 4) 9)) (w_ei ws (w_ar ws (n_v vs 4) 12)) (w_ei ws (w_ar ws (n_v vs 4) 16)) (w_fi ws (n_v vs 3) 0) (w_fi ws (n_v vs 3) 1) (w_fi ws (n_v vs 3) 2) (w_fi ws (n_v vs 4) 0) (w_fi ws (n_v vs 4) 3) (w_fi ws (n_v vs 4) 5) (w_fi ws (n_v vs 4) 6) k7 (shm_1513 f6) kz_0_0 kz_0_1 kz_3_0 kz_3_1 kz_3_2 kz_4_0 kz_4_3 kz_4_5 kz_4_6)⟩
  refine ⟨(fun _ h => (by cases h)), [], trivial, ?_, (fun _ h => (by cases h))⟩
  rw [List.append_nil]
  exact List.forall_mem_cons.mpr ⟨⟨show (20 : Nat) < 100 from by decide, nf0⟩, (fun _ h => (by cases h))⟩
set_option maxHeartbeats 4000000 in
theorem vc_Gr_step_2_0 (x8 : Int) (tail_0 : Int → Int) (head_0 : Int → Int) (nodes_0 : Int) (edges_0 : Int) (near_0 : Int → Int) (part_0o3 : Int → Int) (turned_0o3 : Int → Int) (near_0o4 : Int → Int) (first_0o4 : Int → Int) (faceOf_0o4 : Int → Int) (known_0o3 : Int) (parts_0o3 : Int) (blocks_0o3 : Int) (planar_0o4 : Int) (barredEdges_0o4 : Int) (nodes_0o4 : Int) (edges_0o4 : Int) (k8 : 0 ≤ x8 ∧ x8 ≤ 0) (f8 : HFN (nodes_0) (edges_0) (known_0o3) (parts_0o3) (blocks_0o3) (planar_0o4) (barredEdges_0o4) (nodes_0o4) (edges_0o4) (near_0) (tail_0) (head_0) (part_0o3) (turned_0o3) (near_0o4) (first_0o4) (faceOf_0o4)) (kz_0_0 : 0 ≤ nodes_0 ∧ nodes_0 ≤ 24) (kz_0_1 : 0 ≤ edges_0 ∧ edges_0 ≤ 48) (kz_3_0 : 0 ≤ known_0o3 ∧ known_0o3 ≤ 1) (kz_3_1 : 0 ≤ parts_0o3 ∧ parts_0o3 ≤ 24) (kz_3_2 : 0 ≤ blocks_0o3 ∧ blocks_0o3 ≤ 48) (kz_4_0 : (-1) ≤ planar_0o4 ∧ planar_0o4 ≤ 1) (kz_4_3 : 0 ≤ barredEdges_0o4 ∧ barredEdges_0o4 ≤ 48) (kz_4_5 : 0 ≤ nodes_0o4 ∧ nodes_0o4 ≤ 24) (kz_4_6 : 0 ≤ edges_0o4 ∧ edges_0o4 ≤ 72) : HFA (nodes_0) (edges_0) (known_0o3) (parts_0o3) (blocks_0o3) (planar_0o4) (barredEdges_0o4) (nodes_0o4) (edges_0o4) (near_0) (tail_0) (head_0) (part_0o3) (turned_0o3) (near_0o4) (first_0o4) (faceOf_0o4) (x8) := by
  first
    | assumption
    | exact fun z => by omega
    | exact fun _ => ‹HFN _ _ _ _ _ _ _ _ _ _ _ _ _ _ _ _ _›
def o_Gr_step_2 : or_T := (79, 9, [(0, (2, 0, 0, [3])), (2, (2, 0, 0, [61])), (3, (2, 0, 0, [2])), (4, (2, 0, 0, [5])), (5, (0, 0, 60, [])), (7, (0, 0, 0, [])), (8, (0, 0, 0, []))], [(8, [7], [5]), (9, [7, 0], [18]), (9, [2, 0], [16]), (20, [0], [50, 2, 0, 17, 18, 0, 8, 4, 3, 2, 0, 17, 2, 0, 18, 0, 30]), (20, [0], [60, 2, 1, 739, 17, 18, 16]), (20, [0], [60, 2, 2, 596, 0, 1, 7, 8]), (20, [0], [60, 2, 3, 670, 0, 1, 14, 7, 8]), (20, [0, 5], [50, 2, 0, 17, 18, 1, 8, 4, 3, 2, 0, 17, 2, 0, 18, 1, 1]), (20, [0, 3, 4], [60, 9, 8, 745, 0, 1, 1000, 1001, 1002, 2000, 2003, 2005, 2006, 14, 7, 8, 1004, 1009, 2009, 2012, 2016])], [], [], [(20, [0, 3, 4, 8], [60, 9, 8, 746, 0, 1, 1000, 1001, 1002, 2000, 2003, 2005, 2006, 14, 7, 8, 1004, 1009, 2009, 2012, 2016])], [], [])
theorem oo_Gr_step_2 {kA : Nat → ClassId} : or_ok PRD kA GG o_Gr_step_2 := by
  refine or_mk fun A ta ws vs hD hth hl => ?_
  intro t0 r0 t2 r2 t3 r3 t4 r4 t5 k5 t7 k7 t8 k8 f0 f1 f2 f3 f4 f5 f6 f7 f8
  have kz_0_0 := fdq_21 hD hth r0
  have kz_0_1 := fdq_30 hD hth r0
  have kz_3_0 := fdq_294 hD hth r3
  have kz_3_1 := fdq_278 hD hth r3
  have kz_3_2 := fdq_295 hD hth r3
  have kz_4_0 := fdq_78 hD hth r4
  have kz_4_3 := fdq_79 hD hth r4
  have kz_4_5 := fdq_82 hD hth r4
  have kz_4_6 := fdq_59 hD hth r4
  have nf0 : fc_1 PRD (20, [0, 3, 4, 8], [60, 9, 8, 746, 0, 1, 1000, 1001, 1002, 2000, 2003, 2005, 2006, 14, 7, 8, 1004, 1009, 2009, 2012, 2016]) ws (vs) := ⟨nf_in hl rfl, sgq_1514 (vc_Gr_step_2_0 (v_iv (n_v vs 8)) (w_ei ws (w_ar ws (n_v vs 0) 7)) (w_ei ws (w_ar ws (n_v vs 0) 8)) (w_fi ws (n_v vs 0) 0) (w_fi ws (n_v vs 0) 1) (w_ei ws (w_ar ws (n_v vs 0) 14)) (w_ei ws (w_ar ws (n_v vs 3) 4)) (w_ei ws (w_ar ws (n_v vs 3) 9)) (w_ei ws (w_ar ws (n_v vs 4) 9)) (w_ei ws (w_ar ws (n_v vs 4) 12)) (w_ei ws (w_ar ws (n_v vs 4) 16)) (w_fi ws (n_v vs 3) 0) (w_fi ws (n_v vs 3) 1) (w_fi ws (n_v vs 3) 2) (w_fi ws (n_v vs 4) 0) (w_fi ws (n_v vs 4) 3) (w_fi ws (n_v vs 4) 5) (w_fi ws (n_v vs 4) 6) k8 (shm_1513 f8) kz_0_0 kz_0_1 kz_3_0 kz_3_1 kz_3_2 kz_4_0 kz_4_3 kz_4_5 kz_4_6)⟩
  refine ⟨(fun _ h => (by cases h)), [], trivial, ?_, (fun _ h => (by cases h))⟩
  rw [List.append_nil]
  exact List.forall_mem_cons.mpr ⟨⟨show (20 : Nat) < 100 from by decide, nf0⟩, (fun _ h => (by cases h))⟩
set_option maxHeartbeats 4000000 in
theorem vc_Gr_step_3_r0 (x5 : Int) (x7 : Int) (x8 : Int) (x10 : Int) (done_0 : Int) (undone_0 : Int) (k5 : 0 ≤ x5 ∧ x5 ≤ 60) (k7 : 1 ≤ x7 ∧ x7 ≤ 30) (k8 : 0 ≤ x8 ∧ x8 ≤ 30) (k10 : 1 ≤ x10 ∧ x10 ≤ 31) (d0 : x8 + 1 ≤ x10 ∧ x10 ≤ x8 + 1) (g1 : x8 = done_0) (g3 : x7 = undone_0) (f5 : (done_0 + undone_0) ≤ 30) (f9 : (done_0 + undone_0) = x5) (kz_0_17 : 0 ≤ done_0 ∧ done_0 ≤ 30) (kz_0_18 : 0 ≤ undone_0 ∧ undone_0 ≤ 30) : 1 ≤ x10 ∧ x10 ≤ 30 := by
  first
    | omega
  
def o_Gr_step_3 : or_T := (62, 11, [(0, (2, 0, 0, [3])), (2, (2, 0, 0, [61])), (3, (2, 0, 0, [2])), (4, (2, 0, 0, [5])), (5, (0, 0, 60, [])), (7, (0, 1, 30, [])), (8, (0, 0, 30, [])), (9, (0, 1, 1, [])), (10, (0, 1, 31, []))], [(1, [10, 8, 9], []), (9, [8, 0], [17]), (8, [7], [4]), (9, [7, 0], [18]), (9, [2, 0], [16]), (20, [0], [50, 2, 0, 17, 18, 0, 8, 4, 3, 2, 0, 17, 2, 0, 18, 0, 30]), (20, [0], [60, 2, 1, 739, 17, 18, 16]), (20, [0], [60, 2, 2, 596, 0, 1, 7, 8]), (20, [0], [60, 2, 3, 670, 0, 1, 14, 7, 8]), (20, [0, 5], [50, 2, 0, 17, 18, 1, 8, 4, 3, 2, 0, 17, 2, 0, 18, 1, 1]), (20, [0, 3, 4], [60, 9, 8, 745, 0, 1, 1000, 1001, 1002, 2000, 2003, 2005, 2006, 14, 7, 8, 1004, 1009, 2009, 2012, 2016])], [(10, (0, 1, 30, []))], [], [], [], [(10, 8, 1, 1)])
theorem oo_Gr_step_3 {kA : Nat → ClassId} : or_ok PRD kA GG o_Gr_step_3 := by
  refine or_mk fun A ta ws vs hD hth hl => ?_
  intro t0 r0 t2 r2 t3 r3 t4 r4 t5 k5 t7 k7 t8 k8 t9 k9 t10 k10 d0 f0 f1 f2 f3 f4 f5 f6 f7 f8 f9 f10
  replace f1 := shm_795 f1
  replace f3 := shm_799 f3
  have g1 : v_iv (n_v vs 8) = w_fi ws (n_v vs 0) 17 := congrArg v_iv f1
  have g3 : v_iv (n_v vs 7) = w_fi ws (n_v vs 0) 18 := congrArg v_iv f3
  have kz_0_17 := fdq_288 hD hth r0
  have kz_0_18 := fdq_289 hD hth r0
  have hrf0 : 1 ≤ v_iv (n_v vs 10) ∧ v_iv (n_v vs 10) ≤ 30 := vc_Gr_step_3_r0 (v_iv (n_v vs 5)) (v_iv (n_v vs 7)) (v_iv (n_v vs 8)) (v_iv (n_v vs 10)) (w_fi ws (n_v vs 0) 17) (w_fi ws (n_v vs 0) 18) k5 k7 k8 k10 d0 g1 g3 (shm_1511 f5) (shm_1512 f9) kz_0_17 kz_0_18
  have rf10 : tv_ok ta (0, 1, 30, []) (n_v vs 10) := tv_in t10 (by first | omega | grind) (by first | omega | grind)
  refine ⟨List.forall_mem_cons.mpr ⟨rf10, (fun _ h => (by cases h))⟩, [], trivial, ?_, (fun _ h => (by cases h))⟩
  rw [List.append_nil]
  exact (fun _ h => (by cases h))
set_option maxHeartbeats 4000000 in
theorem vc_Gr_step_4_0 (x5 : Int) (x7 : Int) (x8 : Int) (x10 : Int) (x12 : Int) (undone_0 : Int) (done_0 : Int) (tail_0 : Int → Int) (head_0 : Int → Int) (nodes_0 : Int) (edges_0 : Int) (near_0 : Int → Int) (part_0o3 : Int → Int) (turned_0o3 : Int → Int) (near_0o4 : Int → Int) (first_0o4 : Int → Int) (faceOf_0o4 : Int → Int) (known_0o3 : Int) (parts_0o3 : Int) (blocks_0o3 : Int) (planar_0o4 : Int) (barredEdges_0o4 : Int) (nodes_0o4 : Int) (edges_0o4 : Int) (undone_1 : Int) (tail_1 : Int → Int) (head_1 : Int → Int) (nodes_1 : Int) (edges_1 : Int) (near_1 : Int → Int) (part_1o3 : Int → Int) (turned_1o3 : Int → Int) (near_1o4 : Int → Int) (first_1o4 : Int → Int) (faceOf_1o4 : Int → Int) (known_1o3 : Int) (parts_1o3 : Int) (blocks_1o3 : Int) (planar_1o4 : Int) (barredEdges_1o4 : Int) (nodes_1o4 : Int) (edges_1o4 : Int) (done_2 : Int) (undone_2 : Int) (past_2 : Int → Int) (tail_2 : Int → Int) (head_2 : Int → Int) (nodes_2 : Int) (edges_2 : Int) (near_2 : Int → Int) (part_2o3 : Int → Int) (turned_2o3 : Int → Int) (near_2o4 : Int → Int) (first_2o4 : Int → Int) (faceOf_2o4 : Int → Int) (known_2o3 : Int) (parts_2o3 : Int) (blocks_2o3 : Int) (planar_2o4 : Int) (barredEdges_2o4 : Int) (nodes_2o4 : Int) (edges_2o4 : Int) (done_1 : Int) (past_0 : Int → Int) (past_1 : Int → Int) (k5 : 0 ≤ x5 ∧ x5 ≤ 60) (k7 : 1 ≤ x7 ∧ x7 ≤ 30) (k8 : 0 ≤ x8 ∧ x8 ≤ 30) (k10 : 1 ≤ x10 ∧ x10 ≤ 30) (k12 : 0 ≤ x12 ∧ x12 ≤ 29) (d0 : x7 + (-1) ≤ x12 ∧ x12 ≤ x7 + (-1)) (d1 : x8 + 1 ≤ x10 ∧ x10 ≤ x8 + 1) (g0 : x12 = undone_0) (g1 : x10 = done_0) (g8 : x7 = undone_1) (g14 : x8 = done_2) (f16 : (done_2 + undone_2) ≤ 30) (f20 : (done_2 + undone_2) = x5) (fe_0_0_1 : nodes_0 = nodes_1) (fe_0_1_1 : edges_0 = edges_1) (fe_0_17_1 : done_0 = done_1) (fe_3_0_1 : known_0o3 = known_1o3) (fe_3_1_1 : parts_0o3 = parts_1o3) (fe_3_2_1 : blocks_0o3 = blocks_1o3) (fe_4_0_1 : planar_0o4 = planar_1o4) (fe_4_3_1 : barredEdges_0o4 = barredEdges_1o4) (fe_4_5_1 : nodes_0o4 = nodes_1o4) (fe_4_6_1 : edges_0o4 = edges_1o4) (fe_0_0_2 : nodes_1 = nodes_2) (fe_0_1_2 : edges_1 = edges_2) (fe_0_18_2 : undone_1 = undone_2) (fe_3_0_2 : known_1o3 = known_2o3) (fe_3_1_2 : parts_1o3 = parts_2o3) (fe_3_2_2 : blocks_1o3 = blocks_2o3) (fe_4_0_2 : planar_1o4 = planar_2o4) (fe_4_3_2 : barredEdges_1o4 = barredEdges_2o4) (fe_4_5_2 : nodes_1o4 = nodes_2o4) (fe_4_6_2 : edges_1o4 = edges_2o4) (hE_0_7_1 : ∀ j : Int, tail_0 j = tail_1 j) (hE_0_7_2 : ∀ j : Int, tail_1 j = tail_2 j) (hE_0_8_1 : ∀ j : Int, head_0 j = head_1 j) (hE_0_8_2 : ∀ j : Int, head_1 j = head_2 j) (hE_0_14_1 : ∀ j : Int, near_0 j = near_1 j) (hE_0_14_2 : ∀ j : Int, near_1 j = near_2 j) (hE_0_16_1 : ∀ j : Int, past_0 j = past_1 j) (hE_0_16_2 : ∀ j : Int, past_1 j = past_2 j) (hE_3_4_1 : ∀ j : Int, part_0o3 j = part_1o3 j) (hE_3_4_2 : ∀ j : Int, part_1o3 j = part_2o3 j) (hE_3_9_1 : ∀ j : Int, turned_0o3 j = turned_1o3 j) (hE_3_9_2 : ∀ j : Int, turned_1o3 j = turned_2o3 j) (hE_4_9_1 : ∀ j : Int, near_0o4 j = near_1o4 j) (hE_4_9_2 : ∀ j : Int, near_1o4 j = near_2o4 j) (hE_4_12_1 : ∀ j : Int, first_0o4 j = first_1o4 j) (hE_4_12_2 : ∀ j : Int, first_1o4 j = first_2o4 j) (hE_4_16_1 : ∀ j : Int, faceOf_0o4 j = faceOf_1o4 j) (hE_4_16_2 : ∀ j : Int, faceOf_1o4 j = faceOf_2o4 j) (kz_0_0 : 0 ≤ nodes_0 ∧ nodes_0 ≤ 24) (kz_0_1 : 0 ≤ edges_0 ∧ edges_0 ≤ 48) (kz_0_17 : 0 ≤ done_0 ∧ done_0 ≤ 30) (kz_0_18 : 0 ≤ undone_0 ∧ undone_0 ≤ 30) (kz_3_0 : 0 ≤ known_0o3 ∧ known_0o3 ≤ 1) (kz_3_1 : 0 ≤ parts_0o3 ∧ parts_0o3 ≤ 24) (kz_3_2 : 0 ≤ blocks_0o3 ∧ blocks_0o3 ≤ 48) (kz_4_0 : (-1) ≤ planar_0o4 ∧ planar_0o4 ≤ 1) (kz_4_3 : 0 ≤ barredEdges_0o4 ∧ barredEdges_0o4 ≤ 48) (kz_4_5 : 0 ≤ nodes_0o4 ∧ nodes_0o4 ≤ 24) (kz_4_6 : 0 ≤ edges_0o4 ∧ edges_0o4 ≤ 72) : (done_0 + undone_0) ≤ 30 := by
  subst fe_0_0_1
  subst fe_0_1_1
  subst fe_0_17_1
  subst fe_3_0_1
  subst fe_3_1_1
  subst fe_3_2_1
  subst fe_4_0_1
  subst fe_4_3_1
  subst fe_4_5_1
  subst fe_4_6_1
  subst fe_0_0_2
  subst fe_0_1_2
  subst fe_0_18_2
  subst fe_3_0_2
  subst fe_3_1_2
  subst fe_3_2_2
  subst fe_4_0_2
  subst fe_4_3_2
  subst fe_4_5_2
  subst fe_4_6_2
  have e_hE_0_7_1 := funext hE_0_7_1; subst e_hE_0_7_1
  have e_hE_0_7_2 := funext hE_0_7_2; subst e_hE_0_7_2
  have e_hE_0_8_1 := funext hE_0_8_1; subst e_hE_0_8_1
  have e_hE_0_8_2 := funext hE_0_8_2; subst e_hE_0_8_2
  have e_hE_0_14_1 := funext hE_0_14_1; subst e_hE_0_14_1
  have e_hE_0_14_2 := funext hE_0_14_2; subst e_hE_0_14_2
  have e_hE_0_16_1 := funext hE_0_16_1; subst e_hE_0_16_1
  have e_hE_0_16_2 := funext hE_0_16_2; subst e_hE_0_16_2
  have e_hE_3_4_1 := funext hE_3_4_1; subst e_hE_3_4_1
  have e_hE_3_4_2 := funext hE_3_4_2; subst e_hE_3_4_2
  have e_hE_3_9_1 := funext hE_3_9_1; subst e_hE_3_9_1
  have e_hE_3_9_2 := funext hE_3_9_2; subst e_hE_3_9_2
  have e_hE_4_9_1 := funext hE_4_9_1; subst e_hE_4_9_1
  have e_hE_4_9_2 := funext hE_4_9_2; subst e_hE_4_9_2
  have e_hE_4_12_1 := funext hE_4_12_1; subst e_hE_4_12_1
  have e_hE_4_12_2 := funext hE_4_12_2; subst e_hE_4_12_2
  have e_hE_4_16_1 := funext hE_4_16_1; subst e_hE_4_16_1
  have e_hE_4_16_2 := funext hE_4_16_2; subst e_hE_4_16_2
  first
    | omega
  
set_option maxHeartbeats 4000000 in
theorem vc_Gr_step_4_1 (x7 : Int) (x8 : Int) (x10 : Int) (x12 : Int) (undone_0 : Int) (done_0 : Int) (tail_0 : Int → Int) (head_0 : Int → Int) (nodes_0 : Int) (edges_0 : Int) (near_0 : Int → Int) (part_0o3 : Int → Int) (turned_0o3 : Int → Int) (near_0o4 : Int → Int) (first_0o4 : Int → Int) (faceOf_0o4 : Int → Int) (known_0o3 : Int) (parts_0o3 : Int) (blocks_0o3 : Int) (planar_0o4 : Int) (barredEdges_0o4 : Int) (nodes_0o4 : Int) (edges_0o4 : Int) (undone_1 : Int) (tail_1 : Int → Int) (head_1 : Int → Int) (nodes_1 : Int) (edges_1 : Int) (near_1 : Int → Int) (part_1o3 : Int → Int) (turned_1o3 : Int → Int) (near_1o4 : Int → Int) (first_1o4 : Int → Int) (faceOf_1o4 : Int → Int) (known_1o3 : Int) (parts_1o3 : Int) (blocks_1o3 : Int) (planar_1o4 : Int) (barredEdges_1o4 : Int) (nodes_1o4 : Int) (edges_1o4 : Int) (done_2 : Int) (undone_2 : Int) (past_2 : Int → Int) (tail_2 : Int → Int) (head_2 : Int → Int) (nodes_2 : Int) (edges_2 : Int) (near_2 : Int → Int) (part_2o3 : Int → Int) (turned_2o3 : Int → Int) (near_2o4 : Int → Int) (first_2o4 : Int → Int) (faceOf_2o4 : Int → Int) (known_2o3 : Int) (parts_2o3 : Int) (blocks_2o3 : Int) (planar_2o4 : Int) (barredEdges_2o4 : Int) (nodes_2o4 : Int) (edges_2o4 : Int) (done_1 : Int) (past_0 : Int → Int) (past_1 : Int → Int) (k7 : 1 ≤ x7 ∧ x7 ≤ 30) (k8 : 0 ≤ x8 ∧ x8 ≤ 30) (k10 : 1 ≤ x10 ∧ x10 ≤ 30) (k12 : 0 ≤ x12 ∧ x12 ≤ 29) (d0 : x7 + (-1) ≤ x12 ∧ x12 ≤ x7 + (-1)) (d1 : x8 + 1 ≤ x10 ∧ x10 ≤ x8 + 1) (g0 : x12 = undone_0) (g1 : x10 = done_0) (g8 : x7 = undone_1) (g14 : x8 = done_2) (f17 : PDQ (done_2) (undone_2) (past_2)) (fe_0_0_1 : nodes_0 = nodes_1) (fe_0_1_1 : edges_0 = edges_1) (fe_0_17_1 : done_0 = done_1) (fe_3_0_1 : known_0o3 = known_1o3) (fe_3_1_1 : parts_0o3 = parts_1o3) (fe_3_2_1 : blocks_0o3 = blocks_1o3) (fe_4_0_1 : planar_0o4 = planar_1o4) (fe_4_3_1 : barredEdges_0o4 = barredEdges_1o4) (fe_4_5_1 : nodes_0o4 = nodes_1o4) (fe_4_6_1 : edges_0o4 = edges_1o4) (fe_0_0_2 : nodes_1 = nodes_2) (fe_0_1_2 : edges_1 = edges_2) (fe_0_18_2 : undone_1 = undone_2) (fe_3_0_2 : known_1o3 = known_2o3) (fe_3_1_2 : parts_1o3 = parts_2o3) (fe_3_2_2 : blocks_1o3 = blocks_2o3) (fe_4_0_2 : planar_1o4 = planar_2o4) (fe_4_3_2 : barredEdges_1o4 = barredEdges_2o4) (fe_4_5_2 : nodes_1o4 = nodes_2o4) (fe_4_6_2 : edges_1o4 = edges_2o4) (hE_0_7_1 : ∀ j : Int, tail_0 j = tail_1 j) (hE_0_7_2 : ∀ j : Int, tail_1 j = tail_2 j) (hE_0_8_1 : ∀ j : Int, head_0 j = head_1 j) (hE_0_8_2 : ∀ j : Int, head_1 j = head_2 j) (hE_0_14_1 : ∀ j : Int, near_0 j = near_1 j) (hE_0_14_2 : ∀ j : Int, near_1 j = near_2 j) (hE_0_16_1 : ∀ j : Int, past_0 j = past_1 j) (hE_0_16_2 : ∀ j : Int, past_1 j = past_2 j) (hE_3_4_1 : ∀ j : Int, part_0o3 j = part_1o3 j) (hE_3_4_2 : ∀ j : Int, part_1o3 j = part_2o3 j) (hE_3_9_1 : ∀ j : Int, turned_0o3 j = turned_1o3 j) (hE_3_9_2 : ∀ j : Int, turned_1o3 j = turned_2o3 j) (hE_4_9_1 : ∀ j : Int, near_0o4 j = near_1o4 j) (hE_4_9_2 : ∀ j : Int, near_1o4 j = near_2o4 j) (hE_4_12_1 : ∀ j : Int, first_0o4 j = first_1o4 j) (hE_4_12_2 : ∀ j : Int, first_1o4 j = first_2o4 j) (hE_4_16_1 : ∀ j : Int, faceOf_0o4 j = faceOf_1o4 j) (hE_4_16_2 : ∀ j : Int, faceOf_1o4 j = faceOf_2o4 j) (kz_0_0 : 0 ≤ nodes_0 ∧ nodes_0 ≤ 24) (kz_0_1 : 0 ≤ edges_0 ∧ edges_0 ≤ 48) (kz_0_17 : 0 ≤ done_0 ∧ done_0 ≤ 30) (kz_0_18 : 0 ≤ undone_0 ∧ undone_0 ≤ 30) (kz_3_0 : 0 ≤ known_0o3 ∧ known_0o3 ≤ 1) (kz_3_1 : 0 ≤ parts_0o3 ∧ parts_0o3 ≤ 24) (kz_3_2 : 0 ≤ blocks_0o3 ∧ blocks_0o3 ≤ 48) (kz_4_0 : (-1) ≤ planar_0o4 ∧ planar_0o4 ≤ 1) (kz_4_3 : 0 ≤ barredEdges_0o4 ∧ barredEdges_0o4 ≤ 48) (kz_4_5 : 0 ≤ nodes_0o4 ∧ nodes_0o4 ≤ 24) (kz_4_6 : 0 ≤ edges_0o4 ∧ edges_0o4 ≤ 72) : PDQ (done_0) (undone_0) (past_0) := by
  subst fe_0_0_1
  subst fe_0_1_1
  subst fe_0_17_1
  subst fe_3_0_1
  subst fe_3_1_1
  subst fe_3_2_1
  subst fe_4_0_1
  subst fe_4_3_1
  subst fe_4_5_1
  subst fe_4_6_1
  subst fe_0_0_2
  subst fe_0_1_2
  subst fe_0_18_2
  subst fe_3_0_2
  subst fe_3_1_2
  subst fe_3_2_2
  subst fe_4_0_2
  subst fe_4_3_2
  subst fe_4_5_2
  subst fe_4_6_2
  have e_hE_0_7_1 := funext hE_0_7_1; subst e_hE_0_7_1
  have e_hE_0_7_2 := funext hE_0_7_2; subst e_hE_0_7_2
  have e_hE_0_8_1 := funext hE_0_8_1; subst e_hE_0_8_1
  have e_hE_0_8_2 := funext hE_0_8_2; subst e_hE_0_8_2
  have e_hE_0_14_1 := funext hE_0_14_1; subst e_hE_0_14_1
  have e_hE_0_14_2 := funext hE_0_14_2; subst e_hE_0_14_2
  have e_hE_0_16_1 := funext hE_0_16_1; subst e_hE_0_16_1
  have e_hE_0_16_2 := funext hE_0_16_2; subst e_hE_0_16_2
  have e_hE_3_4_1 := funext hE_3_4_1; subst e_hE_3_4_1
  have e_hE_3_4_2 := funext hE_3_4_2; subst e_hE_3_4_2
  have e_hE_3_9_1 := funext hE_3_9_1; subst e_hE_3_9_1
  have e_hE_3_9_2 := funext hE_3_9_2; subst e_hE_3_9_2
  have e_hE_4_9_1 := funext hE_4_9_1; subst e_hE_4_9_1
  have e_hE_4_9_2 := funext hE_4_9_2; subst e_hE_4_9_2
  have e_hE_4_12_1 := funext hE_4_12_1; subst e_hE_4_12_1
  have e_hE_4_12_2 := funext hE_4_12_2; subst e_hE_4_12_2
  have e_hE_4_16_1 := funext hE_4_16_1; subst e_hE_4_16_1
  have e_hE_4_16_2 := funext hE_4_16_2; subst e_hE_4_16_2
  first
    | exact pdq_move ‹PDQ _ _ _› (by omega)
set_option maxHeartbeats 4000000 in
theorem vc_Gr_step_4_2 (x5 : Int) (x7 : Int) (x8 : Int) (x10 : Int) (x12 : Int) (undone_0 : Int) (done_0 : Int) (tail_0 : Int → Int) (head_0 : Int → Int) (nodes_0 : Int) (edges_0 : Int) (near_0 : Int → Int) (part_0o3 : Int → Int) (turned_0o3 : Int → Int) (near_0o4 : Int → Int) (first_0o4 : Int → Int) (faceOf_0o4 : Int → Int) (known_0o3 : Int) (parts_0o3 : Int) (blocks_0o3 : Int) (planar_0o4 : Int) (barredEdges_0o4 : Int) (nodes_0o4 : Int) (edges_0o4 : Int) (undone_1 : Int) (tail_1 : Int → Int) (head_1 : Int → Int) (nodes_1 : Int) (edges_1 : Int) (near_1 : Int → Int) (part_1o3 : Int → Int) (turned_1o3 : Int → Int) (near_1o4 : Int → Int) (first_1o4 : Int → Int) (faceOf_1o4 : Int → Int) (known_1o3 : Int) (parts_1o3 : Int) (blocks_1o3 : Int) (planar_1o4 : Int) (barredEdges_1o4 : Int) (nodes_1o4 : Int) (edges_1o4 : Int) (done_2 : Int) (undone_2 : Int) (past_2 : Int → Int) (tail_2 : Int → Int) (head_2 : Int → Int) (nodes_2 : Int) (edges_2 : Int) (near_2 : Int → Int) (part_2o3 : Int → Int) (turned_2o3 : Int → Int) (near_2o4 : Int → Int) (first_2o4 : Int → Int) (faceOf_2o4 : Int → Int) (known_2o3 : Int) (parts_2o3 : Int) (blocks_2o3 : Int) (planar_2o4 : Int) (barredEdges_2o4 : Int) (nodes_2o4 : Int) (edges_2o4 : Int) (done_1 : Int) (past_0 : Int → Int) (past_1 : Int → Int) (k5 : 0 ≤ x5 ∧ x5 ≤ 60) (k7 : 1 ≤ x7 ∧ x7 ≤ 30) (k8 : 0 ≤ x8 ∧ x8 ≤ 30) (k10 : 1 ≤ x10 ∧ x10 ≤ 30) (k12 : 0 ≤ x12 ∧ x12 ≤ 29) (d0 : x7 + (-1) ≤ x12 ∧ x12 ≤ x7 + (-1)) (d1 : x8 + 1 ≤ x10 ∧ x10 ≤ x8 + 1) (g0 : x12 = undone_0) (g1 : x10 = done_0) (g8 : x7 = undone_1) (g14 : x8 = done_2) (f16 : (done_2 + undone_2) ≤ 30) (f20 : (done_2 + undone_2) = x5) (fe_0_0_1 : nodes_0 = nodes_1) (fe_0_1_1 : edges_0 = edges_1) (fe_0_17_1 : done_0 = done_1) (fe_3_0_1 : known_0o3 = known_1o3) (fe_3_1_1 : parts_0o3 = parts_1o3) (fe_3_2_1 : blocks_0o3 = blocks_1o3) (fe_4_0_1 : planar_0o4 = planar_1o4) (fe_4_3_1 : barredEdges_0o4 = barredEdges_1o4) (fe_4_5_1 : nodes_0o4 = nodes_1o4) (fe_4_6_1 : edges_0o4 = edges_1o4) (fe_0_0_2 : nodes_1 = nodes_2) (fe_0_1_2 : edges_1 = edges_2) (fe_0_18_2 : undone_1 = undone_2) (fe_3_0_2 : known_1o3 = known_2o3) (fe_3_1_2 : parts_1o3 = parts_2o3) (fe_3_2_2 : blocks_1o3 = blocks_2o3) (fe_4_0_2 : planar_1o4 = planar_2o4) (fe_4_3_2 : barredEdges_1o4 = barredEdges_2o4) (fe_4_5_2 : nodes_1o4 = nodes_2o4) (fe_4_6_2 : edges_1o4 = edges_2o4) (hE_0_7_1 : ∀ j : Int, tail_0 j = tail_1 j) (hE_0_7_2 : ∀ j : Int, tail_1 j = tail_2 j) (hE_0_8_1 : ∀ j : Int, head_0 j = head_1 j) (hE_0_8_2 : ∀ j : Int, head_1 j = head_2 j) (hE_0_14_1 : ∀ j : Int, near_0 j = near_1 j) (hE_0_14_2 : ∀ j : Int, near_1 j = near_2 j) (hE_0_16_1 : ∀ j : Int, past_0 j = past_1 j) (hE_0_16_2 : ∀ j : Int, past_1 j = past_2 j) (hE_3_4_1 : ∀ j : Int, part_0o3 j = part_1o3 j) (hE_3_4_2 : ∀ j : Int, part_1o3 j = part_2o3 j) (hE_3_9_1 : ∀ j : Int, turned_0o3 j = turned_1o3 j) (hE_3_9_2 : ∀ j : Int, turned_1o3 j = turned_2o3 j) (hE_4_9_1 : ∀ j : Int, near_0o4 j = near_1o4 j) (hE_4_9_2 : ∀ j : Int, near_1o4 j = near_2o4 j) (hE_4_12_1 : ∀ j : Int, first_0o4 j = first_1o4 j) (hE_4_12_2 : ∀ j : Int, first_1o4 j = first_2o4 j) (hE_4_16_1 : ∀ j : Int, faceOf_0o4 j = faceOf_1o4 j) (hE_4_16_2 : ∀ j : Int, faceOf_1o4 j = faceOf_2o4 j) (kz_0_0 : 0 ≤ nodes_0 ∧ nodes_0 ≤ 24) (kz_0_1 : 0 ≤ edges_0 ∧ edges_0 ≤ 48) (kz_0_17 : 0 ≤ done_0 ∧ done_0 ≤ 30) (kz_0_18 : 0 ≤ undone_0 ∧ undone_0 ≤ 30) (kz_3_0 : 0 ≤ known_0o3 ∧ known_0o3 ≤ 1) (kz_3_1 : 0 ≤ parts_0o3 ∧ parts_0o3 ≤ 24) (kz_3_2 : 0 ≤ blocks_0o3 ∧ blocks_0o3 ≤ 48) (kz_4_0 : (-1) ≤ planar_0o4 ∧ planar_0o4 ≤ 1) (kz_4_3 : 0 ≤ barredEdges_0o4 ∧ barredEdges_0o4 ≤ 48) (kz_4_5 : 0 ≤ nodes_0o4 ∧ nodes_0o4 ≤ 24) (kz_4_6 : 0 ≤ edges_0o4 ∧ edges_0o4 ≤ 72) : 1 ≤ (done_0 + undone_0) := by
  subst fe_0_0_1
  subst fe_0_1_1
  subst fe_0_17_1
  subst fe_3_0_1
  subst fe_3_1_1
  subst fe_3_2_1
  subst fe_4_0_1
  subst fe_4_3_1
  subst fe_4_5_1
  subst fe_4_6_1
  subst fe_0_0_2
  subst fe_0_1_2
  subst fe_0_18_2
  subst fe_3_0_2
  subst fe_3_1_2
  subst fe_3_2_2
  subst fe_4_0_2
  subst fe_4_3_2
  subst fe_4_5_2
  subst fe_4_6_2
  have e_hE_0_7_1 := funext hE_0_7_1; subst e_hE_0_7_1
  have e_hE_0_7_2 := funext hE_0_7_2; subst e_hE_0_7_2
  have e_hE_0_8_1 := funext hE_0_8_1; subst e_hE_0_8_1
  have e_hE_0_8_2 := funext hE_0_8_2; subst e_hE_0_8_2
  have e_hE_0_14_1 := funext hE_0_14_1; subst e_hE_0_14_1
  have e_hE_0_14_2 := funext hE_0_14_2; subst e_hE_0_14_2
  have e_hE_0_16_1 := funext hE_0_16_1; subst e_hE_0_16_1
  have e_hE_0_16_2 := funext hE_0_16_2; subst e_hE_0_16_2
  have e_hE_3_4_1 := funext hE_3_4_1; subst e_hE_3_4_1
  have e_hE_3_4_2 := funext hE_3_4_2; subst e_hE_3_4_2
  have e_hE_3_9_1 := funext hE_3_9_1; subst e_hE_3_9_1
  have e_hE_3_9_2 := funext hE_3_9_2; subst e_hE_3_9_2
  have e_hE_4_9_1 := funext hE_4_9_1; subst e_hE_4_9_1
  have e_hE_4_9_2 := funext hE_4_9_2; subst e_hE_4_9_2
  have e_hE_4_12_1 := funext hE_4_12_1; subst e_hE_4_12_1
  have e_hE_4_12_2 := funext hE_4_12_2; subst e_hE_4_12_2
  have e_hE_4_16_1 := funext hE_4_16_1; subst e_hE_4_16_1
  have e_hE_4_16_2 := funext hE_4_16_2; subst e_hE_4_16_2
  first
    | omega
  
set_option maxHeartbeats 4000000 in
theorem vc_Gr_step_4_3 (x5 : Int) (x7 : Int) (x8 : Int) (x10 : Int) (x12 : Int) (undone_0 : Int) (done_0 : Int) (tail_0 : Int → Int) (head_0 : Int → Int) (nodes_0 : Int) (edges_0 : Int) (near_0 : Int → Int) (part_0o3 : Int → Int) (turned_0o3 : Int → Int) (near_0o4 : Int → Int) (first_0o4 : Int → Int) (faceOf_0o4 : Int → Int) (known_0o3 : Int) (parts_0o3 : Int) (blocks_0o3 : Int) (planar_0o4 : Int) (barredEdges_0o4 : Int) (nodes_0o4 : Int) (edges_0o4 : Int) (undone_1 : Int) (tail_1 : Int → Int) (head_1 : Int → Int) (nodes_1 : Int) (edges_1 : Int) (near_1 : Int → Int) (part_1o3 : Int → Int) (turned_1o3 : Int → Int) (near_1o4 : Int → Int) (first_1o4 : Int → Int) (faceOf_1o4 : Int → Int) (known_1o3 : Int) (parts_1o3 : Int) (blocks_1o3 : Int) (planar_1o4 : Int) (barredEdges_1o4 : Int) (nodes_1o4 : Int) (edges_1o4 : Int) (done_2 : Int) (undone_2 : Int) (past_2 : Int → Int) (tail_2 : Int → Int) (head_2 : Int → Int) (nodes_2 : Int) (edges_2 : Int) (near_2 : Int → Int) (part_2o3 : Int → Int) (turned_2o3 : Int → Int) (near_2o4 : Int → Int) (first_2o4 : Int → Int) (faceOf_2o4 : Int → Int) (known_2o3 : Int) (parts_2o3 : Int) (blocks_2o3 : Int) (planar_2o4 : Int) (barredEdges_2o4 : Int) (nodes_2o4 : Int) (edges_2o4 : Int) (done_1 : Int) (past_0 : Int → Int) (past_1 : Int → Int) (k5 : 0 ≤ x5 ∧ x5 ≤ 60) (k7 : 1 ≤ x7 ∧ x7 ≤ 30) (k8 : 0 ≤ x8 ∧ x8 ≤ 30) (k10 : 1 ≤ x10 ∧ x10 ≤ 30) (k12 : 0 ≤ x12 ∧ x12 ≤ 29) (d0 : x7 + (-1) ≤ x12 ∧ x12 ≤ x7 + (-1)) (d1 : x8 + 1 ≤ x10 ∧ x10 ≤ x8 + 1) (g0 : x12 = undone_0) (g1 : x10 = done_0) (g8 : x7 = undone_1) (g14 : x8 = done_2) (f20 : (done_2 + undone_2) = x5) (fe_0_0_1 : nodes_0 = nodes_1) (fe_0_1_1 : edges_0 = edges_1) (fe_0_17_1 : done_0 = done_1) (fe_3_0_1 : known_0o3 = known_1o3) (fe_3_1_1 : parts_0o3 = parts_1o3) (fe_3_2_1 : blocks_0o3 = blocks_1o3) (fe_4_0_1 : planar_0o4 = planar_1o4) (fe_4_3_1 : barredEdges_0o4 = barredEdges_1o4) (fe_4_5_1 : nodes_0o4 = nodes_1o4) (fe_4_6_1 : edges_0o4 = edges_1o4) (fe_0_0_2 : nodes_1 = nodes_2) (fe_0_1_2 : edges_1 = edges_2) (fe_0_18_2 : undone_1 = undone_2) (fe_3_0_2 : known_1o3 = known_2o3) (fe_3_1_2 : parts_1o3 = parts_2o3) (fe_3_2_2 : blocks_1o3 = blocks_2o3) (fe_4_0_2 : planar_1o4 = planar_2o4) (fe_4_3_2 : barredEdges_1o4 = barredEdges_2o4) (fe_4_5_2 : nodes_1o4 = nodes_2o4) (fe_4_6_2 : edges_1o4 = edges_2o4) (hE_0_7_1 : ∀ j : Int, tail_0 j = tail_1 j) (hE_0_7_2 : ∀ j : Int, tail_1 j = tail_2 j) (hE_0_8_1 : ∀ j : Int, head_0 j = head_1 j) (hE_0_8_2 : ∀ j : Int, head_1 j = head_2 j) (hE_0_14_1 : ∀ j : Int, near_0 j = near_1 j) (hE_0_14_2 : ∀ j : Int, near_1 j = near_2 j) (hE_0_16_1 : ∀ j : Int, past_0 j = past_1 j) (hE_0_16_2 : ∀ j : Int, past_1 j = past_2 j) (hE_3_4_1 : ∀ j : Int, part_0o3 j = part_1o3 j) (hE_3_4_2 : ∀ j : Int, part_1o3 j = part_2o3 j) (hE_3_9_1 : ∀ j : Int, turned_0o3 j = turned_1o3 j) (hE_3_9_2 : ∀ j : Int, turned_1o3 j = turned_2o3 j) (hE_4_9_1 : ∀ j : Int, near_0o4 j = near_1o4 j) (hE_4_9_2 : ∀ j : Int, near_1o4 j = near_2o4 j) (hE_4_12_1 : ∀ j : Int, first_0o4 j = first_1o4 j) (hE_4_12_2 : ∀ j : Int, first_1o4 j = first_2o4 j) (hE_4_16_1 : ∀ j : Int, faceOf_0o4 j = faceOf_1o4 j) (hE_4_16_2 : ∀ j : Int, faceOf_1o4 j = faceOf_2o4 j) (kz_0_0 : 0 ≤ nodes_0 ∧ nodes_0 ≤ 24) (kz_0_1 : 0 ≤ edges_0 ∧ edges_0 ≤ 48) (kz_0_17 : 0 ≤ done_0 ∧ done_0 ≤ 30) (kz_0_18 : 0 ≤ undone_0 ∧ undone_0 ≤ 30) (kz_3_0 : 0 ≤ known_0o3 ∧ known_0o3 ≤ 1) (kz_3_1 : 0 ≤ parts_0o3 ∧ parts_0o3 ≤ 24) (kz_3_2 : 0 ≤ blocks_0o3 ∧ blocks_0o3 ≤ 48) (kz_4_0 : (-1) ≤ planar_0o4 ∧ planar_0o4 ≤ 1) (kz_4_3 : 0 ≤ barredEdges_0o4 ∧ barredEdges_0o4 ≤ 48) (kz_4_5 : 0 ≤ nodes_0o4 ∧ nodes_0o4 ≤ 24) (kz_4_6 : 0 ≤ edges_0o4 ∧ edges_0o4 ≤ 72) : (done_0 + undone_0) = x5 := by
  subst fe_0_0_1
  subst fe_0_1_1
  subst fe_0_17_1
  subst fe_3_0_1
  subst fe_3_1_1
  subst fe_3_2_1
  subst fe_4_0_1
  subst fe_4_3_1
  subst fe_4_5_1
  subst fe_4_6_1
  subst fe_0_0_2
  subst fe_0_1_2
  subst fe_0_18_2
  subst fe_3_0_2
  subst fe_3_1_2
  subst fe_3_2_2
  subst fe_4_0_2
  subst fe_4_3_2
  subst fe_4_5_2
  subst fe_4_6_2
  have e_hE_0_7_1 := funext hE_0_7_1; subst e_hE_0_7_1
  have e_hE_0_7_2 := funext hE_0_7_2; subst e_hE_0_7_2
  have e_hE_0_8_1 := funext hE_0_8_1; subst e_hE_0_8_1
  have e_hE_0_8_2 := funext hE_0_8_2; subst e_hE_0_8_2
  have e_hE_0_14_1 := funext hE_0_14_1; subst e_hE_0_14_1
  have e_hE_0_14_2 := funext hE_0_14_2; subst e_hE_0_14_2
  have e_hE_0_16_1 := funext hE_0_16_1; subst e_hE_0_16_1
  have e_hE_0_16_2 := funext hE_0_16_2; subst e_hE_0_16_2
  have e_hE_3_4_1 := funext hE_3_4_1; subst e_hE_3_4_1
  have e_hE_3_4_2 := funext hE_3_4_2; subst e_hE_3_4_2
  have e_hE_3_9_1 := funext hE_3_9_1; subst e_hE_3_9_1
  have e_hE_3_9_2 := funext hE_3_9_2; subst e_hE_3_9_2
  have e_hE_4_9_1 := funext hE_4_9_1; subst e_hE_4_9_1
  have e_hE_4_9_2 := funext hE_4_9_2; subst e_hE_4_9_2
  have e_hE_4_12_1 := funext hE_4_12_1; subst e_hE_4_12_1
  have e_hE_4_12_2 := funext hE_4_12_2; subst e_hE_4_12_2
  have e_hE_4_16_1 := funext hE_4_16_1; subst e_hE_4_16_1
  have e_hE_4_16_2 := funext hE_4_16_2; subst e_hE_4_16_2
  first
    | omega
  
def o_Gr_step_4 : or_T := (75, 13, [(0, (2, 0, 0, [3])), (3, (2, 0, 0, [2])), (4, (2, 0, 0, [5])), (5, (0, 0, 60, [])), (7, (0, 1, 30, [])), (8, (0, 0, 30, [])), (10, (0, 1, 30, [])), (12, (0, 0, 29, []))], [(9, [12, 0], [18]), (9, [10, 0], [17]), (101, [0, 12], [18]), (9, [7, 0], [18]), (101, [0, 10], [17]), (9, [8, 0], [17]), (20, [0], [50, 2, 0, 17, 18, 0, 8, 4, 3, 2, 0, 17, 2, 0, 18, 0, 30]), (20, [0], [60, 2, 1, 739, 17, 18, 16]), (20, [0, 5], [50, 2, 0, 17, 18, 1, 8, 4, 3, 2, 0, 17, 2, 0, 18, 1, 1])], [], [], [(20, [0], [50, 2, 0, 17, 18, 0, 8, 4, 3, 2, 0, 17, 2, 0, 18, 0, 30]), (20, [0], [60, 2, 1, 739, 17, 18, 16]), (20, [0], [50, 2, 0, 17, 18, 0, 2, 0, 1, 4, 3, 2, 0, 17, 2, 0, 18]), (20, [0, 5], [50, 2, 0, 17, 18, 1, 8, 4, 3, 2, 0, 17, 2, 0, 18, 1, 1])], [], [(12, 7, -1, -1), (10, 8, 1, 1)])
theorem oo_Gr_step_4 {kA : Nat → ClassId} : or_ok PRD kA GG o_Gr_step_4 := by
  refine or_mk fun A ta ws vs hD hth hl => ?_
  intro t0 r0 t3 r3 t4 r4 t5 k5 t7 k7 t8 k8 t10 k10 t12 k12 d0 d1 f0 f1 ta1 w1 le1 s1 f8 ta2 w2 le2 s2 f14 f16 f17 f20
  replace f0 := shm_799 f0
  replace f1 := shm_795 f1
  have s1 : (∀ b j, w_el ws b j = w_el w1 b j) ∧ ∀ b j, w_fd ws b j = if b = v_ad (n_v vs 0) ∧ j = 18 then n_v vs 12 else w_fd w1 b j := s1.2
  replace f8 := shm_799 f8
  have s2 : (∀ b j, w_el w1 b j = w_el w2 b j) ∧ ∀ b j, w_fd w1 b j = if b = v_ad (n_v vs 0) ∧ j = 17 then n_v vs 10 else w_fd w2 b j := s2.2
  replace f14 := shm_795 f14
  replace f17 := shm_1361 f17
  have ar_0_7_1 : w_ar w1 (n_v vs 0) 7 = w_ar ws (n_v vs 0) 7 := by show v_ad (w_fd w1 _ _) = v_ad (w_fd ws _ _); rw [s1.2, if_neg (fun e => absurd e.2 (by decide))]
  have ar_0_7_2 : w_ar w2 (n_v vs 0) 7 = w_ar ws (n_v vs 0) 7 := by rw [← ar_0_7_1]; show v_ad (w_fd w2 _ _) = v_ad (w_fd w1 _ _); rw [s2.2, if_neg (fun e => absurd e.2 (by decide))]
  have ar_0_8_1 : w_ar w1 (n_v vs 0) 8 = w_ar ws (n_v vs 0) 8 := by show v_ad (w_fd w1 _ _) = v_ad (w_fd ws _ _); rw [s1.2, if_neg (fun e => absurd e.2 (by decide))]
  have ar_0_8_2 : w_ar w2 (n_v vs 0) 8 = w_ar ws (n_v vs 0) 8 := by rw [← ar_0_8_1]; show v_ad (w_fd w2 _ _) = v_ad (w_fd w1 _ _); rw [s2.2, if_neg (fun e => absurd e.2 (by decide))]
  have ar_0_14_1 : w_ar w1 (n_v vs 0) 14 = w_ar ws (n_v vs 0) 14 := by show v_ad (w_fd w1 _ _) = v_ad (w_fd ws _ _); rw [s1.2, if_neg (fun e => absurd e.2 (by decide))]
  have ar_0_14_2 : w_ar w2 (n_v vs 0) 14 = w_ar ws (n_v vs 0) 14 := by rw [← ar_0_14_1]; show v_ad (w_fd w2 _ _) = v_ad (w_fd w1 _ _); rw [s2.2, if_neg (fun e => absurd e.2 (by decide))]
  have ar_0_16_1 : w_ar w1 (n_v vs 0) 16 = w_ar ws (n_v vs 0) 16 := by show v_ad (w_fd w1 _ _) = v_ad (w_fd ws _ _); rw [s1.2, if_neg (fun e => absurd e.2 (by decide))]
  have ar_0_16_2 : w_ar w2 (n_v vs 0) 16 = w_ar ws (n_v vs 0) 16 := by rw [← ar_0_16_1]; show v_ad (w_fd w2 _ _) = v_ad (w_fd w1 _ _); rw [s2.2, if_neg (fun e => absurd e.2 (by decide))]
  have ar_3_4_1 : w_ar w1 (n_v vs 3) 4 = w_ar ws (n_v vs 3) 4 := by show v_ad (w_fd w1 _ _) = v_ad (w_fd ws _ _); rw [s1.2, if_neg (fun e => absurd e.2 (by decide))]
  have ar_3_4_2 : w_ar w2 (n_v vs 3) 4 = w_ar ws (n_v vs 3) 4 := by rw [← ar_3_4_1]; show v_ad (w_fd w2 _ _) = v_ad (w_fd w1 _ _); rw [s2.2, if_neg (fun e => absurd e.2 (by decide))]
  have ar_3_9_1 : w_ar w1 (n_v vs 3) 9 = w_ar ws (n_v vs 3) 9 := by show v_ad (w_fd w1 _ _) = v_ad (w_fd ws _ _); rw [s1.2, if_neg (fun e => absurd e.2 (by decide))]
  have ar_3_9_2 : w_ar w2 (n_v vs 3) 9 = w_ar ws (n_v vs 3) 9 := by rw [← ar_3_9_1]; show v_ad (w_fd w2 _ _) = v_ad (w_fd w1 _ _); rw [s2.2, if_neg (fun e => absurd e.2 (by decide))]
  have ar_4_9_1 : w_ar w1 (n_v vs 4) 9 = w_ar ws (n_v vs 4) 9 := by show v_ad (w_fd w1 _ _) = v_ad (w_fd ws _ _); rw [s1.2, if_neg (fun e => absurd e.2 (by decide))]
  have ar_4_9_2 : w_ar w2 (n_v vs 4) 9 = w_ar ws (n_v vs 4) 9 := by rw [← ar_4_9_1]; show v_ad (w_fd w2 _ _) = v_ad (w_fd w1 _ _); rw [s2.2, if_neg (fun e => absurd e.2 (by decide))]
  have ar_4_12_1 : w_ar w1 (n_v vs 4) 12 = w_ar ws (n_v vs 4) 12 := by show v_ad (w_fd w1 _ _) = v_ad (w_fd ws _ _); rw [s1.2, if_neg (fun e => absurd e.2 (by decide))]
  have ar_4_12_2 : w_ar w2 (n_v vs 4) 12 = w_ar ws (n_v vs 4) 12 := by rw [← ar_4_12_1]; show v_ad (w_fd w2 _ _) = v_ad (w_fd w1 _ _); rw [s2.2, if_neg (fun e => absurd e.2 (by decide))]
  have ar_4_16_1 : w_ar w1 (n_v vs 4) 16 = w_ar ws (n_v vs 4) 16 := by show v_ad (w_fd w1 _ _) = v_ad (w_fd ws _ _); rw [s1.2, if_neg (fun e => absurd e.2 (by decide))]
  have ar_4_16_2 : w_ar w2 (n_v vs 4) 16 = w_ar ws (n_v vs 4) 16 := by rw [← ar_4_16_1]; show v_ad (w_fd w2 _ _) = v_ad (w_fd w1 _ _); rw [s2.2, if_neg (fun e => absurd e.2 (by decide))]
  have g0 : v_iv (n_v vs 12) = w_fi ws (n_v vs 0) 18 := congrArg v_iv f0
  have g1 : v_iv (n_v vs 10) = w_fi ws (n_v vs 0) 17 := congrArg v_iv f1
  have g8 : v_iv (n_v vs 7) = w_fi w1 (n_v vs 0) 18 := congrArg v_iv f8
  have g14 : v_iv (n_v vs 8) = w_fi w2 (n_v vs 0) 17 := congrArg v_iv f14
  simp only [ar_0_16_2, ar_0_7_2, ar_0_8_2, ar_0_14_2, ar_3_4_2, ar_3_9_2, ar_4_9_2, ar_4_12_2, ar_4_16_2] at f17
  have fe_0_0_1 : w_fi ws (n_v vs 0) 0 = w_fi w1 (n_v vs 0) 0 := by show v_iv (w_fd _ _ _) = v_iv (w_fd _ _ _); rw [s1.2, if_neg (fun e => absurd e.2 (by decide))]
  have fe_0_1_1 : w_fi ws (n_v vs 0) 1 = w_fi w1 (n_v vs 0) 1 := by show v_iv (w_fd _ _ _) = v_iv (w_fd _ _ _); rw [s1.2, if_neg (fun e => absurd e.2 (by decide))]
  have fe_0_17_1 : w_fi ws (n_v vs 0) 17 = w_fi w1 (n_v vs 0) 17 := by show v_iv (w_fd _ _ _) = v_iv (w_fd _ _ _); rw [s1.2, if_neg (fun e => absurd e.2 (by decide))]
  have fe_3_0_1 : w_fi ws (n_v vs 3) 0 = w_fi w1 (n_v vs 3) 0 := by show v_iv (w_fd _ _ _) = v_iv (w_fd _ _ _); rw [s1.2, if_neg (fun e => absurd e.2 (by decide))]
  have fe_3_1_1 : w_fi ws (n_v vs 3) 1 = w_fi w1 (n_v vs 3) 1 := by show v_iv (w_fd _ _ _) = v_iv (w_fd _ _ _); rw [s1.2, if_neg (fun e => absurd e.2 (by decide))]
  have fe_3_2_1 : w_fi ws (n_v vs 3) 2 = w_fi w1 (n_v vs 3) 2 := by show v_iv (w_fd _ _ _) = v_iv (w_fd _ _ _); rw [s1.2, if_neg (fun e => absurd e.2 (by decide))]
  have fe_4_0_1 : w_fi ws (n_v vs 4) 0 = w_fi w1 (n_v vs 4) 0 := by show v_iv (w_fd _ _ _) = v_iv (w_fd _ _ _); rw [s1.2, if_neg (fun e => absurd e.2 (by decide))]
  have fe_4_3_1 : w_fi ws (n_v vs 4) 3 = w_fi w1 (n_v vs 4) 3 := by show v_iv (w_fd _ _ _) = v_iv (w_fd _ _ _); rw [s1.2, if_neg (fun e => absurd e.2 (by decide))]
  have fe_4_5_1 : w_fi ws (n_v vs 4) 5 = w_fi w1 (n_v vs 4) 5 := by show v_iv (w_fd _ _ _) = v_iv (w_fd _ _ _); rw [s1.2, if_neg (fun e => absurd e.2 (by decide))]
  have fe_4_6_1 : w_fi ws (n_v vs 4) 6 = w_fi w1 (n_v vs 4) 6 := by show v_iv (w_fd _ _ _) = v_iv (w_fd _ _ _); rw [s1.2, if_neg (fun e => absurd e.2 (by decide))]
  have fe_0_0_2 : w_fi w1 (n_v vs 0) 0 = w_fi w2 (n_v vs 0) 0 := by show v_iv (w_fd _ _ _) = v_iv (w_fd _ _ _); rw [s2.2, if_neg (fun e => absurd e.2 (by decide))]
  have fe_0_1_2 : w_fi w1 (n_v vs 0) 1 = w_fi w2 (n_v vs 0) 1 := by show v_iv (w_fd _ _ _) = v_iv (w_fd _ _ _); rw [s2.2, if_neg (fun e => absurd e.2 (by decide))]
  have fe_0_18_2 : w_fi w1 (n_v vs 0) 18 = w_fi w2 (n_v vs 0) 18 := by show v_iv (w_fd _ _ _) = v_iv (w_fd _ _ _); rw [s2.2, if_neg (fun e => absurd e.2 (by decide))]
  have fe_3_0_2 : w_fi w1 (n_v vs 3) 0 = w_fi w2 (n_v vs 3) 0 := by show v_iv (w_fd _ _ _) = v_iv (w_fd _ _ _); rw [s2.2, if_neg (fun e => absurd e.2 (by decide))]
  have fe_3_1_2 : w_fi w1 (n_v vs 3) 1 = w_fi w2 (n_v vs 3) 1 := by show v_iv (w_fd _ _ _) = v_iv (w_fd _ _ _); rw [s2.2, if_neg (fun e => absurd e.2 (by decide))]
  have fe_3_2_2 : w_fi w1 (n_v vs 3) 2 = w_fi w2 (n_v vs 3) 2 := by show v_iv (w_fd _ _ _) = v_iv (w_fd _ _ _); rw [s2.2, if_neg (fun e => absurd e.2 (by decide))]
  have fe_4_0_2 : w_fi w1 (n_v vs 4) 0 = w_fi w2 (n_v vs 4) 0 := by show v_iv (w_fd _ _ _) = v_iv (w_fd _ _ _); rw [s2.2, if_neg (fun e => absurd e.2 (by decide))]
  have fe_4_3_2 : w_fi w1 (n_v vs 4) 3 = w_fi w2 (n_v vs 4) 3 := by show v_iv (w_fd _ _ _) = v_iv (w_fd _ _ _); rw [s2.2, if_neg (fun e => absurd e.2 (by decide))]
  have fe_4_5_2 : w_fi w1 (n_v vs 4) 5 = w_fi w2 (n_v vs 4) 5 := by show v_iv (w_fd _ _ _) = v_iv (w_fd _ _ _); rw [s2.2, if_neg (fun e => absurd e.2 (by decide))]
  have fe_4_6_2 : w_fi w1 (n_v vs 4) 6 = w_fi w2 (n_v vs 4) 6 := by show v_iv (w_fd _ _ _) = v_iv (w_fd _ _ _); rw [s2.2, if_neg (fun e => absurd e.2 (by decide))]
  have hE_0_7_1 : ∀ j : Int, w_ei ws (w_ar ws (n_v vs 0) 7) j = w_ei w1 (w_ar ws (n_v vs 0) 7) j := fun j => s1.1 _ _
  have hE_0_7_2 : ∀ j : Int, w_ei w1 (w_ar ws (n_v vs 0) 7) j = w_ei w2 (w_ar ws (n_v vs 0) 7) j := fun j => s2.1 _ _
  have hE_0_8_1 : ∀ j : Int, w_ei ws (w_ar ws (n_v vs 0) 8) j = w_ei w1 (w_ar ws (n_v vs 0) 8) j := fun j => s1.1 _ _
  have hE_0_8_2 : ∀ j : Int, w_ei w1 (w_ar ws (n_v vs 0) 8) j = w_ei w2 (w_ar ws (n_v vs 0) 8) j := fun j => s2.1 _ _
  have hE_0_14_1 : ∀ j : Int, w_ei ws (w_ar ws (n_v vs 0) 14) j = w_ei w1 (w_ar ws (n_v vs 0) 14) j := fun j => s1.1 _ _
  have hE_0_14_2 : ∀ j : Int, w_ei w1 (w_ar ws (n_v vs 0) 14) j = w_ei w2 (w_ar ws (n_v vs 0) 14) j := fun j => s2.1 _ _
  have hE_0_16_1 : ∀ j : Int, w_ei ws (w_ar ws (n_v vs 0) 16) j = w_ei w1 (w_ar ws (n_v vs 0) 16) j := fun j => s1.1 _ _
  have hE_0_16_2 : ∀ j : Int, w_ei w1 (w_ar ws (n_v vs 0) 16) j = w_ei w2 (w_ar ws (n_v vs 0) 16) j := fun j => s2.1 _ _
  have hE_3_4_1 : ∀ j : Int, w_ei ws (w_ar ws (n_v vs 3) 4) j = w_ei w1 (w_ar ws (n_v vs 3) 4) j := fun j => s1.1 _ _
  have hE_3_4_2 : ∀ j : Int, w_ei w1 (w_ar ws (n_v vs 3) 4) j = w_ei w2 (w_ar ws (n_v vs 3) 4) j := fun j => s2.1 _ _
  have hE_3_9_1 : ∀ j : Int, w_ei ws (w_ar ws (n_v vs 3) 9) j = w_ei w1 (w_ar ws (n_v vs 3) 9) j := fun j => s1.1 _ _
  have hE_3_9_2 : ∀ j : Int, w_ei w1 (w_ar ws (n_v vs 3) 9) j = w_ei w2 (w_ar ws (n_v vs 3) 9) j := fun j => s2.1 _ _
  have hE_4_9_1 : ∀ j : Int, w_ei ws (w_ar ws (n_v vs 4) 9) j = w_ei w1 (w_ar ws (n_v vs 4) 9) j := fun j => s1.1 _ _
  have hE_4_9_2 : ∀ j : Int, w_ei w1 (w_ar ws (n_v vs 4) 9) j = w_ei w2 (w_ar ws (n_v vs 4) 9) j := fun j => s2.1 _ _
  have hE_4_12_1 : ∀ j : Int, w_ei ws (w_ar ws (n_v vs 4) 12) j = w_ei w1 (w_ar ws (n_v vs 4) 12) j := fun j => s1.1 _ _
  have hE_4_12_2 : ∀ j : Int, w_ei w1 (w_ar ws (n_v vs 4) 12) j = w_ei w2 (w_ar ws (n_v vs 4) 12) j := fun j => s2.1 _ _
  have hE_4_16_1 : ∀ j : Int, w_ei ws (w_ar ws (n_v vs 4) 16) j = w_ei w1 (w_ar ws (n_v vs 4) 16) j := fun j => s1.1 _ _
  have hE_4_16_2 : ∀ j : Int, w_ei w1 (w_ar ws (n_v vs 4) 16) j = w_ei w2 (w_ar ws (n_v vs 4) 16) j := fun j => s2.1 _ _
  have kz_0_0 := fdq_21 hD hth r0
  have kz_0_1 := fdq_30 hD hth r0
  have kz_0_17 := fdq_288 hD hth r0
  have kz_0_18 := fdq_289 hD hth r0
  have kz_3_0 := fdq_294 hD hth r3
  have kz_3_1 := fdq_278 hD hth r3
  have kz_3_2 := fdq_295 hD hth r3
  have kz_4_0 := fdq_78 hD hth r4
  have kz_4_3 := fdq_79 hD hth r4
  have kz_4_5 := fdq_82 hD hth r4
  have kz_4_6 := fdq_59 hD hth r4
  have nf0 : fc_1 PRD (20, [0], [50, 2, 0, 17, 18, 0, 8, 4, 3, 2, 0, 17, 2, 0, 18, 0, 30]) ws (vs) := ⟨nf_in hl rfl, sgq_1511 (vc_Gr_step_4_0 (v_iv (n_v vs 5)) (v_iv (n_v vs 7)) (v_iv (n_v vs 8)) (v_iv (n_v vs 10)) (v_iv (n_v vs 12)) (w_fi ws (n_v vs 0) 18) (w_fi ws (n_v vs 0) 17) (w_ei ws (w_ar ws (n_v vs 0) 7)) (w_ei ws (w_ar ws (n_v vs 0) 8)) (w_fi ws (n_v vs 0) 0) (w_fi ws (n_v vs 0) 1) (w_ei ws (w_ar ws (n_v vs 0) 14)) (w_ei ws (w_ar ws (n_v vs 3) 4)) (w_ei ws (w_ar ws (n_v vs 3) 9)) (w_ei ws (w_ar ws (n_v vs 4) 9)) (w_ei ws (w_ar ws (n_v vs 4) 12)) (w_ei ws (w_ar ws (n_v vs 4) 16)) (w_fi ws (n_v vs 3) 0) (w_fi ws (n_v vs 3) 1) (w_fi ws (n_v vs 3) 2) (w_fi ws (n_v vs 4) 0) (w_fi ws (n_v vs 4) 3) (w_fi ws (n_v vs 4) 5) (w_fi ws (n_v vs 4) 6) (w_fi w1 (n_v vs 0) 18) (w_ei w1 (w_ar ws (n_v vs 0) 7)) (w_ei w1 (w_ar ws (n_v vs 0) 8)) (w_fi w1 (n_v vs 0) 0) (w_fi w1 (n_v vs 0) 1) (w_ei w1 (w_ar ws (n_v vs 0) 14)) (w_ei w1 (w_ar ws (n_v vs 3) 4)) (w_ei w1 (w_ar ws (n_v vs 3) 9)) (w_ei w1 (w_ar ws (n_v vs 4) 9)) (w_ei w1 (w_ar ws (n_v vs 4) 12)) (w_ei w1 (w_ar ws (n_v vs 4) 16)) (w_fi w1 (n_v vs 3) 0) (w_fi w1 (n_v vs 3) 1) (w_fi w1 (n_v vs 3) 2) (w_fi w1 (n_v vs 4) 0) (w_fi w1 (n_v vs 4) 3) (w_fi w1 (n_v vs 4) 5) (w_fi w1 (n_v vs 4) 6) (w_fi w2 (n_v vs 0) 17) (w_fi w2 (n_v vs 0) 18) (w_ei w2 (w_ar ws (n_v vs 0) 16)) (w_ei w2 (w_ar ws (n_v vs 0) 7)) (w_ei w2 (w_ar ws (n_v vs 0) 8)) (w_fi w2 (n_v vs 0) 0) (w_fi w2 (n_v vs 0) 1) (w_ei w2 (w_ar ws (n_v vs 0) 14)) (w_ei w2 (w_ar ws (n_v vs 3) 4)) (w_ei w2 (w_ar ws (n_v vs 3) 9)) (w_ei w2 (w_ar ws (n_v vs 4) 9)) (w_ei w2 (w_ar ws (n_v vs 4) 12)) (w_ei w2 (w_ar ws (n_v vs 4) 16)) (w_fi w2 (n_v vs 3) 0) (w_fi w2 (n_v vs 3) 1) (w_fi w2 (n_v vs 3) 2) (w_fi w2 (n_v vs 4) 0) (w_fi w2 (n_v vs 4) 3) (w_fi w2 (n_v vs 4) 5) (w_fi w2 (n_v vs 4) 6) (w_fi w1 (n_v vs 0) 17) (w_ei ws (w_ar ws (n_v vs 0) 16)) (w_ei w1 (w_ar ws (n_v vs 0) 16)) k5 k7 k8 k10 k12 d0 d1 g0 g1 g8 g14 (shm_1511 f16) (shm_1512 f20) fe_0_0_1 fe_0_1_1 fe_0_17_1 fe_3_0_1 fe_3_1_1 fe_3_2_1 fe_4_0_1 fe_4_3_1 fe_4_5_1 fe_4_6_1 fe_0_0_2 fe_0_1_2 fe_0_18_2 fe_3_0_2 fe_3_1_2 fe_3_2_2 fe_4_0_2 fe_4_3_2 fe_4_5_2 fe_4_6_2 hE_0_7_1 hE_0_7_2 hE_0_8_1 hE_0_8_2 hE_0_14_1 hE_0_14_2 hE_0_16_1 hE_0_16_2 hE_3_4_1 hE_3_4_2 hE_3_9_1 hE_3_9_2 hE_4_9_1 hE_4_9_2 hE_4_12_1 hE_4_12_2 hE_4_16_1 hE_4_16_2 kz_0_0 kz_0_1 kz_0_17 kz_0_18 kz_3_0 kz_3_1 kz_3_2 kz_4_0 kz_4_3 kz_4_5 kz_4_6)⟩
  have nf1 : fc_1 PRD (20, [0], [60, 2, 1, 739, 17, 18, 16]) ws (vs) := ⟨nf_in hl rfl, sgq_1361 (vc_Gr_step_4_1 (v_iv (n_v vs 7)) (v_iv (n_v vs 8)) (v_iv (n_v vs 10)) (v_iv (n_v vs 12)) (w_fi ws (n_v vs 0) 18) (w_fi ws (n_v vs 0) 17) (w_ei ws (w_ar ws (n_v vs 0) 7)) (w_ei ws (w_ar ws (n_v vs 0) 8)) (w_fi ws (n_v vs 0) 0) (w_fi ws (n_v vs 0) 1) (w_ei ws (w_ar ws (n_v vs 0) 14)) (w_ei ws (w_ar ws (n_v vs 3) 4)) (w_ei ws (w_ar ws (n_v vs 3) 9)) (w_ei ws (w_ar ws (n_v vs 4) 9)) (w_ei ws (w_ar ws (n_v vs 4) 12)) (w_ei ws (w_ar ws (n_v vs 4) 16)) (w_fi ws (n_v vs 3) 0) (w_fi ws (n_v vs 3) 1) (w_fi ws (n_v vs 3) 2) (w_fi ws (n_v vs 4) 0) (w_fi ws (n_v vs 4) 3) (w_fi ws (n_v vs 4) 5) (w_fi ws (n_v vs 4) 6) (w_fi w1 (n_v vs 0) 18) (w_ei w1 (w_ar ws (n_v vs 0) 7)) (w_ei w1 (w_ar ws (n_v vs 0) 8)) (w_fi w1 (n_v vs 0) 0) (w_fi w1 (n_v vs 0) 1) (w_ei w1 (w_ar ws (n_v vs 0) 14)) (w_ei w1 (w_ar ws (n_v vs 3) 4)) (w_ei w1 (w_ar ws (n_v vs 3) 9)) (w_ei w1 (w_ar ws (n_v vs 4) 9)) (w_ei w1 (w_ar ws (n_v vs 4) 12)) (w_ei w1 (w_ar ws (n_v vs 4) 16)) (w_fi w1 (n_v vs 3) 0) (w_fi w1 (n_v vs 3) 1) (w_fi w1 (n_v vs 3) 2) (w_fi w1 (n_v vs 4) 0) (w_fi w1 (n_v vs 4) 3) (w_fi w1 (n_v vs 4) 5) (w_fi w1 (n_v vs 4) 6) (w_fi w2 (n_v vs 0) 17) (w_fi w2 (n_v vs 0) 18) (w_ei w2 (w_ar ws (n_v vs 0) 16)) (w_ei w2 (w_ar ws (n_v vs 0) 7)) (w_ei w2 (w_ar ws (n_v vs 0) 8)) (w_fi w2 (n_v vs 0) 0) (w_fi w2 (n_v vs 0) 1) (w_ei w2 (w_ar ws (n_v vs 0) 14)) (w_ei w2 (w_ar ws (n_v vs 3) 4)) (w_ei w2 (w_ar ws (n_v vs 3) 9)) (w_ei w2 (w_ar ws (n_v vs 4) 9)) (w_ei w2 (w_ar ws (n_v vs 4) 12)) (w_ei w2 (w_ar ws (n_v vs 4) 16)) (w_fi w2 (n_v vs 3) 0) (w_fi w2 (n_v vs 3) 1) (w_fi w2 (n_v vs 3) 2) (w_fi w2 (n_v vs 4) 0) (w_fi w2 (n_v vs 4) 3) (w_fi w2 (n_v vs 4) 5) (w_fi w2 (n_v vs 4) 6) (w_fi w1 (n_v vs 0) 17) (w_ei ws (w_ar ws (n_v vs 0) 16)) (w_ei w1 (w_ar ws (n_v vs 0) 16)) k7 k8 k10 k12 d0 d1 g0 g1 g8 g14 f17 fe_0_0_1 fe_0_1_1 fe_0_17_1 fe_3_0_1 fe_3_1_1 fe_3_2_1 fe_4_0_1 fe_4_3_1 fe_4_5_1 fe_4_6_1 fe_0_0_2 fe_0_1_2 fe_0_18_2 fe_3_0_2 fe_3_1_2 fe_3_2_2 fe_4_0_2 fe_4_3_2 fe_4_5_2 fe_4_6_2 hE_0_7_1 hE_0_7_2 hE_0_8_1 hE_0_8_2 hE_0_14_1 hE_0_14_2 hE_0_16_1 hE_0_16_2 hE_3_4_1 hE_3_4_2 hE_3_9_1 hE_3_9_2 hE_4_9_1 hE_4_9_2 hE_4_12_1 hE_4_12_2 hE_4_16_1 hE_4_16_2 kz_0_0 kz_0_1 kz_0_17 kz_0_18 kz_3_0 kz_3_1 kz_3_2 kz_4_0 kz_4_3 kz_4_5 kz_4_6)⟩
  have nf2 : fc_1 PRD (20, [0], [50, 2, 0, 17, 18, 0, 2, 0, 1, 4, 3, 2, 0, 17, 2, 0, 18]) ws (vs) := ⟨nf_in hl rfl, sgq_1515 (vc_Gr_step_4_2 (v_iv (n_v vs 5)) (v_iv (n_v vs 7)) (v_iv (n_v vs 8)) (v_iv (n_v vs 10)) (v_iv (n_v vs 12)) (w_fi ws (n_v vs 0) 18) (w_fi ws (n_v vs 0) 17) (w_ei ws (w_ar ws (n_v vs 0) 7)) (w_ei ws (w_ar ws (n_v vs 0) 8)) (w_fi ws (n_v vs 0) 0) (w_fi ws (n_v vs 0) 1) (w_ei ws (w_ar ws (n_v vs 0) 14)) (w_ei ws (w_ar ws (n_v vs 3) 4)) (w_ei ws (w_ar ws (n_v vs 3) 9)) (w_ei ws (w_ar ws (n_v vs 4) 9)) (w_ei ws (w_ar ws (n_v vs 4) 12)) (w_ei ws (w_ar ws (n_v vs 4) 16)) (w_fi ws (n_v vs 3) 0) (w_fi ws (n_v vs 3) 1) (w_fi ws (n_v vs 3) 2) (w_fi ws (n_v vs 4) 0) (w_fi ws (n_v vs 4) 3) (w_fi ws (n_v vs 4) 5) (w_fi ws (n_v vs 4) 6) (w_fi w1 (n_v vs 0) 18) (w_ei w1 (w_ar ws (n_v vs 0) 7)) (w_ei w1 (w_ar ws (n_v vs 0) 8)) (w_fi w1 (n_v vs 0) 0) (w_fi w1 (n_v vs 0) 1) (w_ei w1 (w_ar ws (n_v vs 0) 14)) (w_ei w1 (w_ar ws (n_v vs 3) 4)) (w_ei w1 (w_ar ws (n_v vs 3) 9)) (w_ei w1 (w_ar ws (n_v vs 4) 9)) (w_ei w1 (w_ar ws (n_v vs 4) 12)) (w_ei w1 (w_ar ws (n_v vs 4) 16)) (w_fi w1 (n_v vs 3) 0) (w_fi w1 (n_v vs 3) 1) (w_fi w1 (n_v vs 3) 2) (w_fi w1 (n_v vs 4) 0) (w_fi w1 (n_v vs 4) 3) (w_fi w1 (n_v vs 4) 5) (w_fi w1 (n_v vs 4) 6) (w_fi w2 (n_v vs 0) 17) (w_fi w2 (n_v vs 0) 18) (w_ei w2 (w_ar ws (n_v vs 0) 16)) (w_ei w2 (w_ar ws (n_v vs 0) 7)) (w_ei w2 (w_ar ws (n_v vs 0) 8)) (w_fi w2 (n_v vs 0) 0) (w_fi w2 (n_v vs 0) 1) (w_ei w2 (w_ar ws (n_v vs 0) 14)) (w_ei w2 (w_ar ws (n_v vs 3) 4)) (w_ei w2 (w_ar ws (n_v vs 3) 9)) (w_ei w2 (w_ar ws (n_v vs 4) 9)) (w_ei w2 (w_ar ws (n_v vs 4) 12)) (w_ei w2 (w_ar ws (n_v vs 4) 16)) (w_fi w2 (n_v vs 3) 0) (w_fi w2 (n_v vs 3) 1) (w_fi w2 (n_v vs 3) 2) (w_fi w2 (n_v vs 4) 0) (w_fi w2 (n_v vs 4) 3) (w_fi w2 (n_v vs 4) 5) (w_fi w2 (n_v vs 4) 6) (w_fi w1 (n_v vs 0) 17) (w_ei ws (w_ar ws (n_v vs 0) 16)) (w_ei w1 (w_ar ws (n_v vs 0) 16)) k5 k7 k8 k10 k12 d0 d1 g0 g1 g8 g14 (shm_1511 f16) (shm_1512 f20) fe_0_0_1 fe_0_1_1 fe_0_17_1 fe_3_0_1 fe_3_1_1 fe_3_2_1 fe_4_0_1 fe_4_3_1 fe_4_5_1 fe_4_6_1 fe_0_0_2 fe_0_1_2 fe_0_18_2 fe_3_0_2 fe_3_1_2 fe_3_2_2 fe_4_0_2 fe_4_3_2 fe_4_5_2 fe_4_6_2 hE_0_7_1 hE_0_7_2 hE_0_8_1 hE_0_8_2 hE_0_14_1 hE_0_14_2 hE_0_16_1 hE_0_16_2 hE_3_4_1 hE_3_4_2 hE_3_9_1 hE_3_9_2 hE_4_9_1 hE_4_9_2 hE_4_12_1 hE_4_12_2 hE_4_16_1 hE_4_16_2 kz_0_0 kz_0_1 kz_0_17 kz_0_18 kz_3_0 kz_3_1 kz_3_2 kz_4_0 kz_4_3 kz_4_5 kz_4_6)⟩
  have nf3 : fc_1 PRD (20, [0, 5], [50, 2, 0, 17, 18, 1, 8, 4, 3, 2, 0, 17, 2, 0, 18, 1, 1]) ws (vs) := ⟨nf_in hl rfl, sgq_1512 (vc_Gr_step_4_3 (v_iv (n_v vs 5)) (v_iv (n_v vs 7)) (v_iv (n_v vs 8)) (v_iv (n_v vs 10)) (v_iv (n_v vs 12)) (w_fi ws (n_v vs 0) 18) (w_fi ws (n_v vs 0) 17) (w_ei ws (w_ar ws (n_v vs 0) 7)) (w_ei ws (w_ar ws (n_v vs 0) 8)) (w_fi ws (n_v vs 0) 0) (w_fi ws (n_v vs 0) 1) (w_ei ws (w_ar ws (n_v vs 0) 14)) (w_ei ws (w_ar ws (n_v vs 3) 4)) (w_ei ws (w_ar ws (n_v vs 3) 9)) (w_ei ws (w_ar ws (n_v vs 4) 9)) (w_ei ws (w_ar ws (n_v vs 4) 12)) (w_ei ws (w_ar ws (n_v vs 4) 16)) (w_fi ws (n_v vs 3) 0) (w_fi ws (n_v vs 3) 1) (w_fi ws (n_v vs 3) 2) (w_fi ws (n_v vs 4) 0) (w_fi ws (n_v vs 4) 3) (w_fi ws (n_v vs 4) 5) (w_fi ws (n_v vs 4) 6) (w_fi w1 (n_v vs 0) 18) (w_ei w1 (w_ar ws (n_v vs 0) 7)) (w_ei w1 (w_ar ws (n_v vs 0) 8)) (w_fi w1 (n_v vs 0) 0) (w_fi w1 (n_v vs 0) 1) (w_ei w1 (w_ar ws (n_v vs 0) 14)) (w_ei w1 (w_ar ws (n_v vs 3) 4)) (w_ei w1 (w_ar ws (n_v vs 3) 9)) (w_ei w1 (w_ar ws (n_v vs 4) 9)) (w_ei w1 (w_ar ws (n_v vs 4) 12)) (w_ei w1 (w_ar ws (n_v vs 4) 16)) (w_fi w1 (n_v vs 3) 0) (w_fi w1 (n_v vs 3) 1) (w_fi w1 (n_v vs 3) 2) (w_fi w1 (n_v vs 4) 0) (w_fi w1 (n_v vs 4) 3) (w_fi w1 (n_v vs 4) 5) (w_fi w1 (n_v vs 4) 6) (w_fi w2 (n_v vs 0) 17) (w_fi w2 (n_v vs 0) 18) (w_ei w2 (w_ar ws (n_v vs 0) 16)) (w_ei w2 (w_ar ws (n_v vs 0) 7)) (w_ei w2 (w_ar ws (n_v vs 0) 8)) (w_fi w2 (n_v vs 0) 0) (w_fi w2 (n_v vs 0) 1) (w_ei w2 (w_ar ws (n_v vs 0) 14)) (w_ei w2 (w_ar ws (n_v vs 3) 4)) (w_ei w2 (w_ar ws (n_v vs 3) 9)) (w_ei w2 (w_ar ws (n_v vs 4) 9)) (w_ei w2 (w_ar ws (n_v vs 4) 12)) (w_ei w2 (w_ar ws (n_v vs 4) 16)) (w_fi w2 (n_v vs 3) 0) (w_fi w2 (n_v vs 3) 1) (w_fi w2 (n_v vs 3) 2) (w_fi w2 (n_v vs 4) 0) (w_fi w2 (n_v vs 4) 3) (w_fi w2 (n_v vs 4) 5) (w_fi w2 (n_v vs 4) 6) (w_fi w1 (n_v vs 0) 17) (w_ei ws (w_ar ws (n_v vs 0) 16)) (w_ei w1 (w_ar ws (n_v vs 0) 16)) k5 k7 k8 k10 k12 d0 d1 g0 g1 g8 g14 (shm_1512 f20) fe_0_0_1 fe_0_1_1 fe_0_17_1 fe_3_0_1 fe_3_1_1 fe_3_2_1 fe_4_0_1 fe_4_3_1 fe_4_5_1 fe_4_6_1 fe_0_0_2 fe_0_1_2 fe_0_18_2 fe_3_0_2 fe_3_1_2 fe_3_2_2 fe_4_0_2 fe_4_3_2 fe_4_5_2 fe_4_6_2 hE_0_7_1 hE_0_7_2 hE_0_8_1 hE_0_8_2 hE_0_14_1 hE_0_14_2 hE_0_16_1 hE_0_16_2 hE_3_4_1 hE_3_4_2 hE_3_9_1 hE_3_9_2 hE_4_9_1 hE_4_9_2 hE_4_12_1 hE_4_12_2 hE_4_16_1 hE_4_16_2 kz_0_0 kz_0_1 kz_0_17 kz_0_18 kz_3_0 kz_3_1 kz_3_2 kz_4_0 kz_4_3 kz_4_5 kz_4_6)⟩
  refine ⟨(fun _ h => (by cases h)), [], trivial, ?_, (fun _ h => (by cases h))⟩
  rw [List.append_nil]
  exact List.forall_mem_cons.mpr ⟨⟨show (20 : Nat) < 100 from by decide, nf0⟩, List.forall_mem_cons.mpr ⟨⟨show (20 : Nat) < 100 from by decide, nf1⟩, List.forall_mem_cons.mpr ⟨⟨show (20 : Nat) < 100 from by decide, nf2⟩, List.forall_mem_cons.mpr ⟨⟨show (20 : Nat) < 100 from by decide, nf3⟩, (fun _ h => (by cases h))⟩⟩⟩⟩
set_option maxHeartbeats 4000000 in
theorem vc_Gr_step_5_0 (x5 : Int) (x10 : Int) (x12 : Int) (undone_0 : Int) (done_0 : Int) (past_0 : Int → Int) (tail_0 : Int → Int) (head_0 : Int → Int) (nodes_0 : Int) (edges_0 : Int) (near_0 : Int → Int) (part_0o3 : Int → Int) (turned_0o3 : Int → Int) (near_0o4 : Int → Int) (first_0o4 : Int → Int) (faceOf_0o4 : Int → Int) (known_0o3 : Int) (parts_0o3 : Int) (blocks_0o3 : Int) (planar_0o4 : Int) (barredEdges_0o4 : Int) (nodes_0o4 : Int) (edges_0o4 : Int) (undone_1 : Int) (tail_1 : Int → Int) (head_1 : Int → Int) (nodes_1 : Int) (edges_1 : Int) (near_1 : Int → Int) (part_1o3 : Int → Int) (turned_1o3 : Int → Int) (near_1o4 : Int → Int) (first_1o4 : Int → Int) (faceOf_1o4 : Int → Int) (known_1o3 : Int) (parts_1o3 : Int) (blocks_1o3 : Int) (planar_1o4 : Int) (barredEdges_1o4 : Int) (nodes_1o4 : Int) (edges_1o4 : Int) (undone_2 : Int) (past_2 : Int → Int) (tail_2 : Int → Int) (head_2 : Int → Int) (nodes_2 : Int) (edges_2 : Int) (near_2 : Int → Int) (part_2o3 : Int → Int) (turned_2o3 : Int → Int) (near_2o4 : Int → Int) (first_2o4 : Int → Int) (faceOf_2o4 : Int → Int) (known_2o3 : Int) (parts_2o3 : Int) (blocks_2o3 : Int) (planar_2o4 : Int) (barredEdges_2o4 : Int) (nodes_2o4 : Int) (edges_2o4 : Int) (done_1 : Int) (past_1 : Int → Int) (k5 : 0 ≤ x5 ∧ x5 ≤ 60) (k10 : 1 ≤ x10 ∧ x10 ≤ 30) (k12 : 0 ≤ x12 ∧ x12 ≤ 29) (g0 : x12 = undone_0) (g2 : x10 = done_0) (f6 : (done_0 + undone_0) = x5) (fe_0_0_1 : nodes_0 = nodes_1) (fe_0_1_1 : edges_0 = edges_1) (fe_0_17_1 : done_0 = done_1) (fe_3_0_1 : known_0o3 = known_1o3) (fe_3_1_1 : parts_0o3 = parts_1o3) (fe_3_2_1 : blocks_0o3 = blocks_1o3) (fe_4_0_1 : planar_0o4 = planar_1o4) (fe_4_3_1 : barredEdges_0o4 = barredEdges_1o4) (fe_4_5_1 : nodes_0o4 = nodes_1o4) (fe_4_6_1 : edges_0o4 = edges_1o4) (fe_0_0_2 : nodes_1 = nodes_2) (fe_0_1_2 : edges_1 = edges_2) (fe_0_18_2 : undone_1 = undone_2) (fe_3_0_2 : known_1o3 = known_2o3) (fe_3_1_2 : parts_1o3 = parts_2o3) (fe_3_2_2 : blocks_1o3 = blocks_2o3) (fe_4_0_2 : planar_1o4 = planar_2o4) (fe_4_3_2 : barredEdges_1o4 = barredEdges_2o4) (fe_4_5_2 : nodes_1o4 = nodes_2o4) (fe_4_6_2 : edges_1o4 = edges_2o4) (hE_0_7_1 : ∀ j : Int, tail_0 j = tail_1 j) (hE_0_7_2 : ∀ j : Int, tail_1 j = tail_2 j) (hE_0_8_1 : ∀ j : Int, head_0 j = head_1 j) (hE_0_8_2 : ∀ j : Int, head_1 j = head_2 j) (hE_0_14_1 : ∀ j : Int, near_0 j = near_1 j) (hE_0_14_2 : ∀ j : Int, near_1 j = near_2 j) (hE_0_16_1 : ∀ j : Int, past_0 j = past_1 j) (hE_0_16_2 : ∀ j : Int, past_1 j = past_2 j) (hE_3_4_1 : ∀ j : Int, part_0o3 j = part_1o3 j) (hE_3_4_2 : ∀ j : Int, part_1o3 j = part_2o3 j) (hE_3_9_1 : ∀ j : Int, turned_0o3 j = turned_1o3 j) (hE_3_9_2 : ∀ j : Int, turned_1o3 j = turned_2o3 j) (hE_4_9_1 : ∀ j : Int, near_0o4 j = near_1o4 j) (hE_4_9_2 : ∀ j : Int, near_1o4 j = near_2o4 j) (hE_4_12_1 : ∀ j : Int, first_0o4 j = first_1o4 j) (hE_4_12_2 : ∀ j : Int, first_1o4 j = first_2o4 j) (hE_4_16_1 : ∀ j : Int, faceOf_0o4 j = faceOf_1o4 j) (hE_4_16_2 : ∀ j : Int, faceOf_1o4 j = faceOf_2o4 j) (kz_0_0 : 0 ≤ nodes_0 ∧ nodes_0 ≤ 24) (kz_0_1 : 0 ≤ edges_0 ∧ edges_0 ≤ 48) (kz_0_17 : 0 ≤ done_0 ∧ done_0 ≤ 30) (kz_0_18 : 0 ≤ undone_0 ∧ undone_0 ≤ 30) (kz_3_0 : 0 ≤ known_0o3 ∧ known_0o3 ≤ 1) (kz_3_1 : 0 ≤ parts_0o3 ∧ parts_0o3 ≤ 24) (kz_3_2 : 0 ≤ blocks_0o3 ∧ blocks_0o3 ≤ 48) (kz_4_0 : (-1) ≤ planar_0o4 ∧ planar_0o4 ≤ 1) (kz_4_3 : 0 ≤ barredEdges_0o4 ∧ barredEdges_0o4 ≤ 48) (kz_4_5 : 0 ≤ nodes_0o4 ∧ nodes_0o4 ≤ 24) (kz_4_6 : 0 ≤ edges_0o4 ∧ edges_0o4 ≤ 72) : (x10 + x12) = x5 := by
  subst fe_0_0_1
  subst fe_0_1_1
  subst fe_0_17_1
  subst fe_3_0_1
  subst fe_3_1_1
  subst fe_3_2_1
  subst fe_4_0_1
  subst fe_4_3_1
  subst fe_4_5_1
  subst fe_4_6_1
  subst fe_0_0_2
  subst fe_0_1_2
  subst fe_0_18_2
  subst fe_3_0_2
  subst fe_3_1_2
  subst fe_3_2_2
  subst fe_4_0_2
  subst fe_4_3_2
  subst fe_4_5_2
  subst fe_4_6_2
  have e_hE_0_7_1 := funext hE_0_7_1; subst e_hE_0_7_1
  have e_hE_0_7_2 := funext hE_0_7_2; subst e_hE_0_7_2
  have e_hE_0_8_1 := funext hE_0_8_1; subst e_hE_0_8_1
  have e_hE_0_8_2 := funext hE_0_8_2; subst e_hE_0_8_2
  have e_hE_0_14_1 := funext hE_0_14_1; subst e_hE_0_14_1
  have e_hE_0_14_2 := funext hE_0_14_2; subst e_hE_0_14_2
  have e_hE_0_16_1 := funext hE_0_16_1; subst e_hE_0_16_1
  have e_hE_0_16_2 := funext hE_0_16_2; subst e_hE_0_16_2
  have e_hE_3_4_1 := funext hE_3_4_1; subst e_hE_3_4_1
  have e_hE_3_4_2 := funext hE_3_4_2; subst e_hE_3_4_2
  have e_hE_3_9_1 := funext hE_3_9_1; subst e_hE_3_9_1
  have e_hE_3_9_2 := funext hE_3_9_2; subst e_hE_3_9_2
  have e_hE_4_9_1 := funext hE_4_9_1; subst e_hE_4_9_1
  have e_hE_4_9_2 := funext hE_4_9_2; subst e_hE_4_9_2
  have e_hE_4_12_1 := funext hE_4_12_1; subst e_hE_4_12_1
  have e_hE_4_12_2 := funext hE_4_12_2; subst e_hE_4_12_2
  have e_hE_4_16_1 := funext hE_4_16_1; subst e_hE_4_16_1
  have e_hE_4_16_2 := funext hE_4_16_2; subst e_hE_4_16_2
  first
    | omega
  
set_option maxHeartbeats 4000000 in
theorem vc_Gr_step_5_1 (x8 : Int) (x10 : Int) (done_0 : Int) (past_0 : Int → Int) (tail_0 : Int → Int) (head_0 : Int → Int) (nodes_0 : Int) (edges_0 : Int) (near_0 : Int → Int) (part_0o3 : Int → Int) (turned_0o3 : Int → Int) (near_0o4 : Int → Int) (first_0o4 : Int → Int) (faceOf_0o4 : Int → Int) (known_0o3 : Int) (parts_0o3 : Int) (blocks_0o3 : Int) (planar_0o4 : Int) (barredEdges_0o4 : Int) (nodes_0o4 : Int) (edges_0o4 : Int) (undone_1 : Int) (tail_1 : Int → Int) (head_1 : Int → Int) (nodes_1 : Int) (edges_1 : Int) (near_1 : Int → Int) (part_1o3 : Int → Int) (turned_1o3 : Int → Int) (near_1o4 : Int → Int) (first_1o4 : Int → Int) (faceOf_1o4 : Int → Int) (known_1o3 : Int) (parts_1o3 : Int) (blocks_1o3 : Int) (planar_1o4 : Int) (barredEdges_1o4 : Int) (nodes_1o4 : Int) (edges_1o4 : Int) (done_2 : Int) (undone_2 : Int) (past_2 : Int → Int) (tail_2 : Int → Int) (head_2 : Int → Int) (nodes_2 : Int) (edges_2 : Int) (near_2 : Int → Int) (part_2o3 : Int → Int) (turned_2o3 : Int → Int) (near_2o4 : Int → Int) (first_2o4 : Int → Int) (faceOf_2o4 : Int → Int) (known_2o3 : Int) (parts_2o3 : Int) (blocks_2o3 : Int) (planar_2o4 : Int) (barredEdges_2o4 : Int) (nodes_2o4 : Int) (edges_2o4 : Int) (done_1 : Int) (past_1 : Int → Int) (gx : Int) (k8 : 0 ≤ x8 ∧ x8 ≤ 30) (k10 : 1 ≤ x10 ∧ x10 ≤ 30) (d1 : x8 + 1 ≤ x10 ∧ x10 ≤ x8 + 1) (g2 : x10 = done_0) (g18 : x8 = done_2) (fe_0_0_1 : nodes_0 = nodes_1) (fe_0_1_1 : edges_0 = edges_1) (fe_0_17_1 : done_0 = done_1) (fe_3_0_1 : known_0o3 = known_1o3) (fe_3_1_1 : parts_0o3 = parts_1o3) (fe_3_2_1 : blocks_0o3 = blocks_1o3) (fe_4_0_1 : planar_0o4 = planar_1o4) (fe_4_3_1 : barredEdges_0o4 = barredEdges_1o4) (fe_4_5_1 : nodes_0o4 = nodes_1o4) (fe_4_6_1 : edges_0o4 = edges_1o4) (fe_0_0_2 : nodes_1 = nodes_2) (fe_0_1_2 : edges_1 = edges_2) (fe_0_18_2 : undone_1 = undone_2) (fe_3_0_2 : known_1o3 = known_2o3) (fe_3_1_2 : parts_1o3 = parts_2o3) (fe_3_2_2 : blocks_1o3 = blocks_2o3) (fe_4_0_2 : planar_1o4 = planar_2o4) (fe_4_3_2 : barredEdges_1o4 = barredEdges_2o4) (fe_4_5_2 : nodes_1o4 = nodes_2o4) (fe_4_6_2 : edges_1o4 = edges_2o4) (hE_0_7_1 : ∀ j : Int, tail_0 j = tail_1 j) (hE_0_7_2 : ∀ j : Int, tail_1 j = tail_2 j) (hE_0_8_1 : ∀ j : Int, head_0 j = head_1 j) (hE_0_8_2 : ∀ j : Int, head_1 j = head_2 j) (hE_0_14_1 : ∀ j : Int, near_0 j = near_1 j) (hE_0_14_2 : ∀ j : Int, near_1 j = near_2 j) (hE_0_16_1 : ∀ j : Int, past_0 j = past_1 j) (hE_0_16_2 : ∀ j : Int, past_1 j = past_2 j) (hE_3_4_1 : ∀ j : Int, part_0o3 j = part_1o3 j) (hE_3_4_2 : ∀ j : Int, part_1o3 j = part_2o3 j) (hE_3_9_1 : ∀ j : Int, turned_0o3 j = turned_1o3 j) (hE_3_9_2 : ∀ j : Int, turned_1o3 j = turned_2o3 j) (hE_4_9_1 : ∀ j : Int, near_0o4 j = near_1o4 j) (hE_4_9_2 : ∀ j : Int, near_1o4 j = near_2o4 j) (hE_4_12_1 : ∀ j : Int, first_0o4 j = first_1o4 j) (hE_4_12_2 : ∀ j : Int, first_1o4 j = first_2o4 j) (hE_4_16_1 : ∀ j : Int, faceOf_0o4 j = faceOf_1o4 j) (hE_4_16_2 : ∀ j : Int, faceOf_1o4 j = faceOf_2o4 j) (kz_0_0 : 0 ≤ nodes_0 ∧ nodes_0 ≤ 24) (kz_0_1 : 0 ≤ edges_0 ∧ edges_0 ≤ 48) (kz_0_17 : 0 ≤ done_0 ∧ done_0 ≤ 30) (kz_3_0 : 0 ≤ known_0o3 ∧ known_0o3 ≤ 1) (kz_3_1 : 0 ≤ parts_0o3 ∧ parts_0o3 ≤ 24) (kz_3_2 : 0 ≤ blocks_0o3 ∧ blocks_0o3 ≤ 48) (kz_4_0 : (-1) ≤ planar_0o4 ∧ planar_0o4 ≤ 1) (kz_4_3 : 0 ≤ barredEdges_0o4 ∧ barredEdges_0o4 ≤ 48) (kz_4_5 : 0 ≤ nodes_0o4 ∧ nodes_0o4 ≤ 24) (kz_4_6 : 0 ≤ edges_0o4 ∧ edges_0o4 ≤ 72) (ex2 : gx = x10) : 1 * gx + ((-1) * x10 + 0) ≤ 0 := by
  subst fe_0_0_1
  subst fe_0_1_1
  subst fe_0_17_1
  subst fe_3_0_1
  subst fe_3_1_1
  subst fe_3_2_1
  subst fe_4_0_1
  subst fe_4_3_1
  subst fe_4_5_1
  subst fe_4_6_1
  subst fe_0_0_2
  subst fe_0_1_2
  subst fe_0_18_2
  subst fe_3_0_2
  subst fe_3_1_2
  subst fe_3_2_2
  subst fe_4_0_2
  subst fe_4_3_2
  subst fe_4_5_2
  subst fe_4_6_2
  have e_hE_0_7_1 := funext hE_0_7_1; subst e_hE_0_7_1
  have e_hE_0_7_2 := funext hE_0_7_2; subst e_hE_0_7_2
  have e_hE_0_8_1 := funext hE_0_8_1; subst e_hE_0_8_1
  have e_hE_0_8_2 := funext hE_0_8_2; subst e_hE_0_8_2
  have e_hE_0_14_1 := funext hE_0_14_1; subst e_hE_0_14_1
  have e_hE_0_14_2 := funext hE_0_14_2; subst e_hE_0_14_2
  have e_hE_0_16_1 := funext hE_0_16_1; subst e_hE_0_16_1
  have e_hE_0_16_2 := funext hE_0_16_2; subst e_hE_0_16_2
  have e_hE_3_4_1 := funext hE_3_4_1; subst e_hE_3_4_1
  have e_hE_3_4_2 := funext hE_3_4_2; subst e_hE_3_4_2
  have e_hE_3_9_1 := funext hE_3_9_1; subst e_hE_3_9_1
  have e_hE_3_9_2 := funext hE_3_9_2; subst e_hE_3_9_2
  have e_hE_4_9_1 := funext hE_4_9_1; subst e_hE_4_9_1
  have e_hE_4_9_2 := funext hE_4_9_2; subst e_hE_4_9_2
  have e_hE_4_12_1 := funext hE_4_12_1; subst e_hE_4_12_1
  have e_hE_4_12_2 := funext hE_4_12_2; subst e_hE_4_12_2
  have e_hE_4_16_1 := funext hE_4_16_1; subst e_hE_4_16_1
  have e_hE_4_16_2 := funext hE_4_16_2; subst e_hE_4_16_2
  first
    | omega
  
set_option maxHeartbeats 4000000 in
theorem vc_Gr_step_5_2 (x8 : Int) (x10 : Int) (done_0 : Int) (past_0 : Int → Int) (tail_0 : Int → Int) (head_0 : Int → Int) (nodes_0 : Int) (edges_0 : Int) (near_0 : Int → Int) (part_0o3 : Int → Int) (turned_0o3 : Int → Int) (near_0o4 : Int → Int) (first_0o4 : Int → Int) (faceOf_0o4 : Int → Int) (known_0o3 : Int) (parts_0o3 : Int) (blocks_0o3 : Int) (planar_0o4 : Int) (barredEdges_0o4 : Int) (nodes_0o4 : Int) (edges_0o4 : Int) (undone_1 : Int) (tail_1 : Int → Int) (head_1 : Int → Int) (nodes_1 : Int) (edges_1 : Int) (near_1 : Int → Int) (part_1o3 : Int → Int) (turned_1o3 : Int → Int) (near_1o4 : Int → Int) (first_1o4 : Int → Int) (faceOf_1o4 : Int → Int) (known_1o3 : Int) (parts_1o3 : Int) (blocks_1o3 : Int) (planar_1o4 : Int) (barredEdges_1o4 : Int) (nodes_1o4 : Int) (edges_1o4 : Int) (done_2 : Int) (undone_2 : Int) (past_2 : Int → Int) (tail_2 : Int → Int) (head_2 : Int → Int) (nodes_2 : Int) (edges_2 : Int) (near_2 : Int → Int) (part_2o3 : Int → Int) (turned_2o3 : Int → Int) (near_2o4 : Int → Int) (first_2o4 : Int → Int) (faceOf_2o4 : Int → Int) (known_2o3 : Int) (parts_2o3 : Int) (blocks_2o3 : Int) (planar_2o4 : Int) (barredEdges_2o4 : Int) (nodes_2o4 : Int) (edges_2o4 : Int) (done_1 : Int) (past_1 : Int → Int) (gx : Int) (k8 : 0 ≤ x8 ∧ x8 ≤ 30) (k10 : 1 ≤ x10 ∧ x10 ≤ 30) (d1 : x8 + 1 ≤ x10 ∧ x10 ≤ x8 + 1) (g2 : x10 = done_0) (g18 : x8 = done_2) (fe_0_0_1 : nodes_0 = nodes_1) (fe_0_1_1 : edges_0 = edges_1) (fe_0_17_1 : done_0 = done_1) (fe_3_0_1 : known_0o3 = known_1o3) (fe_3_1_1 : parts_0o3 = parts_1o3) (fe_3_2_1 : blocks_0o3 = blocks_1o3) (fe_4_0_1 : planar_0o4 = planar_1o4) (fe_4_3_1 : barredEdges_0o4 = barredEdges_1o4) (fe_4_5_1 : nodes_0o4 = nodes_1o4) (fe_4_6_1 : edges_0o4 = edges_1o4) (fe_0_0_2 : nodes_1 = nodes_2) (fe_0_1_2 : edges_1 = edges_2) (fe_0_18_2 : undone_1 = undone_2) (fe_3_0_2 : known_1o3 = known_2o3) (fe_3_1_2 : parts_1o3 = parts_2o3) (fe_3_2_2 : blocks_1o3 = blocks_2o3) (fe_4_0_2 : planar_1o4 = planar_2o4) (fe_4_3_2 : barredEdges_1o4 = barredEdges_2o4) (fe_4_5_2 : nodes_1o4 = nodes_2o4) (fe_4_6_2 : edges_1o4 = edges_2o4) (hE_0_7_1 : ∀ j : Int, tail_0 j = tail_1 j) (hE_0_7_2 : ∀ j : Int, tail_1 j = tail_2 j) (hE_0_8_1 : ∀ j : Int, head_0 j = head_1 j) (hE_0_8_2 : ∀ j : Int, head_1 j = head_2 j) (hE_0_14_1 : ∀ j : Int, near_0 j = near_1 j) (hE_0_14_2 : ∀ j : Int, near_1 j = near_2 j) (hE_0_16_1 : ∀ j : Int, past_0 j = past_1 j) (hE_0_16_2 : ∀ j : Int, past_1 j = past_2 j) (hE_3_4_1 : ∀ j : Int, part_0o3 j = part_1o3 j) (hE_3_4_2 : ∀ j : Int, part_1o3 j = part_2o3 j) (hE_3_9_1 : ∀ j : Int, turned_0o3 j = turned_1o3 j) (hE_3_9_2 : ∀ j : Int, turned_1o3 j = turned_2o3 j) (hE_4_9_1 : ∀ j : Int, near_0o4 j = near_1o4 j) (hE_4_9_2 : ∀ j : Int, near_1o4 j = near_2o4 j) (hE_4_12_1 : ∀ j : Int, first_0o4 j = first_1o4 j) (hE_4_12_2 : ∀ j : Int, first_1o4 j = first_2o4 j) (hE_4_16_1 : ∀ j : Int, faceOf_0o4 j = faceOf_1o4 j) (hE_4_16_2 : ∀ j : Int, faceOf_1o4 j = faceOf_2o4 j) (kz_0_0 : 0 ≤ nodes_0 ∧ nodes_0 ≤ 24) (kz_0_1 : 0 ≤ edges_0 ∧ edges_0 ≤ 48) (kz_0_17 : 0 ≤ done_0 ∧ done_0 ≤ 30) (kz_3_0 : 0 ≤ known_0o3 ∧ known_0o3 ≤ 1) (kz_3_1 : 0 ≤ parts_0o3 ∧ parts_0o3 ≤ 24) (kz_3_2 : 0 ≤ blocks_0o3 ∧ blocks_0o3 ≤ 48) (kz_4_0 : (-1) ≤ planar_0o4 ∧ planar_0o4 ≤ 1) (kz_4_3 : 0 ≤ barredEdges_0o4 ∧ barredEdges_0o4 ≤ 48) (kz_4_5 : 0 ≤ nodes_0o4 ∧ nodes_0o4 ≤ 24) (kz_4_6 : 0 ≤ edges_0o4 ∧ edges_0o4 ≤ 72) (ex2 : gx = x10) : (-1) * gx + (1 * x10 + 0) ≤ 0 := by
  subst fe_0_0_1
  subst fe_0_1_1
  subst fe_0_17_1
  subst fe_3_0_1
  subst fe_3_1_1
  subst fe_3_2_1
  subst fe_4_0_1
  subst fe_4_3_1
  subst fe_4_5_1
  subst fe_4_6_1
  subst fe_0_0_2
  subst fe_0_1_2
  subst fe_0_18_2
  subst fe_3_0_2
  subst fe_3_1_2
  subst fe_3_2_2
  subst fe_4_0_2
  subst fe_4_3_2
  subst fe_4_5_2
  subst fe_4_6_2
  have e_hE_0_7_1 := funext hE_0_7_1; subst e_hE_0_7_1
  have e_hE_0_7_2 := funext hE_0_7_2; subst e_hE_0_7_2
  have e_hE_0_8_1 := funext hE_0_8_1; subst e_hE_0_8_1
  have e_hE_0_8_2 := funext hE_0_8_2; subst e_hE_0_8_2
  have e_hE_0_14_1 := funext hE_0_14_1; subst e_hE_0_14_1
  have e_hE_0_14_2 := funext hE_0_14_2; subst e_hE_0_14_2
  have e_hE_0_16_1 := funext hE_0_16_1; subst e_hE_0_16_1
  have e_hE_0_16_2 := funext hE_0_16_2; subst e_hE_0_16_2
  have e_hE_3_4_1 := funext hE_3_4_1; subst e_hE_3_4_1
  have e_hE_3_4_2 := funext hE_3_4_2; subst e_hE_3_4_2
  have e_hE_3_9_1 := funext hE_3_9_1; subst e_hE_3_9_1
  have e_hE_3_9_2 := funext hE_3_9_2; subst e_hE_3_9_2
  have e_hE_4_9_1 := funext hE_4_9_1; subst e_hE_4_9_1
  have e_hE_4_9_2 := funext hE_4_9_2; subst e_hE_4_9_2
  have e_hE_4_12_1 := funext hE_4_12_1; subst e_hE_4_12_1
  have e_hE_4_12_2 := funext hE_4_12_2; subst e_hE_4_12_2
  have e_hE_4_16_1 := funext hE_4_16_1; subst e_hE_4_16_1
  have e_hE_4_16_2 := funext hE_4_16_2; subst e_hE_4_16_2
  first
    | omega
  
set_option maxHeartbeats 4000000 in
theorem vc_Gr_step_5_3 (x7 : Int) (x12 : Int) (undone_0 : Int) (done_0 : Int) (past_0 : Int → Int) (tail_0 : Int → Int) (head_0 : Int → Int) (nodes_0 : Int) (edges_0 : Int) (near_0 : Int → Int) (part_0o3 : Int → Int) (turned_0o3 : Int → Int) (near_0o4 : Int → Int) (first_0o4 : Int → Int) (faceOf_0o4 : Int → Int) (known_0o3 : Int) (parts_0o3 : Int) (blocks_0o3 : Int) (planar_0o4 : Int) (barredEdges_0o4 : Int) (nodes_0o4 : Int) (edges_0o4 : Int) (undone_1 : Int) (tail_1 : Int → Int) (head_1 : Int → Int) (nodes_1 : Int) (edges_1 : Int) (near_1 : Int → Int) (part_1o3 : Int → Int) (turned_1o3 : Int → Int) (near_1o4 : Int → Int) (first_1o4 : Int → Int) (faceOf_1o4 : Int → Int) (known_1o3 : Int) (parts_1o3 : Int) (blocks_1o3 : Int) (planar_1o4 : Int) (barredEdges_1o4 : Int) (nodes_1o4 : Int) (edges_1o4 : Int) (undone_2 : Int) (past_2 : Int → Int) (tail_2 : Int → Int) (head_2 : Int → Int) (nodes_2 : Int) (edges_2 : Int) (near_2 : Int → Int) (part_2o3 : Int → Int) (turned_2o3 : Int → Int) (near_2o4 : Int → Int) (first_2o4 : Int → Int) (faceOf_2o4 : Int → Int) (known_2o3 : Int) (parts_2o3 : Int) (blocks_2o3 : Int) (planar_2o4 : Int) (barredEdges_2o4 : Int) (nodes_2o4 : Int) (edges_2o4 : Int) (done_1 : Int) (past_1 : Int → Int) (gy : Int) (k7 : 1 ≤ x7 ∧ x7 ≤ 30) (k12 : 0 ≤ x12 ∧ x12 ≤ 29) (d0 : x7 + (-1) ≤ x12 ∧ x12 ≤ x7 + (-1)) (g0 : x12 = undone_0) (g12 : x7 = undone_1) (fe_0_0_1 : nodes_0 = nodes_1) (fe_0_1_1 : edges_0 = edges_1) (fe_0_17_1 : done_0 = done_1) (fe_3_0_1 : known_0o3 = known_1o3) (fe_3_1_1 : parts_0o3 = parts_1o3) (fe_3_2_1 : blocks_0o3 = blocks_1o3) (fe_4_0_1 : planar_0o4 = planar_1o4) (fe_4_3_1 : barredEdges_0o4 = barredEdges_1o4) (fe_4_5_1 : nodes_0o4 = nodes_1o4) (fe_4_6_1 : edges_0o4 = edges_1o4) (fe_0_0_2 : nodes_1 = nodes_2) (fe_0_1_2 : edges_1 = edges_2) (fe_0_18_2 : undone_1 = undone_2) (fe_3_0_2 : known_1o3 = known_2o3) (fe_3_1_2 : parts_1o3 = parts_2o3) (fe_3_2_2 : blocks_1o3 = blocks_2o3) (fe_4_0_2 : planar_1o4 = planar_2o4) (fe_4_3_2 : barredEdges_1o4 = barredEdges_2o4) (fe_4_5_2 : nodes_1o4 = nodes_2o4) (fe_4_6_2 : edges_1o4 = edges_2o4) (hE_0_7_1 : ∀ j : Int, tail_0 j = tail_1 j) (hE_0_7_2 : ∀ j : Int, tail_1 j = tail_2 j) (hE_0_8_1 : ∀ j : Int, head_0 j = head_1 j) (hE_0_8_2 : ∀ j : Int, head_1 j = head_2 j) (hE_0_14_1 : ∀ j : Int, near_0 j = near_1 j) (hE_0_14_2 : ∀ j : Int, near_1 j = near_2 j) (hE_0_16_1 : ∀ j : Int, past_0 j = past_1 j) (hE_0_16_2 : ∀ j : Int, past_1 j = past_2 j) (hE_3_4_1 : ∀ j : Int, part_0o3 j = part_1o3 j) (hE_3_4_2 : ∀ j : Int, part_1o3 j = part_2o3 j) (hE_3_9_1 : ∀ j : Int, turned_0o3 j = turned_1o3 j) (hE_3_9_2 : ∀ j : Int, turned_1o3 j = turned_2o3 j) (hE_4_9_1 : ∀ j : Int, near_0o4 j = near_1o4 j) (hE_4_9_2 : ∀ j : Int, near_1o4 j = near_2o4 j) (hE_4_12_1 : ∀ j : Int, first_0o4 j = first_1o4 j) (hE_4_12_2 : ∀ j : Int, first_1o4 j = first_2o4 j) (hE_4_16_1 : ∀ j : Int, faceOf_0o4 j = faceOf_1o4 j) (hE_4_16_2 : ∀ j : Int, faceOf_1o4 j = faceOf_2o4 j) (kz_0_0 : 0 ≤ nodes_0 ∧ nodes_0 ≤ 24) (kz_0_1 : 0 ≤ edges_0 ∧ edges_0 ≤ 48) (kz_0_17 : 0 ≤ done_0 ∧ done_0 ≤ 30) (kz_0_18 : 0 ≤ undone_0 ∧ undone_0 ≤ 30) (kz_3_0 : 0 ≤ known_0o3 ∧ known_0o3 ≤ 1) (kz_3_1 : 0 ≤ parts_0o3 ∧ parts_0o3 ≤ 24) (kz_3_2 : 0 ≤ blocks_0o3 ∧ blocks_0o3 ≤ 48) (kz_4_0 : (-1) ≤ planar_0o4 ∧ planar_0o4 ≤ 1) (kz_4_3 : 0 ≤ barredEdges_0o4 ∧ barredEdges_0o4 ≤ 48) (kz_4_5 : 0 ≤ nodes_0o4 ∧ nodes_0o4 ≤ 24) (kz_4_6 : 0 ≤ edges_0o4 ∧ edges_0o4 ≤ 72) (ey2 : gy = x12) : 1 * gy + ((-1) * x12 + 0) ≤ 0 := by
  subst fe_0_0_1
  subst fe_0_1_1
  subst fe_0_17_1
  subst fe_3_0_1
  subst fe_3_1_1
  subst fe_3_2_1
  subst fe_4_0_1
  subst fe_4_3_1
  subst fe_4_5_1
  subst fe_4_6_1
  subst fe_0_0_2
  subst fe_0_1_2
  subst fe_0_18_2
  subst fe_3_0_2
  subst fe_3_1_2
  subst fe_3_2_2
  subst fe_4_0_2
  subst fe_4_3_2
  subst fe_4_5_2
  subst fe_4_6_2
  have e_hE_0_7_1 := funext hE_0_7_1; subst e_hE_0_7_1
  have e_hE_0_7_2 := funext hE_0_7_2; subst e_hE_0_7_2
  have e_hE_0_8_1 := funext hE_0_8_1; subst e_hE_0_8_1
  have e_hE_0_8_2 := funext hE_0_8_2; subst e_hE_0_8_2
  have e_hE_0_14_1 := funext hE_0_14_1; subst e_hE_0_14_1
  have e_hE_0_14_2 := funext hE_0_14_2; subst e_hE_0_14_2
  have e_hE_0_16_1 := funext hE_0_16_1; subst e_hE_0_16_1
  have e_hE_0_16_2 := funext hE_0_16_2; subst e_hE_0_16_2
  have e_hE_3_4_1 := funext hE_3_4_1; subst e_hE_3_4_1
  have e_hE_3_4_2 := funext hE_3_4_2; subst e_hE_3_4_2
  have e_hE_3_9_1 := funext hE_3_9_1; subst e_hE_3_9_1
  have e_hE_3_9_2 := funext hE_3_9_2; subst e_hE_3_9_2
  have e_hE_4_9_1 := funext hE_4_9_1; subst e_hE_4_9_1
  have e_hE_4_9_2 := funext hE_4_9_2; subst e_hE_4_9_2
  have e_hE_4_12_1 := funext hE_4_12_1; subst e_hE_4_12_1
  have e_hE_4_12_2 := funext hE_4_12_2; subst e_hE_4_12_2
  have e_hE_4_16_1 := funext hE_4_16_1; subst e_hE_4_16_1
  have e_hE_4_16_2 := funext hE_4_16_2; subst e_hE_4_16_2
  first
    | omega
  
set_option maxHeartbeats 4000000 in
theorem vc_Gr_step_5_4 (x7 : Int) (x12 : Int) (undone_0 : Int) (done_0 : Int) (past_0 : Int → Int) (tail_0 : Int → Int) (head_0 : Int → Int) (nodes_0 : Int) (edges_0 : Int) (near_0 : Int → Int) (part_0o3 : Int → Int) (turned_0o3 : Int → Int) (near_0o4 : Int → Int) (first_0o4 : Int → Int) (faceOf_0o4 : Int → Int) (known_0o3 : Int) (parts_0o3 : Int) (blocks_0o3 : Int) (planar_0o4 : Int) (barredEdges_0o4 : Int) (nodes_0o4 : Int) (edges_0o4 : Int) (undone_1 : Int) (tail_1 : Int → Int) (head_1 : Int → Int) (nodes_1 : Int) (edges_1 : Int) (near_1 : Int → Int) (part_1o3 : Int → Int) (turned_1o3 : Int → Int) (near_1o4 : Int → Int) (first_1o4 : Int → Int) (faceOf_1o4 : Int → Int) (known_1o3 : Int) (parts_1o3 : Int) (blocks_1o3 : Int) (planar_1o4 : Int) (barredEdges_1o4 : Int) (nodes_1o4 : Int) (edges_1o4 : Int) (undone_2 : Int) (past_2 : Int → Int) (tail_2 : Int → Int) (head_2 : Int → Int) (nodes_2 : Int) (edges_2 : Int) (near_2 : Int → Int) (part_2o3 : Int → Int) (turned_2o3 : Int → Int) (near_2o4 : Int → Int) (first_2o4 : Int → Int) (faceOf_2o4 : Int → Int) (known_2o3 : Int) (parts_2o3 : Int) (blocks_2o3 : Int) (planar_2o4 : Int) (barredEdges_2o4 : Int) (nodes_2o4 : Int) (edges_2o4 : Int) (done_1 : Int) (past_1 : Int → Int) (gy : Int) (k7 : 1 ≤ x7 ∧ x7 ≤ 30) (k12 : 0 ≤ x12 ∧ x12 ≤ 29) (d0 : x7 + (-1) ≤ x12 ∧ x12 ≤ x7 + (-1)) (g0 : x12 = undone_0) (g12 : x7 = undone_1) (fe_0_0_1 : nodes_0 = nodes_1) (fe_0_1_1 : edges_0 = edges_1) (fe_0_17_1 : done_0 = done_1) (fe_3_0_1 : known_0o3 = known_1o3) (fe_3_1_1 : parts_0o3 = parts_1o3) (fe_3_2_1 : blocks_0o3 = blocks_1o3) (fe_4_0_1 : planar_0o4 = planar_1o4) (fe_4_3_1 : barredEdges_0o4 = barredEdges_1o4) (fe_4_5_1 : nodes_0o4 = nodes_1o4) (fe_4_6_1 : edges_0o4 = edges_1o4) (fe_0_0_2 : nodes_1 = nodes_2) (fe_0_1_2 : edges_1 = edges_2) (fe_0_18_2 : undone_1 = undone_2) (fe_3_0_2 : known_1o3 = known_2o3) (fe_3_1_2 : parts_1o3 = parts_2o3) (fe_3_2_2 : blocks_1o3 = blocks_2o3) (fe_4_0_2 : planar_1o4 = planar_2o4) (fe_4_3_2 : barredEdges_1o4 = barredEdges_2o4) (fe_4_5_2 : nodes_1o4 = nodes_2o4) (fe_4_6_2 : edges_1o4 = edges_2o4) (hE_0_7_1 : ∀ j : Int, tail_0 j = tail_1 j) (hE_0_7_2 : ∀ j : Int, tail_1 j = tail_2 j) (hE_0_8_1 : ∀ j : Int, head_0 j = head_1 j) (hE_0_8_2 : ∀ j : Int, head_1 j = head_2 j) (hE_0_14_1 : ∀ j : Int, near_0 j = near_1 j) (hE_0_14_2 : ∀ j : Int, near_1 j = near_2 j) (hE_0_16_1 : ∀ j : Int, past_0 j = past_1 j) (hE_0_16_2 : ∀ j : Int, past_1 j = past_2 j) (hE_3_4_1 : ∀ j : Int, part_0o3 j = part_1o3 j) (hE_3_4_2 : ∀ j : Int, part_1o3 j = part_2o3 j) (hE_3_9_1 : ∀ j : Int, turned_0o3 j = turned_1o3 j) (hE_3_9_2 : ∀ j : Int, turned_1o3 j = turned_2o3 j) (hE_4_9_1 : ∀ j : Int, near_0o4 j = near_1o4 j) (hE_4_9_2 : ∀ j : Int, near_1o4 j = near_2o4 j) (hE_4_12_1 : ∀ j : Int, first_0o4 j = first_1o4 j) (hE_4_12_2 : ∀ j : Int, first_1o4 j = first_2o4 j) (hE_4_16_1 : ∀ j : Int, faceOf_0o4 j = faceOf_1o4 j) (hE_4_16_2 : ∀ j : Int, faceOf_1o4 j = faceOf_2o4 j) (kz_0_0 : 0 ≤ nodes_0 ∧ nodes_0 ≤ 24) (kz_0_1 : 0 ≤ edges_0 ∧ edges_0 ≤ 48) (kz_0_17 : 0 ≤ done_0 ∧ done_0 ≤ 30) (kz_0_18 : 0 ≤ undone_0 ∧ undone_0 ≤ 30) (kz_3_0 : 0 ≤ known_0o3 ∧ known_0o3 ≤ 1) (kz_3_1 : 0 ≤ parts_0o3 ∧ parts_0o3 ≤ 24) (kz_3_2 : 0 ≤ blocks_0o3 ∧ blocks_0o3 ≤ 48) (kz_4_0 : (-1) ≤ planar_0o4 ∧ planar_0o4 ≤ 1) (kz_4_3 : 0 ≤ barredEdges_0o4 ∧ barredEdges_0o4 ≤ 48) (kz_4_5 : 0 ≤ nodes_0o4 ∧ nodes_0o4 ≤ 24) (kz_4_6 : 0 ≤ edges_0o4 ∧ edges_0o4 ≤ 72) (ey2 : gy = x12) : (-1) * gy + (1 * x12 + 0) ≤ 0 := by
  subst fe_0_0_1
  subst fe_0_1_1
  subst fe_0_17_1
  subst fe_3_0_1
  subst fe_3_1_1
  subst fe_3_2_1
  subst fe_4_0_1
  subst fe_4_3_1
  subst fe_4_5_1
  subst fe_4_6_1
  subst fe_0_0_2
  subst fe_0_1_2
  subst fe_0_18_2
  subst fe_3_0_2
  subst fe_3_1_2
  subst fe_3_2_2
  subst fe_4_0_2
  subst fe_4_3_2
  subst fe_4_5_2
  subst fe_4_6_2
  have e_hE_0_7_1 := funext hE_0_7_1; subst e_hE_0_7_1
  have e_hE_0_7_2 := funext hE_0_7_2; subst e_hE_0_7_2
  have e_hE_0_8_1 := funext hE_0_8_1; subst e_hE_0_8_1
  have e_hE_0_8_2 := funext hE_0_8_2; subst e_hE_0_8_2
  have e_hE_0_14_1 := funext hE_0_14_1; subst e_hE_0_14_1
  have e_hE_0_14_2 := funext hE_0_14_2; subst e_hE_0_14_2
  have e_hE_0_16_1 := funext hE_0_16_1; subst e_hE_0_16_1
  have e_hE_0_16_2 := funext hE_0_16_2; subst e_hE_0_16_2
  have e_hE_3_4_1 := funext hE_3_4_1; subst e_hE_3_4_1
  have e_hE_3_4_2 := funext hE_3_4_2; subst e_hE_3_4_2
  have e_hE_3_9_1 := funext hE_3_9_1; subst e_hE_3_9_1
  have e_hE_3_9_2 := funext hE_3_9_2; subst e_hE_3_9_2
  have e_hE_4_9_1 := funext hE_4_9_1; subst e_hE_4_9_1
  have e_hE_4_9_2 := funext hE_4_9_2; subst e_hE_4_9_2
  have e_hE_4_12_1 := funext hE_4_12_1; subst e_hE_4_12_1
  have e_hE_4_12_2 := funext hE_4_12_2; subst e_hE_4_12_2
  have e_hE_4_16_1 := funext hE_4_16_1; subst e_hE_4_16_1
  have e_hE_4_16_2 := funext hE_4_16_2; subst e_hE_4_16_2
  first
    | omega
  
set_option maxHeartbeats 4000000 in
theorem vc_Gr_step_5_5 (undone_0 : Int) (done_0 : Int) (past_0 : Int → Int) (tail_0 : Int → Int) (head_0 : Int → Int) (nodes_0 : Int) (edges_0 : Int) (near_0 : Int → Int) (part_0o3 : Int → Int) (turned_0o3 : Int → Int) (near_0o4 : Int → Int) (first_0o4 : Int → Int) (faceOf_0o4 : Int → Int) (known_0o3 : Int) (parts_0o3 : Int) (blocks_0o3 : Int) (planar_0o4 : Int) (barredEdges_0o4 : Int) (nodes_0o4 : Int) (edges_0o4 : Int) (undone_1 : Int) (tail_1 : Int → Int) (head_1 : Int → Int) (nodes_1 : Int) (edges_1 : Int) (near_1 : Int → Int) (part_1o3 : Int → Int) (turned_1o3 : Int → Int) (near_1o4 : Int → Int) (first_1o4 : Int → Int) (faceOf_1o4 : Int → Int) (known_1o3 : Int) (parts_1o3 : Int) (blocks_1o3 : Int) (planar_1o4 : Int) (barredEdges_1o4 : Int) (nodes_1o4 : Int) (edges_1o4 : Int) (undone_2 : Int) (past_2 : Int → Int) (tail_2 : Int → Int) (head_2 : Int → Int) (nodes_2 : Int) (edges_2 : Int) (near_2 : Int → Int) (part_2o3 : Int → Int) (turned_2o3 : Int → Int) (near_2o4 : Int → Int) (first_2o4 : Int → Int) (faceOf_2o4 : Int → Int) (known_2o3 : Int) (parts_2o3 : Int) (blocks_2o3 : Int) (planar_2o4 : Int) (barredEdges_2o4 : Int) (nodes_2o4 : Int) (edges_2o4 : Int) (done_1 : Int) (past_1 : Int → Int) (f4 : PDQ (done_0) (undone_0) (past_0)) (fe_0_0_1 : nodes_0 = nodes_1) (fe_0_1_1 : edges_0 = edges_1) (fe_0_17_1 : done_0 = done_1) (fe_3_0_1 : known_0o3 = known_1o3) (fe_3_1_1 : parts_0o3 = parts_1o3) (fe_3_2_1 : blocks_0o3 = blocks_1o3) (fe_4_0_1 : planar_0o4 = planar_1o4) (fe_4_3_1 : barredEdges_0o4 = barredEdges_1o4) (fe_4_5_1 : nodes_0o4 = nodes_1o4) (fe_4_6_1 : edges_0o4 = edges_1o4) (fe_0_0_2 : nodes_1 = nodes_2) (fe_0_1_2 : edges_1 = edges_2) (fe_0_18_2 : undone_1 = undone_2) (fe_3_0_2 : known_1o3 = known_2o3) (fe_3_1_2 : parts_1o3 = parts_2o3) (fe_3_2_2 : blocks_1o3 = blocks_2o3) (fe_4_0_2 : planar_1o4 = planar_2o4) (fe_4_3_2 : barredEdges_1o4 = barredEdges_2o4) (fe_4_5_2 : nodes_1o4 = nodes_2o4) (fe_4_6_2 : edges_1o4 = edges_2o4) (hE_0_7_1 : ∀ j : Int, tail_0 j = tail_1 j) (hE_0_7_2 : ∀ j : Int, tail_1 j = tail_2 j) (hE_0_8_1 : ∀ j : Int, head_0 j = head_1 j) (hE_0_8_2 : ∀ j : Int, head_1 j = head_2 j) (hE_0_14_1 : ∀ j : Int, near_0 j = near_1 j) (hE_0_14_2 : ∀ j : Int, near_1 j = near_2 j) (hE_0_16_1 : ∀ j : Int, past_0 j = past_1 j) (hE_0_16_2 : ∀ j : Int, past_1 j = past_2 j) (hE_3_4_1 : ∀ j : Int, part_0o3 j = part_1o3 j) (hE_3_4_2 : ∀ j : Int, part_1o3 j = part_2o3 j) (hE_3_9_1 : ∀ j : Int, turned_0o3 j = turned_1o3 j) (hE_3_9_2 : ∀ j : Int, turned_1o3 j = turned_2o3 j) (hE_4_9_1 : ∀ j : Int, near_0o4 j = near_1o4 j) (hE_4_9_2 : ∀ j : Int, near_1o4 j = near_2o4 j) (hE_4_12_1 : ∀ j : Int, first_0o4 j = first_1o4 j) (hE_4_12_2 : ∀ j : Int, first_1o4 j = first_2o4 j) (hE_4_16_1 : ∀ j : Int, faceOf_0o4 j = faceOf_1o4 j) (hE_4_16_2 : ∀ j : Int, faceOf_1o4 j = faceOf_2o4 j) (kz_0_0 : 0 ≤ nodes_0 ∧ nodes_0 ≤ 24) (kz_0_1 : 0 ≤ edges_0 ∧ edges_0 ≤ 48) (kz_0_17 : 0 ≤ done_0 ∧ done_0 ≤ 30) (kz_0_18 : 0 ≤ undone_0 ∧ undone_0 ≤ 30) (kz_3_0 : 0 ≤ known_0o3 ∧ known_0o3 ≤ 1) (kz_3_1 : 0 ≤ parts_0o3 ∧ parts_0o3 ≤ 24) (kz_3_2 : 0 ≤ blocks_0o3 ∧ blocks_0o3 ≤ 48) (kz_4_0 : (-1) ≤ planar_0o4 ∧ planar_0o4 ≤ 1) (kz_4_3 : 0 ≤ barredEdges_0o4 ∧ barredEdges_0o4 ≤ 48) (kz_4_5 : 0 ≤ nodes_0o4 ∧ nodes_0o4 ≤ 24) (kz_4_6 : 0 ≤ edges_0o4 ∧ edges_0o4 ≤ 72) : PDQ (done_0) (undone_0) (past_0) := by
  subst fe_0_0_1
  subst fe_0_1_1
  subst fe_0_17_1
  subst fe_3_0_1
  subst fe_3_1_1
  subst fe_3_2_1
  subst fe_4_0_1
  subst fe_4_3_1
  subst fe_4_5_1
  subst fe_4_6_1
  subst fe_0_0_2
  subst fe_0_1_2
  subst fe_0_18_2
  subst fe_3_0_2
  subst fe_3_1_2
  subst fe_3_2_2
  subst fe_4_0_2
  subst fe_4_3_2
  subst fe_4_5_2
  subst fe_4_6_2
  have e_hE_0_7_1 := funext hE_0_7_1; subst e_hE_0_7_1
  have e_hE_0_7_2 := funext hE_0_7_2; subst e_hE_0_7_2
  have e_hE_0_8_1 := funext hE_0_8_1; subst e_hE_0_8_1
  have e_hE_0_8_2 := funext hE_0_8_2; subst e_hE_0_8_2
  have e_hE_0_14_1 := funext hE_0_14_1; subst e_hE_0_14_1
  have e_hE_0_14_2 := funext hE_0_14_2; subst e_hE_0_14_2
  have e_hE_0_16_1 := funext hE_0_16_1; subst e_hE_0_16_1
  have e_hE_0_16_2 := funext hE_0_16_2; subst e_hE_0_16_2
  have e_hE_3_4_1 := funext hE_3_4_1; subst e_hE_3_4_1
  have e_hE_3_4_2 := funext hE_3_4_2; subst e_hE_3_4_2
  have e_hE_3_9_1 := funext hE_3_9_1; subst e_hE_3_9_1
  have e_hE_3_9_2 := funext hE_3_9_2; subst e_hE_3_9_2
  have e_hE_4_9_1 := funext hE_4_9_1; subst e_hE_4_9_1
  have e_hE_4_9_2 := funext hE_4_9_2; subst e_hE_4_9_2
  have e_hE_4_12_1 := funext hE_4_12_1; subst e_hE_4_12_1
  have e_hE_4_12_2 := funext hE_4_12_2; subst e_hE_4_12_2
  have e_hE_4_16_1 := funext hE_4_16_1; subst e_hE_4_16_1
  have e_hE_4_16_2 := funext hE_4_16_2; subst e_hE_4_16_2
  first
    | assumption
set_option maxHeartbeats 4000000 in
theorem vc_Gr_step_5_6 (x7 : Int) (x8 : Int) (x10 : Int) (x12 : Int) (undone_0 : Int) (done_0 : Int) (past_0 : Int → Int) (tail_0 : Int → Int) (head_0 : Int → Int) (nodes_0 : Int) (edges_0 : Int) (near_0 : Int → Int) (part_0o3 : Int → Int) (turned_0o3 : Int → Int) (near_0o4 : Int → Int) (first_0o4 : Int → Int) (faceOf_0o4 : Int → Int) (known_0o3 : Int) (parts_0o3 : Int) (blocks_0o3 : Int) (planar_0o4 : Int) (barredEdges_0o4 : Int) (nodes_0o4 : Int) (edges_0o4 : Int) (undone_1 : Int) (tail_1 : Int → Int) (head_1 : Int → Int) (nodes_1 : Int) (edges_1 : Int) (near_1 : Int → Int) (part_1o3 : Int → Int) (turned_1o3 : Int → Int) (near_1o4 : Int → Int) (first_1o4 : Int → Int) (faceOf_1o4 : Int → Int) (known_1o3 : Int) (parts_1o3 : Int) (blocks_1o3 : Int) (planar_1o4 : Int) (barredEdges_1o4 : Int) (nodes_1o4 : Int) (edges_1o4 : Int) (done_2 : Int) (undone_2 : Int) (past_2 : Int → Int) (tail_2 : Int → Int) (head_2 : Int → Int) (nodes_2 : Int) (edges_2 : Int) (near_2 : Int → Int) (part_2o3 : Int → Int) (turned_2o3 : Int → Int) (near_2o4 : Int → Int) (first_2o4 : Int → Int) (faceOf_2o4 : Int → Int) (known_2o3 : Int) (parts_2o3 : Int) (blocks_2o3 : Int) (planar_2o4 : Int) (barredEdges_2o4 : Int) (nodes_2o4 : Int) (edges_2o4 : Int) (done_1 : Int) (past_1 : Int → Int) (gx : Int) (gy : Int) (k7 : 1 ≤ x7 ∧ x7 ≤ 30) (k8 : 0 ≤ x8 ∧ x8 ≤ 30) (k10 : 1 ≤ x10 ∧ x10 ≤ 30) (k12 : 0 ≤ x12 ∧ x12 ≤ 29) (d0 : x7 + (-1) ≤ x12 ∧ x12 ≤ x7 + (-1)) (d1 : x8 + 1 ≤ x10 ∧ x10 ≤ x8 + 1) (g0 : x12 = undone_0) (g2 : x10 = done_0) (g12 : x7 = undone_1) (g18 : x8 = done_2) (fe_0_0_1 : nodes_0 = nodes_1) (fe_0_1_1 : edges_0 = edges_1) (fe_0_17_1 : done_0 = done_1) (fe_3_0_1 : known_0o3 = known_1o3) (fe_3_1_1 : parts_0o3 = parts_1o3) (fe_3_2_1 : blocks_0o3 = blocks_1o3) (fe_4_0_1 : planar_0o4 = planar_1o4) (fe_4_3_1 : barredEdges_0o4 = barredEdges_1o4) (fe_4_5_1 : nodes_0o4 = nodes_1o4) (fe_4_6_1 : edges_0o4 = edges_1o4) (fe_0_0_2 : nodes_1 = nodes_2) (fe_0_1_2 : edges_1 = edges_2) (fe_0_18_2 : undone_1 = undone_2) (fe_3_0_2 : known_1o3 = known_2o3) (fe_3_1_2 : parts_1o3 = parts_2o3) (fe_3_2_2 : blocks_1o3 = blocks_2o3) (fe_4_0_2 : planar_1o4 = planar_2o4) (fe_4_3_2 : barredEdges_1o4 = barredEdges_2o4) (fe_4_5_2 : nodes_1o4 = nodes_2o4) (fe_4_6_2 : edges_1o4 = edges_2o4) (hE_0_7_1 : ∀ j : Int, tail_0 j = tail_1 j) (hE_0_7_2 : ∀ j : Int, tail_1 j = tail_2 j) (hE_0_8_1 : ∀ j : Int, head_0 j = head_1 j) (hE_0_8_2 : ∀ j : Int, head_1 j = head_2 j) (hE_0_14_1 : ∀ j : Int, near_0 j = near_1 j) (hE_0_14_2 : ∀ j : Int, near_1 j = near_2 j) (hE_0_16_1 : ∀ j : Int, past_0 j = past_1 j) (hE_0_16_2 : ∀ j : Int, past_1 j = past_2 j) (hE_3_4_1 : ∀ j : Int, part_0o3 j = part_1o3 j) (hE_3_4_2 : ∀ j : Int, part_1o3 j = part_2o3 j) (hE_3_9_1 : ∀ j : Int, turned_0o3 j = turned_1o3 j) (hE_3_9_2 : ∀ j : Int, turned_1o3 j = turned_2o3 j) (hE_4_9_1 : ∀ j : Int, near_0o4 j = near_1o4 j) (hE_4_9_2 : ∀ j : Int, near_1o4 j = near_2o4 j) (hE_4_12_1 : ∀ j : Int, first_0o4 j = first_1o4 j) (hE_4_12_2 : ∀ j : Int, first_1o4 j = first_2o4 j) (hE_4_16_1 : ∀ j : Int, faceOf_0o4 j = faceOf_1o4 j) (hE_4_16_2 : ∀ j : Int, faceOf_1o4 j = faceOf_2o4 j) (kz_0_0 : 0 ≤ nodes_0 ∧ nodes_0 ≤ 24) (kz_0_1 : 0 ≤ edges_0 ∧ edges_0 ≤ 48) (kz_0_17 : 0 ≤ done_0 ∧ done_0 ≤ 30) (kz_0_18 : 0 ≤ undone_0 ∧ undone_0 ≤ 30) (kz_3_0 : 0 ≤ known_0o3 ∧ known_0o3 ≤ 1) (kz_3_1 : 0 ≤ parts_0o3 ∧ parts_0o3 ≤ 24) (kz_3_2 : 0 ≤ blocks_0o3 ∧ blocks_0o3 ≤ 48) (kz_4_0 : (-1) ≤ planar_0o4 ∧ planar_0o4 ≤ 1) (kz_4_3 : 0 ≤ barredEdges_0o4 ∧ barredEdges_0o4 ≤ 48) (kz_4_5 : 0 ≤ nodes_0o4 ∧ nodes_0o4 ≤ 24) (kz_4_6 : 0 ≤ edges_0o4 ∧ edges_0o4 ≤ 72) (ex2 : gx = x10) (ey2 : gy = x12) : (done_0 = gx) ∧ (undone_0 = gy) := by
  subst fe_0_0_1
  subst fe_0_1_1
  subst fe_0_17_1
  subst fe_3_0_1
  subst fe_3_1_1
  subst fe_3_2_1
  subst fe_4_0_1
  subst fe_4_3_1
  subst fe_4_5_1
  subst fe_4_6_1
  subst fe_0_0_2
  subst fe_0_1_2
  subst fe_0_18_2
  subst fe_3_0_2
  subst fe_3_1_2
  subst fe_3_2_2
  subst fe_4_0_2
  subst fe_4_3_2
  subst fe_4_5_2
  subst fe_4_6_2
  have e_hE_0_7_1 := funext hE_0_7_1; subst e_hE_0_7_1
  have e_hE_0_7_2 := funext hE_0_7_2; subst e_hE_0_7_2
  have e_hE_0_8_1 := funext hE_0_8_1; subst e_hE_0_8_1
  have e_hE_0_8_2 := funext hE_0_8_2; subst e_hE_0_8_2
  have e_hE_0_14_1 := funext hE_0_14_1; subst e_hE_0_14_1
  have e_hE_0_14_2 := funext hE_0_14_2; subst e_hE_0_14_2
  have e_hE_0_16_1 := funext hE_0_16_1; subst e_hE_0_16_1
  have e_hE_0_16_2 := funext hE_0_16_2; subst e_hE_0_16_2
  have e_hE_3_4_1 := funext hE_3_4_1; subst e_hE_3_4_1
  have e_hE_3_4_2 := funext hE_3_4_2; subst e_hE_3_4_2
  have e_hE_3_9_1 := funext hE_3_9_1; subst e_hE_3_9_1
  have e_hE_3_9_2 := funext hE_3_9_2; subst e_hE_3_9_2
  have e_hE_4_9_1 := funext hE_4_9_1; subst e_hE_4_9_1
  have e_hE_4_9_2 := funext hE_4_9_2; subst e_hE_4_9_2
  have e_hE_4_12_1 := funext hE_4_12_1; subst e_hE_4_12_1
  have e_hE_4_12_2 := funext hE_4_12_2; subst e_hE_4_12_2
  have e_hE_4_16_1 := funext hE_4_16_1; subst e_hE_4_16_1
  have e_hE_4_16_2 := funext hE_4_16_2; subst e_hE_4_16_2
  first
    | omega
  
set_option maxHeartbeats 4000000 in
theorem vc_Gr_step_5_7 (x7 : Int) (x8 : Int) (x10 : Int) (x12 : Int) (undone_0 : Int) (done_0 : Int) (past_0 : Int → Int) (tail_0 : Int → Int) (head_0 : Int → Int) (nodes_0 : Int) (edges_0 : Int) (near_0 : Int → Int) (part_0o3 : Int → Int) (turned_0o3 : Int → Int) (near_0o4 : Int → Int) (first_0o4 : Int → Int) (faceOf_0o4 : Int → Int) (known_0o3 : Int) (parts_0o3 : Int) (blocks_0o3 : Int) (planar_0o4 : Int) (barredEdges_0o4 : Int) (nodes_0o4 : Int) (edges_0o4 : Int) (undone_1 : Int) (tail_1 : Int → Int) (head_1 : Int → Int) (nodes_1 : Int) (edges_1 : Int) (near_1 : Int → Int) (part_1o3 : Int → Int) (turned_1o3 : Int → Int) (near_1o4 : Int → Int) (first_1o4 : Int → Int) (faceOf_1o4 : Int → Int) (known_1o3 : Int) (parts_1o3 : Int) (blocks_1o3 : Int) (planar_1o4 : Int) (barredEdges_1o4 : Int) (nodes_1o4 : Int) (edges_1o4 : Int) (done_2 : Int) (undone_2 : Int) (past_2 : Int → Int) (tail_2 : Int → Int) (head_2 : Int → Int) (nodes_2 : Int) (edges_2 : Int) (near_2 : Int → Int) (part_2o3 : Int → Int) (turned_2o3 : Int → Int) (near_2o4 : Int → Int) (first_2o4 : Int → Int) (faceOf_2o4 : Int → Int) (known_2o3 : Int) (parts_2o3 : Int) (blocks_2o3 : Int) (planar_2o4 : Int) (barredEdges_2o4 : Int) (nodes_2o4 : Int) (edges_2o4 : Int) (done_1 : Int) (past_1 : Int → Int) (gx : Int) (gy : Int) (k7 : 1 ≤ x7 ∧ x7 ≤ 30) (k8 : 0 ≤ x8 ∧ x8 ≤ 30) (k10 : 1 ≤ x10 ∧ x10 ≤ 30) (k12 : 0 ≤ x12 ∧ x12 ≤ 29) (d0 : x7 + (-1) ≤ x12 ∧ x12 ≤ x7 + (-1)) (d1 : x8 + 1 ≤ x10 ∧ x10 ≤ x8 + 1) (g0 : x12 = undone_0) (g2 : x10 = done_0) (f3 : (done_0 + undone_0) ≤ 30) (f5 : 1 ≤ (done_0 + undone_0)) (g12 : x7 = undone_1) (g18 : x8 = done_2) (fe_0_0_1 : nodes_0 = nodes_1) (fe_0_1_1 : edges_0 = edges_1) (fe_0_17_1 : done_0 = done_1) (fe_3_0_1 : known_0o3 = known_1o3) (fe_3_1_1 : parts_0o3 = parts_1o3) (fe_3_2_1 : blocks_0o3 = blocks_1o3) (fe_4_0_1 : planar_0o4 = planar_1o4) (fe_4_3_1 : barredEdges_0o4 = barredEdges_1o4) (fe_4_5_1 : nodes_0o4 = nodes_1o4) (fe_4_6_1 : edges_0o4 = edges_1o4) (fe_0_0_2 : nodes_1 = nodes_2) (fe_0_1_2 : edges_1 = edges_2) (fe_0_18_2 : undone_1 = undone_2) (fe_3_0_2 : known_1o3 = known_2o3) (fe_3_1_2 : parts_1o3 = parts_2o3) (fe_3_2_2 : blocks_1o3 = blocks_2o3) (fe_4_0_2 : planar_1o4 = planar_2o4) (fe_4_3_2 : barredEdges_1o4 = barredEdges_2o4) (fe_4_5_2 : nodes_1o4 = nodes_2o4) (fe_4_6_2 : edges_1o4 = edges_2o4) (hE_0_7_1 : ∀ j : Int, tail_0 j = tail_1 j) (hE_0_7_2 : ∀ j : Int, tail_1 j = tail_2 j) (hE_0_8_1 : ∀ j : Int, head_0 j = head_1 j) (hE_0_8_2 : ∀ j : Int, head_1 j = head_2 j) (hE_0_14_1 : ∀ j : Int, near_0 j = near_1 j) (hE_0_14_2 : ∀ j : Int, near_1 j = near_2 j) (hE_0_16_1 : ∀ j : Int, past_0 j = past_1 j) (hE_0_16_2 : ∀ j : Int, past_1 j = past_2 j) (hE_3_4_1 : ∀ j : Int, part_0o3 j = part_1o3 j) (hE_3_4_2 : ∀ j : Int, part_1o3 j = part_2o3 j) (hE_3_9_1 : ∀ j : Int, turned_0o3 j = turned_1o3 j) (hE_3_9_2 : ∀ j : Int, turned_1o3 j = turned_2o3 j) (hE_4_9_1 : ∀ j : Int, near_0o4 j = near_1o4 j) (hE_4_9_2 : ∀ j : Int, near_1o4 j = near_2o4 j) (hE_4_12_1 : ∀ j : Int, first_0o4 j = first_1o4 j) (hE_4_12_2 : ∀ j : Int, first_1o4 j = first_2o4 j) (hE_4_16_1 : ∀ j : Int, faceOf_0o4 j = faceOf_1o4 j) (hE_4_16_2 : ∀ j : Int, faceOf_1o4 j = faceOf_2o4 j) (kz_0_0 : 0 ≤ nodes_0 ∧ nodes_0 ≤ 24) (kz_0_1 : 0 ≤ edges_0 ∧ edges_0 ≤ 48) (kz_0_17 : 0 ≤ done_0 ∧ done_0 ≤ 30) (kz_0_18 : 0 ≤ undone_0 ∧ undone_0 ≤ 30) (kz_3_0 : 0 ≤ known_0o3 ∧ known_0o3 ≤ 1) (kz_3_1 : 0 ≤ parts_0o3 ∧ parts_0o3 ≤ 24) (kz_3_2 : 0 ≤ blocks_0o3 ∧ blocks_0o3 ≤ 48) (kz_4_0 : (-1) ≤ planar_0o4 ∧ planar_0o4 ≤ 1) (kz_4_3 : 0 ≤ barredEdges_0o4 ∧ barredEdges_0o4 ≤ 48) (kz_4_5 : 0 ≤ nodes_0o4 ∧ nodes_0o4 ≤ 24) (kz_4_6 : 0 ≤ edges_0o4 ∧ edges_0o4 ≤ 72) (ex2 : gx = x10) (ey2 : gy = x12) : (1 ≤ (done_0 + undone_0)) ∧ (x10 ≤ (done_0 + undone_0)) := by
  subst fe_0_0_1
  subst fe_0_1_1
  subst fe_0_17_1
  subst fe_3_0_1
  subst fe_3_1_1
  subst fe_3_2_1
  subst fe_4_0_1
  subst fe_4_3_1
  subst fe_4_5_1
  subst fe_4_6_1
  subst fe_0_0_2
  subst fe_0_1_2
  subst fe_0_18_2
  subst fe_3_0_2
  subst fe_3_1_2
  subst fe_3_2_2
  subst fe_4_0_2
  subst fe_4_3_2
  subst fe_4_5_2
  subst fe_4_6_2
  have e_hE_0_7_1 := funext hE_0_7_1; subst e_hE_0_7_1
  have e_hE_0_7_2 := funext hE_0_7_2; subst e_hE_0_7_2
  have e_hE_0_8_1 := funext hE_0_8_1; subst e_hE_0_8_1
  have e_hE_0_8_2 := funext hE_0_8_2; subst e_hE_0_8_2
  have e_hE_0_14_1 := funext hE_0_14_1; subst e_hE_0_14_1
  have e_hE_0_14_2 := funext hE_0_14_2; subst e_hE_0_14_2
  have e_hE_0_16_1 := funext hE_0_16_1; subst e_hE_0_16_1
  have e_hE_0_16_2 := funext hE_0_16_2; subst e_hE_0_16_2
  have e_hE_3_4_1 := funext hE_3_4_1; subst e_hE_3_4_1
  have e_hE_3_4_2 := funext hE_3_4_2; subst e_hE_3_4_2
  have e_hE_3_9_1 := funext hE_3_9_1; subst e_hE_3_9_1
  have e_hE_3_9_2 := funext hE_3_9_2; subst e_hE_3_9_2
  have e_hE_4_9_1 := funext hE_4_9_1; subst e_hE_4_9_1
  have e_hE_4_9_2 := funext hE_4_9_2; subst e_hE_4_9_2
  have e_hE_4_12_1 := funext hE_4_12_1; subst e_hE_4_12_1
  have e_hE_4_12_2 := funext hE_4_12_2; subst e_hE_4_12_2
  have e_hE_4_16_1 := funext hE_4_16_1; subst e_hE_4_16_1
  have e_hE_4_16_2 := funext hE_4_16_2; subst e_hE_4_16_2
  first
    | omega
  
set_option maxHeartbeats 4000000 in
theorem vc_Gr_step_5_8 (x7 : Int) (x8 : Int) (x10 : Int) (x12 : Int) (undone_0 : Int) (done_0 : Int) (past_0 : Int → Int) (tail_0 : Int → Int) (head_0 : Int → Int) (nodes_0 : Int) (edges_0 : Int) (near_0 : Int → Int) (part_0o3 : Int → Int) (turned_0o3 : Int → Int) (near_0o4 : Int → Int) (first_0o4 : Int → Int) (faceOf_0o4 : Int → Int) (known_0o3 : Int) (parts_0o3 : Int) (blocks_0o3 : Int) (planar_0o4 : Int) (barredEdges_0o4 : Int) (nodes_0o4 : Int) (edges_0o4 : Int) (undone_1 : Int) (tail_1 : Int → Int) (head_1 : Int → Int) (nodes_1 : Int) (edges_1 : Int) (near_1 : Int → Int) (part_1o3 : Int → Int) (turned_1o3 : Int → Int) (near_1o4 : Int → Int) (first_1o4 : Int → Int) (faceOf_1o4 : Int → Int) (known_1o3 : Int) (parts_1o3 : Int) (blocks_1o3 : Int) (planar_1o4 : Int) (barredEdges_1o4 : Int) (nodes_1o4 : Int) (edges_1o4 : Int) (done_2 : Int) (undone_2 : Int) (past_2 : Int → Int) (tail_2 : Int → Int) (head_2 : Int → Int) (nodes_2 : Int) (edges_2 : Int) (near_2 : Int → Int) (part_2o3 : Int → Int) (turned_2o3 : Int → Int) (near_2o4 : Int → Int) (first_2o4 : Int → Int) (faceOf_2o4 : Int → Int) (known_2o3 : Int) (parts_2o3 : Int) (blocks_2o3 : Int) (planar_2o4 : Int) (barredEdges_2o4 : Int) (nodes_2o4 : Int) (edges_2o4 : Int) (done_1 : Int) (past_1 : Int → Int) (gx : Int) (gy : Int) (k7 : 1 ≤ x7 ∧ x7 ≤ 30) (k8 : 0 ≤ x8 ∧ x8 ≤ 30) (k10 : 1 ≤ x10 ∧ x10 ≤ 30) (k12 : 0 ≤ x12 ∧ x12 ≤ 29) (d0 : x7 + (-1) ≤ x12 ∧ x12 ≤ x7 + (-1)) (d1 : x8 + 1 ≤ x10 ∧ x10 ≤ x8 + 1) (g0 : x12 = undone_0) (g2 : x10 = done_0) (g12 : x7 = undone_1) (g18 : x8 = done_2) (fe_0_0_1 : nodes_0 = nodes_1) (fe_0_1_1 : edges_0 = edges_1) (fe_0_17_1 : done_0 = done_1) (fe_3_0_1 : known_0o3 = known_1o3) (fe_3_1_1 : parts_0o3 = parts_1o3) (fe_3_2_1 : blocks_0o3 = blocks_1o3) (fe_4_0_1 : planar_0o4 = planar_1o4) (fe_4_3_1 : barredEdges_0o4 = barredEdges_1o4) (fe_4_5_1 : nodes_0o4 = nodes_1o4) (fe_4_6_1 : edges_0o4 = edges_1o4) (fe_0_0_2 : nodes_1 = nodes_2) (fe_0_1_2 : edges_1 = edges_2) (fe_0_18_2 : undone_1 = undone_2) (fe_3_0_2 : known_1o3 = known_2o3) (fe_3_1_2 : parts_1o3 = parts_2o3) (fe_3_2_2 : blocks_1o3 = blocks_2o3) (fe_4_0_2 : planar_1o4 = planar_2o4) (fe_4_3_2 : barredEdges_1o4 = barredEdges_2o4) (fe_4_5_2 : nodes_1o4 = nodes_2o4) (fe_4_6_2 : edges_1o4 = edges_2o4) (hE_0_7_1 : ∀ j : Int, tail_0 j = tail_1 j) (hE_0_7_2 : ∀ j : Int, tail_1 j = tail_2 j) (hE_0_8_1 : ∀ j : Int, head_0 j = head_1 j) (hE_0_8_2 : ∀ j : Int, head_1 j = head_2 j) (hE_0_14_1 : ∀ j : Int, near_0 j = near_1 j) (hE_0_14_2 : ∀ j : Int, near_1 j = near_2 j) (hE_0_16_1 : ∀ j : Int, past_0 j = past_1 j) (hE_0_16_2 : ∀ j : Int, past_1 j = past_2 j) (hE_3_4_1 : ∀ j : Int, part_0o3 j = part_1o3 j) (hE_3_4_2 : ∀ j : Int, part_1o3 j = part_2o3 j) (hE_3_9_1 : ∀ j : Int, turned_0o3 j = turned_1o3 j) (hE_3_9_2 : ∀ j : Int, turned_1o3 j = turned_2o3 j) (hE_4_9_1 : ∀ j : Int, near_0o4 j = near_1o4 j) (hE_4_9_2 : ∀ j : Int, near_1o4 j = near_2o4 j) (hE_4_12_1 : ∀ j : Int, first_0o4 j = first_1o4 j) (hE_4_12_2 : ∀ j : Int, first_1o4 j = first_2o4 j) (hE_4_16_1 : ∀ j : Int, faceOf_0o4 j = faceOf_1o4 j) (hE_4_16_2 : ∀ j : Int, faceOf_1o4 j = faceOf_2o4 j) (kz_0_0 : 0 ≤ nodes_0 ∧ nodes_0 ≤ 24) (kz_0_1 : 0 ≤ edges_0 ∧ edges_0 ≤ 48) (kz_0_17 : 0 ≤ done_0 ∧ done_0 ≤ 30) (kz_0_18 : 0 ≤ undone_0 ∧ undone_0 ≤ 30) (kz_3_0 : 0 ≤ known_0o3 ∧ known_0o3 ≤ 1) (kz_3_1 : 0 ≤ parts_0o3 ∧ parts_0o3 ≤ 24) (kz_3_2 : 0 ≤ blocks_0o3 ∧ blocks_0o3 ≤ 48) (kz_4_0 : (-1) ≤ planar_0o4 ∧ planar_0o4 ≤ 1) (kz_4_3 : 0 ≤ barredEdges_0o4 ∧ barredEdges_0o4 ≤ 48) (kz_4_5 : 0 ≤ nodes_0o4 ∧ nodes_0o4 ≤ 24) (kz_4_6 : 0 ≤ edges_0o4 ∧ edges_0o4 ≤ 72) (ex2 : gx = x10) (ey2 : gy = x12) : (done_0 = gx) ∧ (undone_0 = gy) := by
  subst fe_0_0_1
  subst fe_0_1_1
  subst fe_0_17_1
  subst fe_3_0_1
  subst fe_3_1_1
  subst fe_3_2_1
  subst fe_4_0_1
  subst fe_4_3_1
  subst fe_4_5_1
  subst fe_4_6_1
  subst fe_0_0_2
  subst fe_0_1_2
  subst fe_0_18_2
  subst fe_3_0_2
  subst fe_3_1_2
  subst fe_3_2_2
  subst fe_4_0_2
  subst fe_4_3_2
  subst fe_4_5_2
  subst fe_4_6_2
  have e_hE_0_7_1 := funext hE_0_7_1; subst e_hE_0_7_1
  have e_hE_0_7_2 := funext hE_0_7_2; subst e_hE_0_7_2
  have e_hE_0_8_1 := funext hE_0_8_1; subst e_hE_0_8_1
  have e_hE_0_8_2 := funext hE_0_8_2; subst e_hE_0_8_2
  have e_hE_0_14_1 := funext hE_0_14_1; subst e_hE_0_14_1
  have e_hE_0_14_2 := funext hE_0_14_2; subst e_hE_0_14_2
  have e_hE_0_16_1 := funext hE_0_16_1; subst e_hE_0_16_1
  have e_hE_0_16_2 := funext hE_0_16_2; subst e_hE_0_16_2
  have e_hE_3_4_1 := funext hE_3_4_1; subst e_hE_3_4_1
  have e_hE_3_4_2 := funext hE_3_4_2; subst e_hE_3_4_2
  have e_hE_3_9_1 := funext hE_3_9_1; subst e_hE_3_9_1
  have e_hE_3_9_2 := funext hE_3_9_2; subst e_hE_3_9_2
  have e_hE_4_9_1 := funext hE_4_9_1; subst e_hE_4_9_1
  have e_hE_4_9_2 := funext hE_4_9_2; subst e_hE_4_9_2
  have e_hE_4_12_1 := funext hE_4_12_1; subst e_hE_4_12_1
  have e_hE_4_12_2 := funext hE_4_12_2; subst e_hE_4_12_2
  have e_hE_4_16_1 := funext hE_4_16_1; subst e_hE_4_16_1
  have e_hE_4_16_2 := funext hE_4_16_2; subst e_hE_4_16_2
  first
    | omega
  
def o_Gr_step_5 : or_T := (85, 13, [(0, (2, 0, 0, [3])), (3, (2, 0, 0, [2])), (4, (2, 0, 0, [5])), (5, (0, 0, 60, [])), (7, (0, 1, 30, [])), (8, (0, 0, 30, [])), (10, (0, 1, 30, [])), (12, (0, 0, 29, []))], [(9, [12, 0], [18]), (9, [10, 0], [17]), (20, [0], [50, 2, 0, 17, 18, 0, 8, 4, 3, 2, 0, 17, 2, 0, 18, 0, 30]), (20, [0], [60, 2, 1, 739, 17, 18, 16]), (20, [0], [50, 2, 0, 17, 18, 0, 2, 0, 1, 4, 3, 2, 0, 17, 2, 0, 18]), (20, [0, 5], [50, 2, 0, 17, 18, 1, 8, 4, 3, 2, 0, 17, 2, 0, 18, 1, 1]), (101, [0, 12], [18]), (9, [7, 0], [18]), (101, [0, 10], [17]), (9, [8, 0], [17])], [], [(0, 0, 30, []), (0, 0, 30, [])], [(20, [10, 12, 5], [50, 0, 0, 1, 6, 4, 2, 1, 0, 1, 1, 1, 2]), (23, [13, 10], [0, 1, -1]), (23, [13, 10], [0, -1, 1]), (23, [14, 12], [0, 1, -1]), (23, [14, 12], [0, -1, 1]), (20, [0], [60, 2, 1, 739, 17, 18, 16]), (20, [0, 13, 14], [50, 2, 0, 17, 18, 2, 7, 1, 3, 2, 0, 17, 1, 1, 1, 3, 2, 0, 18, 1, 2]), (20, [0, 10], [50, 2, 0, 17, 18, 2, 12, 0, 2, 0, 1, 4, 3, 2, 0, 17, 2, 0, 18, 0, 2, 1, 1, 4, 3, 2, 0, 17, 2, 0, 18]), (20, [0, 13, 14], [50, 2, 0, 17, 18, 2, 7, 1, 3, 2, 0, 17, 1, 1, 1, 3, 2, 0, 18, 1, 2])], [], [(12, 7, -1, -1), (10, 8, 1, 1)])
theorem oo_Gr_step_5 {kA : Nat → ClassId} : or_ok PRD kA GG o_Gr_step_5 := by
  refine or_mk fun A ta ws vs hD hth hl => ?_
  intro t0 r0 t3 r3 t4 r4 t5 k5 t7 k7 t8 k8 t10 k10 t12 k12 d0 d1 f0 f2 f3 f4 f5 f6 ta1 w1 le1 s1 f12 ta2 w2 le2 s2 f18
  replace f0 := shm_799 f0
  replace f2 := shm_795 f2
  replace f3 := shm_1511 f3
  replace f4 := shm_1361 f4
  replace f5 := shm_1515 f5
  replace f6 := shm_1512 f6
  have s1 : (∀ b j, w_el ws b j = w_el w1 b j) ∧ ∀ b j, w_fd ws b j = if b = v_ad (n_v vs 0) ∧ j = 18 then n_v vs 12 else w_fd w1 b j := s1.2
  replace f12 := shm_799 f12
  have s2 : (∀ b j, w_el w1 b j = w_el w2 b j) ∧ ∀ b j, w_fd w1 b j = if b = v_ad (n_v vs 0) ∧ j = 17 then n_v vs 10 else w_fd w2 b j := s2.2
  replace f18 := shm_795 f18
  have g0 : v_iv (n_v vs 12) = w_fi ws (n_v vs 0) 18 := congrArg v_iv f0
  have g2 : v_iv (n_v vs 10) = w_fi ws (n_v vs 0) 17 := congrArg v_iv f2
  have g12 : v_iv (n_v vs 7) = w_fi w1 (n_v vs 0) 18 := congrArg v_iv f12
  have g18 : v_iv (n_v vs 8) = w_fi w2 (n_v vs 0) 17 := congrArg v_iv f18
  have fe_0_0_1 : w_fi ws (n_v vs 0) 0 = w_fi w1 (n_v vs 0) 0 := by show v_iv (w_fd _ _ _) = v_iv (w_fd _ _ _); rw [s1.2, if_neg (fun e => absurd e.2 (by decide))]
  have fe_0_1_1 : w_fi ws (n_v vs 0) 1 = w_fi w1 (n_v vs 0) 1 := by show v_iv (w_fd _ _ _) = v_iv (w_fd _ _ _); rw [s1.2, if_neg (fun e => absurd e.2 (by decide))]
  have fe_0_17_1 : w_fi ws (n_v vs 0) 17 = w_fi w1 (n_v vs 0) 17 := by show v_iv (w_fd _ _ _) = v_iv (w_fd _ _ _); rw [s1.2, if_neg (fun e => absurd e.2 (by decide))]
  have fe_3_0_1 : w_fi ws (n_v vs 3) 0 = w_fi w1 (n_v vs 3) 0 := by show v_iv (w_fd _ _ _) = v_iv (w_fd _ _ _); rw [s1.2, if_neg (fun e => absurd e.2 (by decide))]
  have fe_3_1_1 : w_fi ws (n_v vs 3) 1 = w_fi w1 (n_v vs 3) 1 := by show v_iv (w_fd _ _ _) = v_iv (w_fd _ _ _); rw [s1.2, if_neg (fun e => absurd e.2 (by decide))]
  have fe_3_2_1 : w_fi ws (n_v vs 3) 2 = w_fi w1 (n_v vs 3) 2 := by show v_iv (w_fd _ _ _) = v_iv (w_fd _ _ _); rw [s1.2, if_neg (fun e => absurd e.2 (by decide))]
  have fe_4_0_1 : w_fi ws (n_v vs 4) 0 = w_fi w1 (n_v vs 4) 0 := by show v_iv (w_fd _ _ _) = v_iv (w_fd _ _ _); rw [s1.2, if_neg (fun e => absurd e.2 (by decide))]
  have fe_4_3_1 : w_fi ws (n_v vs 4) 3 = w_fi w1 (n_v vs 4) 3 := by show v_iv (w_fd _ _ _) = v_iv (w_fd _ _ _); rw [s1.2, if_neg (fun e => absurd e.2 (by decide))]
  have fe_4_5_1 : w_fi ws (n_v vs 4) 5 = w_fi w1 (n_v vs 4) 5 := by show v_iv (w_fd _ _ _) = v_iv (w_fd _ _ _); rw [s1.2, if_neg (fun e => absurd e.2 (by decide))]
  have fe_4_6_1 : w_fi ws (n_v vs 4) 6 = w_fi w1 (n_v vs 4) 6 := by show v_iv (w_fd _ _ _) = v_iv (w_fd _ _ _); rw [s1.2, if_neg (fun e => absurd e.2 (by decide))]
  have fe_0_0_2 : w_fi w1 (n_v vs 0) 0 = w_fi w2 (n_v vs 0) 0 := by show v_iv (w_fd _ _ _) = v_iv (w_fd _ _ _); rw [s2.2, if_neg (fun e => absurd e.2 (by decide))]
  have fe_0_1_2 : w_fi w1 (n_v vs 0) 1 = w_fi w2 (n_v vs 0) 1 := by show v_iv (w_fd _ _ _) = v_iv (w_fd _ _ _); rw [s2.2, if_neg (fun e => absurd e.2 (by decide))]
  have fe_0_18_2 : w_fi w1 (n_v vs 0) 18 = w_fi w2 (n_v vs 0) 18 := by show v_iv (w_fd _ _ _) = v_iv (w_fd _ _ _); rw [s2.2, if_neg (fun e => absurd e.2 (by decide))]
  have fe_3_0_2 : w_fi w1 (n_v vs 3) 0 = w_fi w2 (n_v vs 3) 0 := by show v_iv (w_fd _ _ _) = v_iv (w_fd _ _ _); rw [s2.2, if_neg (fun e => absurd e.2 (by decide))]
  have fe_3_1_2 : w_fi w1 (n_v vs 3) 1 = w_fi w2 (n_v vs 3) 1 := by show v_iv (w_fd _ _ _) = v_iv (w_fd _ _ _); rw [s2.2, if_neg (fun e => absurd e.2 (by decide))]
  have fe_3_2_2 : w_fi w1 (n_v vs 3) 2 = w_fi w2 (n_v vs 3) 2 := by show v_iv (w_fd _ _ _) = v_iv (w_fd _ _ _); rw [s2.2, if_neg (fun e => absurd e.2 (by decide))]
  have fe_4_0_2 : w_fi w1 (n_v vs 4) 0 = w_fi w2 (n_v vs 4) 0 := by show v_iv (w_fd _ _ _) = v_iv (w_fd _ _ _); rw [s2.2, if_neg (fun e => absurd e.2 (by decide))]
  have fe_4_3_2 : w_fi w1 (n_v vs 4) 3 = w_fi w2 (n_v vs 4) 3 := by show v_iv (w_fd _ _ _) = v_iv (w_fd _ _ _); rw [s2.2, if_neg (fun e => absurd e.2 (by decide))]
  have fe_4_5_2 : w_fi w1 (n_v vs 4) 5 = w_fi w2 (n_v vs 4) 5 := by show v_iv (w_fd _ _ _) = v_iv (w_fd _ _ _); rw [s2.2, if_neg (fun e => absurd e.2 (by decide))]
  have fe_4_6_2 : w_fi w1 (n_v vs 4) 6 = w_fi w2 (n_v vs 4) 6 := by show v_iv (w_fd _ _ _) = v_iv (w_fd _ _ _); rw [s2.2, if_neg (fun e => absurd e.2 (by decide))]
  have hE_0_7_1 : ∀ j : Int, w_ei ws (w_ar ws (n_v vs 0) 7) j = w_ei w1 (w_ar ws (n_v vs 0) 7) j := fun j => s1.1 _ _
  have hE_0_7_2 : ∀ j : Int, w_ei w1 (w_ar ws (n_v vs 0) 7) j = w_ei w2 (w_ar ws (n_v vs 0) 7) j := fun j => s2.1 _ _
  have hE_0_8_1 : ∀ j : Int, w_ei ws (w_ar ws (n_v vs 0) 8) j = w_ei w1 (w_ar ws (n_v vs 0) 8) j := fun j => s1.1 _ _
  have hE_0_8_2 : ∀ j : Int, w_ei w1 (w_ar ws (n_v vs 0) 8) j = w_ei w2 (w_ar ws (n_v vs 0) 8) j := fun j => s2.1 _ _
  have hE_0_14_1 : ∀ j : Int, w_ei ws (w_ar ws (n_v vs 0) 14) j = w_ei w1 (w_ar ws (n_v vs 0) 14) j := fun j => s1.1 _ _
  have hE_0_14_2 : ∀ j : Int, w_ei w1 (w_ar ws (n_v vs 0) 14) j = w_ei w2 (w_ar ws (n_v vs 0) 14) j := fun j => s2.1 _ _
  have hE_0_16_1 : ∀ j : Int, w_ei ws (w_ar ws (n_v vs 0) 16) j = w_ei w1 (w_ar ws (n_v vs 0) 16) j := fun j => s1.1 _ _
  have hE_0_16_2 : ∀ j : Int, w_ei w1 (w_ar ws (n_v vs 0) 16) j = w_ei w2 (w_ar ws (n_v vs 0) 16) j := fun j => s2.1 _ _
  have hE_3_4_1 : ∀ j : Int, w_ei ws (w_ar ws (n_v vs 3) 4) j = w_ei w1 (w_ar ws (n_v vs 3) 4) j := fun j => s1.1 _ _
  have hE_3_4_2 : ∀ j : Int, w_ei w1 (w_ar ws (n_v vs 3) 4) j = w_ei w2 (w_ar ws (n_v vs 3) 4) j := fun j => s2.1 _ _
  have hE_3_9_1 : ∀ j : Int, w_ei ws (w_ar ws (n_v vs 3) 9) j = w_ei w1 (w_ar ws (n_v vs 3) 9) j := fun j => s1.1 _ _
  have hE_3_9_2 : ∀ j : Int, w_ei w1 (w_ar ws (n_v vs 3) 9) j = w_ei w2 (w_ar ws (n_v vs 3) 9) j := fun j => s2.1 _ _
  have hE_4_9_1 : ∀ j : Int, w_ei ws (w_ar ws (n_v vs 4) 9) j = w_ei w1 (w_ar ws (n_v vs 4) 9) j := fun j => s1.1 _ _
  have hE_4_9_2 : ∀ j : Int, w_ei w1 (w_ar ws (n_v vs 4) 9) j = w_ei w2 (w_ar ws (n_v vs 4) 9) j := fun j => s2.1 _ _
  have hE_4_12_1 : ∀ j : Int, w_ei ws (w_ar ws (n_v vs 4) 12) j = w_ei w1 (w_ar ws (n_v vs 4) 12) j := fun j => s1.1 _ _
  have hE_4_12_2 : ∀ j : Int, w_ei w1 (w_ar ws (n_v vs 4) 12) j = w_ei w2 (w_ar ws (n_v vs 4) 12) j := fun j => s2.1 _ _
  have hE_4_16_1 : ∀ j : Int, w_ei ws (w_ar ws (n_v vs 4) 16) j = w_ei w1 (w_ar ws (n_v vs 4) 16) j := fun j => s1.1 _ _
  have hE_4_16_2 : ∀ j : Int, w_ei w1 (w_ar ws (n_v vs 4) 16) j = w_ei w2 (w_ar ws (n_v vs 4) 16) j := fun j => s2.1 _ _
  have kz_0_0 := fdq_21 hD hth r0
  have kz_0_1 := fdq_30 hD hth r0
  have kz_0_17 := fdq_288 hD hth r0
  have kz_0_18 := fdq_289 hD hth r0
  have kz_3_0 := fdq_294 hD hth r3
  have kz_3_1 := fdq_278 hD hth r3
  have kz_3_2 := fdq_295 hD hth r3
  have kz_4_0 := fdq_78 hD hth r4
  have kz_4_3 := fdq_79 hD hth r4
  have kz_4_5 := fdq_82 hD hth r4
  have kz_4_6 := fdq_59 hD hth r4
  obtain ⟨x, ex, hx⟩ := iv_ex (ta := ta) (lo := 0) (hi := 30) (z := v_iv (n_v vs 10)) (by omega) (by omega) (by omega) (by omega)
  have ex2 : v_iv (Value.int x) = v_iv (n_v vs 10) := ex
  have ex3 : 0 ≤ v_iv (Value.int x) ∧ v_iv (Value.int x) ≤ 30 := tv_rng hx
  obtain ⟨y, ey, hy⟩ := iv_ex (ta := ta) (lo := 0) (hi := 30) (z := v_iv (n_v vs 12)) (by omega) (by omega) (by omega) (by omega)
  have ey2 : v_iv (Value.int y) = v_iv (n_v vs 12) := ey
  have ey3 : 0 ≤ v_iv (Value.int y) ∧ v_iv (Value.int y) ≤ 30 := tv_rng hy
  have e_0 : n_v (vs ++ [Value.int x, Value.int y]) 0 = n_v vs 0 := n_v_old (by rw [hl]; decide)
  have e_5 : n_v (vs ++ [Value.int x, Value.int y]) 5 = n_v vs 5 := n_v_old (by rw [hl]; decide)
  have e_10 : n_v (vs ++ [Value.int x, Value.int y]) 10 = n_v vs 10 := n_v_old (by rw [hl]; decide)
  have e_12 : n_v (vs ++ [Value.int x, Value.int y]) 12 = n_v vs 12 := n_v_old (by rw [hl]; decide)
  have e_13 : n_v (vs ++ [Value.int x, Value.int y]) 13 = Value.int x := n_v_new0 hl
  have e_14 : n_v (vs ++ [Value.int x, Value.int y]) 14 = Value.int y := n_v_new1 hl
  have nf0 : fc_1 PRD (20, [10, 12, 5], [50, 0, 0, 1, 6, 4, 2, 1, 0, 1, 1, 1, 2]) ws (vs ++ [Value.int x, Value.int y]) := by
    refine ⟨nf_inA hl rfl, sgq_1516 ?_⟩
    · show (v_iv (n_v (vs ++ [Value.int x, Value.int y]) 10) + v_iv (n_v (vs ++ [Value.int x, Value.int y]) 12)) = v_iv (n_v (vs ++ [Value.int x, Value.int y]) 5)
      simp only [e_5, e_10, e_12]
      exact vc_Gr_step_5_0 (v_iv (n_v vs 5)) (v_iv (n_v vs 10)) (v_iv (n_v vs 12)) (w_fi ws (n_v vs 0) 18) (w_fi ws (n_v vs 0) 17) (w_ei ws (w_ar ws (n_v vs 0) 16)) (w_ei ws (w_ar ws (n_v vs 0) 7)) (w_ei ws (w_ar ws (n_v vs 0) 8)) (w_fi ws (n_v vs 0) 0) (w_fi ws (n_v vs 0) 1) (w_ei ws (w_ar ws (n_v vs 0) 14)) (w_ei ws (w_ar ws (n_v vs 3) 4)) (w_ei ws (w_ar ws (n_v vs 3) 9)) (w_ei ws (w_ar ws (n_v vs 4) 9)) (w_ei ws (w_ar ws (n_v vs 4) 12)) (w_ei ws (w_ar ws (n_v vs 4) 16)) (w_fi ws (n_v vs 3) 0) (w_fi ws (n_v vs 3) 1) (w_fi ws (n_v vs 3) 2) (w_fi ws (n_v vs 4) 0) (w_fi ws (n_v vs 4) 3) (w_fi ws (n_v vs 4) 5) (w_fi ws (n_v vs 4) 6) (w_fi w1 (n_v vs 0) 18) (w_ei w1 (w_ar ws (n_v vs 0) 7)) (w_ei w1 (w_ar ws (n_v vs 0) 8)) (w_fi w1 (n_v vs 0) 0) (w_fi w1 (n_v vs 0) 1) (w_ei w1 (w_ar ws (n_v vs 0) 14)) (w_ei w1 (w_ar ws (n_v vs 3) 4)) (w_ei w1 (w_ar ws (n_v vs 3) 9)) (w_ei w1 (w_ar ws (n_v vs 4) 9)) (w_ei w1 (w_ar ws (n_v vs 4) 12)) (w_ei w1 (w_ar ws (n_v vs 4) 16)) (w_fi w1 (n_v vs 3) 0) (w_fi w1 (n_v vs 3) 1) (w_fi w1 (n_v vs 3) 2) (w_fi w1 (n_v vs 4) 0) (w_fi w1 (n_v vs 4) 3) (w_fi w1 (n_v vs 4) 5) (w_fi w1 (n_v vs 4) 6) (w_fi w2 (n_v vs 0) 18) (w_ei w2 (w_ar ws (n_v vs 0) 16)) (w_ei w2 (w_ar ws (n_v vs 0) 7)) (w_ei w2 (w_ar ws (n_v vs 0) 8)) (w_fi w2 (n_v vs 0) 0) (w_fi w2 (n_v vs 0) 1) (w_ei w2 (w_ar ws (n_v vs 0) 14)) (w_ei w2 (w_ar ws (n_v vs 3) 4)) (w_ei w2 (w_ar ws (n_v vs 3) 9)) (w_ei w2 (w_ar ws (n_v vs 4) 9)) (w_ei w2 (w_ar ws (n_v vs 4) 12)) (w_ei w2 (w_ar ws (n_v vs 4) 16)) (w_fi w2 (n_v vs 3) 0) (w_fi w2 (n_v vs 3) 1) (w_fi w2 (n_v vs 3) 2) (w_fi w2 (n_v vs 4) 0) (w_fi w2 (n_v vs 4) 3) (w_fi w2 (n_v vs 4) 5) (w_fi w2 (n_v vs 4) 6) (w_fi w1 (n_v vs 0) 17) (w_ei w1 (w_ar ws (n_v vs 0) 16)) k5 k10 k12 g0 g2 f6 fe_0_0_1 fe_0_1_1 fe_0_17_1 fe_3_0_1 fe_3_1_1 fe_3_2_1 fe_4_0_1 fe_4_3_1 fe_4_5_1 fe_4_6_1 fe_0_0_2 fe_0_1_2 fe_0_18_2 fe_3_0_2 fe_3_1_2 fe_3_2_2 fe_4_0_2 fe_4_3_2 fe_4_5_2 fe_4_6_2 hE_0_7_1 hE_0_7_2 hE_0_8_1 hE_0_8_2 hE_0_14_1 hE_0_14_2 hE_0_16_1 hE_0_16_2 hE_3_4_1 hE_3_4_2 hE_3_9_1 hE_3_9_2 hE_4_9_1 hE_4_9_2 hE_4_12_1 hE_4_12_2 hE_4_16_1 hE_4_16_2 kz_0_0 kz_0_1 kz_0_17 kz_0_18 kz_3_0 kz_3_1 kz_3_2 kz_4_0 kz_4_3 kz_4_5 kz_4_6
  have nf1 : fc_1 PRD (23, [13, 10], [0, 1, -1]) ws (vs ++ [Value.int x, Value.int y]) := by
    refine ⟨nf_inA hl rfl, sgq_7 ?_⟩
    · show 1 * v_iv (n_v (vs ++ [Value.int x, Value.int y]) 13) + ((-1) * v_iv (n_v (vs ++ [Value.int x, Value.int y]) 10) + 0) ≤ 0
      simp only [e_10, e_13]
      exact vc_Gr_step_5_1 (v_iv (n_v vs 8)) (v_iv (n_v vs 10)) (w_fi ws (n_v vs 0) 17) (w_ei ws (w_ar ws (n_v vs 0) 16)) (w_ei ws (w_ar ws (n_v vs 0) 7)) (w_ei ws (w_ar ws (n_v vs 0) 8)) (w_fi ws (n_v vs 0) 0) (w_fi ws (n_v vs 0) 1) (w_ei ws (w_ar ws (n_v vs 0) 14)) (w_ei ws (w_ar ws (n_v vs 3) 4)) (w_ei ws (w_ar ws (n_v vs 3) 9)) (w_ei ws (w_ar ws (n_v vs 4) 9)) (w_ei ws (w_ar ws (n_v vs 4) 12)) (w_ei ws (w_ar ws (n_v vs 4) 16)) (w_fi ws (n_v vs 3) 0) (w_fi ws (n_v vs 3) 1) (w_fi ws (n_v vs 3) 2) (w_fi ws (n_v vs 4) 0) (w_fi ws (n_v vs 4) 3) (w_fi ws (n_v vs 4) 5) (w_fi ws (n_v vs 4) 6) (w_fi w1 (n_v vs 0) 18) (w_ei w1 (w_ar ws (n_v vs 0) 7)) (w_ei w1 (w_ar ws (n_v vs 0) 8)) (w_fi w1 (n_v vs 0) 0) (w_fi w1 (n_v vs 0) 1) (w_ei w1 (w_ar ws (n_v vs 0) 14)) (w_ei w1 (w_ar ws (n_v vs 3) 4)) (w_ei w1 (w_ar ws (n_v vs 3) 9)) (w_ei w1 (w_ar ws (n_v vs 4) 9)) (w_ei w1 (w_ar ws (n_v vs 4) 12)) (w_ei w1 (w_ar ws (n_v vs 4) 16)) (w_fi w1 (n_v vs 3) 0) (w_fi w1 (n_v vs 3) 1) (w_fi w1 (n_v vs 3) 2) (w_fi w1 (n_v vs 4) 0) (w_fi w1 (n_v vs 4) 3) (w_fi w1 (n_v vs 4) 5) (w_fi w1 (n_v vs 4) 6) (w_fi w2 (n_v vs 0) 17) (w_fi w2 (n_v vs 0) 18) (w_ei w2 (w_ar ws (n_v vs 0) 16)) (w_ei w2 (w_ar ws (n_v vs 0) 7)) (w_ei w2 (w_ar ws (n_v vs 0) 8)) (w_fi w2 (n_v vs 0) 0) (w_fi w2 (n_v vs 0) 1) (w_ei w2 (w_ar ws (n_v vs 0) 14)) (w_ei w2 (w_ar ws (n_v vs 3) 4)) (w_ei w2 (w_ar ws (n_v vs 3) 9)) (w_ei w2 (w_ar ws (n_v vs 4) 9)) (w_ei w2 (w_ar ws (n_v vs 4) 12)) (w_ei w2 (w_ar ws (n_v vs 4) 16)) (w_fi w2 (n_v vs 3) 0) (w_fi w2 (n_v vs 3) 1) (w_fi w2 (n_v vs 3) 2) (w_fi w2 (n_v vs 4) 0) (w_fi w2 (n_v vs 4) 3) (w_fi w2 (n_v vs 4) 5) (w_fi w2 (n_v vs 4) 6) (w_fi w1 (n_v vs 0) 17) (w_ei w1 (w_ar ws (n_v vs 0) 16)) (v_iv (Value.int x)) k8 k10 d1 g2 g18 fe_0_0_1 fe_0_1_1 fe_0_17_1 fe_3_0_1 fe_3_1_1 fe_3_2_1 fe_4_0_1 fe_4_3_1 fe_4_5_1 fe_4_6_1 fe_0_0_2 fe_0_1_2 fe_0_18_2 fe_3_0_2 fe_3_1_2 fe_3_2_2 fe_4_0_2 fe_4_3_2 fe_4_5_2 fe_4_6_2 hE_0_7_1 hE_0_7_2 hE_0_8_1 hE_0_8_2 hE_0_14_1 hE_0_14_2 hE_0_16_1 hE_0_16_2 hE_3_4_1 hE_3_4_2 hE_3_9_1 hE_3_9_2 hE_4_9_1 hE_4_9_2 hE_4_12_1 hE_4_12_2 hE_4_16_1 hE_4_16_2 kz_0_0 kz_0_1 kz_0_17 kz_3_0 kz_3_1 kz_3_2 kz_4_0 kz_4_3 kz_4_5 kz_4_6 ex2
  have nf2 : fc_1 PRD (23, [13, 10], [0, -1, 1]) ws (vs ++ [Value.int x, Value.int y]) := by
    refine ⟨nf_inA hl rfl, sgq_22 ?_⟩
    · show (-1) * v_iv (n_v (vs ++ [Value.int x, Value.int y]) 13) + (1 * v_iv (n_v (vs ++ [Value.int x, Value.int y]) 10) + 0) ≤ 0
      simp only [e_10, e_13]
      exact vc_Gr_step_5_2 (v_iv (n_v vs 8)) (v_iv (n_v vs 10)) (w_fi ws (n_v vs 0) 17) (w_ei ws (w_ar ws (n_v vs 0) 16)) (w_ei ws (w_ar ws (n_v vs 0) 7)) (w_ei ws (w_ar ws (n_v vs 0) 8)) (w_fi ws (n_v vs 0) 0) (w_fi ws (n_v vs 0) 1) (w_ei ws (w_ar ws (n_v vs 0) 14)) (w_ei ws (w_ar ws (n_v vs 3) 4)) (w_ei ws (w_ar ws (n_v vs 3) 9)) (w_ei ws (w_ar ws (n_v vs 4) 9)) (w_ei ws (w_ar ws (n_v vs 4) 12)) (w_ei ws (w_ar ws (n_v vs 4) 16)) (w_fi ws (n_v vs 3) 0) (w_fi ws (n_v vs 3) 1) (w_fi ws (n_v vs 3) 2) (w_fi ws (n_v vs 4) 0) (w_fi ws (n_v vs 4) 3) (w_fi ws (n_v vs 4) 5) (w_fi ws (n_v vs 4) 6) (w_fi w1 (n_v vs 0) 18) (w_ei w1 (w_ar ws (n_v vs 0) 7)) (w_ei w1 (w_ar ws (n_v vs 0) 8)) (w_fi w1 (n_v vs 0) 0) (w_fi w1 (n_v vs 0) 1) (w_ei w1 (w_ar ws (n_v vs 0) 14)) (w_ei w1 (w_ar ws (n_v vs 3) 4)) (w_ei w1 (w_ar ws (n_v vs 3) 9)) (w_ei w1 (w_ar ws (n_v vs 4) 9)) (w_ei w1 (w_ar ws (n_v vs 4) 12)) (w_ei w1 (w_ar ws (n_v vs 4) 16)) (w_fi w1 (n_v vs 3) 0) (w_fi w1 (n_v vs 3) 1) (w_fi w1 (n_v vs 3) 2) (w_fi w1 (n_v vs 4) 0) (w_fi w1 (n_v vs 4) 3) (w_fi w1 (n_v vs 4) 5) (w_fi w1 (n_v vs 4) 6) (w_fi w2 (n_v vs 0) 17) (w_fi w2 (n_v vs 0) 18) (w_ei w2 (w_ar ws (n_v vs 0) 16)) (w_ei w2 (w_ar ws (n_v vs 0) 7)) (w_ei w2 (w_ar ws (n_v vs 0) 8)) (w_fi w2 (n_v vs 0) 0) (w_fi w2 (n_v vs 0) 1) (w_ei w2 (w_ar ws (n_v vs 0) 14)) (w_ei w2 (w_ar ws (n_v vs 3) 4)) (w_ei w2 (w_ar ws (n_v vs 3) 9)) (w_ei w2 (w_ar ws (n_v vs 4) 9)) (w_ei w2 (w_ar ws (n_v vs 4) 12)) (w_ei w2 (w_ar ws (n_v vs 4) 16)) (w_fi w2 (n_v vs 3) 0) (w_fi w2 (n_v vs 3) 1) (w_fi w2 (n_v vs 3) 2) (w_fi w2 (n_v vs 4) 0) (w_fi w2 (n_v vs 4) 3) (w_fi w2 (n_v vs 4) 5) (w_fi w2 (n_v vs 4) 6) (w_fi w1 (n_v vs 0) 17) (w_ei w1 (w_ar ws (n_v vs 0) 16)) (v_iv (Value.int x)) k8 k10 d1 g2 g18 fe_0_0_1 fe_0_1_1 fe_0_17_1 fe_3_0_1 fe_3_1_1 fe_3_2_1 fe_4_0_1 fe_4_3_1 fe_4_5_1 fe_4_6_1 fe_0_0_2 fe_0_1_2 fe_0_18_2 fe_3_0_2 fe_3_1_2 fe_3_2_2 fe_4_0_2 fe_4_3_2 fe_4_5_2 fe_4_6_2 hE_0_7_1 hE_0_7_2 hE_0_8_1 hE_0_8_2 hE_0_14_1 hE_0_14_2 hE_0_16_1 hE_0_16_2 hE_3_4_1 hE_3_4_2 hE_3_9_1 hE_3_9_2 hE_4_9_1 hE_4_9_2 hE_4_12_1 hE_4_12_2 hE_4_16_1 hE_4_16_2 kz_0_0 kz_0_1 kz_0_17 kz_3_0 kz_3_1 kz_3_2 kz_4_0 kz_4_3 kz_4_5 kz_4_6 ex2
  have nf3 : fc_1 PRD (23, [14, 12], [0, 1, -1]) ws (vs ++ [Value.int x, Value.int y]) := by
    refine ⟨nf_inA hl rfl, sgq_7 ?_⟩
    · show 1 * v_iv (n_v (vs ++ [Value.int x, Value.int y]) 14) + ((-1) * v_iv (n_v (vs ++ [Value.int x, Value.int y]) 12) + 0) ≤ 0
      simp only [e_12, e_14]
      exact vc_Gr_step_5_3 (v_iv (n_v vs 7)) (v_iv (n_v vs 12)) (w_fi ws (n_v vs 0) 18) (w_fi ws (n_v vs 0) 17) (w_ei ws (w_ar ws (n_v vs 0) 16)) (w_ei ws (w_ar ws (n_v vs 0) 7)) (w_ei ws (w_ar ws (n_v vs 0) 8)) (w_fi ws (n_v vs 0) 0) (w_fi ws (n_v vs 0) 1) (w_ei ws (w_ar ws (n_v vs 0) 14)) (w_ei ws (w_ar ws (n_v vs 3) 4)) (w_ei ws (w_ar ws (n_v vs 3) 9)) (w_ei ws (w_ar ws (n_v vs 4) 9)) (w_ei ws (w_ar ws (n_v vs 4) 12)) (w_ei ws (w_ar ws (n_v vs 4) 16)) (w_fi ws (n_v vs 3) 0) (w_fi ws (n_v vs 3) 1) (w_fi ws (n_v vs 3) 2) (w_fi ws (n_v vs 4) 0) (w_fi ws (n_v vs 4) 3) (w_fi ws (n_v vs 4) 5) (w_fi ws (n_v vs 4) 6) (w_fi w1 (n_v vs 0) 18) (w_ei w1 (w_ar ws (n_v vs 0) 7)) (w_ei w1 (w_ar ws (n_v vs 0) 8)) (w_fi w1 (n_v vs 0) 0) (w_fi w1 (n_v vs 0) 1) (w_ei w1 (w_ar ws (n_v vs 0) 14)) (w_ei w1 (w_ar ws (n_v vs 3) 4)) (w_ei w1 (w_ar ws (n_v vs 3) 9)) (w_ei w1 (w_ar ws (n_v vs 4) 9)) (w_ei w1 (w_ar ws (n_v vs 4) 12)) (w_ei w1 (w_ar ws (n_v vs 4) 16)) (w_fi w1 (n_v vs 3) 0) (w_fi w1 (n_v vs 3) 1) (w_fi w1 (n_v vs 3) 2) (w_fi w1 (n_v vs 4) 0) (w_fi w1 (n_v vs 4) 3) (w_fi w1 (n_v vs 4) 5) (w_fi w1 (n_v vs 4) 6) (w_fi w2 (n_v vs 0) 18) (w_ei w2 (w_ar ws (n_v vs 0) 16)) (w_ei w2 (w_ar ws (n_v vs 0) 7)) (w_ei w2 (w_ar ws (n_v vs 0) 8)) (w_fi w2 (n_v vs 0) 0) (w_fi w2 (n_v vs 0) 1) (w_ei w2 (w_ar ws (n_v vs 0) 14)) (w_ei w2 (w_ar ws (n_v vs 3) 4)) (w_ei w2 (w_ar ws (n_v vs 3) 9)) (w_ei w2 (w_ar ws (n_v vs 4) 9)) (w_ei w2 (w_ar ws (n_v vs 4) 12)) (w_ei w2 (w_ar ws (n_v vs 4) 16)) (w_fi w2 (n_v vs 3) 0) (w_fi w2 (n_v vs 3) 1) (w_fi w2 (n_v vs 3) 2) (w_fi w2 (n_v vs 4) 0) (w_fi w2 (n_v vs 4) 3) (w_fi w2 (n_v vs 4) 5) (w_fi w2 (n_v vs 4) 6) (w_fi w1 (n_v vs 0) 17) (w_ei w1 (w_ar ws (n_v vs 0) 16)) (v_iv (Value.int y)) k7 k12 d0 g0 g12 fe_0_0_1 fe_0_1_1 fe_0_17_1 fe_3_0_1 fe_3_1_1 fe_3_2_1 fe_4_0_1 fe_4_3_1 fe_4_5_1 fe_4_6_1 fe_0_0_2 fe_0_1_2 fe_0_18_2 fe_3_0_2 fe_3_1_2 fe_3_2_2 fe_4_0_2 fe_4_3_2 fe_4_5_2 fe_4_6_2 hE_0_7_1 hE_0_7_2 hE_0_8_1 hE_0_8_2 hE_0_14_1 hE_0_14_2 hE_0_16_1 hE_0_16_2 hE_3_4_1 hE_3_4_2 hE_3_9_1 hE_3_9_2 hE_4_9_1 hE_4_9_2 hE_4_12_1 hE_4_12_2 hE_4_16_1 hE_4_16_2 kz_0_0 kz_0_1 kz_0_17 kz_0_18 kz_3_0 kz_3_1 kz_3_2 kz_4_0 kz_4_3 kz_4_5 kz_4_6 ey2
  have nf4 : fc_1 PRD (23, [14, 12], [0, -1, 1]) ws (vs ++ [Value.int x, Value.int y]) := by
    refine ⟨nf_inA hl rfl, sgq_22 ?_⟩
    · show (-1) * v_iv (n_v (vs ++ [Value.int x, Value.int y]) 14) + (1 * v_iv (n_v (vs ++ [Value.int x, Value.int y]) 12) + 0) ≤ 0
      simp only [e_12, e_14]
      exact vc_Gr_step_5_4 (v_iv (n_v vs 7)) (v_iv (n_v vs 12)) (w_fi ws (n_v vs 0) 18) (w_fi ws (n_v vs 0) 17) (w_ei ws (w_ar ws (n_v vs 0) 16)) (w_ei ws (w_ar ws (n_v vs 0) 7)) (w_ei ws (w_ar ws (n_v vs 0) 8)) (w_fi ws (n_v vs 0) 0) (w_fi ws (n_v vs 0) 1) (w_ei ws (w_ar ws (n_v vs 0) 14)) (w_ei ws (w_ar ws (n_v vs 3) 4)) (w_ei ws (w_ar ws (n_v vs 3) 9)) (w_ei ws (w_ar ws (n_v vs 4) 9)) (w_ei ws (w_ar ws (n_v vs 4) 12)) (w_ei ws (w_ar ws (n_v vs 4) 16)) (w_fi ws (n_v vs 3) 0) (w_fi ws (n_v vs 3) 1) (w_fi ws (n_v vs 3) 2) (w_fi ws (n_v vs 4) 0) (w_fi ws (n_v vs 4) 3) (w_fi ws (n_v vs 4) 5) (w_fi ws (n_v vs 4) 6) (w_fi w1 (n_v vs 0) 18) (w_ei w1 (w_ar ws (n_v vs 0) 7)) (w_ei w1 (w_ar ws (n_v vs 0) 8)) (w_fi w1 (n_v vs 0) 0) (w_fi w1 (n_v vs 0) 1) (w_ei w1 (w_ar ws (n_v vs 0) 14)) (w_ei w1 (w_ar ws (n_v vs 3) 4)) (w_ei w1 (w_ar ws (n_v vs 3) 9)) (w_ei w1 (w_ar ws (n_v vs 4) 9)) (w_ei w1 (w_ar ws (n_v vs 4) 12)) (w_ei w1 (w_ar ws (n_v vs 4) 16)) (w_fi w1 (n_v vs 3) 0) (w_fi w1 (n_v vs 3) 1) (w_fi w1 (n_v vs 3) 2) (w_fi w1 (n_v vs 4) 0) (w_fi w1 (n_v vs 4) 3) (w_fi w1 (n_v vs 4) 5) (w_fi w1 (n_v vs 4) 6) (w_fi w2 (n_v vs 0) 18) (w_ei w2 (w_ar ws (n_v vs 0) 16)) (w_ei w2 (w_ar ws (n_v vs 0) 7)) (w_ei w2 (w_ar ws (n_v vs 0) 8)) (w_fi w2 (n_v vs 0) 0) (w_fi w2 (n_v vs 0) 1) (w_ei w2 (w_ar ws (n_v vs 0) 14)) (w_ei w2 (w_ar ws (n_v vs 3) 4)) (w_ei w2 (w_ar ws (n_v vs 3) 9)) (w_ei w2 (w_ar ws (n_v vs 4) 9)) (w_ei w2 (w_ar ws (n_v vs 4) 12)) (w_ei w2 (w_ar ws (n_v vs 4) 16)) (w_fi w2 (n_v vs 3) 0) (w_fi w2 (n_v vs 3) 1) (w_fi w2 (n_v vs 3) 2) (w_fi w2 (n_v vs 4) 0) (w_fi w2 (n_v vs 4) 3) (w_fi w2 (n_v vs 4) 5) (w_fi w2 (n_v vs 4) 6) (w_fi w1 (n_v vs 0) 17) (w_ei w1 (w_ar ws (n_v vs 0) 16)) (v_iv (Value.int y)) k7 k12 d0 g0 g12 fe_0_0_1 fe_0_1_1 fe_0_17_1 fe_3_0_1 fe_3_1_1 fe_3_2_1 fe_4_0_1 fe_4_3_1 fe_4_5_1 fe_4_6_1 fe_0_0_2 fe_0_1_2 fe_0_18_2 fe_3_0_2 fe_3_1_2 fe_3_2_2 fe_4_0_2 fe_4_3_2 fe_4_5_2 fe_4_6_2 hE_0_7_1 hE_0_7_2 hE_0_8_1 hE_0_8_2 hE_0_14_1 hE_0_14_2 hE_0_16_1 hE_0_16_2 hE_3_4_1 hE_3_4_2 hE_3_9_1 hE_3_9_2 hE_4_9_1 hE_4_9_2 hE_4_12_1 hE_4_12_2 hE_4_16_1 hE_4_16_2 kz_0_0 kz_0_1 kz_0_17 kz_0_18 kz_3_0 kz_3_1 kz_3_2 kz_4_0 kz_4_3 kz_4_5 kz_4_6 ey2
  have nf5 : fc_1 PRD (20, [0], [60, 2, 1, 739, 17, 18, 16]) ws (vs ++ [Value.int x, Value.int y]) := by
    refine ⟨nf_inA hl rfl, sgq_1361 ?_⟩
    · show PDQ (w_fi ws (n_v (vs ++ [Value.int x, Value.int y]) 0) 17) (w_fi ws (n_v (vs ++ [Value.int x, Value.int y]) 0) 18) (w_ei ws (w_ar ws (n_v (vs ++ [Value.int x, Value.int y]) 0) 16))
      rw [e_0]
      exact vc_Gr_step_5_5 (w_fi ws (n_v vs 0) 18) (w_fi ws (n_v vs 0) 17) (w_ei ws (w_ar ws (n_v vs 0) 16)) (w_ei ws (w_ar ws (n_v vs 0) 7)) (w_ei ws (w_ar ws (n_v vs 0) 8)) (w_fi ws (n_v vs 0) 0) (w_fi ws (n_v vs 0) 1) (w_ei ws (w_ar ws (n_v vs 0) 14)) (w_ei ws (w_ar ws (n_v vs 3) 4)) (w_ei ws (w_ar ws (n_v vs 3) 9)) (w_ei ws (w_ar ws (n_v vs 4) 9)) (w_ei ws (w_ar ws (n_v vs 4) 12)) (w_ei ws (w_ar ws (n_v vs 4) 16)) (w_fi ws (n_v vs 3) 0) (w_fi ws (n_v vs 3) 1) (w_fi ws (n_v vs 3) 2) (w_fi ws (n_v vs 4) 0) (w_fi ws (n_v vs 4) 3) (w_fi ws (n_v vs 4) 5) (w_fi ws (n_v vs 4) 6) (w_fi w1 (n_v vs 0) 18) (w_ei w1 (w_ar ws (n_v vs 0) 7)) (w_ei w1 (w_ar ws (n_v vs 0) 8)) (w_fi w1 (n_v vs 0) 0) (w_fi w1 (n_v vs 0) 1) (w_ei w1 (w_ar ws (n_v vs 0) 14)) (w_ei w1 (w_ar ws (n_v vs 3) 4)) (w_ei w1 (w_ar ws (n_v vs 3) 9)) (w_ei w1 (w_ar ws (n_v vs 4) 9)) (w_ei w1 (w_ar ws (n_v vs 4) 12)) (w_ei w1 (w_ar ws (n_v vs 4) 16)) (w_fi w1 (n_v vs 3) 0) (w_fi w1 (n_v vs 3) 1) (w_fi w1 (n_v vs 3) 2) (w_fi w1 (n_v vs 4) 0) (w_fi w1 (n_v vs 4) 3) (w_fi w1 (n_v vs 4) 5) (w_fi w1 (n_v vs 4) 6) (w_fi w2 (n_v vs 0) 18) (w_ei w2 (w_ar ws (n_v vs 0) 16)) (w_ei w2 (w_ar ws (n_v vs 0) 7)) (w_ei w2 (w_ar ws (n_v vs 0) 8)) (w_fi w2 (n_v vs 0) 0) (w_fi w2 (n_v vs 0) 1) (w_ei w2 (w_ar ws (n_v vs 0) 14)) (w_ei w2 (w_ar ws (n_v vs 3) 4)) (w_ei w2 (w_ar ws (n_v vs 3) 9)) (w_ei w2 (w_ar ws (n_v vs 4) 9)) (w_ei w2 (w_ar ws (n_v vs 4) 12)) (w_ei w2 (w_ar ws (n_v vs 4) 16)) (w_fi w2 (n_v vs 3) 0) (w_fi w2 (n_v vs 3) 1) (w_fi w2 (n_v vs 3) 2) (w_fi w2 (n_v vs 4) 0) (w_fi w2 (n_v vs 4) 3) (w_fi w2 (n_v vs 4) 5) (w_fi w2 (n_v vs 4) 6) (w_fi w1 (n_v vs 0) 17) (w_ei w1 (w_ar ws (n_v vs 0) 16)) f4 fe_0_0_1 fe_0_1_1 fe_0_17_1 fe_3_0_1 fe_3_1_1 fe_3_2_1 fe_4_0_1 fe_4_3_1 fe_4_5_1 fe_4_6_1 fe_0_0_2 fe_0_1_2 fe_0_18_2 fe_3_0_2 fe_3_1_2 fe_3_2_2 fe_4_0_2 fe_4_3_2 fe_4_5_2 fe_4_6_2 hE_0_7_1 hE_0_7_2 hE_0_8_1 hE_0_8_2 hE_0_14_1 hE_0_14_2 hE_0_16_1 hE_0_16_2 hE_3_4_1 hE_3_4_2 hE_3_9_1 hE_3_9_2 hE_4_9_1 hE_4_9_2 hE_4_12_1 hE_4_12_2 hE_4_16_1 hE_4_16_2 kz_0_0 kz_0_1 kz_0_17 kz_0_18 kz_3_0 kz_3_1 kz_3_2 kz_4_0 kz_4_3 kz_4_5 kz_4_6
  have nf6 : fc_1 PRD (20, [0, 13, 14], [50, 2, 0, 17, 18, 2, 7, 1, 3, 2, 0, 17, 1, 1, 1, 3, 2, 0, 18, 1, 2]) ws (vs ++ [Value.int x, Value.int y]) := by
    refine ⟨nf_inA hl rfl, sgq_1362 ?_⟩
    · show (w_fi ws (n_v (vs ++ [Value.int x, Value.int y]) 0) 17 = v_iv (n_v (vs ++ [Value.int x, Value.int y]) 13)) ∧ (w_fi ws (n_v (vs ++ [Value.int x, Value.int y]) 0) 18 = v_iv (n_v (vs ++ [Value.int x, Value.int y]) 14))
      simp only [e_0, e_13, e_14]
      exact vc_Gr_step_5_6 (v_iv (n_v vs 7)) (v_iv (n_v vs 8)) (v_iv (n_v vs 10)) (v_iv (n_v vs 12)) (w_fi ws (n_v vs 0) 18) (w_fi ws (n_v vs 0) 17) (w_ei ws (w_ar ws (n_v vs 0) 16)) (w_ei ws (w_ar ws (n_v vs 0) 7)) (w_ei ws (w_ar ws (n_v vs 0) 8)) (w_fi ws (n_v vs 0) 0) (w_fi ws (n_v vs 0) 1) (w_ei ws (w_ar ws (n_v vs 0) 14)) (w_ei ws (w_ar ws (n_v vs 3) 4)) (w_ei ws (w_ar ws (n_v vs 3) 9)) (w_ei ws (w_ar ws (n_v vs 4) 9)) (w_ei ws (w_ar ws (n_v vs 4) 12)) (w_ei ws (w_ar ws (n_v vs 4) 16)) (w_fi ws (n_v vs 3) 0) (w_fi ws (n_v vs 3) 1) (w_fi ws (n_v vs 3) 2) (w_fi ws (n_v vs 4) 0) (w_fi ws (n_v vs 4) 3) (w_fi ws (n_v vs 4) 5) (w_fi ws (n_v vs 4) 6) (w_fi w1 (n_v vs 0) 18) (w_ei w1 (w_ar ws (n_v vs 0) 7)) (w_ei w1 (w_ar ws (n_v vs 0) 8)) (w_fi w1 (n_v vs 0) 0) (w_fi w1 (n_v vs 0) 1) (w_ei w1 (w_ar ws (n_v vs 0) 14)) (w_ei w1 (w_ar ws (n_v vs 3) 4)) (w_ei w1 (w_ar ws (n_v vs 3) 9)) (w_ei w1 (w_ar ws (n_v vs 4) 9)) (w_ei w1 (w_ar ws (n_v vs 4) 12)) (w_ei w1 (w_ar ws (n_v vs 4) 16)) (w_fi w1 (n_v vs 3) 0) (w_fi w1 (n_v vs 3) 1) (w_fi w1 (n_v vs 3) 2) (w_fi w1 (n_v vs 4) 0) (w_fi w1 (n_v vs 4) 3) (w_fi w1 (n_v vs 4) 5) (w_fi w1 (n_v vs 4) 6) (w_fi w2 (n_v vs 0) 17) (w_fi w2 (n_v vs 0) 18) (w_ei w2 (w_ar ws (n_v vs 0) 16)) (w_ei w2 (w_ar ws (n_v vs 0) 7)) (w_ei w2 (w_ar ws (n_v vs 0) 8)) (w_fi w2 (n_v vs 0) 0) (w_fi w2 (n_v vs 0) 1) (w_ei w2 (w_ar ws (n_v vs 0) 14)) (w_ei w2 (w_ar ws (n_v vs 3) 4)) (w_ei w2 (w_ar ws (n_v vs 3) 9)) (w_ei w2 (w_ar ws (n_v vs 4) 9)) (w_ei w2 (w_ar ws (n_v vs 4) 12)) (w_ei w2 (w_ar ws (n_v vs 4) 16)) (w_fi w2 (n_v vs 3) 0) (w_fi w2 (n_v vs 3) 1) (w_fi w2 (n_v vs 3) 2) (w_fi w2 (n_v vs 4) 0) (w_fi w2 (n_v vs 4) 3) (w_fi w2 (n_v vs 4) 5) (w_fi w2 (n_v vs 4) 6) (w_fi w1 (n_v vs 0) 17) (w_ei w1 (w_ar ws (n_v vs 0) 16)) (v_iv (Value.int x)) (v_iv (Value.int y)) k7 k8 k10 k12 d0 d1 g0 g2 g12 g18 fe_0_0_1 fe_0_1_1 fe_0_17_1 fe_3_0_1 fe_3_1_1 fe_3_2_1 fe_4_0_1 fe_4_3_1 fe_4_5_1 fe_4_6_1 fe_0_0_2 fe_0_1_2 fe_0_18_2 fe_3_0_2 fe_3_1_2 fe_3_2_2 fe_4_0_2 fe_4_3_2 fe_4_5_2 fe_4_6_2 hE_0_7_1 hE_0_7_2 hE_0_8_1 hE_0_8_2 hE_0_14_1 hE_0_14_2 hE_0_16_1 hE_0_16_2 hE_3_4_1 hE_3_4_2 hE_3_9_1 hE_3_9_2 hE_4_9_1 hE_4_9_2 hE_4_12_1 hE_4_12_2 hE_4_16_1 hE_4_16_2 kz_0_0 kz_0_1 kz_0_17 kz_0_18 kz_3_0 kz_3_1 kz_3_2 kz_4_0 kz_4_3 kz_4_5 kz_4_6 ex2 ey2
  have nf7 : fc_1 PRD (20, [0, 10], [50, 2, 0, 17, 18, 2, 12, 0, 2, 0, 1, 4, 3, 2, 0, 17, 2, 0, 18, 0, 2, 1, 1, 4, 3, 2, 0, 17, 2, 0, 18]) ws (vs ++ [Value.int x, Value.int y]) := by
    refine ⟨nf_inA hl rfl, sgq_1363 ?_⟩
    · show (1 ≤ (w_fi ws (n_v (vs ++ [Value.int x, Value.int y]) 0) 17 + w_fi ws (n_v (vs ++ [Value.int x, Value.int y]) 0) 18)) ∧ (v_iv (n_v (vs ++ [Value.int x, Value.int y]) 10) ≤ (w_fi ws (n_v (vs ++ [Value.int x, Value.int y]) 0) 17 + w_fi ws (n_v (vs ++ [Value.int x, Value.int y]) 0) 18))
      simp only [e_0, e_10]
      exact vc_Gr_step_5_7 (v_iv (n_v vs 7)) (v_iv (n_v vs 8)) (v_iv (n_v vs 10)) (v_iv (n_v vs 12)) (w_fi ws (n_v vs 0) 18) (w_fi ws (n_v vs 0) 17) (w_ei ws (w_ar ws (n_v vs 0) 16)) (w_ei ws (w_ar ws (n_v vs 0) 7)) (w_ei ws (w_ar ws (n_v vs 0) 8)) (w_fi ws (n_v vs 0) 0) (w_fi ws (n_v vs 0) 1) (w_ei ws (w_ar ws (n_v vs 0) 14)) (w_ei ws (w_ar ws (n_v vs 3) 4)) (w_ei ws (w_ar ws (n_v vs 3) 9)) (w_ei ws (w_ar ws (n_v vs 4) 9)) (w_ei ws (w_ar ws (n_v vs 4) 12)) (w_ei ws (w_ar ws (n_v vs 4) 16)) (w_fi ws (n_v vs 3) 0) (w_fi ws (n_v vs 3) 1) (w_fi ws (n_v vs 3) 2) (w_fi ws (n_v vs 4) 0) (w_fi ws (n_v vs 4) 3) (w_fi ws (n_v vs 4) 5) (w_fi ws (n_v vs 4) 6) (w_fi w1 (n_v vs 0) 18) (w_ei w1 (w_ar ws (n_v vs 0) 7)) (w_ei w1 (w_ar ws (n_v vs 0) 8)) (w_fi w1 (n_v vs 0) 0) (w_fi w1 (n_v vs 0) 1) (w_ei w1 (w_ar ws (n_v vs 0) 14)) (w_ei w1 (w_ar ws (n_v vs 3) 4)) (w_ei w1 (w_ar ws (n_v vs 3) 9)) (w_ei w1 (w_ar ws (n_v vs 4) 9)) (w_ei w1 (w_ar ws (n_v vs 4) 12)) (w_ei w1 (w_ar ws (n_v vs 4) 16)) (w_fi w1 (n_v vs 3) 0) (w_fi w1 (n_v vs 3) 1) (w_fi w1 (n_v vs 3) 2) (w_fi w1 (n_v vs 4) 0) (w_fi w1 (n_v vs 4) 3) (w_fi w1 (n_v vs 4) 5) (w_fi w1 (n_v vs 4) 6) (w_fi w2 (n_v vs 0) 17) (w_fi w2 (n_v vs 0) 18) (w_ei w2 (w_ar ws (n_v vs 0) 16)) (w_ei w2 (w_ar ws (n_v vs 0) 7)) (w_ei w2 (w_ar ws (n_v vs 0) 8)) (w_fi w2 (n_v vs 0) 0) (w_fi w2 (n_v vs 0) 1) (w_ei w2 (w_ar ws (n_v vs 0) 14)) (w_ei w2 (w_ar ws (n_v vs 3) 4)) (w_ei w2 (w_ar ws (n_v vs 3) 9)) (w_ei w2 (w_ar ws (n_v vs 4) 9)) (w_ei w2 (w_ar ws (n_v vs 4) 12)) (w_ei w2 (w_ar ws (n_v vs 4) 16)) (w_fi w2 (n_v vs 3) 0) (w_fi w2 (n_v vs 3) 1) (w_fi w2 (n_v vs 3) 2) (w_fi w2 (n_v vs 4) 0) (w_fi w2 (n_v vs 4) 3) (w_fi w2 (n_v vs 4) 5) (w_fi w2 (n_v vs 4) 6) (w_fi w1 (n_v vs 0) 17) (w_ei w1 (w_ar ws (n_v vs 0) 16)) (v_iv (Value.int x)) (v_iv (Value.int y)) k7 k8 k10 k12 d0 d1 g0 g2 f3 f5 g12 g18 fe_0_0_1 fe_0_1_1 fe_0_17_1 fe_3_0_1 fe_3_1_1 fe_3_2_1 fe_4_0_1 fe_4_3_1 fe_4_5_1 fe_4_6_1 fe_0_0_2 fe_0_1_2 fe_0_18_2 fe_3_0_2 fe_3_1_2 fe_3_2_2 fe_4_0_2 fe_4_3_2 fe_4_5_2 fe_4_6_2 hE_0_7_1 hE_0_7_2 hE_0_8_1 hE_0_8_2 hE_0_14_1 hE_0_14_2 hE_0_16_1 hE_0_16_2 hE_3_4_1 hE_3_4_2 hE_3_9_1 hE_3_9_2 hE_4_9_1 hE_4_9_2 hE_4_12_1 hE_4_12_2 hE_4_16_1 hE_4_16_2 kz_0_0 kz_0_1 kz_0_17 kz_0_18 kz_3_0 kz_3_1 kz_3_2 kz_4_0 kz_4_3 kz_4_5 kz_4_6 ex2 ey2
  have nf8 : fc_1 PRD (20, [0, 13, 14], [50, 2, 0, 17, 18, 2, 7, 1, 3, 2, 0, 17, 1, 1, 1, 3, 2, 0, 18, 1, 2]) ws (vs ++ [Value.int x, Value.int y]) := by
    refine ⟨nf_inA hl rfl, sgq_1362 ?_⟩
    · show (w_fi ws (n_v (vs ++ [Value.int x, Value.int y]) 0) 17 = v_iv (n_v (vs ++ [Value.int x, Value.int y]) 13)) ∧ (w_fi ws (n_v (vs ++ [Value.int x, Value.int y]) 0) 18 = v_iv (n_v (vs ++ [Value.int x, Value.int y]) 14))
      simp only [e_0, e_13, e_14]
      exact vc_Gr_step_5_8 (v_iv (n_v vs 7)) (v_iv (n_v vs 8)) (v_iv (n_v vs 10)) (v_iv (n_v vs 12)) (w_fi ws (n_v vs 0) 18) (w_fi ws (n_v vs 0) 17) (w_ei ws (w_ar ws (n_v vs 0) 16)) (w_ei ws (w_ar ws (n_v vs 0) 7)) (w_ei ws (w_ar ws (n_v vs 0) 8)) (w_fi ws (n_v vs 0) 0) (w_fi ws (n_v vs 0) 1) (w_ei ws (w_ar ws (n_v vs 0) 14)) (w_ei ws (w_ar ws (n_v vs 3) 4)) (w_ei ws (w_ar ws (n_v vs 3) 9)) (w_ei ws (w_ar ws (n_v vs 4) 9)) (w_ei ws (w_ar ws (n_v vs 4) 12)) (w_ei ws (w_ar ws (n_v vs 4) 16)) (w_fi ws (n_v vs 3) 0) (w_fi ws (n_v vs 3) 1) (w_fi ws (n_v vs 3) 2) (w_fi ws (n_v vs 4) 0) (w_fi ws (n_v vs 4) 3) (w_fi ws (n_v vs 4) 5) (w_fi ws (n_v vs 4) 6) (w_fi w1 (n_v vs 0) 18) (w_ei w1 (w_ar ws (n_v vs 0) 7)) (w_ei w1 (w_ar ws (n_v vs 0) 8)) (w_fi w1 (n_v vs 0) 0) (w_fi w1 (n_v vs 0) 1) (w_ei w1 (w_ar ws (n_v vs 0) 14)) (w_ei w1 (w_ar ws (n_v vs 3) 4)) (w_ei w1 (w_ar ws (n_v vs 3) 9)) (w_ei w1 (w_ar ws (n_v vs 4) 9)) (w_ei w1 (w_ar ws (n_v vs 4) 12)) (w_ei w1 (w_ar ws (n_v vs 4) 16)) (w_fi w1 (n_v vs 3) 0) (w_fi w1 (n_v vs 3) 1) (w_fi w1 (n_v vs 3) 2) (w_fi w1 (n_v vs 4) 0) (w_fi w1 (n_v vs 4) 3) (w_fi w1 (n_v vs 4) 5) (w_fi w1 (n_v vs 4) 6) (w_fi w2 (n_v vs 0) 17) (w_fi w2 (n_v vs 0) 18) (w_ei w2 (w_ar ws (n_v vs 0) 16)) (w_ei w2 (w_ar ws (n_v vs 0) 7)) (w_ei w2 (w_ar ws (n_v vs 0) 8)) (w_fi w2 (n_v vs 0) 0) (w_fi w2 (n_v vs 0) 1) (w_ei w2 (w_ar ws (n_v vs 0) 14)) (w_ei w2 (w_ar ws (n_v vs 3) 4)) (w_ei w2 (w_ar ws (n_v vs 3) 9)) (w_ei w2 (w_ar ws (n_v vs 4) 9)) (w_ei w2 (w_ar ws (n_v vs 4) 12)) (w_ei w2 (w_ar ws (n_v vs 4) 16)) (w_fi w2 (n_v vs 3) 0) (w_fi w2 (n_v vs 3) 1) (w_fi w2 (n_v vs 3) 2) (w_fi w2 (n_v vs 4) 0) (w_fi w2 (n_v vs 4) 3) (w_fi w2 (n_v vs 4) 5) (w_fi w2 (n_v vs 4) 6) (w_fi w1 (n_v vs 0) 17) (w_ei w1 (w_ar ws (n_v vs 0) 16)) (v_iv (Value.int x)) (v_iv (Value.int y)) k7 k8 k10 k12 d0 d1 g0 g2 g12 g18 fe_0_0_1 fe_0_1_1 fe_0_17_1 fe_3_0_1 fe_3_1_1 fe_3_2_1 fe_4_0_1 fe_4_3_1 fe_4_5_1 fe_4_6_1 fe_0_0_2 fe_0_1_2 fe_0_18_2 fe_3_0_2 fe_3_1_2 fe_3_2_2 fe_4_0_2 fe_4_3_2 fe_4_5_2 fe_4_6_2 hE_0_7_1 hE_0_7_2 hE_0_8_1 hE_0_8_2 hE_0_14_1 hE_0_14_2 hE_0_16_1 hE_0_16_2 hE_3_4_1 hE_3_4_2 hE_3_9_1 hE_3_9_2 hE_4_9_1 hE_4_9_2 hE_4_12_1 hE_4_12_2 hE_4_16_1 hE_4_16_2 kz_0_0 kz_0_1 kz_0_17 kz_0_18 kz_3_0 kz_3_1 kz_3_2 kz_4_0 kz_4_3 kz_4_5 kz_4_6 ex2 ey2
  exact ⟨(fun _ h => (by cases h)), [Value.int x, Value.int y], ag_two hx hy, List.forall_mem_cons.mpr ⟨⟨show (20 : Nat) < 100 from by decide, nf0⟩, List.forall_mem_cons.mpr ⟨⟨show (23 : Nat) < 100 from by decide, nf1⟩, List.forall_mem_cons.mpr ⟨⟨show (23 : Nat) < 100 from by decide, nf2⟩, List.forall_mem_cons.mpr ⟨⟨show (23 : Nat) < 100 from by decide, nf3⟩, List.forall_mem_cons.mpr ⟨⟨show (23 : Nat) < 100 from by decide, nf4⟩, List.forall_mem_cons.mpr ⟨⟨show (20 : Nat) < 100 from by decide, nf5⟩, List.forall_mem_cons.mpr ⟨⟨show (20 : Nat) < 100 from by decide, nf6⟩, List.forall_mem_cons.mpr ⟨⟨show (20 : Nat) < 100 from by decide, nf7⟩, List.forall_mem_cons.mpr ⟨⟨show (20 : Nat) < 100 from by decide, nf8⟩, (fun _ h => (by cases h))⟩⟩⟩⟩⟩⟩⟩⟩⟩, (fun _ h => (by cases h))⟩
set_option maxHeartbeats 4000000 in
theorem vc_Gr_step_6_0 (x15 : Int) (tail_0 : Int → Int) (head_0 : Int → Int) (nodes_0 : Int) (edges_0 : Int) (near_0 : Int → Int) (part_0o3 : Int → Int) (turned_0o3 : Int → Int) (near_0o4 : Int → Int) (first_0o4 : Int → Int) (faceOf_0o4 : Int → Int) (known_0o3 : Int) (parts_0o3 : Int) (blocks_0o3 : Int) (planar_0o4 : Int) (barredEdges_0o4 : Int) (nodes_0o4 : Int) (edges_0o4 : Int) (k15 : 1 ≤ x15 ∧ x15 ≤ 1) (kz_0_0 : 0 ≤ nodes_0 ∧ nodes_0 ≤ 24) (kz_0_1 : 0 ≤ edges_0 ∧ edges_0 ≤ 48) (kz_3_0 : 0 ≤ known_0o3 ∧ known_0o3 ≤ 1) (kz_3_1 : 0 ≤ parts_0o3 ∧ parts_0o3 ≤ 24) (kz_3_2 : 0 ≤ blocks_0o3 ∧ blocks_0o3 ≤ 48) (kz_4_0 : (-1) ≤ planar_0o4 ∧ planar_0o4 ≤ 1) (kz_4_3 : 0 ≤ barredEdges_0o4 ∧ barredEdges_0o4 ≤ 48) (kz_4_5 : 0 ≤ nodes_0o4 ∧ nodes_0o4 ≤ 24) (kz_4_6 : 0 ≤ edges_0o4 ∧ edges_0o4 ≤ 72) : HFA (nodes_0) (edges_0) (known_0o3) (parts_0o3) (blocks_0o3) (planar_0o4) (barredEdges_0o4) (nodes_0o4) (edges_0o4) (near_0) (tail_0) (head_0) (part_0o3) (turned_0o3) (near_0o4) (first_0o4) (faceOf_0o4) (x15) := by
  first
    | assumption
    | exact fun z => by omega
    | exact fun _ => ‹HFN _ _ _ _ _ _ _ _ _ _ _ _ _ _ _ _ _›
def o_Gr_step_6 : or_T := (89, 16, [(0, (2, 0, 0, [3])), (3, (2, 0, 0, [2])), (4, (2, 0, 0, [5])), (15, (0, 1, 1, []))], [], [], [], [(20, [0, 3, 4, 15], [60, 9, 8, 746, 0, 1, 1000, 1001, 1002, 2000, 2003, 2005, 2006, 14, 7, 8, 1004, 1009, 2009, 2012, 2016])], [], [])
theorem oo_Gr_step_6 {kA : Nat → ClassId} : or_ok PRD kA GG o_Gr_step_6 := by
  refine or_mk fun A ta ws vs hD hth hl => ?_
  intro t0 r0 t3 r3 t4 r4 t15 k15
  have kz_0_0 := fdq_21 hD hth r0
  have kz_0_1 := fdq_30 hD hth r0
  have kz_3_0 := fdq_294 hD hth r3
  have kz_3_1 := fdq_278 hD hth r3
  have kz_3_2 := fdq_295 hD hth r3
  have kz_4_0 := fdq_78 hD hth r4
  have kz_4_3 := fdq_79 hD hth r4
  have kz_4_5 := fdq_82 hD hth r4
  have kz_4_6 := fdq_59 hD hth r4
  have nf0 : fc_1 PRD (20, [0, 3, 4, 15], [60, 9, 8, 746, 0, 1, 1000, 1001, 1002, 2000, 2003, 2005, 2006, 14, 7, 8, 1004, 1009, 2009, 2012, 2016]) ws (vs) := ⟨nf_in hl rfl, sgq_1514 (vc_Gr_step_6_0 (v_iv (n_v vs 15)) (w_ei ws (w_ar ws (n_v vs 0) 7)) (w_ei ws (w_ar ws (n_v vs 0) 8)) (w_fi ws (n_v vs 0) 0) (w_fi ws (n_v vs 0) 1) (w_ei ws (w_ar ws (n_v vs 0) 14)) (w_ei ws (w_ar ws (n_v vs 3) 4)) (w_ei ws (w_ar ws (n_v vs 3) 9)) (w_ei ws (w_ar ws (n_v vs 4) 9)) (w_ei ws (w_ar ws (n_v vs 4) 12)) (w_ei ws (w_ar ws (n_v vs 4) 16)) (w_fi ws (n_v vs 3) 0) (w_fi ws (n_v vs 3) 1) (w_fi ws (n_v vs 3) 2) (w_fi ws (n_v vs 4) 0) (w_fi ws (n_v vs 4) 3) (w_fi ws (n_v vs 4) 5) (w_fi ws (n_v vs 4) 6) k15 kz_0_0 kz_0_1 kz_3_0 kz_3_1 kz_3_2 kz_4_0 kz_4_3 kz_4_5 kz_4_6)⟩
  refine ⟨(fun _ h => (by cases h)), [], trivial, ?_, (fun _ h => (by cases h))⟩
  rw [List.append_nil]
  exact List.forall_mem_cons.mpr ⟨⟨show (20 : Nat) < 100 from by decide, nf0⟩, (fun _ h => (by cases h))⟩
set_option maxHeartbeats 4000000 in
theorem vc_Gr_step_7_0 (x8 : Int) (tail_0 : Int → Int) (head_0 : Int → Int) (nodes_0 : Int) (edges_0 : Int) (near_0 : Int → Int) (part_0o3 : Int → Int) (turned_0o3 : Int → Int) (near_0o4 : Int → Int) (first_0o4 : Int → Int) (faceOf_0o4 : Int → Int) (known_0o3 : Int) (parts_0o3 : Int) (blocks_0o3 : Int) (planar_0o4 : Int) (barredEdges_0o4 : Int) (nodes_0o4 : Int) (edges_0o4 : Int) (k8 : 0 ≤ x8 ∧ x8 ≤ 0) (f8 : HFN (nodes_0) (edges_0) (known_0o3) (parts_0o3) (blocks_0o3) (planar_0o4) (barredEdges_0o4) (nodes_0o4) (edges_0o4) (near_0) (tail_0) (head_0) (part_0o3) (turned_0o3) (near_0o4) (first_0o4) (faceOf_0o4)) (kz_0_0 : 0 ≤ nodes_0 ∧ nodes_0 ≤ 24) (kz_0_1 : 0 ≤ edges_0 ∧ edges_0 ≤ 48) (kz_3_0 : 0 ≤ known_0o3 ∧ known_0o3 ≤ 1) (kz_3_1 : 0 ≤ parts_0o3 ∧ parts_0o3 ≤ 24) (kz_3_2 : 0 ≤ blocks_0o3 ∧ blocks_0o3 ≤ 48) (kz_4_0 : (-1) ≤ planar_0o4 ∧ planar_0o4 ≤ 1) (kz_4_3 : 0 ≤ barredEdges_0o4 ∧ barredEdges_0o4 ≤ 48) (kz_4_5 : 0 ≤ nodes_0o4 ∧ nodes_0o4 ≤ 24) (kz_4_6 : 0 ≤ edges_0o4 ∧ edges_0o4 ≤ 72) : HFA (nodes_0) (edges_0) (known_0o3) (parts_0o3) (blocks_0o3) (planar_0o4) (barredEdges_0o4) (nodes_0o4) (edges_0o4) (near_0) (tail_0) (head_0) (part_0o3) (turned_0o3) (near_0o4) (first_0o4) (faceOf_0o4) (x8) := by
  first
    | assumption
    | exact fun z => by omega
    | exact fun _ => ‹HFN _ _ _ _ _ _ _ _ _ _ _ _ _ _ _ _ _›
def o_Gr_step_7 : or_T := (79, 9, [(0, (2, 0, 0, [3])), (2, (2, 0, 0, [61])), (3, (2, 0, 0, [2])), (4, (2, 0, 0, [5])), (5, (0, 0, 60, [])), (6, (0, 0, 0, [])), (8, (0, 0, 0, []))], [(8, [6], [5]), (9, [6, 0], [17]), (9, [2, 0], [16]), (20, [0], [50, 2, 0, 17, 18, 0, 8, 4, 3, 2, 0, 17, 2, 0, 18, 0, 30]), (20, [0], [60, 2, 1, 739, 17, 18, 16]), (20, [0], [60, 2, 2, 596, 0, 1, 7, 8]), (20, [0], [60, 2, 3, 670, 0, 1, 14, 7, 8]), (20, [0, 5], [50, 2, 0, 17, 18, 1, 8, 4, 3, 2, 0, 17, 2, 0, 18, 1, 1]), (20, [0, 3, 4], [60, 9, 8, 745, 0, 1, 1000, 1001, 1002, 2000, 2003, 2005, 2006, 14, 7, 8, 1004, 1009, 2009, 2012, 2016])], [], [], [(20, [0, 3, 4, 8], [60, 9, 8, 746, 0, 1, 1000, 1001, 1002, 2000, 2003, 2005, 2006, 14, 7, 8, 1004, 1009, 2009, 2012, 2016])], [], [])
theorem oo_Gr_step_7 {kA : Nat → ClassId} : or_ok PRD kA GG o_Gr_step_7 := by
  refine or_mk fun A ta ws vs hD hth hl => ?_
  intro t0 r0 t2 r2 t3 r3 t4 r4 t5 k5 t6 k6 t8 k8 f0 f1 f2 f3 f4 f5 f6 f7 f8
  have kz_0_0 := fdq_21 hD hth r0
  have kz_0_1 := fdq_30 hD hth r0
  have kz_3_0 := fdq_294 hD hth r3
  have kz_3_1 := fdq_278 hD hth r3
  have kz_3_2 := fdq_295 hD hth r3
  have kz_4_0 := fdq_78 hD hth r4
  have kz_4_3 := fdq_79 hD hth r4
  have kz_4_5 := fdq_82 hD hth r4
  have kz_4_6 := fdq_59 hD hth r4
  have nf0 : fc_1 PRD (20, [0, 3, 4, 8], [60, 9, 8, 746, 0, 1, 1000, 1001, 1002, 2000, 2003, 2005, 2006, 14, 7, 8, 1004, 1009, 2009, 2012, 2016]) ws (vs) := ⟨nf_in hl rfl, sgq_1514 (vc_Gr_step_7_0 (v_iv (n_v vs 8)) (w_ei ws (w_ar ws (n_v vs 0) 7)) (w_ei ws (w_ar ws (n_v vs 0) 8)) (w_fi ws (n_v vs 0) 0) (w_fi ws (n_v vs 0) 1) (w_ei ws (w_ar ws (n_v vs 0) 14)) (w_ei ws (w_ar ws (n_v vs 3) 4)) (w_ei ws (w_ar ws (n_v vs 3) 9)) (w_ei ws (w_ar ws (n_v vs 4) 9)) (w_ei ws (w_ar ws (n_v vs 4) 12)) (w_ei ws (w_ar ws (n_v vs 4) 16)) (w_fi ws (n_v vs 3) 0) (w_fi ws (n_v vs 3) 1) (w_fi ws (n_v vs 3) 2) (w_fi ws (n_v vs 4) 0) (w_fi ws (n_v vs 4) 3) (w_fi ws (n_v vs 4) 5) (w_fi ws (n_v vs 4) 6) k8 (shm_1513 f8) kz_0_0 kz_0_1 kz_3_0 kz_3_1 kz_3_2 kz_4_0 kz_4_3 kz_4_5 kz_4_6)⟩
  refine ⟨(fun _ h => (by cases h)), [], trivial, ?_, (fun _ h => (by cases h))⟩
  rw [List.append_nil]
  exact List.forall_mem_cons.mpr ⟨⟨show (20 : Nat) < 100 from by decide, nf0⟩, (fun _ h => (by cases h))⟩
set_option maxHeartbeats 4000000 in
theorem vc_Gr_step_8_r0 (x5 : Int) (x6 : Int) (x8 : Int) (x9 : Int) (x11 : Int) (done_0 : Int) (undone_0 : Int) (tail_0 : Int → Int) (head_0 : Int → Int) (nodes_0 : Int) (edges_0 : Int) (near_0 : Int → Int) (part_0o3 : Int → Int) (turned_0o3 : Int → Int) (near_0o4 : Int → Int) (first_0o4 : Int → Int) (faceOf_0o4 : Int → Int) (known_0o3 : Int) (parts_0o3 : Int) (blocks_0o3 : Int) (planar_0o4 : Int) (barredEdges_0o4 : Int) (nodes_0o4 : Int) (edges_0o4 : Int) (done_1 : Int) (undone_1 : Int) (past_1 : Int → Int) (tail_1 : Int → Int) (head_1 : Int → Int) (nodes_1 : Int) (edges_1 : Int) (near_1 : Int → Int) (part_1o3 : Int → Int) (turned_1o3 : Int → Int) (near_1o4 : Int → Int) (first_1o4 : Int → Int) (faceOf_1o4 : Int → Int) (known_1o3 : Int) (parts_1o3 : Int) (blocks_1o3 : Int) (planar_1o4 : Int) (barredEdges_1o4 : Int) (nodes_1o4 : Int) (edges_1o4 : Int) (past_0 : Int → Int) (k5 : 0 ≤ x5 ∧ x5 ≤ 60) (k6 : 1 ≤ x6 ∧ x6 ≤ 30) (k8 : 0 ≤ x8 ∧ x8 ≤ 29) (k9 : 0 ≤ x9 ∧ x9 ≤ 30) (k11 : 1 ≤ x11 ∧ x11 ≤ 31) (d0 : x9 + 1 ≤ x11 ∧ x11 ≤ x9 + 1) (d1 : x6 + (-1) ≤ x8 ∧ x8 ≤ x6 + (-1)) (g0 : x8 = done_0) (g3 : x9 = undone_0) (g9 : x6 = done_1) (f11 : (done_1 + undone_1) ≤ 30) (f15 : (done_1 + undone_1) = x5) (fe_0_0_1 : nodes_0 = nodes_1) (fe_0_1_1 : edges_0 = edges_1) (fe_0_18_1 : undone_0 = undone_1) (fe_3_0_1 : known_0o3 = known_1o3) (fe_3_1_1 : parts_0o3 = parts_1o3) (fe_3_2_1 : blocks_0o3 = blocks_1o3) (fe_4_0_1 : planar_0o4 = planar_1o4) (fe_4_3_1 : barredEdges_0o4 = barredEdges_1o4) (fe_4_5_1 : nodes_0o4 = nodes_1o4) (fe_4_6_1 : edges_0o4 = edges_1o4) (hE_0_7_1 : ∀ j : Int, tail_0 j = tail_1 j) (hE_0_8_1 : ∀ j : Int, head_0 j = head_1 j) (hE_0_14_1 : ∀ j : Int, near_0 j = near_1 j) (hE_0_16_1 : ∀ j : Int, past_0 j = past_1 j) (hE_3_4_1 : ∀ j : Int, part_0o3 j = part_1o3 j) (hE_3_9_1 : ∀ j : Int, turned_0o3 j = turned_1o3 j) (hE_4_9_1 : ∀ j : Int, near_0o4 j = near_1o4 j) (hE_4_12_1 : ∀ j : Int, first_0o4 j = first_1o4 j) (hE_4_16_1 : ∀ j : Int, faceOf_0o4 j = faceOf_1o4 j) (kz_0_0 : 0 ≤ nodes_0 ∧ nodes_0 ≤ 24) (kz_0_1 : 0 ≤ edges_0 ∧ edges_0 ≤ 48) (kz_0_17 : 0 ≤ done_0 ∧ done_0 ≤ 30) (kz_0_18 : 0 ≤ undone_0 ∧ undone_0 ≤ 30) (kz_3_0 : 0 ≤ known_0o3 ∧ known_0o3 ≤ 1) (kz_3_1 : 0 ≤ parts_0o3 ∧ parts_0o3 ≤ 24) (kz_3_2 : 0 ≤ blocks_0o3 ∧ blocks_0o3 ≤ 48) (kz_4_0 : (-1) ≤ planar_0o4 ∧ planar_0o4 ≤ 1) (kz_4_3 : 0 ≤ barredEdges_0o4 ∧ barredEdges_0o4 ≤ 48) (kz_4_5 : 0 ≤ nodes_0o4 ∧ nodes_0o4 ≤ 24) (kz_4_6 : 0 ≤ edges_0o4 ∧ edges_0o4 ≤ 72) : 1 ≤ x11 ∧ x11 ≤ 30 := by
  subst fe_0_0_1
  subst fe_0_1_1
  subst fe_0_18_1
  subst fe_3_0_1
  subst fe_3_1_1
  subst fe_3_2_1
  subst fe_4_0_1
  subst fe_4_3_1
  subst fe_4_5_1
  subst fe_4_6_1
  have e_hE_0_7_1 := funext hE_0_7_1; subst e_hE_0_7_1
  have e_hE_0_8_1 := funext hE_0_8_1; subst e_hE_0_8_1
  have e_hE_0_14_1 := funext hE_0_14_1; subst e_hE_0_14_1
  have e_hE_0_16_1 := funext hE_0_16_1; subst e_hE_0_16_1
  have e_hE_3_4_1 := funext hE_3_4_1; subst e_hE_3_4_1
  have e_hE_3_9_1 := funext hE_3_9_1; subst e_hE_3_9_1
  have e_hE_4_9_1 := funext hE_4_9_1; subst e_hE_4_9_1
  have e_hE_4_12_1 := funext hE_4_12_1; subst e_hE_4_12_1
  have e_hE_4_16_1 := funext hE_4_16_1; subst e_hE_4_16_1
  first
    | omega
  
def o_Gr_step_8 : or_T := (37, 12, [(0, (2, 0, 0, [3])), (2, (2, 0, 0, [61])), (3, (2, 0, 0, [2])), (4, (2, 0, 0, [5])), (5, (0, 0, 60, [])), (6, (0, 1, 30, [])), (7, (0, 1, 1, [])), (8, (0, 0, 29, [])), (9, (0, 0, 30, [])), (10, (0, 1, 1, [])), (11, (0, 1, 31, []))], [(9, [8, 0], [17]), (9, [2, 0], [16]), (1, [11, 9, 10], []), (9, [9, 0], [18]), (20, [0], [60, 2, 2, 596, 0, 1, 7, 8]), (20, [0], [60, 2, 3, 670, 0, 1, 14, 7, 8]), (20, [0, 3, 4], [60, 9, 8, 745, 0, 1, 1000, 1001, 1002, 2000, 2003, 2005, 2006, 14, 7, 8, 1004, 1009, 2009, 2012, 2016]), (101, [0, 8], [17]), (2, [8, 6, 7], []), (9, [6, 0], [17]), (8, [6], [4]), (20, [0], [50, 2, 0, 17, 18, 0, 8, 4, 3, 2, 0, 17, 2, 0, 18, 0, 30]), (20, [0], [60, 2, 1, 739, 17, 18, 16]), (20, [0], [60, 2, 2, 596, 0, 1, 7, 8]), (20, [0], [60, 2, 3, 670, 0, 1, 14, 7, 8]), (20, [0, 5], [50, 2, 0, 17, 18, 1, 8, 4, 3, 2, 0, 17, 2, 0, 18, 1, 1]), (20, [0, 3, 4], [60, 9, 8, 745, 0, 1, 1000, 1001, 1002, 2000, 2003, 2005, 2006, 14, 7, 8, 1004, 1009, 2009, 2012, 2016])], [(11, (0, 1, 30, []))], [], [], [], [(11, 9, 1, 1), (8, 6, -1, -1)])
theorem oo_Gr_step_8 {kA : Nat → ClassId} : or_ok PRD kA GG o_Gr_step_8 := by
  refine or_mk fun A ta ws vs hD hth hl => ?_
  intro t0 r0 t2 r2 t3 r3 t4 r4 t5 k5 t6 k6 t7 k7 t8 k8 t9 k9 t10 k10 t11 k11 d0 d1 f0 f1 f2 f3 f4 f5 f6 ta1 w1 le1 s1 f8 f9 f10 f11 f12 f13 f14 f15 f16
  replace f0 := shm_795 f0
  replace f3 := shm_799 f3
  have s1 : (∀ b j, w_el ws b j = w_el w1 b j) ∧ ∀ b j, w_fd ws b j = if b = v_ad (n_v vs 0) ∧ j = 17 then n_v vs 8 else w_fd w1 b j := s1.2
  replace f9 := shm_795 f9
  have g0 : v_iv (n_v vs 8) = w_fi ws (n_v vs 0) 17 := congrArg v_iv f0
  have g3 : v_iv (n_v vs 9) = w_fi ws (n_v vs 0) 18 := congrArg v_iv f3
  have g9 : v_iv (n_v vs 6) = w_fi w1 (n_v vs 0) 17 := congrArg v_iv f9
  have fe_0_0_1 : w_fi ws (n_v vs 0) 0 = w_fi w1 (n_v vs 0) 0 := by show v_iv (w_fd _ _ _) = v_iv (w_fd _ _ _); rw [s1.2, if_neg (fun e => absurd e.2 (by decide))]
  have fe_0_1_1 : w_fi ws (n_v vs 0) 1 = w_fi w1 (n_v vs 0) 1 := by show v_iv (w_fd _ _ _) = v_iv (w_fd _ _ _); rw [s1.2, if_neg (fun e => absurd e.2 (by decide))]
  have fe_0_18_1 : w_fi ws (n_v vs 0) 18 = w_fi w1 (n_v vs 0) 18 := by show v_iv (w_fd _ _ _) = v_iv (w_fd _ _ _); rw [s1.2, if_neg (fun e => absurd e.2 (by decide))]
  have fe_3_0_1 : w_fi ws (n_v vs 3) 0 = w_fi w1 (n_v vs 3) 0 := by show v_iv (w_fd _ _ _) = v_iv (w_fd _ _ _); rw [s1.2, if_neg (fun e => absurd e.2 (by decide))]
  have fe_3_1_1 : w_fi ws (n_v vs 3) 1 = w_fi w1 (n_v vs 3) 1 := by show v_iv (w_fd _ _ _) = v_iv (w_fd _ _ _); rw [s1.2, if_neg (fun e => absurd e.2 (by decide))]
  have fe_3_2_1 : w_fi ws (n_v vs 3) 2 = w_fi w1 (n_v vs 3) 2 := by show v_iv (w_fd _ _ _) = v_iv (w_fd _ _ _); rw [s1.2, if_neg (fun e => absurd e.2 (by decide))]
  have fe_4_0_1 : w_fi ws (n_v vs 4) 0 = w_fi w1 (n_v vs 4) 0 := by show v_iv (w_fd _ _ _) = v_iv (w_fd _ _ _); rw [s1.2, if_neg (fun e => absurd e.2 (by decide))]
  have fe_4_3_1 : w_fi ws (n_v vs 4) 3 = w_fi w1 (n_v vs 4) 3 := by show v_iv (w_fd _ _ _) = v_iv (w_fd _ _ _); rw [s1.2, if_neg (fun e => absurd e.2 (by decide))]
  have fe_4_5_1 : w_fi ws (n_v vs 4) 5 = w_fi w1 (n_v vs 4) 5 := by show v_iv (w_fd _ _ _) = v_iv (w_fd _ _ _); rw [s1.2, if_neg (fun e => absurd e.2 (by decide))]
  have fe_4_6_1 : w_fi ws (n_v vs 4) 6 = w_fi w1 (n_v vs 4) 6 := by show v_iv (w_fd _ _ _) = v_iv (w_fd _ _ _); rw [s1.2, if_neg (fun e => absurd e.2 (by decide))]
  have hE_0_7_1 : ∀ j : Int, w_ei ws (w_ar ws (n_v vs 0) 7) j = w_ei w1 (w_ar ws (n_v vs 0) 7) j := fun j => s1.1 _ _
  have hE_0_8_1 : ∀ j : Int, w_ei ws (w_ar ws (n_v vs 0) 8) j = w_ei w1 (w_ar ws (n_v vs 0) 8) j := fun j => s1.1 _ _
  have hE_0_14_1 : ∀ j : Int, w_ei ws (w_ar ws (n_v vs 0) 14) j = w_ei w1 (w_ar ws (n_v vs 0) 14) j := fun j => s1.1 _ _
  have hE_0_16_1 : ∀ j : Int, w_ei ws (w_ar ws (n_v vs 0) 16) j = w_ei w1 (w_ar ws (n_v vs 0) 16) j := fun j => s1.1 _ _
  have hE_3_4_1 : ∀ j : Int, w_ei ws (w_ar ws (n_v vs 3) 4) j = w_ei w1 (w_ar ws (n_v vs 3) 4) j := fun j => s1.1 _ _
  have hE_3_9_1 : ∀ j : Int, w_ei ws (w_ar ws (n_v vs 3) 9) j = w_ei w1 (w_ar ws (n_v vs 3) 9) j := fun j => s1.1 _ _
  have hE_4_9_1 : ∀ j : Int, w_ei ws (w_ar ws (n_v vs 4) 9) j = w_ei w1 (w_ar ws (n_v vs 4) 9) j := fun j => s1.1 _ _
  have hE_4_12_1 : ∀ j : Int, w_ei ws (w_ar ws (n_v vs 4) 12) j = w_ei w1 (w_ar ws (n_v vs 4) 12) j := fun j => s1.1 _ _
  have hE_4_16_1 : ∀ j : Int, w_ei ws (w_ar ws (n_v vs 4) 16) j = w_ei w1 (w_ar ws (n_v vs 4) 16) j := fun j => s1.1 _ _
  have kz_0_0 := fdq_21 hD hth r0
  have kz_0_1 := fdq_30 hD hth r0
  have kz_0_17 := fdq_288 hD hth r0
  have kz_0_18 := fdq_289 hD hth r0
  have kz_3_0 := fdq_294 hD hth r3
  have kz_3_1 := fdq_278 hD hth r3
  have kz_3_2 := fdq_295 hD hth r3
  have kz_4_0 := fdq_78 hD hth r4
  have kz_4_3 := fdq_79 hD hth r4
  have kz_4_5 := fdq_82 hD hth r4
  have kz_4_6 := fdq_59 hD hth r4
  have hrf0 : 1 ≤ v_iv (n_v vs 11) ∧ v_iv (n_v vs 11) ≤ 30 := vc_Gr_step_8_r0 (v_iv (n_v vs 5)) (v_iv (n_v vs 6)) (v_iv (n_v vs 8)) (v_iv (n_v vs 9)) (v_iv (n_v vs 11)) (w_fi ws (n_v vs 0) 17) (w_fi ws (n_v vs 0) 18) (w_ei ws (w_ar ws (n_v vs 0) 7)) (w_ei ws (w_ar ws (n_v vs 0) 8)) (w_fi ws (n_v vs 0) 0) (w_fi ws (n_v vs 0) 1) (w_ei ws (w_ar ws (n_v vs 0) 14)) (w_ei ws (w_ar ws (n_v vs 3) 4)) (w_ei ws (w_ar ws (n_v vs 3) 9)) (w_ei ws (w_ar ws (n_v vs 4) 9)) (w_ei ws (w_ar ws (n_v vs 4) 12)) (w_ei ws (w_ar ws (n_v vs 4) 16)) (w_fi ws (n_v vs 3) 0) (w_fi ws (n_v vs 3) 1) (w_fi ws (n_v vs 3) 2) (w_fi ws (n_v vs 4) 0) (w_fi ws (n_v vs 4) 3) (w_fi ws (n_v vs 4) 5) (w_fi ws (n_v vs 4) 6) (w_fi w1 (n_v vs 0) 17) (w_fi w1 (n_v vs 0) 18) (w_ei w1 (w_ar ws (n_v vs 0) 16)) (w_ei w1 (w_ar ws (n_v vs 0) 7)) (w_ei w1 (w_ar ws (n_v vs 0) 8)) (w_fi w1 (n_v vs 0) 0) (w_fi w1 (n_v vs 0) 1) (w_ei w1 (w_ar ws (n_v vs 0) 14)) (w_ei w1 (w_ar ws (n_v vs 3) 4)) (w_ei w1 (w_ar ws (n_v vs 3) 9)) (w_ei w1 (w_ar ws (n_v vs 4) 9)) (w_ei w1 (w_ar ws (n_v vs 4) 12)) (w_ei w1 (w_ar ws (n_v vs 4) 16)) (w_fi w1 (n_v vs 3) 0) (w_fi w1 (n_v vs 3) 1) (w_fi w1 (n_v vs 3) 2) (w_fi w1 (n_v vs 4) 0) (w_fi w1 (n_v vs 4) 3) (w_fi w1 (n_v vs 4) 5) (w_fi w1 (n_v vs 4) 6) (w_ei ws (w_ar ws (n_v vs 0) 16)) k5 k6 k8 k9 k11 d0 d1 g0 g3 g9 (shm_1511 f11) (shm_1512 f15) fe_0_0_1 fe_0_1_1 fe_0_18_1 fe_3_0_1 fe_3_1_1 fe_3_2_1 fe_4_0_1 fe_4_3_1 fe_4_5_1 fe_4_6_1 hE_0_7_1 hE_0_8_1 hE_0_14_1 hE_0_16_1 hE_3_4_1 hE_3_9_1 hE_4_9_1 hE_4_12_1 hE_4_16_1 kz_0_0 kz_0_1 kz_0_17 kz_0_18 kz_3_0 kz_3_1 kz_3_2 kz_4_0 kz_4_3 kz_4_5 kz_4_6
  have rf11 : tv_ok ta (0, 1, 30, []) (n_v vs 11) := tv_in t11 (by first | omega | grind) (by first | omega | grind)
  refine ⟨List.forall_mem_cons.mpr ⟨rf11, (fun _ h => (by cases h))⟩, [], trivial, ?_, (fun _ h => (by cases h))⟩
  rw [List.append_nil]
  exact (fun _ h => (by cases h))
set_option maxHeartbeats 4000000 in
theorem vc_Gr_step_9_0 (x5 : Int) (x6 : Int) (x8 : Int) (x9 : Int) (x11 : Int) (undone_0 : Int) (done_0 : Int) (tail_0 : Int → Int) (head_0 : Int → Int) (nodes_0 : Int) (edges_0 : Int) (near_0 : Int → Int) (part_0o3 : Int → Int) (turned_0o3 : Int → Int) (near_0o4 : Int → Int) (first_0o4 : Int → Int) (faceOf_0o4 : Int → Int) (known_0o3 : Int) (parts_0o3 : Int) (blocks_0o3 : Int) (planar_0o4 : Int) (barredEdges_0o4 : Int) (nodes_0o4 : Int) (edges_0o4 : Int) (undone_1 : Int) (tail_1 : Int → Int) (head_1 : Int → Int) (nodes_1 : Int) (edges_1 : Int) (near_1 : Int → Int) (part_1o3 : Int → Int) (turned_1o3 : Int → Int) (near_1o4 : Int → Int) (first_1o4 : Int → Int) (faceOf_1o4 : Int → Int) (known_1o3 : Int) (parts_1o3 : Int) (blocks_1o3 : Int) (planar_1o4 : Int) (barredEdges_1o4 : Int) (nodes_1o4 : Int) (edges_1o4 : Int) (done_2 : Int) (undone_2 : Int) (past_2 : Int → Int) (tail_2 : Int → Int) (head_2 : Int → Int) (nodes_2 : Int) (edges_2 : Int) (near_2 : Int → Int) (part_2o3 : Int → Int) (turned_2o3 : Int → Int) (near_2o4 : Int → Int) (first_2o4 : Int → Int) (faceOf_2o4 : Int → Int) (known_2o3 : Int) (parts_2o3 : Int) (blocks_2o3 : Int) (planar_2o4 : Int) (barredEdges_2o4 : Int) (nodes_2o4 : Int) (edges_2o4 : Int) (done_1 : Int) (past_0 : Int → Int) (past_1 : Int → Int) (k5 : 0 ≤ x5 ∧ x5 ≤ 60) (k6 : 1 ≤ x6 ∧ x6 ≤ 30) (k8 : 0 ≤ x8 ∧ x8 ≤ 29) (k9 : 0 ≤ x9 ∧ x9 ≤ 30) (k11 : 1 ≤ x11 ∧ x11 ≤ 30) (d0 : x9 + 1 ≤ x11 ∧ x11 ≤ x9 + 1) (d1 : x6 + (-1) ≤ x8 ∧ x8 ≤ x6 + (-1)) (g0 : x11 = undone_0) (g1 : x8 = done_0) (g8 : x9 = undone_1) (g14 : x6 = done_2) (f16 : (done_2 + undone_2) ≤ 30) (f20 : (done_2 + undone_2) = x5) (fe_0_0_1 : nodes_0 = nodes_1) (fe_0_1_1 : edges_0 = edges_1) (fe_0_17_1 : done_0 = done_1) (fe_3_0_1 : known_0o3 = known_1o3) (fe_3_1_1 : parts_0o3 = parts_1o3) (fe_3_2_1 : blocks_0o3 = blocks_1o3) (fe_4_0_1 : planar_0o4 = planar_1o4) (fe_4_3_1 : barredEdges_0o4 = barredEdges_1o4) (fe_4_5_1 : nodes_0o4 = nodes_1o4) (fe_4_6_1 : edges_0o4 = edges_1o4) (fe_0_0_2 : nodes_1 = nodes_2) (fe_0_1_2 : edges_1 = edges_2) (fe_0_18_2 : undone_1 = undone_2) (fe_3_0_2 : known_1o3 = known_2o3) (fe_3_1_2 : parts_1o3 = parts_2o3) (fe_3_2_2 : blocks_1o3 = blocks_2o3) (fe_4_0_2 : planar_1o4 = planar_2o4) (fe_4_3_2 : barredEdges_1o4 = barredEdges_2o4) (fe_4_5_2 : nodes_1o4 = nodes_2o4) (fe_4_6_2 : edges_1o4 = edges_2o4) (hE_0_7_1 : ∀ j : Int, tail_0 j = tail_1 j) (hE_0_7_2 : ∀ j : Int, tail_1 j = tail_2 j) (hE_0_8_1 : ∀ j : Int, head_0 j = head_1 j) (hE_0_8_2 : ∀ j : Int, head_1 j = head_2 j) (hE_0_14_1 : ∀ j : Int, near_0 j = near_1 j) (hE_0_14_2 : ∀ j : Int, near_1 j = near_2 j) (hE_0_16_1 : ∀ j : Int, past_0 j = past_1 j) (hE_0_16_2 : ∀ j : Int, past_1 j = past_2 j) (hE_3_4_1 : ∀ j : Int, part_0o3 j = part_1o3 j) (hE_3_4_2 : ∀ j : Int, part_1o3 j = part_2o3 j) (hE_3_9_1 : ∀ j : Int, turned_0o3 j = turned_1o3 j) (hE_3_9_2 : ∀ j : Int, turned_1o3 j = turned_2o3 j) (hE_4_9_1 : ∀ j : Int, near_0o4 j = near_1o4 j) (hE_4_9_2 : ∀ j : Int, near_1o4 j = near_2o4 j) (hE_4_12_1 : ∀ j : Int, first_0o4 j = first_1o4 j) (hE_4_12_2 : ∀ j : Int, first_1o4 j = first_2o4 j) (hE_4_16_1 : ∀ j : Int, faceOf_0o4 j = faceOf_1o4 j) (hE_4_16_2 : ∀ j : Int, faceOf_1o4 j = faceOf_2o4 j) (kz_0_0 : 0 ≤ nodes_0 ∧ nodes_0 ≤ 24) (kz_0_1 : 0 ≤ edges_0 ∧ edges_0 ≤ 48) (kz_0_17 : 0 ≤ done_0 ∧ done_0 ≤ 30) (kz_0_18 : 0 ≤ undone_0 ∧ undone_0 ≤ 30) (kz_3_0 : 0 ≤ known_0o3 ∧ known_0o3 ≤ 1) (kz_3_1 : 0 ≤ parts_0o3 ∧ parts_0o3 ≤ 24) (kz_3_2 : 0 ≤ blocks_0o3 ∧ blocks_0o3 ≤ 48) (kz_4_0 : (-1) ≤ planar_0o4 ∧ planar_0o4 ≤ 1) (kz_4_3 : 0 ≤ barredEdges_0o4 ∧ barredEdges_0o4 ≤ 48) (kz_4_5 : 0 ≤ nodes_0o4 ∧ nodes_0o4 ≤ 24) (kz_4_6 : 0 ≤ edges_0o4 ∧ edges_0o4 ≤ 72) : (done_0 + undone_0) ≤ 30 := by
  subst fe_0_0_1
  subst fe_0_1_1
  subst fe_0_17_1
  subst fe_3_0_1
  subst fe_3_1_1
  subst fe_3_2_1
  subst fe_4_0_1
  subst fe_4_3_1
  subst fe_4_5_1
  subst fe_4_6_1
  subst fe_0_0_2
  subst fe_0_1_2
  subst fe_0_18_2
  subst fe_3_0_2
  subst fe_3_1_2
  subst fe_3_2_2
  subst fe_4_0_2
  subst fe_4_3_2
  subst fe_4_5_2
  subst fe_4_6_2
  have e_hE_0_7_1 := funext hE_0_7_1; subst e_hE_0_7_1
  have e_hE_0_7_2 := funext hE_0_7_2; subst e_hE_0_7_2
  have e_hE_0_8_1 := funext hE_0_8_1; subst e_hE_0_8_1
  have e_hE_0_8_2 := funext hE_0_8_2; subst e_hE_0_8_2
  have e_hE_0_14_1 := funext hE_0_14_1; subst e_hE_0_14_1
  have e_hE_0_14_2 := funext hE_0_14_2; subst e_hE_0_14_2
  have e_hE_0_16_1 := funext hE_0_16_1; subst e_hE_0_16_1
  have e_hE_0_16_2 := funext hE_0_16_2; subst e_hE_0_16_2
  have e_hE_3_4_1 := funext hE_3_4_1; subst e_hE_3_4_1
  have e_hE_3_4_2 := funext hE_3_4_2; subst e_hE_3_4_2
  have e_hE_3_9_1 := funext hE_3_9_1; subst e_hE_3_9_1
  have e_hE_3_9_2 := funext hE_3_9_2; subst e_hE_3_9_2
  have e_hE_4_9_1 := funext hE_4_9_1; subst e_hE_4_9_1
  have e_hE_4_9_2 := funext hE_4_9_2; subst e_hE_4_9_2
  have e_hE_4_12_1 := funext hE_4_12_1; subst e_hE_4_12_1
  have e_hE_4_12_2 := funext hE_4_12_2; subst e_hE_4_12_2
  have e_hE_4_16_1 := funext hE_4_16_1; subst e_hE_4_16_1
  have e_hE_4_16_2 := funext hE_4_16_2; subst e_hE_4_16_2
  first
    | omega
  
set_option maxHeartbeats 4000000 in
theorem vc_Gr_step_9_1 (x6 : Int) (x8 : Int) (x9 : Int) (x11 : Int) (undone_0 : Int) (done_0 : Int) (tail_0 : Int → Int) (head_0 : Int → Int) (nodes_0 : Int) (edges_0 : Int) (near_0 : Int → Int) (part_0o3 : Int → Int) (turned_0o3 : Int → Int) (near_0o4 : Int → Int) (first_0o4 : Int → Int) (faceOf_0o4 : Int → Int) (known_0o3 : Int) (parts_0o3 : Int) (blocks_0o3 : Int) (planar_0o4 : Int) (barredEdges_0o4 : Int) (nodes_0o4 : Int) (edges_0o4 : Int) (undone_1 : Int) (tail_1 : Int → Int) (head_1 : Int → Int) (nodes_1 : Int) (edges_1 : Int) (near_1 : Int → Int) (part_1o3 : Int → Int) (turned_1o3 : Int → Int) (near_1o4 : Int → Int) (first_1o4 : Int → Int) (faceOf_1o4 : Int → Int) (known_1o3 : Int) (parts_1o3 : Int) (blocks_1o3 : Int) (planar_1o4 : Int) (barredEdges_1o4 : Int) (nodes_1o4 : Int) (edges_1o4 : Int) (done_2 : Int) (undone_2 : Int) (past_2 : Int → Int) (tail_2 : Int → Int) (head_2 : Int → Int) (nodes_2 : Int) (edges_2 : Int) (near_2 : Int → Int) (part_2o3 : Int → Int) (turned_2o3 : Int → Int) (near_2o4 : Int → Int) (first_2o4 : Int → Int) (faceOf_2o4 : Int → Int) (known_2o3 : Int) (parts_2o3 : Int) (blocks_2o3 : Int) (planar_2o4 : Int) (barredEdges_2o4 : Int) (nodes_2o4 : Int) (edges_2o4 : Int) (done_1 : Int) (past_0 : Int → Int) (past_1 : Int → Int) (k6 : 1 ≤ x6 ∧ x6 ≤ 30) (k8 : 0 ≤ x8 ∧ x8 ≤ 29) (k9 : 0 ≤ x9 ∧ x9 ≤ 30) (k11 : 1 ≤ x11 ∧ x11 ≤ 30) (d0 : x9 + 1 ≤ x11 ∧ x11 ≤ x9 + 1) (d1 : x6 + (-1) ≤ x8 ∧ x8 ≤ x6 + (-1)) (g0 : x11 = undone_0) (g1 : x8 = done_0) (g8 : x9 = undone_1) (g14 : x6 = done_2) (f17 : PDQ (done_2) (undone_2) (past_2)) (fe_0_0_1 : nodes_0 = nodes_1) (fe_0_1_1 : edges_0 = edges_1) (fe_0_17_1 : done_0 = done_1) (fe_3_0_1 : known_0o3 = known_1o3) (fe_3_1_1 : parts_0o3 = parts_1o3) (fe_3_2_1 : blocks_0o3 = blocks_1o3) (fe_4_0_1 : planar_0o4 = planar_1o4) (fe_4_3_1 : barredEdges_0o4 = barredEdges_1o4) (fe_4_5_1 : nodes_0o4 = nodes_1o4) (fe_4_6_1 : edges_0o4 = edges_1o4) (fe_0_0_2 : nodes_1 = nodes_2) (fe_0_1_2 : edges_1 = edges_2) (fe_0_18_2 : undone_1 = undone_2) (fe_3_0_2 : known_1o3 = known_2o3) (fe_3_1_2 : parts_1o3 = parts_2o3) (fe_3_2_2 : blocks_1o3 = blocks_2o3) (fe_4_0_2 : planar_1o4 = planar_2o4) (fe_4_3_2 : barredEdges_1o4 = barredEdges_2o4) (fe_4_5_2 : nodes_1o4 = nodes_2o4) (fe_4_6_2 : edges_1o4 = edges_2o4) (hE_0_7_1 : ∀ j : Int, tail_0 j = tail_1 j) (hE_0_7_2 : ∀ j : Int, tail_1 j = tail_2 j) (hE_0_8_1 : ∀ j : Int, head_0 j = head_1 j) (hE_0_8_2 : ∀ j : Int, head_1 j = head_2 j) (hE_0_14_1 : ∀ j : Int, near_0 j = near_1 j) (hE_0_14_2 : ∀ j : Int, near_1 j = near_2 j) (hE_0_16_1 : ∀ j : Int, past_0 j = past_1 j) (hE_0_16_2 : ∀ j : Int, past_1 j = past_2 j) (hE_3_4_1 : ∀ j : Int, part_0o3 j = part_1o3 j) (hE_3_4_2 : ∀ j : Int, part_1o3 j = part_2o3 j) (hE_3_9_1 : ∀ j : Int, turned_0o3 j = turned_1o3 j) (hE_3_9_2 : ∀ j : Int, turned_1o3 j = turned_2o3 j) (hE_4_9_1 : ∀ j : Int, near_0o4 j = near_1o4 j) (hE_4_9_2 : ∀ j : Int, near_1o4 j = near_2o4 j) (hE_4_12_1 : ∀ j : Int, first_0o4 j = first_1o4 j) (hE_4_12_2 : ∀ j : Int, first_1o4 j = first_2o4 j) (hE_4_16_1 : ∀ j : Int, faceOf_0o4 j = faceOf_1o4 j) (hE_4_16_2 : ∀ j : Int, faceOf_1o4 j = faceOf_2o4 j) (kz_0_0 : 0 ≤ nodes_0 ∧ nodes_0 ≤ 24) (kz_0_1 : 0 ≤ edges_0 ∧ edges_0 ≤ 48) (kz_0_17 : 0 ≤ done_0 ∧ done_0 ≤ 30) (kz_0_18 : 0 ≤ undone_0 ∧ undone_0 ≤ 30) (kz_3_0 : 0 ≤ known_0o3 ∧ known_0o3 ≤ 1) (kz_3_1 : 0 ≤ parts_0o3 ∧ parts_0o3 ≤ 24) (kz_3_2 : 0 ≤ blocks_0o3 ∧ blocks_0o3 ≤ 48) (kz_4_0 : (-1) ≤ planar_0o4 ∧ planar_0o4 ≤ 1) (kz_4_3 : 0 ≤ barredEdges_0o4 ∧ barredEdges_0o4 ≤ 48) (kz_4_5 : 0 ≤ nodes_0o4 ∧ nodes_0o4 ≤ 24) (kz_4_6 : 0 ≤ edges_0o4 ∧ edges_0o4 ≤ 72) : PDQ (done_0) (undone_0) (past_0) := by
  subst fe_0_0_1
  subst fe_0_1_1
  subst fe_0_17_1
  subst fe_3_0_1
  subst fe_3_1_1
  subst fe_3_2_1
  subst fe_4_0_1
  subst fe_4_3_1
  subst fe_4_5_1
  subst fe_4_6_1
  subst fe_0_0_2
  subst fe_0_1_2
  subst fe_0_18_2
  subst fe_3_0_2
  subst fe_3_1_2
  subst fe_3_2_2
  subst fe_4_0_2
  subst fe_4_3_2
  subst fe_4_5_2
  subst fe_4_6_2
  have e_hE_0_7_1 := funext hE_0_7_1; subst e_hE_0_7_1
  have e_hE_0_7_2 := funext hE_0_7_2; subst e_hE_0_7_2
  have e_hE_0_8_1 := funext hE_0_8_1; subst e_hE_0_8_1
  have e_hE_0_8_2 := funext hE_0_8_2; subst e_hE_0_8_2
  have e_hE_0_14_1 := funext hE_0_14_1; subst e_hE_0_14_1
  have e_hE_0_14_2 := funext hE_0_14_2; subst e_hE_0_14_2
  have e_hE_0_16_1 := funext hE_0_16_1; subst e_hE_0_16_1
  have e_hE_0_16_2 := funext hE_0_16_2; subst e_hE_0_16_2
  have e_hE_3_4_1 := funext hE_3_4_1; subst e_hE_3_4_1
  have e_hE_3_4_2 := funext hE_3_4_2; subst e_hE_3_4_2
  have e_hE_3_9_1 := funext hE_3_9_1; subst e_hE_3_9_1
  have e_hE_3_9_2 := funext hE_3_9_2; subst e_hE_3_9_2
  have e_hE_4_9_1 := funext hE_4_9_1; subst e_hE_4_9_1
  have e_hE_4_9_2 := funext hE_4_9_2; subst e_hE_4_9_2
  have e_hE_4_12_1 := funext hE_4_12_1; subst e_hE_4_12_1
  have e_hE_4_12_2 := funext hE_4_12_2; subst e_hE_4_12_2
  have e_hE_4_16_1 := funext hE_4_16_1; subst e_hE_4_16_1
  have e_hE_4_16_2 := funext hE_4_16_2; subst e_hE_4_16_2
  first
    | exact pdq_move ‹PDQ _ _ _› (by omega)
set_option maxHeartbeats 4000000 in
theorem vc_Gr_step_9_2 (x5 : Int) (x6 : Int) (x8 : Int) (x9 : Int) (x11 : Int) (undone_0 : Int) (done_0 : Int) (tail_0 : Int → Int) (head_0 : Int → Int) (nodes_0 : Int) (edges_0 : Int) (near_0 : Int → Int) (part_0o3 : Int → Int) (turned_0o3 : Int → Int) (near_0o4 : Int → Int) (first_0o4 : Int → Int) (faceOf_0o4 : Int → Int) (known_0o3 : Int) (parts_0o3 : Int) (blocks_0o3 : Int) (planar_0o4 : Int) (barredEdges_0o4 : Int) (nodes_0o4 : Int) (edges_0o4 : Int) (undone_1 : Int) (tail_1 : Int → Int) (head_1 : Int → Int) (nodes_1 : Int) (edges_1 : Int) (near_1 : Int → Int) (part_1o3 : Int → Int) (turned_1o3 : Int → Int) (near_1o4 : Int → Int) (first_1o4 : Int → Int) (faceOf_1o4 : Int → Int) (known_1o3 : Int) (parts_1o3 : Int) (blocks_1o3 : Int) (planar_1o4 : Int) (barredEdges_1o4 : Int) (nodes_1o4 : Int) (edges_1o4 : Int) (done_2 : Int) (undone_2 : Int) (past_2 : Int → Int) (tail_2 : Int → Int) (head_2 : Int → Int) (nodes_2 : Int) (edges_2 : Int) (near_2 : Int → Int) (part_2o3 : Int → Int) (turned_2o3 : Int → Int) (near_2o4 : Int → Int) (first_2o4 : Int → Int) (faceOf_2o4 : Int → Int) (known_2o3 : Int) (parts_2o3 : Int) (blocks_2o3 : Int) (planar_2o4 : Int) (barredEdges_2o4 : Int) (nodes_2o4 : Int) (edges_2o4 : Int) (done_1 : Int) (past_0 : Int → Int) (past_1 : Int → Int) (k5 : 0 ≤ x5 ∧ x5 ≤ 60) (k6 : 1 ≤ x6 ∧ x6 ≤ 30) (k8 : 0 ≤ x8 ∧ x8 ≤ 29) (k9 : 0 ≤ x9 ∧ x9 ≤ 30) (k11 : 1 ≤ x11 ∧ x11 ≤ 30) (d0 : x9 + 1 ≤ x11 ∧ x11 ≤ x9 + 1) (d1 : x6 + (-1) ≤ x8 ∧ x8 ≤ x6 + (-1)) (g0 : x11 = undone_0) (g1 : x8 = done_0) (g8 : x9 = undone_1) (g14 : x6 = done_2) (f16 : (done_2 + undone_2) ≤ 30) (f20 : (done_2 + undone_2) = x5) (fe_0_0_1 : nodes_0 = nodes_1) (fe_0_1_1 : edges_0 = edges_1) (fe_0_17_1 : done_0 = done_1) (fe_3_0_1 : known_0o3 = known_1o3) (fe_3_1_1 : parts_0o3 = parts_1o3) (fe_3_2_1 : blocks_0o3 = blocks_1o3) (fe_4_0_1 : planar_0o4 = planar_1o4) (fe_4_3_1 : barredEdges_0o4 = barredEdges_1o4) (fe_4_5_1 : nodes_0o4 = nodes_1o4) (fe_4_6_1 : edges_0o4 = edges_1o4) (fe_0_0_2 : nodes_1 = nodes_2) (fe_0_1_2 : edges_1 = edges_2) (fe_0_18_2 : undone_1 = undone_2) (fe_3_0_2 : known_1o3 = known_2o3) (fe_3_1_2 : parts_1o3 = parts_2o3) (fe_3_2_2 : blocks_1o3 = blocks_2o3) (fe_4_0_2 : planar_1o4 = planar_2o4) (fe_4_3_2 : barredEdges_1o4 = barredEdges_2o4) (fe_4_5_2 : nodes_1o4 = nodes_2o4) (fe_4_6_2 : edges_1o4 = edges_2o4) (hE_0_7_1 : ∀ j : Int, tail_0 j = tail_1 j) (hE_0_7_2 : ∀ j : Int, tail_1 j = tail_2 j) (hE_0_8_1 : ∀ j : Int, head_0 j = head_1 j) (hE_0_8_2 : ∀ j : Int, head_1 j = head_2 j) (hE_0_14_1 : ∀ j : Int, near_0 j = near_1 j) (hE_0_14_2 : ∀ j : Int, near_1 j = near_2 j) (hE_0_16_1 : ∀ j : Int, past_0 j = past_1 j) (hE_0_16_2 : ∀ j : Int, past_1 j = past_2 j) (hE_3_4_1 : ∀ j : Int, part_0o3 j = part_1o3 j) (hE_3_4_2 : ∀ j : Int, part_1o3 j = part_2o3 j) (hE_3_9_1 : ∀ j : Int, turned_0o3 j = turned_1o3 j) (hE_3_9_2 : ∀ j : Int, turned_1o3 j = turned_2o3 j) (hE_4_9_1 : ∀ j : Int, near_0o4 j = near_1o4 j) (hE_4_9_2 : ∀ j : Int, near_1o4 j = near_2o4 j) (hE_4_12_1 : ∀ j : Int, first_0o4 j = first_1o4 j) (hE_4_12_2 : ∀ j : Int, first_1o4 j = first_2o4 j) (hE_4_16_1 : ∀ j : Int, faceOf_0o4 j = faceOf_1o4 j) (hE_4_16_2 : ∀ j : Int, faceOf_1o4 j = faceOf_2o4 j) (kz_0_0 : 0 ≤ nodes_0 ∧ nodes_0 ≤ 24) (kz_0_1 : 0 ≤ edges_0 ∧ edges_0 ≤ 48) (kz_0_17 : 0 ≤ done_0 ∧ done_0 ≤ 30) (kz_0_18 : 0 ≤ undone_0 ∧ undone_0 ≤ 30) (kz_3_0 : 0 ≤ known_0o3 ∧ known_0o3 ≤ 1) (kz_3_1 : 0 ≤ parts_0o3 ∧ parts_0o3 ≤ 24) (kz_3_2 : 0 ≤ blocks_0o3 ∧ blocks_0o3 ≤ 48) (kz_4_0 : (-1) ≤ planar_0o4 ∧ planar_0o4 ≤ 1) (kz_4_3 : 0 ≤ barredEdges_0o4 ∧ barredEdges_0o4 ≤ 48) (kz_4_5 : 0 ≤ nodes_0o4 ∧ nodes_0o4 ≤ 24) (kz_4_6 : 0 ≤ edges_0o4 ∧ edges_0o4 ≤ 72) : 1 ≤ (done_0 + undone_0) := by
  subst fe_0_0_1
  subst fe_0_1_1
  subst fe_0_17_1
  subst fe_3_0_1
  subst fe_3_1_1
  subst fe_3_2_1
  subst fe_4_0_1
  subst fe_4_3_1
  subst fe_4_5_1
  subst fe_4_6_1
  subst fe_0_0_2
  subst fe_0_1_2
  subst fe_0_18_2
  subst fe_3_0_2
  subst fe_3_1_2
  subst fe_3_2_2
  subst fe_4_0_2
  subst fe_4_3_2
  subst fe_4_5_2
  subst fe_4_6_2
  have e_hE_0_7_1 := funext hE_0_7_1; subst e_hE_0_7_1
  have e_hE_0_7_2 := funext hE_0_7_2; subst e_hE_0_7_2
  have e_hE_0_8_1 := funext hE_0_8_1; subst e_hE_0_8_1
  have e_hE_0_8_2 := funext hE_0_8_2; subst e_hE_0_8_2
  have e_hE_0_14_1 := funext hE_0_14_1; subst e_hE_0_14_1
  have e_hE_0_14_2 := funext hE_0_14_2; subst e_hE_0_14_2
  have e_hE_0_16_1 := funext hE_0_16_1; subst e_hE_0_16_1
  have e_hE_0_16_2 := funext hE_0_16_2; subst e_hE_0_16_2
  have e_hE_3_4_1 := funext hE_3_4_1; subst e_hE_3_4_1
  have e_hE_3_4_2 := funext hE_3_4_2; subst e_hE_3_4_2
  have e_hE_3_9_1 := funext hE_3_9_1; subst e_hE_3_9_1
  have e_hE_3_9_2 := funext hE_3_9_2; subst e_hE_3_9_2
  have e_hE_4_9_1 := funext hE_4_9_1; subst e_hE_4_9_1
  have e_hE_4_9_2 := funext hE_4_9_2; subst e_hE_4_9_2
  have e_hE_4_12_1 := funext hE_4_12_1; subst e_hE_4_12_1
  have e_hE_4_12_2 := funext hE_4_12_2; subst e_hE_4_12_2
  have e_hE_4_16_1 := funext hE_4_16_1; subst e_hE_4_16_1
  have e_hE_4_16_2 := funext hE_4_16_2; subst e_hE_4_16_2
  first
    | omega
  
set_option maxHeartbeats 4000000 in
theorem vc_Gr_step_9_3 (x5 : Int) (x6 : Int) (x8 : Int) (x9 : Int) (x11 : Int) (undone_0 : Int) (done_0 : Int) (tail_0 : Int → Int) (head_0 : Int → Int) (nodes_0 : Int) (edges_0 : Int) (near_0 : Int → Int) (part_0o3 : Int → Int) (turned_0o3 : Int → Int) (near_0o4 : Int → Int) (first_0o4 : Int → Int) (faceOf_0o4 : Int → Int) (known_0o3 : Int) (parts_0o3 : Int) (blocks_0o3 : Int) (planar_0o4 : Int) (barredEdges_0o4 : Int) (nodes_0o4 : Int) (edges_0o4 : Int) (undone_1 : Int) (tail_1 : Int → Int) (head_1 : Int → Int) (nodes_1 : Int) (edges_1 : Int) (near_1 : Int → Int) (part_1o3 : Int → Int) (turned_1o3 : Int → Int) (near_1o4 : Int → Int) (first_1o4 : Int → Int) (faceOf_1o4 : Int → Int) (known_1o3 : Int) (parts_1o3 : Int) (blocks_1o3 : Int) (planar_1o4 : Int) (barredEdges_1o4 : Int) (nodes_1o4 : Int) (edges_1o4 : Int) (done_2 : Int) (undone_2 : Int) (past_2 : Int → Int) (tail_2 : Int → Int) (head_2 : Int → Int) (nodes_2 : Int) (edges_2 : Int) (near_2 : Int → Int) (part_2o3 : Int → Int) (turned_2o3 : Int → Int) (near_2o4 : Int → Int) (first_2o4 : Int → Int) (faceOf_2o4 : Int → Int) (known_2o3 : Int) (parts_2o3 : Int) (blocks_2o3 : Int) (planar_2o4 : Int) (barredEdges_2o4 : Int) (nodes_2o4 : Int) (edges_2o4 : Int) (done_1 : Int) (past_0 : Int → Int) (past_1 : Int → Int) (k5 : 0 ≤ x5 ∧ x5 ≤ 60) (k6 : 1 ≤ x6 ∧ x6 ≤ 30) (k8 : 0 ≤ x8 ∧ x8 ≤ 29) (k9 : 0 ≤ x9 ∧ x9 ≤ 30) (k11 : 1 ≤ x11 ∧ x11 ≤ 30) (d0 : x9 + 1 ≤ x11 ∧ x11 ≤ x9 + 1) (d1 : x6 + (-1) ≤ x8 ∧ x8 ≤ x6 + (-1)) (g0 : x11 = undone_0) (g1 : x8 = done_0) (g8 : x9 = undone_1) (g14 : x6 = done_2) (f20 : (done_2 + undone_2) = x5) (fe_0_0_1 : nodes_0 = nodes_1) (fe_0_1_1 : edges_0 = edges_1) (fe_0_17_1 : done_0 = done_1) (fe_3_0_1 : known_0o3 = known_1o3) (fe_3_1_1 : parts_0o3 = parts_1o3) (fe_3_2_1 : blocks_0o3 = blocks_1o3) (fe_4_0_1 : planar_0o4 = planar_1o4) (fe_4_3_1 : barredEdges_0o4 = barredEdges_1o4) (fe_4_5_1 : nodes_0o4 = nodes_1o4) (fe_4_6_1 : edges_0o4 = edges_1o4) (fe_0_0_2 : nodes_1 = nodes_2) (fe_0_1_2 : edges_1 = edges_2) (fe_0_18_2 : undone_1 = undone_2) (fe_3_0_2 : known_1o3 = known_2o3) (fe_3_1_2 : parts_1o3 = parts_2o3) (fe_3_2_2 : blocks_1o3 = blocks_2o3) (fe_4_0_2 : planar_1o4 = planar_2o4) (fe_4_3_2 : barredEdges_1o4 = barredEdges_2o4) (fe_4_5_2 : nodes_1o4 = nodes_2o4) (fe_4_6_2 : edges_1o4 = edges_2o4) (hE_0_7_1 : ∀ j : Int, tail_0 j = tail_1 j) (hE_0_7_2 : ∀ j : Int, tail_1 j = tail_2 j) (hE_0_8_1 : ∀ j : Int, head_0 j = head_1 j) (hE_0_8_2 : ∀ j : Int, head_1 j = head_2 j) (hE_0_14_1 : ∀ j : Int, near_0 j = near_1 j) (hE_0_14_2 : ∀ j : Int, near_1 j = near_2 j) (hE_0_16_1 : ∀ j : Int, past_0 j = past_1 j) (hE_0_16_2 : ∀ j : Int, past_1 j = past_2 j) (hE_3_4_1 : ∀ j : Int, part_0o3 j = part_1o3 j) (hE_3_4_2 : ∀ j : Int, part_1o3 j = part_2o3 j) (hE_3_9_1 : ∀ j : Int, turned_0o3 j = turned_1o3 j) (hE_3_9_2 : ∀ j : Int, turned_1o3 j = turned_2o3 j) (hE_4_9_1 : ∀ j : Int, near_0o4 j = near_1o4 j) (hE_4_9_2 : ∀ j : Int, near_1o4 j = near_2o4 j) (hE_4_12_1 : ∀ j : Int, first_0o4 j = first_1o4 j) (hE_4_12_2 : ∀ j : Int, first_1o4 j = first_2o4 j) (hE_4_16_1 : ∀ j : Int, faceOf_0o4 j = faceOf_1o4 j) (hE_4_16_2 : ∀ j : Int, faceOf_1o4 j = faceOf_2o4 j) (kz_0_0 : 0 ≤ nodes_0 ∧ nodes_0 ≤ 24) (kz_0_1 : 0 ≤ edges_0 ∧ edges_0 ≤ 48) (kz_0_17 : 0 ≤ done_0 ∧ done_0 ≤ 30) (kz_0_18 : 0 ≤ undone_0 ∧ undone_0 ≤ 30) (kz_3_0 : 0 ≤ known_0o3 ∧ known_0o3 ≤ 1) (kz_3_1 : 0 ≤ parts_0o3 ∧ parts_0o3 ≤ 24) (kz_3_2 : 0 ≤ blocks_0o3 ∧ blocks_0o3 ≤ 48) (kz_4_0 : (-1) ≤ planar_0o4 ∧ planar_0o4 ≤ 1) (kz_4_3 : 0 ≤ barredEdges_0o4 ∧ barredEdges_0o4 ≤ 48) (kz_4_5 : 0 ≤ nodes_0o4 ∧ nodes_0o4 ≤ 24) (kz_4_6 : 0 ≤ edges_0o4 ∧ edges_0o4 ≤ 72) : (done_0 + undone_0) = x5 := by
  subst fe_0_0_1
  subst fe_0_1_1
  subst fe_0_17_1
  subst fe_3_0_1
  subst fe_3_1_1
  subst fe_3_2_1
  subst fe_4_0_1
  subst fe_4_3_1
  subst fe_4_5_1
  subst fe_4_6_1
  subst fe_0_0_2
  subst fe_0_1_2
  subst fe_0_18_2
  subst fe_3_0_2
  subst fe_3_1_2
  subst fe_3_2_2
  subst fe_4_0_2
  subst fe_4_3_2
  subst fe_4_5_2
  subst fe_4_6_2
  have e_hE_0_7_1 := funext hE_0_7_1; subst e_hE_0_7_1
  have e_hE_0_7_2 := funext hE_0_7_2; subst e_hE_0_7_2
  have e_hE_0_8_1 := funext hE_0_8_1; subst e_hE_0_8_1
  have e_hE_0_8_2 := funext hE_0_8_2; subst e_hE_0_8_2
  have e_hE_0_14_1 := funext hE_0_14_1; subst e_hE_0_14_1
  have e_hE_0_14_2 := funext hE_0_14_2; subst e_hE_0_14_2
  have e_hE_0_16_1 := funext hE_0_16_1; subst e_hE_0_16_1
  have e_hE_0_16_2 := funext hE_0_16_2; subst e_hE_0_16_2
  have e_hE_3_4_1 := funext hE_3_4_1; subst e_hE_3_4_1
  have e_hE_3_4_2 := funext hE_3_4_2; subst e_hE_3_4_2
  have e_hE_3_9_1 := funext hE_3_9_1; subst e_hE_3_9_1
  have e_hE_3_9_2 := funext hE_3_9_2; subst e_hE_3_9_2
  have e_hE_4_9_1 := funext hE_4_9_1; subst e_hE_4_9_1
  have e_hE_4_9_2 := funext hE_4_9_2; subst e_hE_4_9_2
  have e_hE_4_12_1 := funext hE_4_12_1; subst e_hE_4_12_1
  have e_hE_4_12_2 := funext hE_4_12_2; subst e_hE_4_12_2
  have e_hE_4_16_1 := funext hE_4_16_1; subst e_hE_4_16_1
  have e_hE_4_16_2 := funext hE_4_16_2; subst e_hE_4_16_2
  first
    | omega
  
def o_Gr_step_9 : or_T := (40, 12, [(0, (2, 0, 0, [3])), (3, (2, 0, 0, [2])), (4, (2, 0, 0, [5])), (5, (0, 0, 60, [])), (6, (0, 1, 30, [])), (8, (0, 0, 29, [])), (9, (0, 0, 30, [])), (11, (0, 1, 30, []))], [(9, [11, 0], [18]), (9, [8, 0], [17]), (101, [0, 11], [18]), (9, [9, 0], [18]), (101, [0, 8], [17]), (9, [6, 0], [17]), (20, [0], [50, 2, 0, 17, 18, 0, 8, 4, 3, 2, 0, 17, 2, 0, 18, 0, 30]), (20, [0], [60, 2, 1, 739, 17, 18, 16]), (20, [0, 5], [50, 2, 0, 17, 18, 1, 8, 4, 3, 2, 0, 17, 2, 0, 18, 1, 1])], [], [], [(20, [0], [50, 2, 0, 17, 18, 0, 8, 4, 3, 2, 0, 17, 2, 0, 18, 0, 30]), (20, [0], [60, 2, 1, 739, 17, 18, 16]), (20, [0], [50, 2, 0, 17, 18, 0, 2, 0, 1, 4, 3, 2, 0, 17, 2, 0, 18]), (20, [0, 5], [50, 2, 0, 17, 18, 1, 8, 4, 3, 2, 0, 17, 2, 0, 18, 1, 1])], [], [(11, 9, 1, 1), (8, 6, -1, -1)])
theorem oo_Gr_step_9 {kA : Nat → ClassId} : or_ok PRD kA GG o_Gr_step_9 := by
  refine or_mk fun A ta ws vs hD hth hl => ?_
  intro t0 r0 t3 r3 t4 r4 t5 k5 t6 k6 t8 k8 t9 k9 t11 k11 d0 d1 f0 f1 ta1 w1 le1 s1 f8 ta2 w2 le2 s2 f14 f16 f17 f20
  replace f0 := shm_799 f0
  replace f1 := shm_795 f1
  have s1 : (∀ b j, w_el ws b j = w_el w1 b j) ∧ ∀ b j, w_fd ws b j = if b = v_ad (n_v vs 0) ∧ j = 18 then n_v vs 11 else w_fd w1 b j := s1.2
  replace f8 := shm_799 f8
  have s2 : (∀ b j, w_el w1 b j = w_el w2 b j) ∧ ∀ b j, w_fd w1 b j = if b = v_ad (n_v vs 0) ∧ j = 17 then n_v vs 8 else w_fd w2 b j := s2.2
  replace f14 := shm_795 f14
  replace f17 := shm_1361 f17
  have ar_0_7_1 : w_ar w1 (n_v vs 0) 7 = w_ar ws (n_v vs 0) 7 := by show v_ad (w_fd w1 _ _) = v_ad (w_fd ws _ _); rw [s1.2, if_neg (fun e => absurd e.2 (by decide))]
  have ar_0_7_2 : w_ar w2 (n_v vs 0) 7 = w_ar ws (n_v vs 0) 7 := by rw [← ar_0_7_1]; show v_ad (w_fd w2 _ _) = v_ad (w_fd w1 _ _); rw [s2.2, if_neg (fun e => absurd e.2 (by decide))]
  have ar_0_8_1 : w_ar w1 (n_v vs 0) 8 = w_ar ws (n_v vs 0) 8 := by show v_ad (w_fd w1 _ _) = v_ad (w_fd ws _ _); rw [s1.2, if_neg (fun e => absurd e.2 (by decide))]
  have ar_0_8_2 : w_ar w2 (n_v vs 0) 8 = w_ar ws (n_v vs 0) 8 := by rw [← ar_0_8_1]; show v_ad (w_fd w2 _ _) = v_ad (w_fd w1 _ _); rw [s2.2, if_neg (fun e => absurd e.2 (by decide))]
  have ar_0_14_1 : w_ar w1 (n_v vs 0) 14 = w_ar ws (n_v vs 0) 14 := by show v_ad (w_fd w1 _ _) = v_ad (w_fd ws _ _); rw [s1.2, if_neg (fun e => absurd e.2 (by decide))]
  have ar_0_14_2 : w_ar w2 (n_v vs 0) 14 = w_ar ws (n_v vs 0) 14 := by rw [← ar_0_14_1]; show v_ad (w_fd w2 _ _) = v_ad (w_fd w1 _ _); rw [s2.2, if_neg (fun e => absurd e.2 (by decide))]
  have ar_0_16_1 : w_ar w1 (n_v vs 0) 16 = w_ar ws (n_v vs 0) 16 := by show v_ad (w_fd w1 _ _) = v_ad (w_fd ws _ _); rw [s1.2, if_neg (fun e => absurd e.2 (by decide))]
  have ar_0_16_2 : w_ar w2 (n_v vs 0) 16 = w_ar ws (n_v vs 0) 16 := by rw [← ar_0_16_1]; show v_ad (w_fd w2 _ _) = v_ad (w_fd w1 _ _); rw [s2.2, if_neg (fun e => absurd e.2 (by decide))]
  have ar_3_4_1 : w_ar w1 (n_v vs 3) 4 = w_ar ws (n_v vs 3) 4 := by show v_ad (w_fd w1 _ _) = v_ad (w_fd ws _ _); rw [s1.2, if_neg (fun e => absurd e.2 (by decide))]
  have ar_3_4_2 : w_ar w2 (n_v vs 3) 4 = w_ar ws (n_v vs 3) 4 := by rw [← ar_3_4_1]; show v_ad (w_fd w2 _ _) = v_ad (w_fd w1 _ _); rw [s2.2, if_neg (fun e => absurd e.2 (by decide))]
  have ar_3_9_1 : w_ar w1 (n_v vs 3) 9 = w_ar ws (n_v vs 3) 9 := by show v_ad (w_fd w1 _ _) = v_ad (w_fd ws _ _); rw [s1.2, if_neg (fun e => absurd e.2 (by decide))]
  have ar_3_9_2 : w_ar w2 (n_v vs 3) 9 = w_ar ws (n_v vs 3) 9 := by rw [← ar_3_9_1]; show v_ad (w_fd w2 _ _) = v_ad (w_fd w1 _ _); rw [s2.2, if_neg (fun e => absurd e.2 (by decide))]
  have ar_4_9_1 : w_ar w1 (n_v vs 4) 9 = w_ar ws (n_v vs 4) 9 := by show v_ad (w_fd w1 _ _) = v_ad (w_fd ws _ _); rw [s1.2, if_neg (fun e => absurd e.2 (by decide))]
  have ar_4_9_2 : w_ar w2 (n_v vs 4) 9 = w_ar ws (n_v vs 4) 9 := by rw [← ar_4_9_1]; show v_ad (w_fd w2 _ _) = v_ad (w_fd w1 _ _); rw [s2.2, if_neg (fun e => absurd e.2 (by decide))]
  have ar_4_12_1 : w_ar w1 (n_v vs 4) 12 = w_ar ws (n_v vs 4) 12 := by show v_ad (w_fd w1 _ _) = v_ad (w_fd ws _ _); rw [s1.2, if_neg (fun e => absurd e.2 (by decide))]
  have ar_4_12_2 : w_ar w2 (n_v vs 4) 12 = w_ar ws (n_v vs 4) 12 := by rw [← ar_4_12_1]; show v_ad (w_fd w2 _ _) = v_ad (w_fd w1 _ _); rw [s2.2, if_neg (fun e => absurd e.2 (by decide))]
  have ar_4_16_1 : w_ar w1 (n_v vs 4) 16 = w_ar ws (n_v vs 4) 16 := by show v_ad (w_fd w1 _ _) = v_ad (w_fd ws _ _); rw [s1.2, if_neg (fun e => absurd e.2 (by decide))]
  have ar_4_16_2 : w_ar w2 (n_v vs 4) 16 = w_ar ws (n_v vs 4) 16 := by rw [← ar_4_16_1]; show v_ad (w_fd w2 _ _) = v_ad (w_fd w1 _ _); rw [s2.2, if_neg (fun e => absurd e.2 (by decide))]
  have g0 : v_iv (n_v vs 11) = w_fi ws (n_v vs 0) 18 := congrArg v_iv f0
  have g1 : v_iv (n_v vs 8) = w_fi ws (n_v vs 0) 17 := congrArg v_iv f1
  have g8 : v_iv (n_v vs 9) = w_fi w1 (n_v vs 0) 18 := congrArg v_iv f8
  have g14 : v_iv (n_v vs 6) = w_fi w2 (n_v vs 0) 17 := congrArg v_iv f14
  simp only [ar_0_16_2, ar_0_7_2, ar_0_8_2, ar_0_14_2, ar_3_4_2, ar_3_9_2, ar_4_9_2, ar_4_12_2, ar_4_16_2] at f17
  have fe_0_0_1 : w_fi ws (n_v vs 0) 0 = w_fi w1 (n_v vs 0) 0 := by show v_iv (w_fd _ _ _) = v_iv (w_fd _ _ _); rw [s1.2, if_neg (fun e => absurd e.2 (by decide))]
  have fe_0_1_1 : w_fi ws (n_v vs 0) 1 = w_fi w1 (n_v vs 0) 1 := by show v_iv (w_fd _ _ _) = v_iv (w_fd _ _ _); rw [s1.2, if_neg (fun e => absurd e.2 (by decide))]
  have fe_0_17_1 : w_fi ws (n_v vs 0) 17 = w_fi w1 (n_v vs 0) 17 := by show v_iv (w_fd _ _ _) = v_iv (w_fd _ _ _); rw [s1.2, if_neg (fun e => absurd e.2 (by decide))]
  have fe_3_0_1 : w_fi ws (n_v vs 3) 0 = w_fi w1 (n_v vs 3) 0 := by show v_iv (w_fd _ _ _) = v_iv (w_fd _ _ _); rw [s1.2, if_neg (fun e => absurd e.2 (by decide))]
  have fe_3_1_1 : w_fi ws (n_v vs 3) 1 = w_fi w1 (n_v vs 3) 1 := by show v_iv (w_fd _ _ _) = v_iv (w_fd _ _ _); rw [s1.2, if_neg (fun e => absurd e.2 (by decide))]
  have fe_3_2_1 : w_fi ws (n_v vs 3) 2 = w_fi w1 (n_v vs 3) 2 := by show v_iv (w_fd _ _ _) = v_iv (w_fd _ _ _); rw [s1.2, if_neg (fun e => absurd e.2 (by decide))]
  have fe_4_0_1 : w_fi ws (n_v vs 4) 0 = w_fi w1 (n_v vs 4) 0 := by show v_iv (w_fd _ _ _) = v_iv (w_fd _ _ _); rw [s1.2, if_neg (fun e => absurd e.2 (by decide))]
  have fe_4_3_1 : w_fi ws (n_v vs 4) 3 = w_fi w1 (n_v vs 4) 3 := by show v_iv (w_fd _ _ _) = v_iv (w_fd _ _ _); rw [s1.2, if_neg (fun e => absurd e.2 (by decide))]
  have fe_4_5_1 : w_fi ws (n_v vs 4) 5 = w_fi w1 (n_v vs 4) 5 := by show v_iv (w_fd _ _ _) = v_iv (w_fd _ _ _); rw [s1.2, if_neg (fun e => absurd e.2 (by decide))]
  have fe_4_6_1 : w_fi ws (n_v vs 4) 6 = w_fi w1 (n_v vs 4) 6 := by show v_iv (w_fd _ _ _) = v_iv (w_fd _ _ _); rw [s1.2, if_neg (fun e => absurd e.2 (by decide))]
  have fe_0_0_2 : w_fi w1 (n_v vs 0) 0 = w_fi w2 (n_v vs 0) 0 := by show v_iv (w_fd _ _ _) = v_iv (w_fd _ _ _); rw [s2.2, if_neg (fun e => absurd e.2 (by decide))]
  have fe_0_1_2 : w_fi w1 (n_v vs 0) 1 = w_fi w2 (n_v vs 0) 1 := by show v_iv (w_fd _ _ _) = v_iv (w_fd _ _ _); rw [s2.2, if_neg (fun e => absurd e.2 (by decide))]
  have fe_0_18_2 : w_fi w1 (n_v vs 0) 18 = w_fi w2 (n_v vs 0) 18 := by show v_iv (w_fd _ _ _) = v_iv (w_fd _ _ _); rw [s2.2, if_neg (fun e => absurd e.2 (by decide))]
  have fe_3_0_2 : w_fi w1 (n_v vs 3) 0 = w_fi w2 (n_v vs 3) 0 := by show v_iv (w_fd _ _ _) = v_iv (w_fd _ _ _); rw [s2.2, if_neg (fun e => absurd e.2 (by decide))]
  have fe_3_1_2 : w_fi w1 (n_v vs 3) 1 = w_fi w2 (n_v vs 3) 1 := by show v_iv (w_fd _ _ _) = v_iv (w_fd _ _ _); rw [s2.2, if_neg (fun e => absurd e.2 (by decide))]
  have fe_3_2_2 : w_fi w1 (n_v vs 3) 2 = w_fi w2 (n_v vs 3) 2 := by show v_iv (w_fd _ _ _) = v_iv (w_fd _ _ _); rw [s2.2, if_neg (fun e => absurd e.2 (by decide))]
  have fe_4_0_2 : w_fi w1 (n_v vs 4) 0 = w_fi w2 (n_v vs 4) 0 := by show v_iv (w_fd _ _ _) = v_iv (w_fd _ _ _); rw [s2.2, if_neg (fun e => absurd e.2 (by decide))]
  have fe_4_3_2 : w_fi w1 (n_v vs 4) 3 = w_fi w2 (n_v vs 4) 3 := by show v_iv (w_fd _ _ _) = v_iv (w_fd _ _ _); rw [s2.2, if_neg (fun e => absurd e.2 (by decide))]
  have fe_4_5_2 : w_fi w1 (n_v vs 4) 5 = w_fi w2 (n_v vs 4) 5 := by show v_iv (w_fd _ _ _) = v_iv (w_fd _ _ _); rw [s2.2, if_neg (fun e => absurd e.2 (by decide))]
  have fe_4_6_2 : w_fi w1 (n_v vs 4) 6 = w_fi w2 (n_v vs 4) 6 := by show v_iv (w_fd _ _ _) = v_iv (w_fd _ _ _); rw [s2.2, if_neg (fun e => absurd e.2 (by decide))]
  have hE_0_7_1 : ∀ j : Int, w_ei ws (w_ar ws (n_v vs 0) 7) j = w_ei w1 (w_ar ws (n_v vs 0) 7) j := fun j => s1.1 _ _
  have hE_0_7_2 : ∀ j : Int, w_ei w1 (w_ar ws (n_v vs 0) 7) j = w_ei w2 (w_ar ws (n_v vs 0) 7) j := fun j => s2.1 _ _
  have hE_0_8_1 : ∀ j : Int, w_ei ws (w_ar ws (n_v vs 0) 8) j = w_ei w1 (w_ar ws (n_v vs 0) 8) j := fun j => s1.1 _ _
  have hE_0_8_2 : ∀ j : Int, w_ei w1 (w_ar ws (n_v vs 0) 8) j = w_ei w2 (w_ar ws (n_v vs 0) 8) j := fun j => s2.1 _ _
  have hE_0_14_1 : ∀ j : Int, w_ei ws (w_ar ws (n_v vs 0) 14) j = w_ei w1 (w_ar ws (n_v vs 0) 14) j := fun j => s1.1 _ _
  have hE_0_14_2 : ∀ j : Int, w_ei w1 (w_ar ws (n_v vs 0) 14) j = w_ei w2 (w_ar ws (n_v vs 0) 14) j := fun j => s2.1 _ _
  have hE_0_16_1 : ∀ j : Int, w_ei ws (w_ar ws (n_v vs 0) 16) j = w_ei w1 (w_ar ws (n_v vs 0) 16) j := fun j => s1.1 _ _
  have hE_0_16_2 : ∀ j : Int, w_ei w1 (w_ar ws (n_v vs 0) 16) j = w_ei w2 (w_ar ws (n_v vs 0) 16) j := fun j => s2.1 _ _
  have hE_3_4_1 : ∀ j : Int, w_ei ws (w_ar ws (n_v vs 3) 4) j = w_ei w1 (w_ar ws (n_v vs 3) 4) j := fun j => s1.1 _ _
  have hE_3_4_2 : ∀ j : Int, w_ei w1 (w_ar ws (n_v vs 3) 4) j = w_ei w2 (w_ar ws (n_v vs 3) 4) j := fun j => s2.1 _ _
  have hE_3_9_1 : ∀ j : Int, w_ei ws (w_ar ws (n_v vs 3) 9) j = w_ei w1 (w_ar ws (n_v vs 3) 9) j := fun j => s1.1 _ _
  have hE_3_9_2 : ∀ j : Int, w_ei w1 (w_ar ws (n_v vs 3) 9) j = w_ei w2 (w_ar ws (n_v vs 3) 9) j := fun j => s2.1 _ _
  have hE_4_9_1 : ∀ j : Int, w_ei ws (w_ar ws (n_v vs 4) 9) j = w_ei w1 (w_ar ws (n_v vs 4) 9) j := fun j => s1.1 _ _
  have hE_4_9_2 : ∀ j : Int, w_ei w1 (w_ar ws (n_v vs 4) 9) j = w_ei w2 (w_ar ws (n_v vs 4) 9) j := fun j => s2.1 _ _
  have hE_4_12_1 : ∀ j : Int, w_ei ws (w_ar ws (n_v vs 4) 12) j = w_ei w1 (w_ar ws (n_v vs 4) 12) j := fun j => s1.1 _ _
  have hE_4_12_2 : ∀ j : Int, w_ei w1 (w_ar ws (n_v vs 4) 12) j = w_ei w2 (w_ar ws (n_v vs 4) 12) j := fun j => s2.1 _ _
  have hE_4_16_1 : ∀ j : Int, w_ei ws (w_ar ws (n_v vs 4) 16) j = w_ei w1 (w_ar ws (n_v vs 4) 16) j := fun j => s1.1 _ _
  have hE_4_16_2 : ∀ j : Int, w_ei w1 (w_ar ws (n_v vs 4) 16) j = w_ei w2 (w_ar ws (n_v vs 4) 16) j := fun j => s2.1 _ _
  have kz_0_0 := fdq_21 hD hth r0
  have kz_0_1 := fdq_30 hD hth r0
  have kz_0_17 := fdq_288 hD hth r0
  have kz_0_18 := fdq_289 hD hth r0
  have kz_3_0 := fdq_294 hD hth r3
  have kz_3_1 := fdq_278 hD hth r3
  have kz_3_2 := fdq_295 hD hth r3
  have kz_4_0 := fdq_78 hD hth r4
  have kz_4_3 := fdq_79 hD hth r4
  have kz_4_5 := fdq_82 hD hth r4
  have kz_4_6 := fdq_59 hD hth r4
  have nf0 : fc_1 PRD (20, [0], [50, 2, 0, 17, 18, 0, 8, 4, 3, 2, 0, 17, 2, 0, 18, 0, 30]) ws (vs) := ⟨nf_in hl rfl, sgq_1511 (vc_Gr_step_9_0 (v_iv (n_v vs 5)) (v_iv (n_v vs 6)) (v_iv (n_v vs 8)) (v_iv (n_v vs 9)) (v_iv (n_v vs 11)) (w_fi ws (n_v vs 0) 18) (w_fi ws (n_v vs 0) 17) (w_ei ws (w_ar ws (n_v vs 0) 7)) (w_ei ws (w_ar ws (n_v vs 0) 8)) (w_fi ws (n_v vs 0) 0) (w_fi ws (n_v vs 0) 1) (w_ei ws (w_ar ws (n_v vs 0) 14)) (w_ei ws (w_ar ws (n_v vs 3) 4)) (w_ei ws (w_ar ws (n_v vs 3) 9)) (w_ei ws (w_ar ws (n_v vs 4) 9)) (w_ei ws (w_ar ws (n_v vs 4) 12)) (w_ei ws (w_ar ws (n_v vs 4) 16)) (w_fi ws (n_v vs 3) 0) (w_fi ws (n_v vs 3) 1) (w_fi ws (n_v vs 3) 2) (w_fi ws (n_v vs 4) 0) (w_fi ws (n_v vs 4) 3) (w_fi ws (n_v vs 4) 5) (w_fi ws (n_v vs 4) 6) (w_fi w1 (n_v vs 0) 18) (w_ei w1 (w_ar ws (n_v vs 0) 7)) (w_ei w1 (w_ar ws (n_v vs 0) 8)) (w_fi w1 (n_v vs 0) 0) (w_fi w1 (n_v vs 0) 1) (w_ei w1 (w_ar ws (n_v vs 0) 14)) (w_ei w1 (w_ar ws (n_v vs 3) 4)) (w_ei w1 (w_ar ws (n_v vs 3) 9)) (w_ei w1 (w_ar ws (n_v vs 4) 9)) (w_ei w1 (w_ar ws (n_v vs 4) 12)) (w_ei w1 (w_ar ws (n_v vs 4) 16)) (w_fi w1 (n_v vs 3) 0) (w_fi w1 (n_v vs 3) 1) (w_fi w1 (n_v vs 3) 2) (w_fi w1 (n_v vs 4) 0) (w_fi w1 (n_v vs 4) 3) (w_fi w1 (n_v vs 4) 5) (w_fi w1 (n_v vs 4) 6) (w_fi w2 (n_v vs 0) 17) (w_fi w2 (n_v vs 0) 18) (w_ei w2 (w_ar ws (n_v vs 0) 16)) (w_ei w2 (w_ar ws (n_v vs 0) 7)) (w_ei w2 (w_ar ws (n_v vs 0) 8)) (w_fi w2 (n_v vs 0) 0) (w_fi w2 (n_v vs 0) 1) (w_ei w2 (w_ar ws (n_v vs 0) 14)) (w_ei w2 (w_ar ws (n_v vs 3) 4)) (w_ei w2 (w_ar ws (n_v vs 3) 9)) (w_ei w2 (w_ar ws (n_v vs 4) 9)) (w_ei w2 (w_ar ws (n_v vs 4) 12)) (w_ei w2 (w_ar ws (n_v vs 4) 16)) (w_fi w2 (n_v vs 3) 0) (w_fi w2 (n_v vs 3) 1) (w_fi w2 (n_v vs 3) 2) (w_fi w2 (n_v vs 4) 0) (w_fi w2 (n_v vs 4) 3) (w_fi w2 (n_v vs 4) 5) (w_fi w2 (n_v vs 4) 6) (w_fi w1 (n_v vs 0) 17) (w_ei ws (w_ar ws (n_v vs 0) 16)) (w_ei w1 (w_ar ws (n_v vs 0) 16)) k5 k6 k8 k9 k11 d0 d1 g0 g1 g8 g14 (shm_1511 f16) (shm_1512 f20) fe_0_0_1 fe_0_1_1 fe_0_17_1 fe_3_0_1 fe_3_1_1 fe_3_2_1 fe_4_0_1 fe_4_3_1 fe_4_5_1 fe_4_6_1 fe_0_0_2 fe_0_1_2 fe_0_18_2 fe_3_0_2 fe_3_1_2 fe_3_2_2 fe_4_0_2 fe_4_3_2 fe_4_5_2 fe_4_6_2 hE_0_7_1 hE_0_7_2 hE_0_8_1 hE_0_8_2 hE_0_14_1 hE_0_14_2 hE_0_16_1 hE_0_16_2 hE_3_4_1 hE_3_4_2 hE_3_9_1 hE_3_9_2 hE_4_9_1 hE_4_9_2 hE_4_12_1 hE_4_12_2 hE_4_16_1 hE_4_16_2 kz_0_0 kz_0_1 kz_0_17 kz_0_18 kz_3_0 kz_3_1 kz_3_2 kz_4_0 kz_4_3 kz_4_5 kz_4_6)⟩
  have nf1 : fc_1 PRD (20, [0], [60, 2, 1, 739, 17, 18, 16]) ws (vs) := ⟨nf_in hl rfl, sgq_1361 (vc_Gr_step_9_1 (v_iv (n_v vs 6)) (v_iv (n_v vs 8)) (v_iv (n_v vs 9)) (v_iv (n_v vs 11)) (w_fi ws (n_v vs 0) 18) (w_fi ws (n_v vs 0) 17) (w_ei ws (w_ar ws (n_v vs 0) 7)) (w_ei ws (w_ar ws (n_v vs 0) 8)) (w_fi ws (n_v vs 0) 0) (w_fi ws (n_v vs 0) 1) (w_ei ws (w_ar ws (n_v vs 0) 14)) (w_ei ws (w_ar ws (n_v vs 3) 4)) (w_ei ws (w_ar ws (n_v vs 3) 9)) (w_ei ws (w_ar ws (n_v vs 4) 9)) (w_ei ws (w_ar ws (n_v vs 4) 12)) (w_ei ws (w_ar ws (n_v vs 4) 16)) (w_fi ws (n_v vs 3) 0) (w_fi ws (n_v vs 3) 1) (w_fi ws (n_v vs 3) 2) (w_fi ws (n_v vs 4) 0) (w_fi ws (n_v vs 4) 3) (w_fi ws (n_v vs 4) 5) (w_fi ws (n_v vs 4) 6) (w_fi w1 (n_v vs 0) 18) (w_ei w1 (w_ar ws (n_v vs 0) 7)) (w_ei w1 (w_ar ws (n_v vs 0) 8)) (w_fi w1 (n_v vs 0) 0) (w_fi w1 (n_v vs 0) 1) (w_ei w1 (w_ar ws (n_v vs 0) 14)) (w_ei w1 (w_ar ws (n_v vs 3) 4)) (w_ei w1 (w_ar ws (n_v vs 3) 9)) (w_ei w1 (w_ar ws (n_v vs 4) 9)) (w_ei w1 (w_ar ws (n_v vs 4) 12)) (w_ei w1 (w_ar ws (n_v vs 4) 16)) (w_fi w1 (n_v vs 3) 0) (w_fi w1 (n_v vs 3) 1) (w_fi w1 (n_v vs 3) 2) (w_fi w1 (n_v vs 4) 0) (w_fi w1 (n_v vs 4) 3) (w_fi w1 (n_v vs 4) 5) (w_fi w1 (n_v vs 4) 6) (w_fi w2 (n_v vs 0) 17) (w_fi w2 (n_v vs 0) 18) (w_ei w2 (w_ar ws (n_v vs 0) 16)) (w_ei w2 (w_ar ws (n_v vs 0) 7)) (w_ei w2 (w_ar ws (n_v vs 0) 8)) (w_fi w2 (n_v vs 0) 0) (w_fi w2 (n_v vs 0) 1) (w_ei w2 (w_ar ws (n_v vs 0) 14)) (w_ei w2 (w_ar ws (n_v vs 3) 4)) (w_ei w2 (w_ar ws (n_v vs 3) 9)) (w_ei w2 (w_ar ws (n_v vs 4) 9)) (w_ei w2 (w_ar ws (n_v vs 4) 12)) (w_ei w2 (w_ar ws (n_v vs 4) 16)) (w_fi w2 (n_v vs 3) 0) (w_fi w2 (n_v vs 3) 1) (w_fi w2 (n_v vs 3) 2) (w_fi w2 (n_v vs 4) 0) (w_fi w2 (n_v vs 4) 3) (w_fi w2 (n_v vs 4) 5) (w_fi w2 (n_v vs 4) 6) (w_fi w1 (n_v vs 0) 17) (w_ei ws (w_ar ws (n_v vs 0) 16)) (w_ei w1 (w_ar ws (n_v vs 0) 16)) k6 k8 k9 k11 d0 d1 g0 g1 g8 g14 f17 fe_0_0_1 fe_0_1_1 fe_0_17_1 fe_3_0_1 fe_3_1_1 fe_3_2_1 fe_4_0_1 fe_4_3_1 fe_4_5_1 fe_4_6_1 fe_0_0_2 fe_0_1_2 fe_0_18_2 fe_3_0_2 fe_3_1_2 fe_3_2_2 fe_4_0_2 fe_4_3_2 fe_4_5_2 fe_4_6_2 hE_0_7_1 hE_0_7_2 hE_0_8_1 hE_0_8_2 hE_0_14_1 hE_0_14_2 hE_0_16_1 hE_0_16_2 hE_3_4_1 hE_3_4_2 hE_3_9_1 hE_3_9_2 hE_4_9_1 hE_4_9_2 hE_4_12_1 hE_4_12_2 hE_4_16_1 hE_4_16_2 kz_0_0 kz_0_1 kz_0_17 kz_0_18 kz_3_0 kz_3_1 kz_3_2 kz_4_0 kz_4_3 kz_4_5 kz_4_6)⟩
  have nf2 : fc_1 PRD (20, [0], [50, 2, 0, 17, 18, 0, 2, 0, 1, 4, 3, 2, 0, 17, 2, 0, 18]) ws (vs) := ⟨nf_in hl rfl, sgq_1515 (vc_Gr_step_9_2 (v_iv (n_v vs 5)) (v_iv (n_v vs 6)) (v_iv (n_v vs 8)) (v_iv (n_v vs 9)) (v_iv (n_v vs 11)) (w_fi ws (n_v vs 0) 18) (w_fi ws (n_v vs 0) 17) (w_ei ws (w_ar ws (n_v vs 0) 7)) (w_ei ws (w_ar ws (n_v vs 0) 8)) (w_fi ws (n_v vs 0) 0) (w_fi ws (n_v vs 0) 1) (w_ei ws (w_ar ws (n_v vs 0) 14)) (w_ei ws (w_ar ws (n_v vs 3) 4)) (w_ei ws (w_ar ws (n_v vs 3) 9)) (w_ei ws (w_ar ws (n_v vs 4) 9)) (w_ei ws (w_ar ws (n_v vs 4) 12)) (w_ei ws (w_ar ws (n_v vs 4) 16)) (w_fi ws (n_v vs 3) 0) (w_fi ws (n_v vs 3) 1) (w_fi ws (n_v vs 3) 2) (w_fi ws (n_v vs 4) 0) (w_fi ws (n_v vs 4) 3) (w_fi ws (n_v vs 4) 5) (w_fi ws (n_v vs 4) 6) (w_fi w1 (n_v vs 0) 18) (w_ei w1 (w_ar ws (n_v vs 0) 7)) (w_ei w1 (w_ar ws (n_v vs 0) 8)) (w_fi w1 (n_v vs 0) 0) (w_fi w1 (n_v vs 0) 1) (w_ei w1 (w_ar ws (n_v vs 0) 14)) (w_ei w1 (w_ar ws (n_v vs 3) 4)) (w_ei w1 (w_ar ws (n_v vs 3) 9)) (w_ei w1 (w_ar ws (n_v vs 4) 9)) (w_ei w1 (w_ar ws (n_v vs 4) 12)) (w_ei w1 (w_ar ws (n_v vs 4) 16)) (w_fi w1 (n_v vs 3) 0) (w_fi w1 (n_v vs 3) 1) (w_fi w1 (n_v vs 3) 2) (w_fi w1 (n_v vs 4) 0) (w_fi w1 (n_v vs 4) 3) (w_fi w1 (n_v vs 4) 5) (w_fi w1 (n_v vs 4) 6) (w_fi w2 (n_v vs 0) 17) (w_fi w2 (n_v vs 0) 18) (w_ei w2 (w_ar ws (n_v vs 0) 16)) (w_ei w2 (w_ar ws (n_v vs 0) 7)) (w_ei w2 (w_ar ws (n_v vs 0) 8)) (w_fi w2 (n_v vs 0) 0) (w_fi w2 (n_v vs 0) 1) (w_ei w2 (w_ar ws (n_v vs 0) 14)) (w_ei w2 (w_ar ws (n_v vs 3) 4)) (w_ei w2 (w_ar ws (n_v vs 3) 9)) (w_ei w2 (w_ar ws (n_v vs 4) 9)) (w_ei w2 (w_ar ws (n_v vs 4) 12)) (w_ei w2 (w_ar ws (n_v vs 4) 16)) (w_fi w2 (n_v vs 3) 0) (w_fi w2 (n_v vs 3) 1) (w_fi w2 (n_v vs 3) 2) (w_fi w2 (n_v vs 4) 0) (w_fi w2 (n_v vs 4) 3) (w_fi w2 (n_v vs 4) 5) (w_fi w2 (n_v vs 4) 6) (w_fi w1 (n_v vs 0) 17) (w_ei ws (w_ar ws (n_v vs 0) 16)) (w_ei w1 (w_ar ws (n_v vs 0) 16)) k5 k6 k8 k9 k11 d0 d1 g0 g1 g8 g14 (shm_1511 f16) (shm_1512 f20) fe_0_0_1 fe_0_1_1 fe_0_17_1 fe_3_0_1 fe_3_1_1 fe_3_2_1 fe_4_0_1 fe_4_3_1 fe_4_5_1 fe_4_6_1 fe_0_0_2 fe_0_1_2 fe_0_18_2 fe_3_0_2 fe_3_1_2 fe_3_2_2 fe_4_0_2 fe_4_3_2 fe_4_5_2 fe_4_6_2 hE_0_7_1 hE_0_7_2 hE_0_8_1 hE_0_8_2 hE_0_14_1 hE_0_14_2 hE_0_16_1 hE_0_16_2 hE_3_4_1 hE_3_4_2 hE_3_9_1 hE_3_9_2 hE_4_9_1 hE_4_9_2 hE_4_12_1 hE_4_12_2 hE_4_16_1 hE_4_16_2 kz_0_0 kz_0_1 kz_0_17 kz_0_18 kz_3_0 kz_3_1 kz_3_2 kz_4_0 kz_4_3 kz_4_5 kz_4_6)⟩
  have nf3 : fc_1 PRD (20, [0, 5], [50, 2, 0, 17, 18, 1, 8, 4, 3, 2, 0, 17, 2, 0, 18, 1, 1]) ws (vs) := ⟨nf_in hl rfl, sgq_1512 (vc_Gr_step_9_3 (v_iv (n_v vs 5)) (v_iv (n_v vs 6)) (v_iv (n_v vs 8)) (v_iv (n_v vs 9)) (v_iv (n_v vs 11)) (w_fi ws (n_v vs 0) 18) (w_fi ws (n_v vs 0) 17) (w_ei ws (w_ar ws (n_v vs 0) 7)) (w_ei ws (w_ar ws (n_v vs 0) 8)) (w_fi ws (n_v vs 0) 0) (w_fi ws (n_v vs 0) 1) (w_ei ws (w_ar ws (n_v vs 0) 14)) (w_ei ws (w_ar ws (n_v vs 3) 4)) (w_ei ws (w_ar ws (n_v vs 3) 9)) (w_ei ws (w_ar ws (n_v vs 4) 9)) (w_ei ws (w_ar ws (n_v vs 4) 12)) (w_ei ws (w_ar ws (n_v vs 4) 16)) (w_fi ws (n_v vs 3) 0) (w_fi ws (n_v vs 3) 1) (w_fi ws (n_v vs 3) 2) (w_fi ws (n_v vs 4) 0) (w_fi ws (n_v vs 4) 3) (w_fi ws (n_v vs 4) 5) (w_fi ws (n_v vs 4) 6) (w_fi w1 (n_v vs 0) 18) (w_ei w1 (w_ar ws (n_v vs 0) 7)) (w_ei w1 (w_ar ws (n_v vs 0) 8)) (w_fi w1 (n_v vs 0) 0) (w_fi w1 (n_v vs 0) 1) (w_ei w1 (w_ar ws (n_v vs 0) 14)) (w_ei w1 (w_ar ws (n_v vs 3) 4)) (w_ei w1 (w_ar ws (n_v vs 3) 9)) (w_ei w1 (w_ar ws (n_v vs 4) 9)) (w_ei w1 (w_ar ws (n_v vs 4) 12)) (w_ei w1 (w_ar ws (n_v vs 4) 16)) (w_fi w1 (n_v vs 3) 0) (w_fi w1 (n_v vs 3) 1) (w_fi w1 (n_v vs 3) 2) (w_fi w1 (n_v vs 4) 0) (w_fi w1 (n_v vs 4) 3) (w_fi w1 (n_v vs 4) 5) (w_fi w1 (n_v vs 4) 6) (w_fi w2 (n_v vs 0) 17) (w_fi w2 (n_v vs 0) 18) (w_ei w2 (w_ar ws (n_v vs 0) 16)) (w_ei w2 (w_ar ws (n_v vs 0) 7)) (w_ei w2 (w_ar ws (n_v vs 0) 8)) (w_fi w2 (n_v vs 0) 0) (w_fi w2 (n_v vs 0) 1) (w_ei w2 (w_ar ws (n_v vs 0) 14)) (w_ei w2 (w_ar ws (n_v vs 3) 4)) (w_ei w2 (w_ar ws (n_v vs 3) 9)) (w_ei w2 (w_ar ws (n_v vs 4) 9)) (w_ei w2 (w_ar ws (n_v vs 4) 12)) (w_ei w2 (w_ar ws (n_v vs 4) 16)) (w_fi w2 (n_v vs 3) 0) (w_fi w2 (n_v vs 3) 1) (w_fi w2 (n_v vs 3) 2) (w_fi w2 (n_v vs 4) 0) (w_fi w2 (n_v vs 4) 3) (w_fi w2 (n_v vs 4) 5) (w_fi w2 (n_v vs 4) 6) (w_fi w1 (n_v vs 0) 17) (w_ei ws (w_ar ws (n_v vs 0) 16)) (w_ei w1 (w_ar ws (n_v vs 0) 16)) k5 k6 k8 k9 k11 d0 d1 g0 g1 g8 g14 (shm_1512 f20) fe_0_0_1 fe_0_1_1 fe_0_17_1 fe_3_0_1 fe_3_1_1 fe_3_2_1 fe_4_0_1 fe_4_3_1 fe_4_5_1 fe_4_6_1 fe_0_0_2 fe_0_1_2 fe_0_18_2 fe_3_0_2 fe_3_1_2 fe_3_2_2 fe_4_0_2 fe_4_3_2 fe_4_5_2 fe_4_6_2 hE_0_7_1 hE_0_7_2 hE_0_8_1 hE_0_8_2 hE_0_14_1 hE_0_14_2 hE_0_16_1 hE_0_16_2 hE_3_4_1 hE_3_4_2 hE_3_9_1 hE_3_9_2 hE_4_9_1 hE_4_9_2 hE_4_12_1 hE_4_12_2 hE_4_16_1 hE_4_16_2 kz_0_0 kz_0_1 kz_0_17 kz_0_18 kz_3_0 kz_3_1 kz_3_2 kz_4_0 kz_4_3 kz_4_5 kz_4_6)⟩
  refine ⟨(fun _ h => (by cases h)), [], trivial, ?_, (fun _ h => (by cases h))⟩
  rw [List.append_nil]
  exact List.forall_mem_cons.mpr ⟨⟨show (20 : Nat) < 100 from by decide, nf0⟩, List.forall_mem_cons.mpr ⟨⟨show (20 : Nat) < 100 from by decide, nf1⟩, List.forall_mem_cons.mpr ⟨⟨show (20 : Nat) < 100 from by decide, nf2⟩, List.forall_mem_cons.mpr ⟨⟨show (20 : Nat) < 100 from by decide, nf3⟩, (fun _ h => (by cases h))⟩⟩⟩⟩
set_option maxHeartbeats 4000000 in
theorem vc_Gr_step_10_0 (x5 : Int) (x8 : Int) (x11 : Int) (undone_0 : Int) (done_0 : Int) (past_0 : Int → Int) (tail_0 : Int → Int) (head_0 : Int → Int) (nodes_0 : Int) (edges_0 : Int) (near_0 : Int → Int) (part_0o3 : Int → Int) (turned_0o3 : Int → Int) (near_0o4 : Int → Int) (first_0o4 : Int → Int) (faceOf_0o4 : Int → Int) (known_0o3 : Int) (parts_0o3 : Int) (blocks_0o3 : Int) (planar_0o4 : Int) (barredEdges_0o4 : Int) (nodes_0o4 : Int) (edges_0o4 : Int) (undone_1 : Int) (tail_1 : Int → Int) (head_1 : Int → Int) (nodes_1 : Int) (edges_1 : Int) (near_1 : Int → Int) (part_1o3 : Int → Int) (turned_1o3 : Int → Int) (near_1o4 : Int → Int) (first_1o4 : Int → Int) (faceOf_1o4 : Int → Int) (known_1o3 : Int) (parts_1o3 : Int) (blocks_1o3 : Int) (planar_1o4 : Int) (barredEdges_1o4 : Int) (nodes_1o4 : Int) (edges_1o4 : Int) (undone_2 : Int) (past_2 : Int → Int) (tail_2 : Int → Int) (head_2 : Int → Int) (nodes_2 : Int) (edges_2 : Int) (near_2 : Int → Int) (part_2o3 : Int → Int) (turned_2o3 : Int → Int) (near_2o4 : Int → Int) (first_2o4 : Int → Int) (faceOf_2o4 : Int → Int) (known_2o3 : Int) (parts_2o3 : Int) (blocks_2o3 : Int) (planar_2o4 : Int) (barredEdges_2o4 : Int) (nodes_2o4 : Int) (edges_2o4 : Int) (done_1 : Int) (past_1 : Int → Int) (k5 : 0 ≤ x5 ∧ x5 ≤ 60) (k8 : 0 ≤ x8 ∧ x8 ≤ 29) (k11 : 1 ≤ x11 ∧ x11 ≤ 30) (g0 : x11 = undone_0) (g2 : x8 = done_0) (f6 : (done_0 + undone_0) = x5) (fe_0_0_1 : nodes_0 = nodes_1) (fe_0_1_1 : edges_0 = edges_1) (fe_0_17_1 : done_0 = done_1) (fe_3_0_1 : known_0o3 = known_1o3) (fe_3_1_1 : parts_0o3 = parts_1o3) (fe_3_2_1 : blocks_0o3 = blocks_1o3) (fe_4_0_1 : planar_0o4 = planar_1o4) (fe_4_3_1 : barredEdges_0o4 = barredEdges_1o4) (fe_4_5_1 : nodes_0o4 = nodes_1o4) (fe_4_6_1 : edges_0o4 = edges_1o4) (fe_0_0_2 : nodes_1 = nodes_2) (fe_0_1_2 : edges_1 = edges_2) (fe_0_18_2 : undone_1 = undone_2) (fe_3_0_2 : known_1o3 = known_2o3) (fe_3_1_2 : parts_1o3 = parts_2o3) (fe_3_2_2 : blocks_1o3 = blocks_2o3) (fe_4_0_2 : planar_1o4 = planar_2o4) (fe_4_3_2 : barredEdges_1o4 = barredEdges_2o4) (fe_4_5_2 : nodes_1o4 = nodes_2o4) (fe_4_6_2 : edges_1o4 = edges_2o4) (hE_0_7_1 : ∀ j : Int, tail_0 j = tail_1 j) (hE_0_7_2 : ∀ j : Int, tail_1 j = tail_2 j) (hE_0_8_1 : ∀ j : Int, head_0 j = head_1 j) (hE_0_8_2 : ∀ j : Int, head_1 j = head_2 j) (hE_0_14_1 : ∀ j : Int, near_0 j = near_1 j) (hE_0_14_2 : ∀ j : Int, near_1 j = near_2 j) (hE_0_16_1 : ∀ j : Int, past_0 j = past_1 j) (hE_0_16_2 : ∀ j : Int, past_1 j = past_2 j) (hE_3_4_1 : ∀ j : Int, part_0o3 j = part_1o3 j) (hE_3_4_2 : ∀ j : Int, part_1o3 j = part_2o3 j) (hE_3_9_1 : ∀ j : Int, turned_0o3 j = turned_1o3 j) (hE_3_9_2 : ∀ j : Int, turned_1o3 j = turned_2o3 j) (hE_4_9_1 : ∀ j : Int, near_0o4 j = near_1o4 j) (hE_4_9_2 : ∀ j : Int, near_1o4 j = near_2o4 j) (hE_4_12_1 : ∀ j : Int, first_0o4 j = first_1o4 j) (hE_4_12_2 : ∀ j : Int, first_1o4 j = first_2o4 j) (hE_4_16_1 : ∀ j : Int, faceOf_0o4 j = faceOf_1o4 j) (hE_4_16_2 : ∀ j : Int, faceOf_1o4 j = faceOf_2o4 j) (kz_0_0 : 0 ≤ nodes_0 ∧ nodes_0 ≤ 24) (kz_0_1 : 0 ≤ edges_0 ∧ edges_0 ≤ 48) (kz_0_17 : 0 ≤ done_0 ∧ done_0 ≤ 30) (kz_0_18 : 0 ≤ undone_0 ∧ undone_0 ≤ 30) (kz_3_0 : 0 ≤ known_0o3 ∧ known_0o3 ≤ 1) (kz_3_1 : 0 ≤ parts_0o3 ∧ parts_0o3 ≤ 24) (kz_3_2 : 0 ≤ blocks_0o3 ∧ blocks_0o3 ≤ 48) (kz_4_0 : (-1) ≤ planar_0o4 ∧ planar_0o4 ≤ 1) (kz_4_3 : 0 ≤ barredEdges_0o4 ∧ barredEdges_0o4 ≤ 48) (kz_4_5 : 0 ≤ nodes_0o4 ∧ nodes_0o4 ≤ 24) (kz_4_6 : 0 ≤ edges_0o4 ∧ edges_0o4 ≤ 72) : (x8 + x11) = x5 := by
  subst fe_0_0_1
  subst fe_0_1_1
  subst fe_0_17_1
  subst fe_3_0_1
  subst fe_3_1_1
  subst fe_3_2_1
  subst fe_4_0_1
  subst fe_4_3_1
  subst fe_4_5_1
  subst fe_4_6_1
  subst fe_0_0_2
  subst fe_0_1_2
  subst fe_0_18_2
  subst fe_3_0_2
  subst fe_3_1_2
  subst fe_3_2_2
  subst fe_4_0_2
  subst fe_4_3_2
  subst fe_4_5_2
  subst fe_4_6_2
  have e_hE_0_7_1 := funext hE_0_7_1; subst e_hE_0_7_1
  have e_hE_0_7_2 := funext hE_0_7_2; subst e_hE_0_7_2
  have e_hE_0_8_1 := funext hE_0_8_1; subst e_hE_0_8_1
  have e_hE_0_8_2 := funext hE_0_8_2; subst e_hE_0_8_2
  have e_hE_0_14_1 := funext hE_0_14_1; subst e_hE_0_14_1
  have e_hE_0_14_2 := funext hE_0_14_2; subst e_hE_0_14_2
  have e_hE_0_16_1 := funext hE_0_16_1; subst e_hE_0_16_1
  have e_hE_0_16_2 := funext hE_0_16_2; subst e_hE_0_16_2
  have e_hE_3_4_1 := funext hE_3_4_1; subst e_hE_3_4_1
  have e_hE_3_4_2 := funext hE_3_4_2; subst e_hE_3_4_2
  have e_hE_3_9_1 := funext hE_3_9_1; subst e_hE_3_9_1
  have e_hE_3_9_2 := funext hE_3_9_2; subst e_hE_3_9_2
  have e_hE_4_9_1 := funext hE_4_9_1; subst e_hE_4_9_1
  have e_hE_4_9_2 := funext hE_4_9_2; subst e_hE_4_9_2
  have e_hE_4_12_1 := funext hE_4_12_1; subst e_hE_4_12_1
  have e_hE_4_12_2 := funext hE_4_12_2; subst e_hE_4_12_2
  have e_hE_4_16_1 := funext hE_4_16_1; subst e_hE_4_16_1
  have e_hE_4_16_2 := funext hE_4_16_2; subst e_hE_4_16_2
  first
    | omega
  
set_option maxHeartbeats 4000000 in
theorem vc_Gr_step_10_1 (x6 : Int) (x8 : Int) (done_0 : Int) (past_0 : Int → Int) (tail_0 : Int → Int) (head_0 : Int → Int) (nodes_0 : Int) (edges_0 : Int) (near_0 : Int → Int) (part_0o3 : Int → Int) (turned_0o3 : Int → Int) (near_0o4 : Int → Int) (first_0o4 : Int → Int) (faceOf_0o4 : Int → Int) (known_0o3 : Int) (parts_0o3 : Int) (blocks_0o3 : Int) (planar_0o4 : Int) (barredEdges_0o4 : Int) (nodes_0o4 : Int) (edges_0o4 : Int) (undone_1 : Int) (tail_1 : Int → Int) (head_1 : Int → Int) (nodes_1 : Int) (edges_1 : Int) (near_1 : Int → Int) (part_1o3 : Int → Int) (turned_1o3 : Int → Int) (near_1o4 : Int → Int) (first_1o4 : Int → Int) (faceOf_1o4 : Int → Int) (known_1o3 : Int) (parts_1o3 : Int) (blocks_1o3 : Int) (planar_1o4 : Int) (barredEdges_1o4 : Int) (nodes_1o4 : Int) (edges_1o4 : Int) (done_2 : Int) (undone_2 : Int) (past_2 : Int → Int) (tail_2 : Int → Int) (head_2 : Int → Int) (nodes_2 : Int) (edges_2 : Int) (near_2 : Int → Int) (part_2o3 : Int → Int) (turned_2o3 : Int → Int) (near_2o4 : Int → Int) (first_2o4 : Int → Int) (faceOf_2o4 : Int → Int) (known_2o3 : Int) (parts_2o3 : Int) (blocks_2o3 : Int) (planar_2o4 : Int) (barredEdges_2o4 : Int) (nodes_2o4 : Int) (edges_2o4 : Int) (done_1 : Int) (past_1 : Int → Int) (gx : Int) (k6 : 1 ≤ x6 ∧ x6 ≤ 30) (k8 : 0 ≤ x8 ∧ x8 ≤ 29) (d1 : x6 + (-1) ≤ x8 ∧ x8 ≤ x6 + (-1)) (g2 : x8 = done_0) (g18 : x6 = done_2) (fe_0_0_1 : nodes_0 = nodes_1) (fe_0_1_1 : edges_0 = edges_1) (fe_0_17_1 : done_0 = done_1) (fe_3_0_1 : known_0o3 = known_1o3) (fe_3_1_1 : parts_0o3 = parts_1o3) (fe_3_2_1 : blocks_0o3 = blocks_1o3) (fe_4_0_1 : planar_0o4 = planar_1o4) (fe_4_3_1 : barredEdges_0o4 = barredEdges_1o4) (fe_4_5_1 : nodes_0o4 = nodes_1o4) (fe_4_6_1 : edges_0o4 = edges_1o4) (fe_0_0_2 : nodes_1 = nodes_2) (fe_0_1_2 : edges_1 = edges_2) (fe_0_18_2 : undone_1 = undone_2) (fe_3_0_2 : known_1o3 = known_2o3) (fe_3_1_2 : parts_1o3 = parts_2o3) (fe_3_2_2 : blocks_1o3 = blocks_2o3) (fe_4_0_2 : planar_1o4 = planar_2o4) (fe_4_3_2 : barredEdges_1o4 = barredEdges_2o4) (fe_4_5_2 : nodes_1o4 = nodes_2o4) (fe_4_6_2 : edges_1o4 = edges_2o4) (hE_0_7_1 : ∀ j : Int, tail_0 j = tail_1 j) (hE_0_7_2 : ∀ j : Int, tail_1 j = tail_2 j) (hE_0_8_1 : ∀ j : Int, head_0 j = head_1 j) (hE_0_8_2 : ∀ j : Int, head_1 j = head_2 j) (hE_0_14_1 : ∀ j : Int, near_0 j = near_1 j) (hE_0_14_2 : ∀ j : Int, near_1 j = near_2 j) (hE_0_16_1 : ∀ j : Int, past_0 j = past_1 j) (hE_0_16_2 : ∀ j : Int, past_1 j = past_2 j) (hE_3_4_1 : ∀ j : Int, part_0o3 j = part_1o3 j) (hE_3_4_2 : ∀ j : Int, part_1o3 j = part_2o3 j) (hE_3_9_1 : ∀ j : Int, turned_0o3 j = turned_1o3 j) (hE_3_9_2 : ∀ j : Int, turned_1o3 j = turned_2o3 j) (hE_4_9_1 : ∀ j : Int, near_0o4 j = near_1o4 j) (hE_4_9_2 : ∀ j : Int, near_1o4 j = near_2o4 j) (hE_4_12_1 : ∀ j : Int, first_0o4 j = first_1o4 j) (hE_4_12_2 : ∀ j : Int, first_1o4 j = first_2o4 j) (hE_4_16_1 : ∀ j : Int, faceOf_0o4 j = faceOf_1o4 j) (hE_4_16_2 : ∀ j : Int, faceOf_1o4 j = faceOf_2o4 j) (kz_0_0 : 0 ≤ nodes_0 ∧ nodes_0 ≤ 24) (kz_0_1 : 0 ≤ edges_0 ∧ edges_0 ≤ 48) (kz_0_17 : 0 ≤ done_0 ∧ done_0 ≤ 30) (kz_3_0 : 0 ≤ known_0o3 ∧ known_0o3 ≤ 1) (kz_3_1 : 0 ≤ parts_0o3 ∧ parts_0o3 ≤ 24) (kz_3_2 : 0 ≤ blocks_0o3 ∧ blocks_0o3 ≤ 48) (kz_4_0 : (-1) ≤ planar_0o4 ∧ planar_0o4 ≤ 1) (kz_4_3 : 0 ≤ barredEdges_0o4 ∧ barredEdges_0o4 ≤ 48) (kz_4_5 : 0 ≤ nodes_0o4 ∧ nodes_0o4 ≤ 24) (kz_4_6 : 0 ≤ edges_0o4 ∧ edges_0o4 ≤ 72) (ex2 : gx = x8) : 1 * gx + ((-1) * x8 + 0) ≤ 0 := by
  subst fe_0_0_1
  subst fe_0_1_1
  subst fe_0_17_1
  subst fe_3_0_1
  subst fe_3_1_1
  subst fe_3_2_1
  subst fe_4_0_1
  subst fe_4_3_1
  subst fe_4_5_1
  subst fe_4_6_1
  subst fe_0_0_2
  subst fe_0_1_2
  subst fe_0_18_2
  subst fe_3_0_2
  subst fe_3_1_2
  subst fe_3_2_2
  subst fe_4_0_2
  subst fe_4_3_2
  subst fe_4_5_2
  subst fe_4_6_2
  have e_hE_0_7_1 := funext hE_0_7_1; subst e_hE_0_7_1
  have e_hE_0_7_2 := funext hE_0_7_2; subst e_hE_0_7_2
  have e_hE_0_8_1 := funext hE_0_8_1; subst e_hE_0_8_1
  have e_hE_0_8_2 := funext hE_0_8_2; subst e_hE_0_8_2
  have e_hE_0_14_1 := funext hE_0_14_1; subst e_hE_0_14_1
  have e_hE_0_14_2 := funext hE_0_14_2; subst e_hE_0_14_2
  have e_hE_0_16_1 := funext hE_0_16_1; subst e_hE_0_16_1
  have e_hE_0_16_2 := funext hE_0_16_2; subst e_hE_0_16_2
  have e_hE_3_4_1 := funext hE_3_4_1; subst e_hE_3_4_1
  have e_hE_3_4_2 := funext hE_3_4_2; subst e_hE_3_4_2
  have e_hE_3_9_1 := funext hE_3_9_1; subst e_hE_3_9_1
  have e_hE_3_9_2 := funext hE_3_9_2; subst e_hE_3_9_2
  have e_hE_4_9_1 := funext hE_4_9_1; subst e_hE_4_9_1
  have e_hE_4_9_2 := funext hE_4_9_2; subst e_hE_4_9_2
  have e_hE_4_12_1 := funext hE_4_12_1; subst e_hE_4_12_1
  have e_hE_4_12_2 := funext hE_4_12_2; subst e_hE_4_12_2
  have e_hE_4_16_1 := funext hE_4_16_1; subst e_hE_4_16_1
  have e_hE_4_16_2 := funext hE_4_16_2; subst e_hE_4_16_2
  first
    | omega
  
set_option maxHeartbeats 4000000 in
theorem vc_Gr_step_10_2 (x6 : Int) (x8 : Int) (done_0 : Int) (past_0 : Int → Int) (tail_0 : Int → Int) (head_0 : Int → Int) (nodes_0 : Int) (edges_0 : Int) (near_0 : Int → Int) (part_0o3 : Int → Int) (turned_0o3 : Int → Int) (near_0o4 : Int → Int) (first_0o4 : Int → Int) (faceOf_0o4 : Int → Int) (known_0o3 : Int) (parts_0o3 : Int) (blocks_0o3 : Int) (planar_0o4 : Int) (barredEdges_0o4 : Int) (nodes_0o4 : Int) (edges_0o4 : Int) (undone_1 : Int) (tail_1 : Int → Int) (head_1 : Int → Int) (nodes_1 : Int) (edges_1 : Int) (near_1 : Int → Int) (part_1o3 : Int → Int) (turned_1o3 : Int → Int) (near_1o4 : Int → Int) (first_1o4 : Int → Int) (faceOf_1o4 : Int → Int) (known_1o3 : Int) (parts_1o3 : Int) (blocks_1o3 : Int) (planar_1o4 : Int) (barredEdges_1o4 : Int) (nodes_1o4 : Int) (edges_1o4 : Int) (done_2 : Int) (undone_2 : Int) (past_2 : Int → Int) (tail_2 : Int → Int) (head_2 : Int → Int) (nodes_2 : Int) (edges_2 : Int) (near_2 : Int → Int) (part_2o3 : Int → Int) (turned_2o3 : Int → Int) (near_2o4 : Int → Int) (first_2o4 : Int → Int) (faceOf_2o4 : Int → Int) (known_2o3 : Int) (parts_2o3 : Int) (blocks_2o3 : Int) (planar_2o4 : Int) (barredEdges_2o4 : Int) (nodes_2o4 : Int) (edges_2o4 : Int) (done_1 : Int) (past_1 : Int → Int) (gx : Int) (k6 : 1 ≤ x6 ∧ x6 ≤ 30) (k8 : 0 ≤ x8 ∧ x8 ≤ 29) (d1 : x6 + (-1) ≤ x8 ∧ x8 ≤ x6 + (-1)) (g2 : x8 = done_0) (g18 : x6 = done_2) (fe_0_0_1 : nodes_0 = nodes_1) (fe_0_1_1 : edges_0 = edges_1) (fe_0_17_1 : done_0 = done_1) (fe_3_0_1 : known_0o3 = known_1o3) (fe_3_1_1 : parts_0o3 = parts_1o3) (fe_3_2_1 : blocks_0o3 = blocks_1o3) (fe_4_0_1 : planar_0o4 = planar_1o4) (fe_4_3_1 : barredEdges_0o4 = barredEdges_1o4) (fe_4_5_1 : nodes_0o4 = nodes_1o4) (fe_4_6_1 : edges_0o4 = edges_1o4) (fe_0_0_2 : nodes_1 = nodes_2) (fe_0_1_2 : edges_1 = edges_2) (fe_0_18_2 : undone_1 = undone_2) (fe_3_0_2 : known_1o3 = known_2o3) (fe_3_1_2 : parts_1o3 = parts_2o3) (fe_3_2_2 : blocks_1o3 = blocks_2o3) (fe_4_0_2 : planar_1o4 = planar_2o4) (fe_4_3_2 : barredEdges_1o4 = barredEdges_2o4) (fe_4_5_2 : nodes_1o4 = nodes_2o4) (fe_4_6_2 : edges_1o4 = edges_2o4) (hE_0_7_1 : ∀ j : Int, tail_0 j = tail_1 j) (hE_0_7_2 : ∀ j : Int, tail_1 j = tail_2 j) (hE_0_8_1 : ∀ j : Int, head_0 j = head_1 j) (hE_0_8_2 : ∀ j : Int, head_1 j = head_2 j) (hE_0_14_1 : ∀ j : Int, near_0 j = near_1 j) (hE_0_14_2 : ∀ j : Int, near_1 j = near_2 j) (hE_0_16_1 : ∀ j : Int, past_0 j = past_1 j) (hE_0_16_2 : ∀ j : Int, past_1 j = past_2 j) (hE_3_4_1 : ∀ j : Int, part_0o3 j = part_1o3 j) (hE_3_4_2 : ∀ j : Int, part_1o3 j = part_2o3 j) (hE_3_9_1 : ∀ j : Int, turned_0o3 j = turned_1o3 j) (hE_3_9_2 : ∀ j : Int, turned_1o3 j = turned_2o3 j) (hE_4_9_1 : ∀ j : Int, near_0o4 j = near_1o4 j) (hE_4_9_2 : ∀ j : Int, near_1o4 j = near_2o4 j) (hE_4_12_1 : ∀ j : Int, first_0o4 j = first_1o4 j) (hE_4_12_2 : ∀ j : Int, first_1o4 j = first_2o4 j) (hE_4_16_1 : ∀ j : Int, faceOf_0o4 j = faceOf_1o4 j) (hE_4_16_2 : ∀ j : Int, faceOf_1o4 j = faceOf_2o4 j) (kz_0_0 : 0 ≤ nodes_0 ∧ nodes_0 ≤ 24) (kz_0_1 : 0 ≤ edges_0 ∧ edges_0 ≤ 48) (kz_0_17 : 0 ≤ done_0 ∧ done_0 ≤ 30) (kz_3_0 : 0 ≤ known_0o3 ∧ known_0o3 ≤ 1) (kz_3_1 : 0 ≤ parts_0o3 ∧ parts_0o3 ≤ 24) (kz_3_2 : 0 ≤ blocks_0o3 ∧ blocks_0o3 ≤ 48) (kz_4_0 : (-1) ≤ planar_0o4 ∧ planar_0o4 ≤ 1) (kz_4_3 : 0 ≤ barredEdges_0o4 ∧ barredEdges_0o4 ≤ 48) (kz_4_5 : 0 ≤ nodes_0o4 ∧ nodes_0o4 ≤ 24) (kz_4_6 : 0 ≤ edges_0o4 ∧ edges_0o4 ≤ 72) (ex2 : gx = x8) : (-1) * gx + (1 * x8 + 0) ≤ 0 := by
  subst fe_0_0_1
  subst fe_0_1_1
  subst fe_0_17_1
  subst fe_3_0_1
  subst fe_3_1_1
  subst fe_3_2_1
  subst fe_4_0_1
  subst fe_4_3_1
  subst fe_4_5_1
  subst fe_4_6_1
  subst fe_0_0_2
  subst fe_0_1_2
  subst fe_0_18_2
  subst fe_3_0_2
  subst fe_3_1_2
  subst fe_3_2_2
  subst fe_4_0_2
  subst fe_4_3_2
  subst fe_4_5_2
  subst fe_4_6_2
  have e_hE_0_7_1 := funext hE_0_7_1; subst e_hE_0_7_1
  have e_hE_0_7_2 := funext hE_0_7_2; subst e_hE_0_7_2
  have e_hE_0_8_1 := funext hE_0_8_1; subst e_hE_0_8_1
  have e_hE_0_8_2 := funext hE_0_8_2; subst e_hE_0_8_2
  have e_hE_0_14_1 := funext hE_0_14_1; subst e_hE_0_14_1
  have e_hE_0_14_2 := funext hE_0_14_2; subst e_hE_0_14_2
  have e_hE_0_16_1 := funext hE_0_16_1; subst e_hE_0_16_1
  have e_hE_0_16_2 := funext hE_0_16_2; subst e_hE_0_16_2
  have e_hE_3_4_1 := funext hE_3_4_1; subst e_hE_3_4_1
  have e_hE_3_4_2 := funext hE_3_4_2; subst e_hE_3_4_2
  have e_hE_3_9_1 := funext hE_3_9_1; subst e_hE_3_9_1
  have e_hE_3_9_2 := funext hE_3_9_2; subst e_hE_3_9_2
  have e_hE_4_9_1 := funext hE_4_9_1; subst e_hE_4_9_1
  have e_hE_4_9_2 := funext hE_4_9_2; subst e_hE_4_9_2
  have e_hE_4_12_1 := funext hE_4_12_1; subst e_hE_4_12_1
  have e_hE_4_12_2 := funext hE_4_12_2; subst e_hE_4_12_2
  have e_hE_4_16_1 := funext hE_4_16_1; subst e_hE_4_16_1
  have e_hE_4_16_2 := funext hE_4_16_2; subst e_hE_4_16_2
  first
    | omega
  
set_option maxHeartbeats 4000000 in
theorem vc_Gr_step_10_3 (x9 : Int) (x11 : Int) (undone_0 : Int) (done_0 : Int) (past_0 : Int → Int) (tail_0 : Int → Int) (head_0 : Int → Int) (nodes_0 : Int) (edges_0 : Int) (near_0 : Int → Int) (part_0o3 : Int → Int) (turned_0o3 : Int → Int) (near_0o4 : Int → Int) (first_0o4 : Int → Int) (faceOf_0o4 : Int → Int) (known_0o3 : Int) (parts_0o3 : Int) (blocks_0o3 : Int) (planar_0o4 : Int) (barredEdges_0o4 : Int) (nodes_0o4 : Int) (edges_0o4 : Int) (undone_1 : Int) (tail_1 : Int → Int) (head_1 : Int → Int) (nodes_1 : Int) (edges_1 : Int) (near_1 : Int → Int) (part_1o3 : Int → Int) (turned_1o3 : Int → Int) (near_1o4 : Int → Int) (first_1o4 : Int → Int) (faceOf_1o4 : Int → Int) (known_1o3 : Int) (parts_1o3 : Int) (blocks_1o3 : Int) (planar_1o4 : Int) (barredEdges_1o4 : Int) (nodes_1o4 : Int) (edges_1o4 : Int) (undone_2 : Int) (past_2 : Int → Int) (tail_2 : Int → Int) (head_2 : Int → Int) (nodes_2 : Int) (edges_2 : Int) (near_2 : Int → Int) (part_2o3 : Int → Int) (turned_2o3 : Int → Int) (near_2o4 : Int → Int) (first_2o4 : Int → Int) (faceOf_2o4 : Int → Int) (known_2o3 : Int) (parts_2o3 : Int) (blocks_2o3 : Int) (planar_2o4 : Int) (barredEdges_2o4 : Int) (nodes_2o4 : Int) (edges_2o4 : Int) (done_1 : Int) (past_1 : Int → Int) (gy : Int) (k9 : 0 ≤ x9 ∧ x9 ≤ 30) (k11 : 1 ≤ x11 ∧ x11 ≤ 30) (d0 : x9 + 1 ≤ x11 ∧ x11 ≤ x9 + 1) (g0 : x11 = undone_0) (g12 : x9 = undone_1) (fe_0_0_1 : nodes_0 = nodes_1) (fe_0_1_1 : edges_0 = edges_1) (fe_0_17_1 : done_0 = done_1) (fe_3_0_1 : known_0o3 = known_1o3) (fe_3_1_1 : parts_0o3 = parts_1o3) (fe_3_2_1 : blocks_0o3 = blocks_1o3) (fe_4_0_1 : planar_0o4 = planar_1o4) (fe_4_3_1 : barredEdges_0o4 = barredEdges_1o4) (fe_4_5_1 : nodes_0o4 = nodes_1o4) (fe_4_6_1 : edges_0o4 = edges_1o4) (fe_0_0_2 : nodes_1 = nodes_2) (fe_0_1_2 : edges_1 = edges_2) (fe_0_18_2 : undone_1 = undone_2) (fe_3_0_2 : known_1o3 = known_2o3) (fe_3_1_2 : parts_1o3 = parts_2o3) (fe_3_2_2 : blocks_1o3 = blocks_2o3) (fe_4_0_2 : planar_1o4 = planar_2o4) (fe_4_3_2 : barredEdges_1o4 = barredEdges_2o4) (fe_4_5_2 : nodes_1o4 = nodes_2o4) (fe_4_6_2 : edges_1o4 = edges_2o4) (hE_0_7_1 : ∀ j : Int, tail_0 j = tail_1 j) (hE_0_7_2 : ∀ j : Int, tail_1 j = tail_2 j) (hE_0_8_1 : ∀ j : Int, head_0 j = head_1 j) (hE_0_8_2 : ∀ j : Int, head_1 j = head_2 j) (hE_0_14_1 : ∀ j : Int, near_0 j = near_1 j) (hE_0_14_2 : ∀ j : Int, near_1 j = near_2 j) (hE_0_16_1 : ∀ j : Int, past_0 j = past_1 j) (hE_0_16_2 : ∀ j : Int, past_1 j = past_2 j) (hE_3_4_1 : ∀ j : Int, part_0o3 j = part_1o3 j) (hE_3_4_2 : ∀ j : Int, part_1o3 j = part_2o3 j) (hE_3_9_1 : ∀ j : Int, turned_0o3 j = turned_1o3 j) (hE_3_9_2 : ∀ j : Int, turned_1o3 j = turned_2o3 j) (hE_4_9_1 : ∀ j : Int, near_0o4 j = near_1o4 j) (hE_4_9_2 : ∀ j : Int, near_1o4 j = near_2o4 j) (hE_4_12_1 : ∀ j : Int, first_0o4 j = first_1o4 j) (hE_4_12_2 : ∀ j : Int, first_1o4 j = first_2o4 j) (hE_4_16_1 : ∀ j : Int, faceOf_0o4 j = faceOf_1o4 j) (hE_4_16_2 : ∀ j : Int, faceOf_1o4 j = faceOf_2o4 j) (kz_0_0 : 0 ≤ nodes_0 ∧ nodes_0 ≤ 24) (kz_0_1 : 0 ≤ edges_0 ∧ edges_0 ≤ 48) (kz_0_17 : 0 ≤ done_0 ∧ done_0 ≤ 30) (kz_0_18 : 0 ≤ undone_0 ∧ undone_0 ≤ 30) (kz_3_0 : 0 ≤ known_0o3 ∧ known_0o3 ≤ 1) (kz_3_1 : 0 ≤ parts_0o3 ∧ parts_0o3 ≤ 24) (kz_3_2 : 0 ≤ blocks_0o3 ∧ blocks_0o3 ≤ 48) (kz_4_0 : (-1) ≤ planar_0o4 ∧ planar_0o4 ≤ 1) (kz_4_3 : 0 ≤ barredEdges_0o4 ∧ barredEdges_0o4 ≤ 48) (kz_4_5 : 0 ≤ nodes_0o4 ∧ nodes_0o4 ≤ 24) (kz_4_6 : 0 ≤ edges_0o4 ∧ edges_0o4 ≤ 72) (ey2 : gy = x11) : 1 * gy + ((-1) * x11 + 0) ≤ 0 := by
  subst fe_0_0_1
  subst fe_0_1_1
  subst fe_0_17_1
  subst fe_3_0_1
  subst fe_3_1_1
  subst fe_3_2_1
  subst fe_4_0_1
  subst fe_4_3_1
  subst fe_4_5_1
  subst fe_4_6_1
  subst fe_0_0_2
  subst fe_0_1_2
  subst fe_0_18_2
  subst fe_3_0_2
  subst fe_3_1_2
  subst fe_3_2_2
  subst fe_4_0_2
  subst fe_4_3_2
  subst fe_4_5_2
  subst fe_4_6_2
  have e_hE_0_7_1 := funext hE_0_7_1; subst e_hE_0_7_1
  have e_hE_0_7_2 := funext hE_0_7_2; subst e_hE_0_7_2
  have e_hE_0_8_1 := funext hE_0_8_1; subst e_hE_0_8_1
  have e_hE_0_8_2 := funext hE_0_8_2; subst e_hE_0_8_2
  have e_hE_0_14_1 := funext hE_0_14_1; subst e_hE_0_14_1
  have e_hE_0_14_2 := funext hE_0_14_2; subst e_hE_0_14_2
  have e_hE_0_16_1 := funext hE_0_16_1; subst e_hE_0_16_1
  have e_hE_0_16_2 := funext hE_0_16_2; subst e_hE_0_16_2
  have e_hE_3_4_1 := funext hE_3_4_1; subst e_hE_3_4_1
  have e_hE_3_4_2 := funext hE_3_4_2; subst e_hE_3_4_2
  have e_hE_3_9_1 := funext hE_3_9_1; subst e_hE_3_9_1
  have e_hE_3_9_2 := funext hE_3_9_2; subst e_hE_3_9_2
  have e_hE_4_9_1 := funext hE_4_9_1; subst e_hE_4_9_1
  have e_hE_4_9_2 := funext hE_4_9_2; subst e_hE_4_9_2
  have e_hE_4_12_1 := funext hE_4_12_1; subst e_hE_4_12_1
  have e_hE_4_12_2 := funext hE_4_12_2; subst e_hE_4_12_2
  have e_hE_4_16_1 := funext hE_4_16_1; subst e_hE_4_16_1
  have e_hE_4_16_2 := funext hE_4_16_2; subst e_hE_4_16_2
  first
    | omega
  
set_option maxHeartbeats 4000000 in
theorem vc_Gr_step_10_4 (x9 : Int) (x11 : Int) (undone_0 : Int) (done_0 : Int) (past_0 : Int → Int) (tail_0 : Int → Int) (head_0 : Int → Int) (nodes_0 : Int) (edges_0 : Int) (near_0 : Int → Int) (part_0o3 : Int → Int) (turned_0o3 : Int → Int) (near_0o4 : Int → Int) (first_0o4 : Int → Int) (faceOf_0o4 : Int → Int) (known_0o3 : Int) (parts_0o3 : Int) (blocks_0o3 : Int) (planar_0o4 : Int) (barredEdges_0o4 : Int) (nodes_0o4 : Int) (edges_0o4 : Int) (undone_1 : Int) (tail_1 : Int → Int) (head_1 : Int → Int) (nodes_1 : Int) (edges_1 : Int) (near_1 : Int → Int) (part_1o3 : Int → Int) (turned_1o3 : Int → Int) (near_1o4 : Int → Int) (first_1o4 : Int → Int) (faceOf_1o4 : Int → Int) (known_1o3 : Int) (parts_1o3 : Int) (blocks_1o3 : Int) (planar_1o4 : Int) (barredEdges_1o4 : Int) (nodes_1o4 : Int) (edges_1o4 : Int) (undone_2 : Int) (past_2 : Int → Int) (tail_2 : Int → Int) (head_2 : Int → Int) (nodes_2 : Int) (edges_2 : Int) (near_2 : Int → Int) (part_2o3 : Int → Int) (turned_2o3 : Int → Int) (near_2o4 : Int → Int) (first_2o4 : Int → Int) (faceOf_2o4 : Int → Int) (known_2o3 : Int) (parts_2o3 : Int) (blocks_2o3 : Int) (planar_2o4 : Int) (barredEdges_2o4 : Int) (nodes_2o4 : Int) (edges_2o4 : Int) (done_1 : Int) (past_1 : Int → Int) (gy : Int) (k9 : 0 ≤ x9 ∧ x9 ≤ 30) (k11 : 1 ≤ x11 ∧ x11 ≤ 30) (d0 : x9 + 1 ≤ x11 ∧ x11 ≤ x9 + 1) (g0 : x11 = undone_0) (g12 : x9 = undone_1) (fe_0_0_1 : nodes_0 = nodes_1) (fe_0_1_1 : edges_0 = edges_1) (fe_0_17_1 : done_0 = done_1) (fe_3_0_1 : known_0o3 = known_1o3) (fe_3_1_1 : parts_0o3 = parts_1o3) (fe_3_2_1 : blocks_0o3 = blocks_1o3) (fe_4_0_1 : planar_0o4 = planar_1o4) (fe_4_3_1 : barredEdges_0o4 = barredEdges_1o4) (fe_4_5_1 : nodes_0o4 = nodes_1o4) (fe_4_6_1 : edges_0o4 = edges_1o4) (fe_0_0_2 : nodes_1 = nodes_2) (fe_0_1_2 : edges_1 = edges_2) (fe_0_18_2 : undone_1 = undone_2) (fe_3_0_2 : known_1o3 = known_2o3) (fe_3_1_2 : parts_1o3 = parts_2o3) (fe_3_2_2 : blocks_1o3 = blocks_2o3) (fe_4_0_2 : planar_1o4 = planar_2o4) (fe_4_3_2 : barredEdges_1o4 = barredEdges_2o4) (fe_4_5_2 : nodes_1o4 = nodes_2o4) (fe_4_6_2 : edges_1o4 = edges_2o4) (hE_0_7_1 : ∀ j : Int, tail_0 j = tail_1 j) (hE_0_7_2 : ∀ j : Int, tail_1 j = tail_2 j) (hE_0_8_1 : ∀ j : Int, head_0 j = head_1 j) (hE_0_8_2 : ∀ j : Int, head_1 j = head_2 j) (hE_0_14_1 : ∀ j : Int, near_0 j = near_1 j) (hE_0_14_2 : ∀ j : Int, near_1 j = near_2 j) (hE_0_16_1 : ∀ j : Int, past_0 j = past_1 j) (hE_0_16_2 : ∀ j : Int, past_1 j = past_2 j) (hE_3_4_1 : ∀ j : Int, part_0o3 j = part_1o3 j) (hE_3_4_2 : ∀ j : Int, part_1o3 j = part_2o3 j) (hE_3_9_1 : ∀ j : Int, turned_0o3 j = turned_1o3 j) (hE_3_9_2 : ∀ j : Int, turned_1o3 j = turned_2o3 j) (hE_4_9_1 : ∀ j : Int, near_0o4 j = near_1o4 j) (hE_4_9_2 : ∀ j : Int, near_1o4 j = near_2o4 j) (hE_4_12_1 : ∀ j : Int, first_0o4 j = first_1o4 j) (hE_4_12_2 : ∀ j : Int, first_1o4 j = first_2o4 j) (hE_4_16_1 : ∀ j : Int, faceOf_0o4 j = faceOf_1o4 j) (hE_4_16_2 : ∀ j : Int, faceOf_1o4 j = faceOf_2o4 j) (kz_0_0 : 0 ≤ nodes_0 ∧ nodes_0 ≤ 24) (kz_0_1 : 0 ≤ edges_0 ∧ edges_0 ≤ 48) (kz_0_17 : 0 ≤ done_0 ∧ done_0 ≤ 30) (kz_0_18 : 0 ≤ undone_0 ∧ undone_0 ≤ 30) (kz_3_0 : 0 ≤ known_0o3 ∧ known_0o3 ≤ 1) (kz_3_1 : 0 ≤ parts_0o3 ∧ parts_0o3 ≤ 24) (kz_3_2 : 0 ≤ blocks_0o3 ∧ blocks_0o3 ≤ 48) (kz_4_0 : (-1) ≤ planar_0o4 ∧ planar_0o4 ≤ 1) (kz_4_3 : 0 ≤ barredEdges_0o4 ∧ barredEdges_0o4 ≤ 48) (kz_4_5 : 0 ≤ nodes_0o4 ∧ nodes_0o4 ≤ 24) (kz_4_6 : 0 ≤ edges_0o4 ∧ edges_0o4 ≤ 72) (ey2 : gy = x11) : (-1) * gy + (1 * x11 + 0) ≤ 0 := by
  subst fe_0_0_1
  subst fe_0_1_1
  subst fe_0_17_1
  subst fe_3_0_1
  subst fe_3_1_1
  subst fe_3_2_1
  subst fe_4_0_1
  subst fe_4_3_1
  subst fe_4_5_1
  subst fe_4_6_1
  subst fe_0_0_2
  subst fe_0_1_2
  subst fe_0_18_2
  subst fe_3_0_2
  subst fe_3_1_2
  subst fe_3_2_2
  subst fe_4_0_2
  subst fe_4_3_2
  subst fe_4_5_2
  subst fe_4_6_2
  have e_hE_0_7_1 := funext hE_0_7_1; subst e_hE_0_7_1
  have e_hE_0_7_2 := funext hE_0_7_2; subst e_hE_0_7_2
  have e_hE_0_8_1 := funext hE_0_8_1; subst e_hE_0_8_1
  have e_hE_0_8_2 := funext hE_0_8_2; subst e_hE_0_8_2
  have e_hE_0_14_1 := funext hE_0_14_1; subst e_hE_0_14_1
  have e_hE_0_14_2 := funext hE_0_14_2; subst e_hE_0_14_2
  have e_hE_0_16_1 := funext hE_0_16_1; subst e_hE_0_16_1
  have e_hE_0_16_2 := funext hE_0_16_2; subst e_hE_0_16_2
  have e_hE_3_4_1 := funext hE_3_4_1; subst e_hE_3_4_1
  have e_hE_3_4_2 := funext hE_3_4_2; subst e_hE_3_4_2
  have e_hE_3_9_1 := funext hE_3_9_1; subst e_hE_3_9_1
  have e_hE_3_9_2 := funext hE_3_9_2; subst e_hE_3_9_2
  have e_hE_4_9_1 := funext hE_4_9_1; subst e_hE_4_9_1
  have e_hE_4_9_2 := funext hE_4_9_2; subst e_hE_4_9_2
  have e_hE_4_12_1 := funext hE_4_12_1; subst e_hE_4_12_1
  have e_hE_4_12_2 := funext hE_4_12_2; subst e_hE_4_12_2
  have e_hE_4_16_1 := funext hE_4_16_1; subst e_hE_4_16_1
  have e_hE_4_16_2 := funext hE_4_16_2; subst e_hE_4_16_2
  first
    | omega
  
set_option maxHeartbeats 4000000 in
theorem vc_Gr_step_10_5 (undone_0 : Int) (done_0 : Int) (past_0 : Int → Int) (tail_0 : Int → Int) (head_0 : Int → Int) (nodes_0 : Int) (edges_0 : Int) (near_0 : Int → Int) (part_0o3 : Int → Int) (turned_0o3 : Int → Int) (near_0o4 : Int → Int) (first_0o4 : Int → Int) (faceOf_0o4 : Int → Int) (known_0o3 : Int) (parts_0o3 : Int) (blocks_0o3 : Int) (planar_0o4 : Int) (barredEdges_0o4 : Int) (nodes_0o4 : Int) (edges_0o4 : Int) (undone_1 : Int) (tail_1 : Int → Int) (head_1 : Int → Int) (nodes_1 : Int) (edges_1 : Int) (near_1 : Int → Int) (part_1o3 : Int → Int) (turned_1o3 : Int → Int) (near_1o4 : Int → Int) (first_1o4 : Int → Int) (faceOf_1o4 : Int → Int) (known_1o3 : Int) (parts_1o3 : Int) (blocks_1o3 : Int) (planar_1o4 : Int) (barredEdges_1o4 : Int) (nodes_1o4 : Int) (edges_1o4 : Int) (undone_2 : Int) (past_2 : Int → Int) (tail_2 : Int → Int) (head_2 : Int → Int) (nodes_2 : Int) (edges_2 : Int) (near_2 : Int → Int) (part_2o3 : Int → Int) (turned_2o3 : Int → Int) (near_2o4 : Int → Int) (first_2o4 : Int → Int) (faceOf_2o4 : Int → Int) (known_2o3 : Int) (parts_2o3 : Int) (blocks_2o3 : Int) (planar_2o4 : Int) (barredEdges_2o4 : Int) (nodes_2o4 : Int) (edges_2o4 : Int) (done_1 : Int) (past_1 : Int → Int) (f4 : PDQ (done_0) (undone_0) (past_0)) (fe_0_0_1 : nodes_0 = nodes_1) (fe_0_1_1 : edges_0 = edges_1) (fe_0_17_1 : done_0 = done_1) (fe_3_0_1 : known_0o3 = known_1o3) (fe_3_1_1 : parts_0o3 = parts_1o3) (fe_3_2_1 : blocks_0o3 = blocks_1o3) (fe_4_0_1 : planar_0o4 = planar_1o4) (fe_4_3_1 : barredEdges_0o4 = barredEdges_1o4) (fe_4_5_1 : nodes_0o4 = nodes_1o4) (fe_4_6_1 : edges_0o4 = edges_1o4) (fe_0_0_2 : nodes_1 = nodes_2) (fe_0_1_2 : edges_1 = edges_2) (fe_0_18_2 : undone_1 = undone_2) (fe_3_0_2 : known_1o3 = known_2o3) (fe_3_1_2 : parts_1o3 = parts_2o3) (fe_3_2_2 : blocks_1o3 = blocks_2o3) (fe_4_0_2 : planar_1o4 = planar_2o4) (fe_4_3_2 : barredEdges_1o4 = barredEdges_2o4) (fe_4_5_2 : nodes_1o4 = nodes_2o4) (fe_4_6_2 : edges_1o4 = edges_2o4) (hE_0_7_1 : ∀ j : Int, tail_0 j = tail_1 j) (hE_0_7_2 : ∀ j : Int, tail_1 j = tail_2 j) (hE_0_8_1 : ∀ j : Int, head_0 j = head_1 j) (hE_0_8_2 : ∀ j : Int, head_1 j = head_2 j) (hE_0_14_1 : ∀ j : Int, near_0 j = near_1 j) (hE_0_14_2 : ∀ j : Int, near_1 j = near_2 j) (hE_0_16_1 : ∀ j : Int, past_0 j = past_1 j) (hE_0_16_2 : ∀ j : Int, past_1 j = past_2 j) (hE_3_4_1 : ∀ j : Int, part_0o3 j = part_1o3 j) (hE_3_4_2 : ∀ j : Int, part_1o3 j = part_2o3 j) (hE_3_9_1 : ∀ j : Int, turned_0o3 j = turned_1o3 j) (hE_3_9_2 : ∀ j : Int, turned_1o3 j = turned_2o3 j) (hE_4_9_1 : ∀ j : Int, near_0o4 j = near_1o4 j) (hE_4_9_2 : ∀ j : Int, near_1o4 j = near_2o4 j) (hE_4_12_1 : ∀ j : Int, first_0o4 j = first_1o4 j) (hE_4_12_2 : ∀ j : Int, first_1o4 j = first_2o4 j) (hE_4_16_1 : ∀ j : Int, faceOf_0o4 j = faceOf_1o4 j) (hE_4_16_2 : ∀ j : Int, faceOf_1o4 j = faceOf_2o4 j) (kz_0_0 : 0 ≤ nodes_0 ∧ nodes_0 ≤ 24) (kz_0_1 : 0 ≤ edges_0 ∧ edges_0 ≤ 48) (kz_0_17 : 0 ≤ done_0 ∧ done_0 ≤ 30) (kz_0_18 : 0 ≤ undone_0 ∧ undone_0 ≤ 30) (kz_3_0 : 0 ≤ known_0o3 ∧ known_0o3 ≤ 1) (kz_3_1 : 0 ≤ parts_0o3 ∧ parts_0o3 ≤ 24) (kz_3_2 : 0 ≤ blocks_0o3 ∧ blocks_0o3 ≤ 48) (kz_4_0 : (-1) ≤ planar_0o4 ∧ planar_0o4 ≤ 1) (kz_4_3 : 0 ≤ barredEdges_0o4 ∧ barredEdges_0o4 ≤ 48) (kz_4_5 : 0 ≤ nodes_0o4 ∧ nodes_0o4 ≤ 24) (kz_4_6 : 0 ≤ edges_0o4 ∧ edges_0o4 ≤ 72) : PDQ (done_0) (undone_0) (past_0) := by
  subst fe_0_0_1
  subst fe_0_1_1
  subst fe_0_17_1
  subst fe_3_0_1
  subst fe_3_1_1
  subst fe_3_2_1
  subst fe_4_0_1
  subst fe_4_3_1
  subst fe_4_5_1
  subst fe_4_6_1
  subst fe_0_0_2
  subst fe_0_1_2
  subst fe_0_18_2
  subst fe_3_0_2
  subst fe_3_1_2
  subst fe_3_2_2
  subst fe_4_0_2
  subst fe_4_3_2
  subst fe_4_5_2
  subst fe_4_6_2
  have e_hE_0_7_1 := funext hE_0_7_1; subst e_hE_0_7_1
  have e_hE_0_7_2 := funext hE_0_7_2; subst e_hE_0_7_2
  have e_hE_0_8_1 := funext hE_0_8_1; subst e_hE_0_8_1
  have e_hE_0_8_2 := funext hE_0_8_2; subst e_hE_0_8_2
  have e_hE_0_14_1 := funext hE_0_14_1; subst e_hE_0_14_1
  have e_hE_0_14_2 := funext hE_0_14_2; subst e_hE_0_14_2
  have e_hE_0_16_1 := funext hE_0_16_1; subst e_hE_0_16_1
  have e_hE_0_16_2 := funext hE_0_16_2; subst e_hE_0_16_2
  have e_hE_3_4_1 := funext hE_3_4_1; subst e_hE_3_4_1
  have e_hE_3_4_2 := funext hE_3_4_2; subst e_hE_3_4_2
  have e_hE_3_9_1 := funext hE_3_9_1; subst e_hE_3_9_1
  have e_hE_3_9_2 := funext hE_3_9_2; subst e_hE_3_9_2
  have e_hE_4_9_1 := funext hE_4_9_1; subst e_hE_4_9_1
  have e_hE_4_9_2 := funext hE_4_9_2; subst e_hE_4_9_2
  have e_hE_4_12_1 := funext hE_4_12_1; subst e_hE_4_12_1
  have e_hE_4_12_2 := funext hE_4_12_2; subst e_hE_4_12_2
  have e_hE_4_16_1 := funext hE_4_16_1; subst e_hE_4_16_1
  have e_hE_4_16_2 := funext hE_4_16_2; subst e_hE_4_16_2
  first
    | assumption
set_option maxHeartbeats 4000000 in
theorem vc_Gr_step_10_6 (x6 : Int) (x8 : Int) (x9 : Int) (x11 : Int) (undone_0 : Int) (done_0 : Int) (past_0 : Int → Int) (tail_0 : Int → Int) (head_0 : Int → Int) (nodes_0 : Int) (edges_0 : Int) (near_0 : Int → Int) (part_0o3 : Int → Int) (turned_0o3 : Int → Int) (near_0o4 : Int → Int) (first_0o4 : Int → Int) (faceOf_0o4 : Int → Int) (known_0o3 : Int) (parts_0o3 : Int) (blocks_0o3 : Int) (planar_0o4 : Int) (barredEdges_0o4 : Int) (nodes_0o4 : Int) (edges_0o4 : Int) (undone_1 : Int) (tail_1 : Int → Int) (head_1 : Int → Int) (nodes_1 : Int) (edges_1 : Int) (near_1 : Int → Int) (part_1o3 : Int → Int) (turned_1o3 : Int → Int) (near_1o4 : Int → Int) (first_1o4 : Int → Int) (faceOf_1o4 : Int → Int) (known_1o3 : Int) (parts_1o3 : Int) (blocks_1o3 : Int) (planar_1o4 : Int) (barredEdges_1o4 : Int) (nodes_1o4 : Int) (edges_1o4 : Int) (done_2 : Int) (undone_2 : Int) (past_2 : Int → Int) (tail_2 : Int → Int) (head_2 : Int → Int) (nodes_2 : Int) (edges_2 : Int) (near_2 : Int → Int) (part_2o3 : Int → Int) (turned_2o3 : Int → Int) (near_2o4 : Int → Int) (first_2o4 : Int → Int) (faceOf_2o4 : Int → Int) (known_2o3 : Int) (parts_2o3 : Int) (blocks_2o3 : Int) (planar_2o4 : Int) (barredEdges_2o4 : Int) (nodes_2o4 : Int) (edges_2o4 : Int) (done_1 : Int) (past_1 : Int → Int) (gx : Int) (gy : Int) (k6 : 1 ≤ x6 ∧ x6 ≤ 30) (k8 : 0 ≤ x8 ∧ x8 ≤ 29) (k9 : 0 ≤ x9 ∧ x9 ≤ 30) (k11 : 1 ≤ x11 ∧ x11 ≤ 30) (d0 : x9 + 1 ≤ x11 ∧ x11 ≤ x9 + 1) (d1 : x6 + (-1) ≤ x8 ∧ x8 ≤ x6 + (-1)) (g0 : x11 = undone_0) (g2 : x8 = done_0) (g12 : x9 = undone_1) (g18 : x6 = done_2) (fe_0_0_1 : nodes_0 = nodes_1) (fe_0_1_1 : edges_0 = edges_1) (fe_0_17_1 : done_0 = done_1) (fe_3_0_1 : known_0o3 = known_1o3) (fe_3_1_1 : parts_0o3 = parts_1o3) (fe_3_2_1 : blocks_0o3 = blocks_1o3) (fe_4_0_1 : planar_0o4 = planar_1o4) (fe_4_3_1 : barredEdges_0o4 = barredEdges_1o4) (fe_4_5_1 : nodes_0o4 = nodes_1o4) (fe_4_6_1 : edges_0o4 = edges_1o4) (fe_0_0_2 : nodes_1 = nodes_2) (fe_0_1_2 : edges_1 = edges_2) (fe_0_18_2 : undone_1 = undone_2) (fe_3_0_2 : known_1o3 = known_2o3) (fe_3_1_2 : parts_1o3 = parts_2o3) (fe_3_2_2 : blocks_1o3 = blocks_2o3) (fe_4_0_2 : planar_1o4 = planar_2o4) (fe_4_3_2 : barredEdges_1o4 = barredEdges_2o4) (fe_4_5_2 : nodes_1o4 = nodes_2o4) (fe_4_6_2 : edges_1o4 = edges_2o4) (hE_0_7_1 : ∀ j : Int, tail_0 j = tail_1 j) (hE_0_7_2 : ∀ j : Int, tail_1 j = tail_2 j) (hE_0_8_1 : ∀ j : Int, head_0 j = head_1 j) (hE_0_8_2 : ∀ j : Int, head_1 j = head_2 j) (hE_0_14_1 : ∀ j : Int, near_0 j = near_1 j) (hE_0_14_2 : ∀ j : Int, near_1 j = near_2 j) (hE_0_16_1 : ∀ j : Int, past_0 j = past_1 j) (hE_0_16_2 : ∀ j : Int, past_1 j = past_2 j) (hE_3_4_1 : ∀ j : Int, part_0o3 j = part_1o3 j) (hE_3_4_2 : ∀ j : Int, part_1o3 j = part_2o3 j) (hE_3_9_1 : ∀ j : Int, turned_0o3 j = turned_1o3 j) (hE_3_9_2 : ∀ j : Int, turned_1o3 j = turned_2o3 j) (hE_4_9_1 : ∀ j : Int, near_0o4 j = near_1o4 j) (hE_4_9_2 : ∀ j : Int, near_1o4 j = near_2o4 j) (hE_4_12_1 : ∀ j : Int, first_0o4 j = first_1o4 j) (hE_4_12_2 : ∀ j : Int, first_1o4 j = first_2o4 j) (hE_4_16_1 : ∀ j : Int, faceOf_0o4 j = faceOf_1o4 j) (hE_4_16_2 : ∀ j : Int, faceOf_1o4 j = faceOf_2o4 j) (kz_0_0 : 0 ≤ nodes_0 ∧ nodes_0 ≤ 24) (kz_0_1 : 0 ≤ edges_0 ∧ edges_0 ≤ 48) (kz_0_17 : 0 ≤ done_0 ∧ done_0 ≤ 30) (kz_0_18 : 0 ≤ undone_0 ∧ undone_0 ≤ 30) (kz_3_0 : 0 ≤ known_0o3 ∧ known_0o3 ≤ 1) (kz_3_1 : 0 ≤ parts_0o3 ∧ parts_0o3 ≤ 24) (kz_3_2 : 0 ≤ blocks_0o3 ∧ blocks_0o3 ≤ 48) (kz_4_0 : (-1) ≤ planar_0o4 ∧ planar_0o4 ≤ 1) (kz_4_3 : 0 ≤ barredEdges_0o4 ∧ barredEdges_0o4 ≤ 48) (kz_4_5 : 0 ≤ nodes_0o4 ∧ nodes_0o4 ≤ 24) (kz_4_6 : 0 ≤ edges_0o4 ∧ edges_0o4 ≤ 72) (ex2 : gx = x8) (ey2 : gy = x11) : (done_0 = gx) ∧ (undone_0 = gy) := by
  subst fe_0_0_1
  subst fe_0_1_1
  subst fe_0_17_1
  subst fe_3_0_1
  subst fe_3_1_1
  subst fe_3_2_1
  subst fe_4_0_1
  subst fe_4_3_1
  subst fe_4_5_1
  subst fe_4_6_1
  subst fe_0_0_2
  subst fe_0_1_2
  subst fe_0_18_2
  subst fe_3_0_2
  subst fe_3_1_2
  subst fe_3_2_2
  subst fe_4_0_2
  subst fe_4_3_2
  subst fe_4_5_2
  subst fe_4_6_2
  have e_hE_0_7_1 := funext hE_0_7_1; subst e_hE_0_7_1
  have e_hE_0_7_2 := funext hE_0_7_2; subst e_hE_0_7_2
  have e_hE_0_8_1 := funext hE_0_8_1; subst e_hE_0_8_1
  have e_hE_0_8_2 := funext hE_0_8_2; subst e_hE_0_8_2
  have e_hE_0_14_1 := funext hE_0_14_1; subst e_hE_0_14_1
  have e_hE_0_14_2 := funext hE_0_14_2; subst e_hE_0_14_2
  have e_hE_0_16_1 := funext hE_0_16_1; subst e_hE_0_16_1
  have e_hE_0_16_2 := funext hE_0_16_2; subst e_hE_0_16_2
  have e_hE_3_4_1 := funext hE_3_4_1; subst e_hE_3_4_1
  have e_hE_3_4_2 := funext hE_3_4_2; subst e_hE_3_4_2
  have e_hE_3_9_1 := funext hE_3_9_1; subst e_hE_3_9_1
  have e_hE_3_9_2 := funext hE_3_9_2; subst e_hE_3_9_2
  have e_hE_4_9_1 := funext hE_4_9_1; subst e_hE_4_9_1
  have e_hE_4_9_2 := funext hE_4_9_2; subst e_hE_4_9_2
  have e_hE_4_12_1 := funext hE_4_12_1; subst e_hE_4_12_1
  have e_hE_4_12_2 := funext hE_4_12_2; subst e_hE_4_12_2
  have e_hE_4_16_1 := funext hE_4_16_1; subst e_hE_4_16_1
  have e_hE_4_16_2 := funext hE_4_16_2; subst e_hE_4_16_2
  first
    | omega
  
set_option maxHeartbeats 4000000 in
theorem vc_Gr_step_10_7 (x6 : Int) (x8 : Int) (x9 : Int) (x11 : Int) (undone_0 : Int) (done_0 : Int) (past_0 : Int → Int) (tail_0 : Int → Int) (head_0 : Int → Int) (nodes_0 : Int) (edges_0 : Int) (near_0 : Int → Int) (part_0o3 : Int → Int) (turned_0o3 : Int → Int) (near_0o4 : Int → Int) (first_0o4 : Int → Int) (faceOf_0o4 : Int → Int) (known_0o3 : Int) (parts_0o3 : Int) (blocks_0o3 : Int) (planar_0o4 : Int) (barredEdges_0o4 : Int) (nodes_0o4 : Int) (edges_0o4 : Int) (undone_1 : Int) (tail_1 : Int → Int) (head_1 : Int → Int) (nodes_1 : Int) (edges_1 : Int) (near_1 : Int → Int) (part_1o3 : Int → Int) (turned_1o3 : Int → Int) (near_1o4 : Int → Int) (first_1o4 : Int → Int) (faceOf_1o4 : Int → Int) (known_1o3 : Int) (parts_1o3 : Int) (blocks_1o3 : Int) (planar_1o4 : Int) (barredEdges_1o4 : Int) (nodes_1o4 : Int) (edges_1o4 : Int) (done_2 : Int) (undone_2 : Int) (past_2 : Int → Int) (tail_2 : Int → Int) (head_2 : Int → Int) (nodes_2 : Int) (edges_2 : Int) (near_2 : Int → Int) (part_2o3 : Int → Int) (turned_2o3 : Int → Int) (near_2o4 : Int → Int) (first_2o4 : Int → Int) (faceOf_2o4 : Int → Int) (known_2o3 : Int) (parts_2o3 : Int) (blocks_2o3 : Int) (planar_2o4 : Int) (barredEdges_2o4 : Int) (nodes_2o4 : Int) (edges_2o4 : Int) (done_1 : Int) (past_1 : Int → Int) (gx : Int) (gy : Int) (k6 : 1 ≤ x6 ∧ x6 ≤ 30) (k8 : 0 ≤ x8 ∧ x8 ≤ 29) (k9 : 0 ≤ x9 ∧ x9 ≤ 30) (k11 : 1 ≤ x11 ∧ x11 ≤ 30) (d0 : x9 + 1 ≤ x11 ∧ x11 ≤ x9 + 1) (d1 : x6 + (-1) ≤ x8 ∧ x8 ≤ x6 + (-1)) (g0 : x11 = undone_0) (g2 : x8 = done_0) (f3 : (done_0 + undone_0) ≤ 30) (f5 : 1 ≤ (done_0 + undone_0)) (g12 : x9 = undone_1) (g18 : x6 = done_2) (fe_0_0_1 : nodes_0 = nodes_1) (fe_0_1_1 : edges_0 = edges_1) (fe_0_17_1 : done_0 = done_1) (fe_3_0_1 : known_0o3 = known_1o3) (fe_3_1_1 : parts_0o3 = parts_1o3) (fe_3_2_1 : blocks_0o3 = blocks_1o3) (fe_4_0_1 : planar_0o4 = planar_1o4) (fe_4_3_1 : barredEdges_0o4 = barredEdges_1o4) (fe_4_5_1 : nodes_0o4 = nodes_1o4) (fe_4_6_1 : edges_0o4 = edges_1o4) (fe_0_0_2 : nodes_1 = nodes_2) (fe_0_1_2 : edges_1 = edges_2) (fe_0_18_2 : undone_1 = undone_2) (fe_3_0_2 : known_1o3 = known_2o3) (fe_3_1_2 : parts_1o3 = parts_2o3) (fe_3_2_2 : blocks_1o3 = blocks_2o3) (fe_4_0_2 : planar_1o4 = planar_2o4) (fe_4_3_2 : barredEdges_1o4 = barredEdges_2o4) (fe_4_5_2 : nodes_1o4 = nodes_2o4) (fe_4_6_2 : edges_1o4 = edges_2o4) (hE_0_7_1 : ∀ j : Int, tail_0 j = tail_1 j) (hE_0_7_2 : ∀ j : Int, tail_1 j = tail_2 j) (hE_0_8_1 : ∀ j : Int, head_0 j = head_1 j) (hE_0_8_2 : ∀ j : Int, head_1 j = head_2 j) (hE_0_14_1 : ∀ j : Int, near_0 j = near_1 j) (hE_0_14_2 : ∀ j : Int, near_1 j = near_2 j) (hE_0_16_1 : ∀ j : Int, past_0 j = past_1 j) (hE_0_16_2 : ∀ j : Int, past_1 j = past_2 j) (hE_3_4_1 : ∀ j : Int, part_0o3 j = part_1o3 j) (hE_3_4_2 : ∀ j : Int, part_1o3 j = part_2o3 j) (hE_3_9_1 : ∀ j : Int, turned_0o3 j = turned_1o3 j) (hE_3_9_2 : ∀ j : Int, turned_1o3 j = turned_2o3 j) (hE_4_9_1 : ∀ j : Int, near_0o4 j = near_1o4 j) (hE_4_9_2 : ∀ j : Int, near_1o4 j = near_2o4 j) (hE_4_12_1 : ∀ j : Int, first_0o4 j = first_1o4 j) (hE_4_12_2 : ∀ j : Int, first_1o4 j = first_2o4 j) (hE_4_16_1 : ∀ j : Int, faceOf_0o4 j = faceOf_1o4 j) (hE_4_16_2 : ∀ j : Int, faceOf_1o4 j = faceOf_2o4 j) (kz_0_0 : 0 ≤ nodes_0 ∧ nodes_0 ≤ 24) (kz_0_1 : 0 ≤ edges_0 ∧ edges_0 ≤ 48) (kz_0_17 : 0 ≤ done_0 ∧ done_0 ≤ 30) (kz_0_18 : 0 ≤ undone_0 ∧ undone_0 ≤ 30) (kz_3_0 : 0 ≤ known_0o3 ∧ known_0o3 ≤ 1) (kz_3_1 : 0 ≤ parts_0o3 ∧ parts_0o3 ≤ 24) (kz_3_2 : 0 ≤ blocks_0o3 ∧ blocks_0o3 ≤ 48) (kz_4_0 : (-1) ≤ planar_0o4 ∧ planar_0o4 ≤ 1) (kz_4_3 : 0 ≤ barredEdges_0o4 ∧ barredEdges_0o4 ≤ 48) (kz_4_5 : 0 ≤ nodes_0o4 ∧ nodes_0o4 ≤ 24) (kz_4_6 : 0 ≤ edges_0o4 ∧ edges_0o4 ≤ 72) (ex2 : gx = x8) (ey2 : gy = x11) : (1 ≤ (done_0 + undone_0)) ∧ (x8 ≤ (done_0 + undone_0)) := by
  subst fe_0_0_1
  subst fe_0_1_1
  subst fe_0_17_1
  subst fe_3_0_1
  subst fe_3_1_1
  subst fe_3_2_1
  subst fe_4_0_1
  subst fe_4_3_1
  subst fe_4_5_1
  subst fe_4_6_1
  subst fe_0_0_2
  subst fe_0_1_2
  subst fe_0_18_2
  subst fe_3_0_2
  subst fe_3_1_2
  subst fe_3_2_2
  subst fe_4_0_2
  subst fe_4_3_2
  subst fe_4_5_2
  subst fe_4_6_2
  have e_hE_0_7_1 := funext hE_0_7_1; subst e_hE_0_7_1
  have e_hE_0_7_2 := funext hE_0_7_2; subst e_hE_0_7_2
  have e_hE_0_8_1 := funext hE_0_8_1; subst e_hE_0_8_1
  have e_hE_0_8_2 := funext hE_0_8_2; subst e_hE_0_8_2
  have e_hE_0_14_1 := funext hE_0_14_1; subst e_hE_0_14_1
  have e_hE_0_14_2 := funext hE_0_14_2; subst e_hE_0_14_2
  have e_hE_0_16_1 := funext hE_0_16_1; subst e_hE_0_16_1
  have e_hE_0_16_2 := funext hE_0_16_2; subst e_hE_0_16_2
  have e_hE_3_4_1 := funext hE_3_4_1; subst e_hE_3_4_1
  have e_hE_3_4_2 := funext hE_3_4_2; subst e_hE_3_4_2
  have e_hE_3_9_1 := funext hE_3_9_1; subst e_hE_3_9_1
  have e_hE_3_9_2 := funext hE_3_9_2; subst e_hE_3_9_2
  have e_hE_4_9_1 := funext hE_4_9_1; subst e_hE_4_9_1
  have e_hE_4_9_2 := funext hE_4_9_2; subst e_hE_4_9_2
  have e_hE_4_12_1 := funext hE_4_12_1; subst e_hE_4_12_1
  have e_hE_4_12_2 := funext hE_4_12_2; subst e_hE_4_12_2
  have e_hE_4_16_1 := funext hE_4_16_1; subst e_hE_4_16_1
  have e_hE_4_16_2 := funext hE_4_16_2; subst e_hE_4_16_2
  first
    | omega
  
set_option maxHeartbeats 4000000 in
theorem vc_Gr_step_10_8 (x6 : Int) (x8 : Int) (x9 : Int) (x11 : Int) (undone_0 : Int) (done_0 : Int) (past_0 : Int → Int) (tail_0 : Int → Int) (head_0 : Int → Int) (nodes_0 : Int) (edges_0 : Int) (near_0 : Int → Int) (part_0o3 : Int → Int) (turned_0o3 : Int → Int) (near_0o4 : Int → Int) (first_0o4 : Int → Int) (faceOf_0o4 : Int → Int) (known_0o3 : Int) (parts_0o3 : Int) (blocks_0o3 : Int) (planar_0o4 : Int) (barredEdges_0o4 : Int) (nodes_0o4 : Int) (edges_0o4 : Int) (undone_1 : Int) (tail_1 : Int → Int) (head_1 : Int → Int) (nodes_1 : Int) (edges_1 : Int) (near_1 : Int → Int) (part_1o3 : Int → Int) (turned_1o3 : Int → Int) (near_1o4 : Int → Int) (first_1o4 : Int → Int) (faceOf_1o4 : Int → Int) (known_1o3 : Int) (parts_1o3 : Int) (blocks_1o3 : Int) (planar_1o4 : Int) (barredEdges_1o4 : Int) (nodes_1o4 : Int) (edges_1o4 : Int) (done_2 : Int) (undone_2 : Int) (past_2 : Int → Int) (tail_2 : Int → Int) (head_2 : Int → Int) (nodes_2 : Int) (edges_2 : Int) (near_2 : Int → Int) (part_2o3 : Int → Int) (turned_2o3 : Int → Int) (near_2o4 : Int → Int) (first_2o4 : Int → Int) (faceOf_2o4 : Int → Int) (known_2o3 : Int) (parts_2o3 : Int) (blocks_2o3 : Int) (planar_2o4 : Int) (barredEdges_2o4 : Int) (nodes_2o4 : Int) (edges_2o4 : Int) (done_1 : Int) (past_1 : Int → Int) (gx : Int) (gy : Int) (k6 : 1 ≤ x6 ∧ x6 ≤ 30) (k8 : 0 ≤ x8 ∧ x8 ≤ 29) (k9 : 0 ≤ x9 ∧ x9 ≤ 30) (k11 : 1 ≤ x11 ∧ x11 ≤ 30) (d0 : x9 + 1 ≤ x11 ∧ x11 ≤ x9 + 1) (d1 : x6 + (-1) ≤ x8 ∧ x8 ≤ x6 + (-1)) (g0 : x11 = undone_0) (g2 : x8 = done_0) (g12 : x9 = undone_1) (g18 : x6 = done_2) (fe_0_0_1 : nodes_0 = nodes_1) (fe_0_1_1 : edges_0 = edges_1) (fe_0_17_1 : done_0 = done_1) (fe_3_0_1 : known_0o3 = known_1o3) (fe_3_1_1 : parts_0o3 = parts_1o3) (fe_3_2_1 : blocks_0o3 = blocks_1o3) (fe_4_0_1 : planar_0o4 = planar_1o4) (fe_4_3_1 : barredEdges_0o4 = barredEdges_1o4) (fe_4_5_1 : nodes_0o4 = nodes_1o4) (fe_4_6_1 : edges_0o4 = edges_1o4) (fe_0_0_2 : nodes_1 = nodes_2) (fe_0_1_2 : edges_1 = edges_2) (fe_0_18_2 : undone_1 = undone_2) (fe_3_0_2 : known_1o3 = known_2o3) (fe_3_1_2 : parts_1o3 = parts_2o3) (fe_3_2_2 : blocks_1o3 = blocks_2o3) (fe_4_0_2 : planar_1o4 = planar_2o4) (fe_4_3_2 : barredEdges_1o4 = barredEdges_2o4) (fe_4_5_2 : nodes_1o4 = nodes_2o4) (fe_4_6_2 : edges_1o4 = edges_2o4) (hE_0_7_1 : ∀ j : Int, tail_0 j = tail_1 j) (hE_0_7_2 : ∀ j : Int, tail_1 j = tail_2 j) (hE_0_8_1 : ∀ j : Int, head_0 j = head_1 j) (hE_0_8_2 : ∀ j : Int, head_1 j = head_2 j) (hE_0_14_1 : ∀ j : Int, near_0 j = near_1 j) (hE_0_14_2 : ∀ j : Int, near_1 j = near_2 j) (hE_0_16_1 : ∀ j : Int, past_0 j = past_1 j) (hE_0_16_2 : ∀ j : Int, past_1 j = past_2 j) (hE_3_4_1 : ∀ j : Int, part_0o3 j = part_1o3 j) (hE_3_4_2 : ∀ j : Int, part_1o3 j = part_2o3 j) (hE_3_9_1 : ∀ j : Int, turned_0o3 j = turned_1o3 j) (hE_3_9_2 : ∀ j : Int, turned_1o3 j = turned_2o3 j) (hE_4_9_1 : ∀ j : Int, near_0o4 j = near_1o4 j) (hE_4_9_2 : ∀ j : Int, near_1o4 j = near_2o4 j) (hE_4_12_1 : ∀ j : Int, first_0o4 j = first_1o4 j) (hE_4_12_2 : ∀ j : Int, first_1o4 j = first_2o4 j) (hE_4_16_1 : ∀ j : Int, faceOf_0o4 j = faceOf_1o4 j) (hE_4_16_2 : ∀ j : Int, faceOf_1o4 j = faceOf_2o4 j) (kz_0_0 : 0 ≤ nodes_0 ∧ nodes_0 ≤ 24) (kz_0_1 : 0 ≤ edges_0 ∧ edges_0 ≤ 48) (kz_0_17 : 0 ≤ done_0 ∧ done_0 ≤ 30) (kz_0_18 : 0 ≤ undone_0 ∧ undone_0 ≤ 30) (kz_3_0 : 0 ≤ known_0o3 ∧ known_0o3 ≤ 1) (kz_3_1 : 0 ≤ parts_0o3 ∧ parts_0o3 ≤ 24) (kz_3_2 : 0 ≤ blocks_0o3 ∧ blocks_0o3 ≤ 48) (kz_4_0 : (-1) ≤ planar_0o4 ∧ planar_0o4 ≤ 1) (kz_4_3 : 0 ≤ barredEdges_0o4 ∧ barredEdges_0o4 ≤ 48) (kz_4_5 : 0 ≤ nodes_0o4 ∧ nodes_0o4 ≤ 24) (kz_4_6 : 0 ≤ edges_0o4 ∧ edges_0o4 ≤ 72) (ex2 : gx = x8) (ey2 : gy = x11) : (done_0 = gx) ∧ (undone_0 = gy) := by
  subst fe_0_0_1
  subst fe_0_1_1
  subst fe_0_17_1
  subst fe_3_0_1
  subst fe_3_1_1
  subst fe_3_2_1
  subst fe_4_0_1
  subst fe_4_3_1
  subst fe_4_5_1
  subst fe_4_6_1
  subst fe_0_0_2
  subst fe_0_1_2
  subst fe_0_18_2
  subst fe_3_0_2
  subst fe_3_1_2
  subst fe_3_2_2
  subst fe_4_0_2
  subst fe_4_3_2
  subst fe_4_5_2
  subst fe_4_6_2
  have e_hE_0_7_1 := funext hE_0_7_1; subst e_hE_0_7_1
  have e_hE_0_7_2 := funext hE_0_7_2; subst e_hE_0_7_2
  have e_hE_0_8_1 := funext hE_0_8_1; subst e_hE_0_8_1
  have e_hE_0_8_2 := funext hE_0_8_2; subst e_hE_0_8_2
  have e_hE_0_14_1 := funext hE_0_14_1; subst e_hE_0_14_1
  have e_hE_0_14_2 := funext hE_0_14_2; subst e_hE_0_14_2
  have e_hE_0_16_1 := funext hE_0_16_1; subst e_hE_0_16_1
  have e_hE_0_16_2 := funext hE_0_16_2; subst e_hE_0_16_2
  have e_hE_3_4_1 := funext hE_3_4_1; subst e_hE_3_4_1
  have e_hE_3_4_2 := funext hE_3_4_2; subst e_hE_3_4_2
  have e_hE_3_9_1 := funext hE_3_9_1; subst e_hE_3_9_1
  have e_hE_3_9_2 := funext hE_3_9_2; subst e_hE_3_9_2
  have e_hE_4_9_1 := funext hE_4_9_1; subst e_hE_4_9_1
  have e_hE_4_9_2 := funext hE_4_9_2; subst e_hE_4_9_2
  have e_hE_4_12_1 := funext hE_4_12_1; subst e_hE_4_12_1
  have e_hE_4_12_2 := funext hE_4_12_2; subst e_hE_4_12_2
  have e_hE_4_16_1 := funext hE_4_16_1; subst e_hE_4_16_1
  have e_hE_4_16_2 := funext hE_4_16_2; subst e_hE_4_16_2
  first
    | omega
  
def o_Gr_step_10 : or_T := (85, 12, [(0, (2, 0, 0, [3])), (3, (2, 0, 0, [2])), (4, (2, 0, 0, [5])), (5, (0, 0, 60, [])), (6, (0, 1, 30, [])), (8, (0, 0, 29, [])), (9, (0, 0, 30, [])), (11, (0, 1, 30, []))], [(9, [11, 0], [18]), (9, [8, 0], [17]), (20, [0], [50, 2, 0, 17, 18, 0, 8, 4, 3, 2, 0, 17, 2, 0, 18, 0, 30]), (20, [0], [60, 2, 1, 739, 17, 18, 16]), (20, [0], [50, 2, 0, 17, 18, 0, 2, 0, 1, 4, 3, 2, 0, 17, 2, 0, 18]), (20, [0, 5], [50, 2, 0, 17, 18, 1, 8, 4, 3, 2, 0, 17, 2, 0, 18, 1, 1]), (101, [0, 11], [18]), (9, [9, 0], [18]), (101, [0, 8], [17]), (9, [6, 0], [17])], [], [(0, 0, 30, []), (0, 0, 30, [])], [(20, [8, 11, 5], [50, 0, 0, 1, 6, 4, 2, 1, 0, 1, 1, 1, 2]), (23, [12, 8], [0, 1, -1]), (23, [12, 8], [0, -1, 1]), (23, [13, 11], [0, 1, -1]), (23, [13, 11], [0, -1, 1]), (20, [0], [60, 2, 1, 739, 17, 18, 16]), (20, [0, 12, 13], [50, 2, 0, 17, 18, 2, 7, 1, 3, 2, 0, 17, 1, 1, 1, 3, 2, 0, 18, 1, 2]), (20, [0, 8], [50, 2, 0, 17, 18, 2, 12, 0, 2, 0, 1, 4, 3, 2, 0, 17, 2, 0, 18, 0, 2, 1, 1, 4, 3, 2, 0, 17, 2, 0, 18]), (20, [0, 12, 13], [50, 2, 0, 17, 18, 2, 7, 1, 3, 2, 0, 17, 1, 1, 1, 3, 2, 0, 18, 1, 2])], [], [(11, 9, 1, 1), (8, 6, -1, -1)])
theorem oo_Gr_step_10 {kA : Nat → ClassId} : or_ok PRD kA GG o_Gr_step_10 := by
  refine or_mk fun A ta ws vs hD hth hl => ?_
  intro t0 r0 t3 r3 t4 r4 t5 k5 t6 k6 t8 k8 t9 k9 t11 k11 d0 d1 f0 f2 f3 f4 f5 f6 ta1 w1 le1 s1 f12 ta2 w2 le2 s2 f18
  replace f0 := shm_799 f0
  replace f2 := shm_795 f2
  replace f3 := shm_1511 f3
  replace f4 := shm_1361 f4
  replace f5 := shm_1515 f5
  replace f6 := shm_1512 f6
  have s1 : (∀ b j, w_el ws b j = w_el w1 b j) ∧ ∀ b j, w_fd ws b j = if b = v_ad (n_v vs 0) ∧ j = 18 then n_v vs 11 else w_fd w1 b j := s1.2
  replace f12 := shm_799 f12
  have s2 : (∀ b j, w_el w1 b j = w_el w2 b j) ∧ ∀ b j, w_fd w1 b j = if b = v_ad (n_v vs 0) ∧ j = 17 then n_v vs 8 else w_fd w2 b j := s2.2
  replace f18 := shm_795 f18
  have g0 : v_iv (n_v vs 11) = w_fi ws (n_v vs 0) 18 := congrArg v_iv f0
  have g2 : v_iv (n_v vs 8) = w_fi ws (n_v vs 0) 17 := congrArg v_iv f2
  have g12 : v_iv (n_v vs 9) = w_fi w1 (n_v vs 0) 18 := congrArg v_iv f12
  have g18 : v_iv (n_v vs 6) = w_fi w2 (n_v vs 0) 17 := congrArg v_iv f18
  have fe_0_0_1 : w_fi ws (n_v vs 0) 0 = w_fi w1 (n_v vs 0) 0 := by show v_iv (w_fd _ _ _) = v_iv (w_fd _ _ _); rw [s1.2, if_neg (fun e => absurd e.2 (by decide))]
  have fe_0_1_1 : w_fi ws (n_v vs 0) 1 = w_fi w1 (n_v vs 0) 1 := by show v_iv (w_fd _ _ _) = v_iv (w_fd _ _ _); rw [s1.2, if_neg (fun e => absurd e.2 (by decide))]
  have fe_0_17_1 : w_fi ws (n_v vs 0) 17 = w_fi w1 (n_v vs 0) 17 := by show v_iv (w_fd _ _ _) = v_iv (w_fd _ _ _); rw [s1.2, if_neg (fun e => absurd e.2 (by decide))]
  have fe_3_0_1 : w_fi ws (n_v vs 3) 0 = w_fi w1 (n_v vs 3) 0 := by show v_iv (w_fd _ _ _) = v_iv (w_fd _ _ _); rw [s1.2, if_neg (fun e => absurd e.2 (by decide))]
  have fe_3_1_1 : w_fi ws (n_v vs 3) 1 = w_fi w1 (n_v vs 3) 1 := by show v_iv (w_fd _ _ _) = v_iv (w_fd _ _ _); rw [s1.2, if_neg (fun e => absurd e.2 (by decide))]
  have fe_3_2_1 : w_fi ws (n_v vs 3) 2 = w_fi w1 (n_v vs 3) 2 := by show v_iv (w_fd _ _ _) = v_iv (w_fd _ _ _); rw [s1.2, if_neg (fun e => absurd e.2 (by decide))]
  have fe_4_0_1 : w_fi ws (n_v vs 4) 0 = w_fi w1 (n_v vs 4) 0 := by show v_iv (w_fd _ _ _) = v_iv (w_fd _ _ _); rw [s1.2, if_neg (fun e => absurd e.2 (by decide))]
  have fe_4_3_1 : w_fi ws (n_v vs 4) 3 = w_fi w1 (n_v vs 4) 3 := by show v_iv (w_fd _ _ _) = v_iv (w_fd _ _ _); rw [s1.2, if_neg (fun e => absurd e.2 (by decide))]
  have fe_4_5_1 : w_fi ws (n_v vs 4) 5 = w_fi w1 (n_v vs 4) 5 := by show v_iv (w_fd _ _ _) = v_iv (w_fd _ _ _); rw [s1.2, if_neg (fun e => absurd e.2 (by decide))]
  have fe_4_6_1 : w_fi ws (n_v vs 4) 6 = w_fi w1 (n_v vs 4) 6 := by show v_iv (w_fd _ _ _) = v_iv (w_fd _ _ _); rw [s1.2, if_neg (fun e => absurd e.2 (by decide))]
  have fe_0_0_2 : w_fi w1 (n_v vs 0) 0 = w_fi w2 (n_v vs 0) 0 := by show v_iv (w_fd _ _ _) = v_iv (w_fd _ _ _); rw [s2.2, if_neg (fun e => absurd e.2 (by decide))]
  have fe_0_1_2 : w_fi w1 (n_v vs 0) 1 = w_fi w2 (n_v vs 0) 1 := by show v_iv (w_fd _ _ _) = v_iv (w_fd _ _ _); rw [s2.2, if_neg (fun e => absurd e.2 (by decide))]
  have fe_0_18_2 : w_fi w1 (n_v vs 0) 18 = w_fi w2 (n_v vs 0) 18 := by show v_iv (w_fd _ _ _) = v_iv (w_fd _ _ _); rw [s2.2, if_neg (fun e => absurd e.2 (by decide))]
  have fe_3_0_2 : w_fi w1 (n_v vs 3) 0 = w_fi w2 (n_v vs 3) 0 := by show v_iv (w_fd _ _ _) = v_iv (w_fd _ _ _); rw [s2.2, if_neg (fun e => absurd e.2 (by decide))]
  have fe_3_1_2 : w_fi w1 (n_v vs 3) 1 = w_fi w2 (n_v vs 3) 1 := by show v_iv (w_fd _ _ _) = v_iv (w_fd _ _ _); rw [s2.2, if_neg (fun e => absurd e.2 (by decide))]
  have fe_3_2_2 : w_fi w1 (n_v vs 3) 2 = w_fi w2 (n_v vs 3) 2 := by show v_iv (w_fd _ _ _) = v_iv (w_fd _ _ _); rw [s2.2, if_neg (fun e => absurd e.2 (by decide))]
  have fe_4_0_2 : w_fi w1 (n_v vs 4) 0 = w_fi w2 (n_v vs 4) 0 := by show v_iv (w_fd _ _ _) = v_iv (w_fd _ _ _); rw [s2.2, if_neg (fun e => absurd e.2 (by decide))]
  have fe_4_3_2 : w_fi w1 (n_v vs 4) 3 = w_fi w2 (n_v vs 4) 3 := by show v_iv (w_fd _ _ _) = v_iv (w_fd _ _ _); rw [s2.2, if_neg (fun e => absurd e.2 (by decide))]
  have fe_4_5_2 : w_fi w1 (n_v vs 4) 5 = w_fi w2 (n_v vs 4) 5 := by show v_iv (w_fd _ _ _) = v_iv (w_fd _ _ _); rw [s2.2, if_neg (fun e => absurd e.2 (by decide))]
  have fe_4_6_2 : w_fi w1 (n_v vs 4) 6 = w_fi w2 (n_v vs 4) 6 := by show v_iv (w_fd _ _ _) = v_iv (w_fd _ _ _); rw [s2.2, if_neg (fun e => absurd e.2 (by decide))]
  have hE_0_7_1 : ∀ j : Int, w_ei ws (w_ar ws (n_v vs 0) 7) j = w_ei w1 (w_ar ws (n_v vs 0) 7) j := fun j => s1.1 _ _
  have hE_0_7_2 : ∀ j : Int, w_ei w1 (w_ar ws (n_v vs 0) 7) j = w_ei w2 (w_ar ws (n_v vs 0) 7) j := fun j => s2.1 _ _
  have hE_0_8_1 : ∀ j : Int, w_ei ws (w_ar ws (n_v vs 0) 8) j = w_ei w1 (w_ar ws (n_v vs 0) 8) j := fun j => s1.1 _ _
  have hE_0_8_2 : ∀ j : Int, w_ei w1 (w_ar ws (n_v vs 0) 8) j = w_ei w2 (w_ar ws (n_v vs 0) 8) j := fun j => s2.1 _ _
  have hE_0_14_1 : ∀ j : Int, w_ei ws (w_ar ws (n_v vs 0) 14) j = w_ei w1 (w_ar ws (n_v vs 0) 14) j := fun j => s1.1 _ _
  have hE_0_14_2 : ∀ j : Int, w_ei w1 (w_ar ws (n_v vs 0) 14) j = w_ei w2 (w_ar ws (n_v vs 0) 14) j := fun j => s2.1 _ _
  have hE_0_16_1 : ∀ j : Int, w_ei ws (w_ar ws (n_v vs 0) 16) j = w_ei w1 (w_ar ws (n_v vs 0) 16) j := fun j => s1.1 _ _
  have hE_0_16_2 : ∀ j : Int, w_ei w1 (w_ar ws (n_v vs 0) 16) j = w_ei w2 (w_ar ws (n_v vs 0) 16) j := fun j => s2.1 _ _
  have hE_3_4_1 : ∀ j : Int, w_ei ws (w_ar ws (n_v vs 3) 4) j = w_ei w1 (w_ar ws (n_v vs 3) 4) j := fun j => s1.1 _ _
  have hE_3_4_2 : ∀ j : Int, w_ei w1 (w_ar ws (n_v vs 3) 4) j = w_ei w2 (w_ar ws (n_v vs 3) 4) j := fun j => s2.1 _ _
  have hE_3_9_1 : ∀ j : Int, w_ei ws (w_ar ws (n_v vs 3) 9) j = w_ei w1 (w_ar ws (n_v vs 3) 9) j := fun j => s1.1 _ _
  have hE_3_9_2 : ∀ j : Int, w_ei w1 (w_ar ws (n_v vs 3) 9) j = w_ei w2 (w_ar ws (n_v vs 3) 9) j := fun j => s2.1 _ _
  have hE_4_9_1 : ∀ j : Int, w_ei ws (w_ar ws (n_v vs 4) 9) j = w_ei w1 (w_ar ws (n_v vs 4) 9) j := fun j => s1.1 _ _
  have hE_4_9_2 : ∀ j : Int, w_ei w1 (w_ar ws (n_v vs 4) 9) j = w_ei w2 (w_ar ws (n_v vs 4) 9) j := fun j => s2.1 _ _
  have hE_4_12_1 : ∀ j : Int, w_ei ws (w_ar ws (n_v vs 4) 12) j = w_ei w1 (w_ar ws (n_v vs 4) 12) j := fun j => s1.1 _ _
  have hE_4_12_2 : ∀ j : Int, w_ei w1 (w_ar ws (n_v vs 4) 12) j = w_ei w2 (w_ar ws (n_v vs 4) 12) j := fun j => s2.1 _ _
  have hE_4_16_1 : ∀ j : Int, w_ei ws (w_ar ws (n_v vs 4) 16) j = w_ei w1 (w_ar ws (n_v vs 4) 16) j := fun j => s1.1 _ _
  have hE_4_16_2 : ∀ j : Int, w_ei w1 (w_ar ws (n_v vs 4) 16) j = w_ei w2 (w_ar ws (n_v vs 4) 16) j := fun j => s2.1 _ _
  have kz_0_0 := fdq_21 hD hth r0
  have kz_0_1 := fdq_30 hD hth r0
  have kz_0_17 := fdq_288 hD hth r0
  have kz_0_18 := fdq_289 hD hth r0
  have kz_3_0 := fdq_294 hD hth r3
  have kz_3_1 := fdq_278 hD hth r3
  have kz_3_2 := fdq_295 hD hth r3
  have kz_4_0 := fdq_78 hD hth r4
  have kz_4_3 := fdq_79 hD hth r4
  have kz_4_5 := fdq_82 hD hth r4
  have kz_4_6 := fdq_59 hD hth r4
  obtain ⟨x, ex, hx⟩ := iv_ex (ta := ta) (lo := 0) (hi := 30) (z := v_iv (n_v vs 8)) (by omega) (by omega) (by omega) (by omega)
  have ex2 : v_iv (Value.int x) = v_iv (n_v vs 8) := ex
  have ex3 : 0 ≤ v_iv (Value.int x) ∧ v_iv (Value.int x) ≤ 30 := tv_rng hx
  obtain ⟨y, ey, hy⟩ := iv_ex (ta := ta) (lo := 0) (hi := 30) (z := v_iv (n_v vs 11)) (by omega) (by omega) (by omega) (by omega)
  have ey2 : v_iv (Value.int y) = v_iv (n_v vs 11) := ey
  have ey3 : 0 ≤ v_iv (Value.int y) ∧ v_iv (Value.int y) ≤ 30 := tv_rng hy
  have e_0 : n_v (vs ++ [Value.int x, Value.int y]) 0 = n_v vs 0 := n_v_old (by rw [hl]; decide)
  have e_5 : n_v (vs ++ [Value.int x, Value.int y]) 5 = n_v vs 5 := n_v_old (by rw [hl]; decide)
  have e_8 : n_v (vs ++ [Value.int x, Value.int y]) 8 = n_v vs 8 := n_v_old (by rw [hl]; decide)
  have e_11 : n_v (vs ++ [Value.int x, Value.int y]) 11 = n_v vs 11 := n_v_old (by rw [hl]; decide)
  have e_12 : n_v (vs ++ [Value.int x, Value.int y]) 12 = Value.int x := n_v_new0 hl
  have e_13 : n_v (vs ++ [Value.int x, Value.int y]) 13 = Value.int y := n_v_new1 hl
  have nf0 : fc_1 PRD (20, [8, 11, 5], [50, 0, 0, 1, 6, 4, 2, 1, 0, 1, 1, 1, 2]) ws (vs ++ [Value.int x, Value.int y]) := by
    refine ⟨nf_inA hl rfl, sgq_1516 ?_⟩
    · show (v_iv (n_v (vs ++ [Value.int x, Value.int y]) 8) + v_iv (n_v (vs ++ [Value.int x, Value.int y]) 11)) = v_iv (n_v (vs ++ [Value.int x, Value.int y]) 5)
      simp only [e_5, e_8, e_11]
      exact vc_Gr_step_10_0 (v_iv (n_v vs 5)) (v_iv (n_v vs 8)) (v_iv (n_v vs 11)) (w_fi ws (n_v vs 0) 18) (w_fi ws (n_v vs 0) 17) (w_ei ws (w_ar ws (n_v vs 0) 16)) (w_ei ws (w_ar ws (n_v vs 0) 7)) (w_ei ws (w_ar ws (n_v vs 0) 8)) (w_fi ws (n_v vs 0) 0) (w_fi ws (n_v vs 0) 1) (w_ei ws (w_ar ws (n_v vs 0) 14)) (w_ei ws (w_ar ws (n_v vs 3) 4)) (w_ei ws (w_ar ws (n_v vs 3) 9)) (w_ei ws (w_ar ws (n_v vs 4) 9)) (w_ei ws (w_ar ws (n_v vs 4) 12)) (w_ei ws (w_ar ws (n_v vs 4) 16)) (w_fi ws (n_v vs 3) 0) (w_fi ws (n_v vs 3) 1) (w_fi ws (n_v vs 3) 2) (w_fi ws (n_v vs 4) 0) (w_fi ws (n_v vs 4) 3) (w_fi ws (n_v vs 4) 5) (w_fi ws (n_v vs 4) 6) (w_fi w1 (n_v vs 0) 18) (w_ei w1 (w_ar ws (n_v vs 0) 7)) (w_ei w1 (w_ar ws (n_v vs 0) 8)) (w_fi w1 (n_v vs 0) 0) (w_fi w1 (n_v vs 0) 1) (w_ei w1 (w_ar ws (n_v vs 0) 14)) (w_ei w1 (w_ar ws (n_v vs 3) 4)) (w_ei w1 (w_ar ws (n_v vs 3) 9)) (w_ei w1 (w_ar ws (n_v vs 4) 9)) (w_ei w1 (w_ar ws (n_v vs 4) 12)) (w_ei w1 (w_ar ws (n_v vs 4) 16)) (w_fi w1 (n_v vs 3) 0) (w_fi w1 (n_v vs 3) 1) (w_fi w1 (n_v vs 3) 2) (w_fi w1 (n_v vs 4) 0) (w_fi w1 (n_v vs 4) 3) (w_fi w1 (n_v vs 4) 5) (w_fi w1 (n_v vs 4) 6) (w_fi w2 (n_v vs 0) 18) (w_ei w2 (w_ar ws (n_v vs 0) 16)) (w_ei w2 (w_ar ws (n_v vs 0) 7)) (w_ei w2 (w_ar ws (n_v vs 0) 8)) (w_fi w2 (n_v vs 0) 0) (w_fi w2 (n_v vs 0) 1) (w_ei w2 (w_ar ws (n_v vs 0) 14)) (w_ei w2 (w_ar ws (n_v vs 3) 4)) (w_ei w2 (w_ar ws (n_v vs 3) 9)) (w_ei w2 (w_ar ws (n_v vs 4) 9)) (w_ei w2 (w_ar ws (n_v vs 4) 12)) (w_ei w2 (w_ar ws (n_v vs 4) 16)) (w_fi w2 (n_v vs 3) 0) (w_fi w2 (n_v vs 3) 1) (w_fi w2 (n_v vs 3) 2) (w_fi w2 (n_v vs 4) 0) (w_fi w2 (n_v vs 4) 3) (w_fi w2 (n_v vs 4) 5) (w_fi w2 (n_v vs 4) 6) (w_fi w1 (n_v vs 0) 17) (w_ei w1 (w_ar ws (n_v vs 0) 16)) k5 k8 k11 g0 g2 f6 fe_0_0_1 fe_0_1_1 fe_0_17_1 fe_3_0_1 fe_3_1_1 fe_3_2_1 fe_4_0_1 fe_4_3_1 fe_4_5_1 fe_4_6_1 fe_0_0_2 fe_0_1_2 fe_0_18_2 fe_3_0_2 fe_3_1_2 fe_3_2_2 fe_4_0_2 fe_4_3_2 fe_4_5_2 fe_4_6_2 hE_0_7_1 hE_0_7_2 hE_0_8_1 hE_0_8_2 hE_0_14_1 hE_0_14_2 hE_0_16_1 hE_0_16_2 hE_3_4_1 hE_3_4_2 hE_3_9_1 hE_3_9_2 hE_4_9_1 hE_4_9_2 hE_4_12_1 hE_4_12_2 hE_4_16_1 hE_4_16_2 kz_0_0 kz_0_1 kz_0_17 kz_0_18 kz_3_0 kz_3_1 kz_3_2 kz_4_0 kz_4_3 kz_4_5 kz_4_6
  have nf1 : fc_1 PRD (23, [12, 8], [0, 1, -1]) ws (vs ++ [Value.int x, Value.int y]) := by
    refine ⟨nf_inA hl rfl, sgq_7 ?_⟩
    · show 1 * v_iv (n_v (vs ++ [Value.int x, Value.int y]) 12) + ((-1) * v_iv (n_v (vs ++ [Value.int x, Value.int y]) 8) + 0) ≤ 0
      simp only [e_8, e_12]
      exact vc_Gr_step_10_1 (v_iv (n_v vs 6)) (v_iv (n_v vs 8)) (w_fi ws (n_v vs 0) 17) (w_ei ws (w_ar ws (n_v vs 0) 16)) (w_ei ws (w_ar ws (n_v vs 0) 7)) (w_ei ws (w_ar ws (n_v vs 0) 8)) (w_fi ws (n_v vs 0) 0) (w_fi ws (n_v vs 0) 1) (w_ei ws (w_ar ws (n_v vs 0) 14)) (w_ei ws (w_ar ws (n_v vs 3) 4)) (w_ei ws (w_ar ws (n_v vs 3) 9)) (w_ei ws (w_ar ws (n_v vs 4) 9)) (w_ei ws (w_ar ws (n_v vs 4) 12)) (w_ei ws (w_ar ws (n_v vs 4) 16)) (w_fi ws (n_v vs 3) 0) (w_fi ws (n_v vs 3) 1) (w_fi ws (n_v vs 3) 2) (w_fi ws (n_v vs 4) 0) (w_fi ws (n_v vs 4) 3) (w_fi ws (n_v vs 4) 5) (w_fi ws (n_v vs 4) 6) (w_fi w1 (n_v vs 0) 18) (w_ei w1 (w_ar ws (n_v vs 0) 7)) (w_ei w1 (w_ar ws (n_v vs 0) 8)) (w_fi w1 (n_v vs 0) 0) (w_fi w1 (n_v vs 0) 1) (w_ei w1 (w_ar ws (n_v vs 0) 14)) (w_ei w1 (w_ar ws (n_v vs 3) 4)) (w_ei w1 (w_ar ws (n_v vs 3) 9)) (w_ei w1 (w_ar ws (n_v vs 4) 9)) (w_ei w1 (w_ar ws (n_v vs 4) 12)) (w_ei w1 (w_ar ws (n_v vs 4) 16)) (w_fi w1 (n_v vs 3) 0) (w_fi w1 (n_v vs 3) 1) (w_fi w1 (n_v vs 3) 2) (w_fi w1 (n_v vs 4) 0) (w_fi w1 (n_v vs 4) 3) (w_fi w1 (n_v vs 4) 5) (w_fi w1 (n_v vs 4) 6) (w_fi w2 (n_v vs 0) 17) (w_fi w2 (n_v vs 0) 18) (w_ei w2 (w_ar ws (n_v vs 0) 16)) (w_ei w2 (w_ar ws (n_v vs 0) 7)) (w_ei w2 (w_ar ws (n_v vs 0) 8)) (w_fi w2 (n_v vs 0) 0) (w_fi w2 (n_v vs 0) 1) (w_ei w2 (w_ar ws (n_v vs 0) 14)) (w_ei w2 (w_ar ws (n_v vs 3) 4)) (w_ei w2 (w_ar ws (n_v vs 3) 9)) (w_ei w2 (w_ar ws (n_v vs 4) 9)) (w_ei w2 (w_ar ws (n_v vs 4) 12)) (w_ei w2 (w_ar ws (n_v vs 4) 16)) (w_fi w2 (n_v vs 3) 0) (w_fi w2 (n_v vs 3) 1) (w_fi w2 (n_v vs 3) 2) (w_fi w2 (n_v vs 4) 0) (w_fi w2 (n_v vs 4) 3) (w_fi w2 (n_v vs 4) 5) (w_fi w2 (n_v vs 4) 6) (w_fi w1 (n_v vs 0) 17) (w_ei w1 (w_ar ws (n_v vs 0) 16)) (v_iv (Value.int x)) k6 k8 d1 g2 g18 fe_0_0_1 fe_0_1_1 fe_0_17_1 fe_3_0_1 fe_3_1_1 fe_3_2_1 fe_4_0_1 fe_4_3_1 fe_4_5_1 fe_4_6_1 fe_0_0_2 fe_0_1_2 fe_0_18_2 fe_3_0_2 fe_3_1_2 fe_3_2_2 fe_4_0_2 fe_4_3_2 fe_4_5_2 fe_4_6_2 hE_0_7_1 hE_0_7_2 hE_0_8_1 hE_0_8_2 hE_0_14_1 hE_0_14_2 hE_0_16_1 hE_0_16_2 hE_3_4_1 hE_3_4_2 hE_3_9_1 hE_3_9_2 hE_4_9_1 hE_4_9_2 hE_4_12_1 hE_4_12_2 hE_4_16_1 hE_4_16_2 kz_0_0 kz_0_1 kz_0_17 kz_3_0 kz_3_1 kz_3_2 kz_4_0 kz_4_3 kz_4_5 kz_4_6 ex2
  have nf2 : fc_1 PRD (23, [12, 8], [0, -1, 1]) ws (vs ++ [Value.int x, Value.int y]) := by
    refine ⟨nf_inA hl rfl, sgq_22 ?_⟩
    · show (-1) * v_iv (n_v (vs ++ [Value.int x, Value.int y]) 12) + (1 * v_iv (n_v (vs ++ [Value.int x, Value.int y]) 8) + 0) ≤ 0
      simp only [e_8, e_12]
      exact vc_Gr_step_10_2 (v_iv (n_v vs 6)) (v_iv (n_v vs 8)) (w_fi ws (n_v vs 0) 17) (w_ei ws (w_ar ws (n_v vs 0) 16)) (w_ei ws (w_ar ws (n_v vs 0) 7)) (w_ei ws (w_ar ws (n_v vs 0) 8)) (w_fi ws (n_v vs 0) 0) (w_fi ws (n_v vs 0) 1) (w_ei ws (w_ar ws (n_v vs 0) 14)) (w_ei ws (w_ar ws (n_v vs 3) 4)) (w_ei ws (w_ar ws (n_v vs 3) 9)) (w_ei ws (w_ar ws (n_v vs 4) 9)) (w_ei ws (w_ar ws (n_v vs 4) 12)) (w_ei ws (w_ar ws (n_v vs 4) 16)) (w_fi ws (n_v vs 3) 0) (w_fi ws (n_v vs 3) 1) (w_fi ws (n_v vs 3) 2) (w_fi ws (n_v vs 4) 0) (w_fi ws (n_v vs 4) 3) (w_fi ws (n_v vs 4) 5) (w_fi ws (n_v vs 4) 6) (w_fi w1 (n_v vs 0) 18) (w_ei w1 (w_ar ws (n_v vs 0) 7)) (w_ei w1 (w_ar ws (n_v vs 0) 8)) (w_fi w1 (n_v vs 0) 0) (w_fi w1 (n_v vs 0) 1) (w_ei w1 (w_ar ws (n_v vs 0) 14)) (w_ei w1 (w_ar ws (n_v vs 3) 4)) (w_ei w1 (w_ar ws (n_v vs 3) 9)) (w_ei w1 (w_ar ws (n_v vs 4) 9)) (w_ei w1 (w_ar ws (n_v vs 4) 12)) (w_ei w1 (w_ar ws (n_v vs 4) 16)) (w_fi w1 (n_v vs 3) 0) (w_fi w1 (n_v vs 3) 1) (w_fi w1 (n_v vs 3) 2) (w_fi w1 (n_v vs 4) 0) (w_fi w1 (n_v vs 4) 3) (w_fi w1 (n_v vs 4) 5) (w_fi w1 (n_v vs 4) 6) (w_fi w2 (n_v vs 0) 17) (w_fi w2 (n_v vs 0) 18) (w_ei w2 (w_ar ws (n_v vs 0) 16)) (w_ei w2 (w_ar ws (n_v vs 0) 7)) (w_ei w2 (w_ar ws (n_v vs 0) 8)) (w_fi w2 (n_v vs 0) 0) (w_fi w2 (n_v vs 0) 1) (w_ei w2 (w_ar ws (n_v vs 0) 14)) (w_ei w2 (w_ar ws (n_v vs 3) 4)) (w_ei w2 (w_ar ws (n_v vs 3) 9)) (w_ei w2 (w_ar ws (n_v vs 4) 9)) (w_ei w2 (w_ar ws (n_v vs 4) 12)) (w_ei w2 (w_ar ws (n_v vs 4) 16)) (w_fi w2 (n_v vs 3) 0) (w_fi w2 (n_v vs 3) 1) (w_fi w2 (n_v vs 3) 2) (w_fi w2 (n_v vs 4) 0) (w_fi w2 (n_v vs 4) 3) (w_fi w2 (n_v vs 4) 5) (w_fi w2 (n_v vs 4) 6) (w_fi w1 (n_v vs 0) 17) (w_ei w1 (w_ar ws (n_v vs 0) 16)) (v_iv (Value.int x)) k6 k8 d1 g2 g18 fe_0_0_1 fe_0_1_1 fe_0_17_1 fe_3_0_1 fe_3_1_1 fe_3_2_1 fe_4_0_1 fe_4_3_1 fe_4_5_1 fe_4_6_1 fe_0_0_2 fe_0_1_2 fe_0_18_2 fe_3_0_2 fe_3_1_2 fe_3_2_2 fe_4_0_2 fe_4_3_2 fe_4_5_2 fe_4_6_2 hE_0_7_1 hE_0_7_2 hE_0_8_1 hE_0_8_2 hE_0_14_1 hE_0_14_2 hE_0_16_1 hE_0_16_2 hE_3_4_1 hE_3_4_2 hE_3_9_1 hE_3_9_2 hE_4_9_1 hE_4_9_2 hE_4_12_1 hE_4_12_2 hE_4_16_1 hE_4_16_2 kz_0_0 kz_0_1 kz_0_17 kz_3_0 kz_3_1 kz_3_2 kz_4_0 kz_4_3 kz_4_5 kz_4_6 ex2
  have nf3 : fc_1 PRD (23, [13, 11], [0, 1, -1]) ws (vs ++ [Value.int x, Value.int y]) := by
    refine ⟨nf_inA hl rfl, sgq_7 ?_⟩
    · show 1 * v_iv (n_v (vs ++ [Value.int x, Value.int y]) 13) + ((-1) * v_iv (n_v (vs ++ [Value.int x, Value.int y]) 11) + 0) ≤ 0
      simp only [e_11, e_13]
      exact vc_Gr_step_10_3 (v_iv (n_v vs 9)) (v_iv (n_v vs 11)) (w_fi ws (n_v vs 0) 18) (w_fi ws (n_v vs 0) 17) (w_ei ws (w_ar ws (n_v vs 0) 16)) (w_ei ws (w_ar ws (n_v vs 0) 7)) (w_ei ws (w_ar ws (n_v vs 0) 8)) (w_fi ws (n_v vs 0) 0) (w_fi ws (n_v vs 0) 1) (w_ei ws (w_ar ws (n_v vs 0) 14)) (w_ei ws (w_ar ws (n_v vs 3) 4)) (w_ei ws (w_ar ws (n_v vs 3) 9)) (w_ei ws (w_ar ws (n_v vs 4) 9)) (w_ei ws (w_ar ws (n_v vs 4) 12)) (w_ei ws (w_ar ws (n_v vs 4) 16)) (w_fi ws (n_v vs 3) 0) (w_fi ws (n_v vs 3) 1) (w_fi ws (n_v vs 3) 2) (w_fi ws (n_v vs 4) 0) (w_fi ws (n_v vs 4) 3) (w_fi ws (n_v vs 4) 5) (w_fi ws (n_v vs 4) 6) (w_fi w1 (n_v vs 0) 18) (w_ei w1 (w_ar ws (n_v vs 0) 7)) (w_ei w1 (w_ar ws (n_v vs 0) 8)) (w_fi w1 (n_v vs 0) 0) (w_fi w1 (n_v vs 0) 1) (w_ei w1 (w_ar ws (n_v vs 0) 14)) (w_ei w1 (w_ar ws (n_v vs 3) 4)) (w_ei w1 (w_ar ws (n_v vs 3) 9)) (w_ei w1 (w_ar ws (n_v vs 4) 9)) (w_ei w1 (w_ar ws (n_v vs 4) 12)) (w_ei w1 (w_ar ws (n_v vs 4) 16)) (w_fi w1 (n_v vs 3) 0) (w_fi w1 (n_v vs 3) 1) (w_fi w1 (n_v vs 3) 2) (w_fi w1 (n_v vs 4) 0) (w_fi w1 (n_v vs 4) 3) (w_fi w1 (n_v vs 4) 5) (w_fi w1 (n_v vs 4) 6) (w_fi w2 (n_v vs 0) 18) (w_ei w2 (w_ar ws (n_v vs 0) 16)) (w_ei w2 (w_ar ws (n_v vs 0) 7)) (w_ei w2 (w_ar ws (n_v vs 0) 8)) (w_fi w2 (n_v vs 0) 0) (w_fi w2 (n_v vs 0) 1) (w_ei w2 (w_ar ws (n_v vs 0) 14)) (w_ei w2 (w_ar ws (n_v vs 3) 4)) (w_ei w2 (w_ar ws (n_v vs 3) 9)) (w_ei w2 (w_ar ws (n_v vs 4) 9)) (w_ei w2 (w_ar ws (n_v vs 4) 12)) (w_ei w2 (w_ar ws (n_v vs 4) 16)) (w_fi w2 (n_v vs 3) 0) (w_fi w2 (n_v vs 3) 1) (w_fi w2 (n_v vs 3) 2) (w_fi w2 (n_v vs 4) 0) (w_fi w2 (n_v vs 4) 3) (w_fi w2 (n_v vs 4) 5) (w_fi w2 (n_v vs 4) 6) (w_fi w1 (n_v vs 0) 17) (w_ei w1 (w_ar ws (n_v vs 0) 16)) (v_iv (Value.int y)) k9 k11 d0 g0 g12 fe_0_0_1 fe_0_1_1 fe_0_17_1 fe_3_0_1 fe_3_1_1 fe_3_2_1 fe_4_0_1 fe_4_3_1 fe_4_5_1 fe_4_6_1 fe_0_0_2 fe_0_1_2 fe_0_18_2 fe_3_0_2 fe_3_1_2 fe_3_2_2 fe_4_0_2 fe_4_3_2 fe_4_5_2 fe_4_6_2 hE_0_7_1 hE_0_7_2 hE_0_8_1 hE_0_8_2 hE_0_14_1 hE_0_14_2 hE_0_16_1 hE_0_16_2 hE_3_4_1 hE_3_4_2 hE_3_9_1 hE_3_9_2 hE_4_9_1 hE_4_9_2 hE_4_12_1 hE_4_12_2 hE_4_16_1 hE_4_16_2 kz_0_0 kz_0_1 kz_0_17 kz_0_18 kz_3_0 kz_3_1 kz_3_2 kz_4_0 kz_4_3 kz_4_5 kz_4_6 ey2
  have nf4 : fc_1 PRD (23, [13, 11], [0, -1, 1]) ws (vs ++ [Value.int x, Value.int y]) := by
    refine ⟨nf_inA hl rfl, sgq_22 ?_⟩
    · show (-1) * v_iv (n_v (vs ++ [Value.int x, Value.int y]) 13) + (1 * v_iv (n_v (vs ++ [Value.int x, Value.int y]) 11) + 0) ≤ 0
      simp only [e_11, e_13]
      exact vc_Gr_step_10_4 (v_iv (n_v vs 9)) (v_iv (n_v vs 11)) (w_fi ws (n_v vs 0) 18) (w_fi ws (n_v vs 0) 17) (w_ei ws (w_ar ws (n_v vs 0) 16)) (w_ei ws (w_ar ws (n_v vs 0) 7)) (w_ei ws (w_ar ws (n_v vs 0) 8)) (w_fi ws (n_v vs 0) 0) (w_fi ws (n_v vs 0) 1) (w_ei ws (w_ar ws (n_v vs 0) 14)) (w_ei ws (w_ar ws (n_v vs 3) 4)) (w_ei ws (w_ar ws (n_v vs 3) 9)) (w_ei ws (w_ar ws (n_v vs 4) 9)) (w_ei ws (w_ar ws (n_v vs 4) 12)) (w_ei ws (w_ar ws (n_v vs 4) 16)) (w_fi ws (n_v vs 3) 0) (w_fi ws (n_v vs 3) 1) (w_fi ws (n_v vs 3) 2) (w_fi ws (n_v vs 4) 0) (w_fi ws (n_v vs 4) 3) (w_fi ws (n_v vs 4) 5) (w_fi ws (n_v vs 4) 6) (w_fi w1 (n_v vs 0) 18) (w_ei w1 (w_ar ws (n_v vs 0) 7)) (w_ei w1 (w_ar ws (n_v vs 0) 8)) (w_fi w1 (n_v vs 0) 0) (w_fi w1 (n_v vs 0) 1) (w_ei w1 (w_ar ws (n_v vs 0) 14)) (w_ei w1 (w_ar ws (n_v vs 3) 4)) (w_ei w1 (w_ar ws (n_v vs 3) 9)) (w_ei w1 (w_ar ws (n_v vs 4) 9)) (w_ei w1 (w_ar ws (n_v vs 4) 12)) (w_ei w1 (w_ar ws (n_v vs 4) 16)) (w_fi w1 (n_v vs 3) 0) (w_fi w1 (n_v vs 3) 1) (w_fi w1 (n_v vs 3) 2) (w_fi w1 (n_v vs 4) 0) (w_fi w1 (n_v vs 4) 3) (w_fi w1 (n_v vs 4) 5) (w_fi w1 (n_v vs 4) 6) (w_fi w2 (n_v vs 0) 18) (w_ei w2 (w_ar ws (n_v vs 0) 16)) (w_ei w2 (w_ar ws (n_v vs 0) 7)) (w_ei w2 (w_ar ws (n_v vs 0) 8)) (w_fi w2 (n_v vs 0) 0) (w_fi w2 (n_v vs 0) 1) (w_ei w2 (w_ar ws (n_v vs 0) 14)) (w_ei w2 (w_ar ws (n_v vs 3) 4)) (w_ei w2 (w_ar ws (n_v vs 3) 9)) (w_ei w2 (w_ar ws (n_v vs 4) 9)) (w_ei w2 (w_ar ws (n_v vs 4) 12)) (w_ei w2 (w_ar ws (n_v vs 4) 16)) (w_fi w2 (n_v vs 3) 0) (w_fi w2 (n_v vs 3) 1) (w_fi w2 (n_v vs 3) 2) (w_fi w2 (n_v vs 4) 0) (w_fi w2 (n_v vs 4) 3) (w_fi w2 (n_v vs 4) 5) (w_fi w2 (n_v vs 4) 6) (w_fi w1 (n_v vs 0) 17) (w_ei w1 (w_ar ws (n_v vs 0) 16)) (v_iv (Value.int y)) k9 k11 d0 g0 g12 fe_0_0_1 fe_0_1_1 fe_0_17_1 fe_3_0_1 fe_3_1_1 fe_3_2_1 fe_4_0_1 fe_4_3_1 fe_4_5_1 fe_4_6_1 fe_0_0_2 fe_0_1_2 fe_0_18_2 fe_3_0_2 fe_3_1_2 fe_3_2_2 fe_4_0_2 fe_4_3_2 fe_4_5_2 fe_4_6_2 hE_0_7_1 hE_0_7_2 hE_0_8_1 hE_0_8_2 hE_0_14_1 hE_0_14_2 hE_0_16_1 hE_0_16_2 hE_3_4_1 hE_3_4_2 hE_3_9_1 hE_3_9_2 hE_4_9_1 hE_4_9_2 hE_4_12_1 hE_4_12_2 hE_4_16_1 hE_4_16_2 kz_0_0 kz_0_1 kz_0_17 kz_0_18 kz_3_0 kz_3_1 kz_3_2 kz_4_0 kz_4_3 kz_4_5 kz_4_6 ey2
  have nf5 : fc_1 PRD (20, [0], [60, 2, 1, 739, 17, 18, 16]) ws (vs ++ [Value.int x, Value.int y]) := by
    refine ⟨nf_inA hl rfl, sgq_1361 ?_⟩
    · show PDQ (w_fi ws (n_v (vs ++ [Value.int x, Value.int y]) 0) 17) (w_fi ws (n_v (vs ++ [Value.int x, Value.int y]) 0) 18) (w_ei ws (w_ar ws (n_v (vs ++ [Value.int x, Value.int y]) 0) 16))
      rw [e_0]
      exact vc_Gr_step_10_5 (w_fi ws (n_v vs 0) 18) (w_fi ws (n_v vs 0) 17) (w_ei ws (w_ar ws (n_v vs 0) 16)) (w_ei ws (w_ar ws (n_v vs 0) 7)) (w_ei ws (w_ar ws (n_v vs 0) 8)) (w_fi ws (n_v vs 0) 0) (w_fi ws (n_v vs 0) 1) (w_ei ws (w_ar ws (n_v vs 0) 14)) (w_ei ws (w_ar ws (n_v vs 3) 4)) (w_ei ws (w_ar ws (n_v vs 3) 9)) (w_ei ws (w_ar ws (n_v vs 4) 9)) (w_ei ws (w_ar ws (n_v vs 4) 12)) (w_ei ws (w_ar ws (n_v vs 4) 16)) (w_fi ws (n_v vs 3) 0) (w_fi ws (n_v vs 3) 1) (w_fi ws (n_v vs 3) 2) (w_fi ws (n_v vs 4) 0) (w_fi ws (n_v vs 4) 3) (w_fi ws (n_v vs 4) 5) (w_fi ws (n_v vs 4) 6) (w_fi w1 (n_v vs 0) 18) (w_ei w1 (w_ar ws (n_v vs 0) 7)) (w_ei w1 (w_ar ws (n_v vs 0) 8)) (w_fi w1 (n_v vs 0) 0) (w_fi w1 (n_v vs 0) 1) (w_ei w1 (w_ar ws (n_v vs 0) 14)) (w_ei w1 (w_ar ws (n_v vs 3) 4)) (w_ei w1 (w_ar ws (n_v vs 3) 9)) (w_ei w1 (w_ar ws (n_v vs 4) 9)) (w_ei w1 (w_ar ws (n_v vs 4) 12)) (w_ei w1 (w_ar ws (n_v vs 4) 16)) (w_fi w1 (n_v vs 3) 0) (w_fi w1 (n_v vs 3) 1) (w_fi w1 (n_v vs 3) 2) (w_fi w1 (n_v vs 4) 0) (w_fi w1 (n_v vs 4) 3) (w_fi w1 (n_v vs 4) 5) (w_fi w1 (n_v vs 4) 6) (w_fi w2 (n_v vs 0) 18) (w_ei w2 (w_ar ws (n_v vs 0) 16)) (w_ei w2 (w_ar ws (n_v vs 0) 7)) (w_ei w2 (w_ar ws (n_v vs 0) 8)) (w_fi w2 (n_v vs 0) 0) (w_fi w2 (n_v vs 0) 1) (w_ei w2 (w_ar ws (n_v vs 0) 14)) (w_ei w2 (w_ar ws (n_v vs 3) 4)) (w_ei w2 (w_ar ws (n_v vs 3) 9)) (w_ei w2 (w_ar ws (n_v vs 4) 9)) (w_ei w2 (w_ar ws (n_v vs 4) 12)) (w_ei w2 (w_ar ws (n_v vs 4) 16)) (w_fi w2 (n_v vs 3) 0) (w_fi w2 (n_v vs 3) 1) (w_fi w2 (n_v vs 3) 2) (w_fi w2 (n_v vs 4) 0) (w_fi w2 (n_v vs 4) 3) (w_fi w2 (n_v vs 4) 5) (w_fi w2 (n_v vs 4) 6) (w_fi w1 (n_v vs 0) 17) (w_ei w1 (w_ar ws (n_v vs 0) 16)) f4 fe_0_0_1 fe_0_1_1 fe_0_17_1 fe_3_0_1 fe_3_1_1 fe_3_2_1 fe_4_0_1 fe_4_3_1 fe_4_5_1 fe_4_6_1 fe_0_0_2 fe_0_1_2 fe_0_18_2 fe_3_0_2 fe_3_1_2 fe_3_2_2 fe_4_0_2 fe_4_3_2 fe_4_5_2 fe_4_6_2 hE_0_7_1 hE_0_7_2 hE_0_8_1 hE_0_8_2 hE_0_14_1 hE_0_14_2 hE_0_16_1 hE_0_16_2 hE_3_4_1 hE_3_4_2 hE_3_9_1 hE_3_9_2 hE_4_9_1 hE_4_9_2 hE_4_12_1 hE_4_12_2 hE_4_16_1 hE_4_16_2 kz_0_0 kz_0_1 kz_0_17 kz_0_18 kz_3_0 kz_3_1 kz_3_2 kz_4_0 kz_4_3 kz_4_5 kz_4_6
  have nf6 : fc_1 PRD (20, [0, 12, 13], [50, 2, 0, 17, 18, 2, 7, 1, 3, 2, 0, 17, 1, 1, 1, 3, 2, 0, 18, 1, 2]) ws (vs ++ [Value.int x, Value.int y]) := by
    refine ⟨nf_inA hl rfl, sgq_1362 ?_⟩
    · show (w_fi ws (n_v (vs ++ [Value.int x, Value.int y]) 0) 17 = v_iv (n_v (vs ++ [Value.int x, Value.int y]) 12)) ∧ (w_fi ws (n_v (vs ++ [Value.int x, Value.int y]) 0) 18 = v_iv (n_v (vs ++ [Value.int x, Value.int y]) 13))
      simp only [e_0, e_12, e_13]
      exact vc_Gr_step_10_6 (v_iv (n_v vs 6)) (v_iv (n_v vs 8)) (v_iv (n_v vs 9)) (v_iv (n_v vs 11)) (w_fi ws (n_v vs 0) 18) (w_fi ws (n_v vs 0) 17) (w_ei ws (w_ar ws (n_v vs 0) 16)) (w_ei ws (w_ar ws (n_v vs 0) 7)) (w_ei ws (w_ar ws (n_v vs 0) 8)) (w_fi ws (n_v vs 0) 0) (w_fi ws (n_v vs 0) 1) (w_ei ws (w_ar ws (n_v vs 0) 14)) (w_ei ws (w_ar ws (n_v vs 3) 4)) (w_ei ws (w_ar ws (n_v vs 3) 9)) (w_ei ws (w_ar ws (n_v vs 4) 9)) (w_ei ws (w_ar ws (n_v vs 4) 12)) (w_ei ws (w_ar ws (n_v vs 4) 16)) (w_fi ws (n_v vs 3) 0) (w_fi ws (n_v vs 3) 1) (w_fi ws (n_v vs 3) 2) (w_fi ws (n_v vs 4) 0) (w_fi ws (n_v vs 4) 3) (w_fi ws (n_v vs 4) 5) (w_fi ws (n_v vs 4) 6) (w_fi w1 (n_v vs 0) 18) (w_ei w1 (w_ar ws (n_v vs 0) 7)) (w_ei w1 (w_ar ws (n_v vs 0) 8)) (w_fi w1 (n_v vs 0) 0) (w_fi w1 (n_v vs 0) 1) (w_ei w1 (w_ar ws (n_v vs 0) 14)) (w_ei w1 (w_ar ws (n_v vs 3) 4)) (w_ei w1 (w_ar ws (n_v vs 3) 9)) (w_ei w1 (w_ar ws (n_v vs 4) 9)) (w_ei w1 (w_ar ws (n_v vs 4) 12)) (w_ei w1 (w_ar ws (n_v vs 4) 16)) (w_fi w1 (n_v vs 3) 0) (w_fi w1 (n_v vs 3) 1) (w_fi w1 (n_v vs 3) 2) (w_fi w1 (n_v vs 4) 0) (w_fi w1 (n_v vs 4) 3) (w_fi w1 (n_v vs 4) 5) (w_fi w1 (n_v vs 4) 6) (w_fi w2 (n_v vs 0) 17) (w_fi w2 (n_v vs 0) 18) (w_ei w2 (w_ar ws (n_v vs 0) 16)) (w_ei w2 (w_ar ws (n_v vs 0) 7)) (w_ei w2 (w_ar ws (n_v vs 0) 8)) (w_fi w2 (n_v vs 0) 0) (w_fi w2 (n_v vs 0) 1) (w_ei w2 (w_ar ws (n_v vs 0) 14)) (w_ei w2 (w_ar ws (n_v vs 3) 4)) (w_ei w2 (w_ar ws (n_v vs 3) 9)) (w_ei w2 (w_ar ws (n_v vs 4) 9)) (w_ei w2 (w_ar ws (n_v vs 4) 12)) (w_ei w2 (w_ar ws (n_v vs 4) 16)) (w_fi w2 (n_v vs 3) 0) (w_fi w2 (n_v vs 3) 1) (w_fi w2 (n_v vs 3) 2) (w_fi w2 (n_v vs 4) 0) (w_fi w2 (n_v vs 4) 3) (w_fi w2 (n_v vs 4) 5) (w_fi w2 (n_v vs 4) 6) (w_fi w1 (n_v vs 0) 17) (w_ei w1 (w_ar ws (n_v vs 0) 16)) (v_iv (Value.int x)) (v_iv (Value.int y)) k6 k8 k9 k11 d0 d1 g0 g2 g12 g18 fe_0_0_1 fe_0_1_1 fe_0_17_1 fe_3_0_1 fe_3_1_1 fe_3_2_1 fe_4_0_1 fe_4_3_1 fe_4_5_1 fe_4_6_1 fe_0_0_2 fe_0_1_2 fe_0_18_2 fe_3_0_2 fe_3_1_2 fe_3_2_2 fe_4_0_2 fe_4_3_2 fe_4_5_2 fe_4_6_2 hE_0_7_1 hE_0_7_2 hE_0_8_1 hE_0_8_2 hE_0_14_1 hE_0_14_2 hE_0_16_1 hE_0_16_2 hE_3_4_1 hE_3_4_2 hE_3_9_1 hE_3_9_2 hE_4_9_1 hE_4_9_2 hE_4_12_1 hE_4_12_2 hE_4_16_1 hE_4_16_2 kz_0_0 kz_0_1 kz_0_17 kz_0_18 kz_3_0 kz_3_1 kz_3_2 kz_4_0 kz_4_3 kz_4_5 kz_4_6 ex2 ey2
  have nf7 : fc_1 PRD (20, [0, 8], [50, 2, 0, 17, 18, 2, 12, 0, 2, 0, 1, 4, 3, 2, 0, 17, 2, 0, 18, 0, 2, 1, 1, 4, 3, 2, 0, 17, 2, 0, 18]) ws (vs ++ [Value.int x, Value.int y]) := by
    refine ⟨nf_inA hl rfl, sgq_1363 ?_⟩
    · show (1 ≤ (w_fi ws (n_v (vs ++ [Value.int x, Value.int y]) 0) 17 + w_fi ws (n_v (vs ++ [Value.int x, Value.int y]) 0) 18)) ∧ (v_iv (n_v (vs ++ [Value.int x, Value.int y]) 8) ≤ (w_fi ws (n_v (vs ++ [Value.int x, Value.int y]) 0) 17 + w_fi ws (n_v (vs ++ [Value.int x, Value.int y]) 0) 18))
      simp only [e_0, e_8]
      exact vc_Gr_step_10_7 (v_iv (n_v vs 6)) (v_iv (n_v vs 8)) (v_iv (n_v vs 9)) (v_iv (n_v vs 11)) (w_fi ws (n_v vs 0) 18) (w_fi ws (n_v vs 0) 17) (w_ei ws (w_ar ws (n_v vs 0) 16)) (w_ei ws (w_ar ws (n_v vs 0) 7)) (w_ei ws (w_ar ws (n_v vs 0) 8)) (w_fi ws (n_v vs 0) 0) (w_fi ws (n_v vs 0) 1) (w_ei ws (w_ar ws (n_v vs 0) 14)) (w_ei ws (w_ar ws (n_v vs 3) 4)) (w_ei ws (w_ar ws (n_v vs 3) 9)) (w_ei ws (w_ar ws (n_v vs 4) 9)) (w_ei ws (w_ar ws (n_v vs 4) 12)) (w_ei ws (w_ar ws (n_v vs 4) 16)) (w_fi ws (n_v vs 3) 0) (w_fi ws (n_v vs 3) 1) (w_fi ws (n_v vs 3) 2) (w_fi ws (n_v vs 4) 0) (w_fi ws (n_v vs 4) 3) (w_fi ws (n_v vs 4) 5) (w_fi ws (n_v vs 4) 6) (w_fi w1 (n_v vs 0) 18) (w_ei w1 (w_ar ws (n_v vs 0) 7)) (w_ei w1 (w_ar ws (n_v vs 0) 8)) (w_fi w1 (n_v vs 0) 0) (w_fi w1 (n_v vs 0) 1) (w_ei w1 (w_ar ws (n_v vs 0) 14)) (w_ei w1 (w_ar ws (n_v vs 3) 4)) (w_ei w1 (w_ar ws (n_v vs 3) 9)) (w_ei w1 (w_ar ws (n_v vs 4) 9)) (w_ei w1 (w_ar ws (n_v vs 4) 12)) (w_ei w1 (w_ar ws (n_v vs 4) 16)) (w_fi w1 (n_v vs 3) 0) (w_fi w1 (n_v vs 3) 1) (w_fi w1 (n_v vs 3) 2) (w_fi w1 (n_v vs 4) 0) (w_fi w1 (n_v vs 4) 3) (w_fi w1 (n_v vs 4) 5) (w_fi w1 (n_v vs 4) 6) (w_fi w2 (n_v vs 0) 17) (w_fi w2 (n_v vs 0) 18) (w_ei w2 (w_ar ws (n_v vs 0) 16)) (w_ei w2 (w_ar ws (n_v vs 0) 7)) (w_ei w2 (w_ar ws (n_v vs 0) 8)) (w_fi w2 (n_v vs 0) 0) (w_fi w2 (n_v vs 0) 1) (w_ei w2 (w_ar ws (n_v vs 0) 14)) (w_ei w2 (w_ar ws (n_v vs 3) 4)) (w_ei w2 (w_ar ws (n_v vs 3) 9)) (w_ei w2 (w_ar ws (n_v vs 4) 9)) (w_ei w2 (w_ar ws (n_v vs 4) 12)) (w_ei w2 (w_ar ws (n_v vs 4) 16)) (w_fi w2 (n_v vs 3) 0) (w_fi w2 (n_v vs 3) 1) (w_fi w2 (n_v vs 3) 2) (w_fi w2 (n_v vs 4) 0) (w_fi w2 (n_v vs 4) 3) (w_fi w2 (n_v vs 4) 5) (w_fi w2 (n_v vs 4) 6) (w_fi w1 (n_v vs 0) 17) (w_ei w1 (w_ar ws (n_v vs 0) 16)) (v_iv (Value.int x)) (v_iv (Value.int y)) k6 k8 k9 k11 d0 d1 g0 g2 f3 f5 g12 g18 fe_0_0_1 fe_0_1_1 fe_0_17_1 fe_3_0_1 fe_3_1_1 fe_3_2_1 fe_4_0_1 fe_4_3_1 fe_4_5_1 fe_4_6_1 fe_0_0_2 fe_0_1_2 fe_0_18_2 fe_3_0_2 fe_3_1_2 fe_3_2_2 fe_4_0_2 fe_4_3_2 fe_4_5_2 fe_4_6_2 hE_0_7_1 hE_0_7_2 hE_0_8_1 hE_0_8_2 hE_0_14_1 hE_0_14_2 hE_0_16_1 hE_0_16_2 hE_3_4_1 hE_3_4_2 hE_3_9_1 hE_3_9_2 hE_4_9_1 hE_4_9_2 hE_4_12_1 hE_4_12_2 hE_4_16_1 hE_4_16_2 kz_0_0 kz_0_1 kz_0_17 kz_0_18 kz_3_0 kz_3_1 kz_3_2 kz_4_0 kz_4_3 kz_4_5 kz_4_6 ex2 ey2
  have nf8 : fc_1 PRD (20, [0, 12, 13], [50, 2, 0, 17, 18, 2, 7, 1, 3, 2, 0, 17, 1, 1, 1, 3, 2, 0, 18, 1, 2]) ws (vs ++ [Value.int x, Value.int y]) := by
    refine ⟨nf_inA hl rfl, sgq_1362 ?_⟩
    · show (w_fi ws (n_v (vs ++ [Value.int x, Value.int y]) 0) 17 = v_iv (n_v (vs ++ [Value.int x, Value.int y]) 12)) ∧ (w_fi ws (n_v (vs ++ [Value.int x, Value.int y]) 0) 18 = v_iv (n_v (vs ++ [Value.int x, Value.int y]) 13))
      simp only [e_0, e_12, e_13]
      exact vc_Gr_step_10_8 (v_iv (n_v vs 6)) (v_iv (n_v vs 8)) (v_iv (n_v vs 9)) (v_iv (n_v vs 11)) (w_fi ws (n_v vs 0) 18) (w_fi ws (n_v vs 0) 17) (w_ei ws (w_ar ws (n_v vs 0) 16)) (w_ei ws (w_ar ws (n_v vs 0) 7)) (w_ei ws (w_ar ws (n_v vs 0) 8)) (w_fi ws (n_v vs 0) 0) (w_fi ws (n_v vs 0) 1) (w_ei ws (w_ar ws (n_v vs 0) 14)) (w_ei ws (w_ar ws (n_v vs 3) 4)) (w_ei ws (w_ar ws (n_v vs 3) 9)) (w_ei ws (w_ar ws (n_v vs 4) 9)) (w_ei ws (w_ar ws (n_v vs 4) 12)) (w_ei ws (w_ar ws (n_v vs 4) 16)) (w_fi ws (n_v vs 3) 0) (w_fi ws (n_v vs 3) 1) (w_fi ws (n_v vs 3) 2) (w_fi ws (n_v vs 4) 0) (w_fi ws (n_v vs 4) 3) (w_fi ws (n_v vs 4) 5) (w_fi ws (n_v vs 4) 6) (w_fi w1 (n_v vs 0) 18) (w_ei w1 (w_ar ws (n_v vs 0) 7)) (w_ei w1 (w_ar ws (n_v vs 0) 8)) (w_fi w1 (n_v vs 0) 0) (w_fi w1 (n_v vs 0) 1) (w_ei w1 (w_ar ws (n_v vs 0) 14)) (w_ei w1 (w_ar ws (n_v vs 3) 4)) (w_ei w1 (w_ar ws (n_v vs 3) 9)) (w_ei w1 (w_ar ws (n_v vs 4) 9)) (w_ei w1 (w_ar ws (n_v vs 4) 12)) (w_ei w1 (w_ar ws (n_v vs 4) 16)) (w_fi w1 (n_v vs 3) 0) (w_fi w1 (n_v vs 3) 1) (w_fi w1 (n_v vs 3) 2) (w_fi w1 (n_v vs 4) 0) (w_fi w1 (n_v vs 4) 3) (w_fi w1 (n_v vs 4) 5) (w_fi w1 (n_v vs 4) 6) (w_fi w2 (n_v vs 0) 17) (w_fi w2 (n_v vs 0) 18) (w_ei w2 (w_ar ws (n_v vs 0) 16)) (w_ei w2 (w_ar ws (n_v vs 0) 7)) (w_ei w2 (w_ar ws (n_v vs 0) 8)) (w_fi w2 (n_v vs 0) 0) (w_fi w2 (n_v vs 0) 1) (w_ei w2 (w_ar ws (n_v vs 0) 14)) (w_ei w2 (w_ar ws (n_v vs 3) 4)) (w_ei w2 (w_ar ws (n_v vs 3) 9)) (w_ei w2 (w_ar ws (n_v vs 4) 9)) (w_ei w2 (w_ar ws (n_v vs 4) 12)) (w_ei w2 (w_ar ws (n_v vs 4) 16)) (w_fi w2 (n_v vs 3) 0) (w_fi w2 (n_v vs 3) 1) (w_fi w2 (n_v vs 3) 2) (w_fi w2 (n_v vs 4) 0) (w_fi w2 (n_v vs 4) 3) (w_fi w2 (n_v vs 4) 5) (w_fi w2 (n_v vs 4) 6) (w_fi w1 (n_v vs 0) 17) (w_ei w1 (w_ar ws (n_v vs 0) 16)) (v_iv (Value.int x)) (v_iv (Value.int y)) k6 k8 k9 k11 d0 d1 g0 g2 g12 g18 fe_0_0_1 fe_0_1_1 fe_0_17_1 fe_3_0_1 fe_3_1_1 fe_3_2_1 fe_4_0_1 fe_4_3_1 fe_4_5_1 fe_4_6_1 fe_0_0_2 fe_0_1_2 fe_0_18_2 fe_3_0_2 fe_3_1_2 fe_3_2_2 fe_4_0_2 fe_4_3_2 fe_4_5_2 fe_4_6_2 hE_0_7_1 hE_0_7_2 hE_0_8_1 hE_0_8_2 hE_0_14_1 hE_0_14_2 hE_0_16_1 hE_0_16_2 hE_3_4_1 hE_3_4_2 hE_3_9_1 hE_3_9_2 hE_4_9_1 hE_4_9_2 hE_4_12_1 hE_4_12_2 hE_4_16_1 hE_4_16_2 kz_0_0 kz_0_1 kz_0_17 kz_0_18 kz_3_0 kz_3_1 kz_3_2 kz_4_0 kz_4_3 kz_4_5 kz_4_6 ex2 ey2
  exact ⟨(fun _ h => (by cases h)), [Value.int x, Value.int y], ag_two hx hy, List.forall_mem_cons.mpr ⟨⟨show (20 : Nat) < 100 from by decide, nf0⟩, List.forall_mem_cons.mpr ⟨⟨show (23 : Nat) < 100 from by decide, nf1⟩, List.forall_mem_cons.mpr ⟨⟨show (23 : Nat) < 100 from by decide, nf2⟩, List.forall_mem_cons.mpr ⟨⟨show (23 : Nat) < 100 from by decide, nf3⟩, List.forall_mem_cons.mpr ⟨⟨show (23 : Nat) < 100 from by decide, nf4⟩, List.forall_mem_cons.mpr ⟨⟨show (20 : Nat) < 100 from by decide, nf5⟩, List.forall_mem_cons.mpr ⟨⟨show (20 : Nat) < 100 from by decide, nf6⟩, List.forall_mem_cons.mpr ⟨⟨show (20 : Nat) < 100 from by decide, nf7⟩, List.forall_mem_cons.mpr ⟨⟨show (20 : Nat) < 100 from by decide, nf8⟩, (fun _ h => (by cases h))⟩⟩⟩⟩⟩⟩⟩⟩⟩, (fun _ h => (by cases h))⟩
set_option maxHeartbeats 4000000 in
theorem vc_Gr_step_11_0 (x14 : Int) (tail_0 : Int → Int) (head_0 : Int → Int) (nodes_0 : Int) (edges_0 : Int) (near_0 : Int → Int) (part_0o3 : Int → Int) (turned_0o3 : Int → Int) (near_0o4 : Int → Int) (first_0o4 : Int → Int) (faceOf_0o4 : Int → Int) (known_0o3 : Int) (parts_0o3 : Int) (blocks_0o3 : Int) (planar_0o4 : Int) (barredEdges_0o4 : Int) (nodes_0o4 : Int) (edges_0o4 : Int) (k14 : 1 ≤ x14 ∧ x14 ≤ 1) (kz_0_0 : 0 ≤ nodes_0 ∧ nodes_0 ≤ 24) (kz_0_1 : 0 ≤ edges_0 ∧ edges_0 ≤ 48) (kz_3_0 : 0 ≤ known_0o3 ∧ known_0o3 ≤ 1) (kz_3_1 : 0 ≤ parts_0o3 ∧ parts_0o3 ≤ 24) (kz_3_2 : 0 ≤ blocks_0o3 ∧ blocks_0o3 ≤ 48) (kz_4_0 : (-1) ≤ planar_0o4 ∧ planar_0o4 ≤ 1) (kz_4_3 : 0 ≤ barredEdges_0o4 ∧ barredEdges_0o4 ≤ 48) (kz_4_5 : 0 ≤ nodes_0o4 ∧ nodes_0o4 ≤ 24) (kz_4_6 : 0 ≤ edges_0o4 ∧ edges_0o4 ≤ 72) : HFA (nodes_0) (edges_0) (known_0o3) (parts_0o3) (blocks_0o3) (planar_0o4) (barredEdges_0o4) (nodes_0o4) (edges_0o4) (near_0) (tail_0) (head_0) (part_0o3) (turned_0o3) (near_0o4) (first_0o4) (faceOf_0o4) (x14) := by
  first
    | assumption
    | exact fun z => by omega
    | exact fun _ => ‹HFN _ _ _ _ _ _ _ _ _ _ _ _ _ _ _ _ _›
def o_Gr_step_11 : or_T := (89, 15, [(0, (2, 0, 0, [3])), (3, (2, 0, 0, [2])), (4, (2, 0, 0, [5])), (14, (0, 1, 1, []))], [], [], [], [(20, [0, 3, 4, 14], [60, 9, 8, 746, 0, 1, 1000, 1001, 1002, 2000, 2003, 2005, 2006, 14, 7, 8, 1004, 1009, 2009, 2012, 2016])], [], [])
theorem oo_Gr_step_11 {kA : Nat → ClassId} : or_ok PRD kA GG o_Gr_step_11 := by
  refine or_mk fun A ta ws vs hD hth hl => ?_
  intro t0 r0 t3 r3 t4 r4 t14 k14
  have kz_0_0 := fdq_21 hD hth r0
  have kz_0_1 := fdq_30 hD hth r0
  have kz_3_0 := fdq_294 hD hth r3
  have kz_3_1 := fdq_278 hD hth r3
  have kz_3_2 := fdq_295 hD hth r3
  have kz_4_0 := fdq_78 hD hth r4
  have kz_4_3 := fdq_79 hD hth r4
  have kz_4_5 := fdq_82 hD hth r4
  have kz_4_6 := fdq_59 hD hth r4
  have nf0 : fc_1 PRD (20, [0, 3, 4, 14], [60, 9, 8, 746, 0, 1, 1000, 1001, 1002, 2000, 2003, 2005, 2006, 14, 7, 8, 1004, 1009, 2009, 2012, 2016]) ws (vs) := ⟨nf_in hl rfl, sgq_1514 (vc_Gr_step_11_0 (v_iv (n_v vs 14)) (w_ei ws (w_ar ws (n_v vs 0) 7)) (w_ei ws (w_ar ws (n_v vs 0) 8)) (w_fi ws (n_v vs 0) 0) (w_fi ws (n_v vs 0) 1) (w_ei ws (w_ar ws (n_v vs 0) 14)) (w_ei ws (w_ar ws (n_v vs 3) 4)) (w_ei ws (w_ar ws (n_v vs 3) 9)) (w_ei ws (w_ar ws (n_v vs 4) 9)) (w_ei ws (w_ar ws (n_v vs 4) 12)) (w_ei ws (w_ar ws (n_v vs 4) 16)) (w_fi ws (n_v vs 3) 0) (w_fi ws (n_v vs 3) 1) (w_fi ws (n_v vs 3) 2) (w_fi ws (n_v vs 4) 0) (w_fi ws (n_v vs 4) 3) (w_fi ws (n_v vs 4) 5) (w_fi ws (n_v vs 4) 6) k14 kz_0_0 kz_0_1 kz_3_0 kz_3_1 kz_3_2 kz_4_0 kz_4_3 kz_4_5 kz_4_6)⟩
  refine ⟨(fun _ h => (by cases h)), [], trivial, ?_, (fun _ h => (by cases h))⟩
  rw [List.append_nil]
  exact List.forall_mem_cons.mpr ⟨⟨show (20 : Nat) < 100 from by decide, nf0⟩, (fun _ h => (by cases h))⟩
def n_Gr_step_an : List an_T := []
def t_Gr_step_ct : ct_L := [(1, 146, e_Gr_unpack)]
set_option maxRecDepth 100000 in
theorem c_Gr_step {l : Launch} {D : va_G} {kA : Nat → ClassId} (h_Gr_unpack : ct_ok PRD l D kA GG y_Gr_unpack z_Gr_unpack e_Gr_unpack) : ct_ok PRD l D kA GG y_Gr_step z_Gr_step e_Gr_step := chk_all_ok (FT := [(62, 3, 16), (65, 3, 17), (68, 3, 18)]) (PT := [(65, 3, 17, .int), (68, 3, 18, .int)]) (CT := t_Gr_step_ct) (KT := []) (NT := []) (AN := n_Gr_step_an) (OT := [o_Gr_step_0, o_Gr_step_1, o_Gr_step_2, o_Gr_step_3, o_Gr_step_4, o_Gr_step_5, o_Gr_step_6, o_Gr_step_7, o_Gr_step_8, o_Gr_step_9, o_Gr_step_10, o_Gr_step_11]) 0 252 (List.forall_mem_cons.mpr ⟨oo_Gr_step_0, List.forall_mem_cons.mpr ⟨oo_Gr_step_1, List.forall_mem_cons.mpr ⟨oo_Gr_step_2, List.forall_mem_cons.mpr ⟨oo_Gr_step_3, List.forall_mem_cons.mpr ⟨oo_Gr_step_4, List.forall_mem_cons.mpr ⟨oo_Gr_step_5, List.forall_mem_cons.mpr ⟨oo_Gr_step_6, List.forall_mem_cons.mpr ⟨oo_Gr_step_7, List.forall_mem_cons.mpr ⟨oo_Gr_step_8, List.forall_mem_cons.mpr ⟨oo_Gr_step_9, List.forall_mem_cons.mpr ⟨oo_Gr_step_10, List.forall_mem_cons.mpr ⟨oo_Gr_step_11, List.forall_mem_nil _⟩⟩⟩⟩⟩⟩⟩⟩⟩⟩⟩⟩) (by decide +kernel) ⟨List.forall_mem_cons.mpr ⟨gf_Gr_62, List.forall_mem_cons.mpr ⟨gf_Gr_65, List.forall_mem_cons.mpr ⟨gf_Gr_68, List.forall_mem_nil _⟩⟩⟩, List.forall_mem_cons.mpr ⟨pf_Gr_65, List.forall_mem_cons.mpr ⟨pf_Gr_68, List.forall_mem_nil _⟩⟩, List.forall_mem_cons.mpr ⟨cl_virtual (y := y_Gr_unpack) (ci := 3) rfl rfl ⟨_, _, rfl⟩ (by decide +kernel) h_Gr_unpack wm_1009 wm_3 wm_1006 wm_1008 wv_3_3 ⟨by decide, by decide, by decide +kernel⟩ (by decide), List.forall_mem_nil _⟩, List.forall_mem_nil _, List.forall_mem_nil _, GG_pl⟩ (by decide +kernel)
set_option maxHeartbeats 4000000 in
theorem vc_Pl_endOfRow_0_0 (x1 : Int) (x4 : Int) (items_0 : Int) (k1 : 0 ≤ x1 ∧ x1 ≤ 31) (k4 : 1 ≤ x4 ∧ x4 ≤ 32) (d0 : x1 + 1 ≤ x4 ∧ x4 ≤ x1 + 1) (f0 : (0 ≤ x1) ∧ ((x1 + 1) ≤ items_0)) (kz_0_11 : 0 ≤ items_0 ∧ items_0 ≤ 32) : ((x1 + 1) ≤ x4) ∧ (x4 ≤ items_0) := by
  first
    | omega
  
def o_Pl_endOfRow_0 : or_T := (21, 7, [(0, (2, 0, 0, [6])), (1, (0, 0, 31, [])), (4, (0, 1, 32, []))], [(20, [1, 0], [50, 1, 0, 1011, 2, 6, 0, 2, 0, 0, 1, 0, 0, 6, 4, 2, 1, 0, 0, 1, 2, 1, 11])], [], [], [(20, [1, 4, 0], [50, 1, 0, 2011, 2, 10, 0, 6, 4, 2, 1, 0, 0, 1, 1, 1, 0, 2, 1, 1, 2, 2, 11]), (24, [0, 0], []), (24, [1, 1], [])], [], [(4, 1, 1, 1)])
theorem oo_Pl_endOfRow_0 {kA : Nat → ClassId} : or_ok PRD kA GG o_Pl_endOfRow_0 := by
  refine or_mk fun A ta ws vs hD hth hl => ?_
  intro t0 r0 t1 k1 t4 k4 d0 f0
  have kz_0_11 := fdq_7 hD hth r0
  have nf0 : fc_1 PRD (20, [1, 4, 0], [50, 1, 0, 2011, 2, 10, 0, 6, 4, 2, 1, 0, 0, 1, 1, 1, 0, 2, 1, 1, 2, 2, 11]) ws (vs) := ⟨nf_in hl rfl, sgq_1518 (vc_Pl_endOfRow_0_0 (v_iv (n_v vs 1)) (v_iv (n_v vs 4)) (w_fi ws (n_v vs 0) 11) k1 k4 d0 (shm_1517 f0) kz_0_11)⟩
  have nf1 : fc_1 PRD (24, [0, 0], []) ws (vs) := by
    refine ⟨nf_in hl rfl, sgq_1 ?_⟩
    · show n_v vs 0 = n_v vs 0
      first | rfl | simp only [true_and]
  have nf2 : fc_1 PRD (24, [1, 1], []) ws (vs) := by
    refine ⟨nf_in hl rfl, sgq_1 ?_⟩
    · show n_v vs 1 = n_v vs 1
      first | rfl | simp only [true_and]
  refine ⟨(fun _ h => (by cases h)), [], trivial, ?_, (fun _ h => (by cases h))⟩
  rw [List.append_nil]
  exact List.forall_mem_cons.mpr ⟨⟨show (20 : Nat) < 100 from by decide, nf0⟩, List.forall_mem_cons.mpr ⟨⟨show (24 : Nat) < 100 from by decide, nf1⟩, List.forall_mem_cons.mpr ⟨⟨show (24 : Nat) < 100 from by decide, nf2⟩, (fun _ h => (by cases h))⟩⟩⟩
set_option maxHeartbeats 4000000 in
theorem vc_Pl_endOfRow_1_0 (x1 : Int) (x6 : Int) (items_0 : Int) (k1 : 0 ≤ x1 ∧ x1 ≤ 31) (k6 : 1 ≤ x6 ∧ x6 ≤ 32) (f2 : ((x1 + 1) ≤ x6) ∧ (x6 ≤ items_0)) (kz_0_11 : 0 ≤ items_0 ∧ items_0 ≤ 32) : ((x1 + 1) ≤ x6) ∧ (x6 ≤ items_0) := by
  first
    | omega
  
def o_Pl_endOfRow_1 : or_T := (91, 9, [(0, (2, 0, 0, [6])), (1, (0, 0, 31, [])), (6, (0, 1, 32, []))], [(20, [4, 6, 3], [50, 1, 0, 2011, 2, 10, 0, 6, 4, 2, 1, 0, 0, 1, 1, 1, 0, 2, 1, 1, 2, 2, 11]), (24, [0, 3], []), (24, [1, 4], [])], [], [], [(20, [1, 6, 0], [50, 1, 0, 2011, 2, 10, 0, 6, 4, 2, 1, 0, 0, 1, 1, 1, 0, 2, 1, 1, 2, 2, 11])], [], [])
theorem oo_Pl_endOfRow_1 {kA : Nat → ClassId} : or_ok PRD kA GG o_Pl_endOfRow_1 := by
  refine or_mk fun A ta ws vs hD hth hl => ?_
  intro t0 r0 t1 k1 t6 k6 f2 f3 f4
  replace f2 := shm_1518 f2
  replace f3 := shm_5 f3
  replace f4 := shm_5 f4
  have q3 : n_v vs 3 = n_v vs 0 := f3.symm
  have q4 : n_v vs 4 = n_v vs 1 := f4.symm
  simp only [q3, q4] at f2
  have kz_0_11 := fdq_7 hD hth r0
  have nf0 : fc_1 PRD (20, [1, 6, 0], [50, 1, 0, 2011, 2, 10, 0, 6, 4, 2, 1, 0, 0, 1, 1, 1, 0, 2, 1, 1, 2, 2, 11]) ws (vs) := ⟨nf_in hl rfl, sgq_1518 (vc_Pl_endOfRow_1_0 (v_iv (n_v vs 1)) (v_iv (n_v vs 6)) (w_fi ws (n_v vs 0) 11) k1 k6 f2 kz_0_11)⟩
  refine ⟨(fun _ h => (by cases h)), [], trivial, ?_, (fun _ h => (by cases h))⟩
  rw [List.append_nil]
  exact List.forall_mem_cons.mpr ⟨⟨show (20 : Nat) < 100 from by decide, nf0⟩, (fun _ h => (by cases h))⟩
set_option maxHeartbeats 4000000 in
theorem vc_Pl_endOfRow_2_0 (x1 : Int) (x4 : Int) (x6 : Int) (x8 : Int) (x20 : Int) (items_0 : Int) (k1 : 0 ≤ x1 ∧ x1 ≤ 30) (k4 : 0 ≤ x4 ∧ x4 ≤ 30) (k6 : 1 ≤ x6 ∧ x6 ≤ 31) (k8 : 2 ≤ x8 ∧ x8 ≤ 32) (k20 : 2 ≤ x20 ∧ x20 ≤ 32) (d0 : x6 + 1 ≤ x20 ∧ x20 ≤ x6 + 1) (d1 : x8 + (-4294967296) ≤ x20 ∧ x20 ≤ x8 + 0) (d4 : x8 + (-4294967296) ≤ x6 ∧ x6 ≤ x8 + (-1)) (d5 : x4 + (-4294967296) ≤ x1 ∧ x1 ≤ x4 + 0) (d6 : x6 + (-4294967296) ≤ x1 ∧ x1 ≤ x6 + (-1)) (d7 : x1 + (-4294967296) ≤ x4 ∧ x4 ≤ x1 + 0) (g0 : x8 = items_0) (kz_0_11 : 0 ≤ items_0 ∧ items_0 ≤ 32) : ((x1 + 1) ≤ x20) ∧ (x20 ≤ items_0) := by
  first
    | omega
  
def o_Pl_endOfRow_2 : or_T := (21, 21, [(0, (2, 0, 0, [6])), (1, (0, 0, 30, [])), (4, (0, 0, 30, [])), (6, (0, 1, 31, [])), (8, (0, 2, 32, [])), (20, (0, 2, 32, []))], [(9, [8, 3], [11]), (24, [0, 3], []), (24, [1, 4], [])], [], [], [(20, [4, 20, 3], [50, 1, 0, 2011, 2, 10, 0, 6, 4, 2, 1, 0, 0, 1, 1, 1, 0, 2, 1, 1, 2, 2, 11])], [], [(20, 6, 1, 1), (20, 8, -4294967296, 0), (6, 8, -4294967296, -1), (1, 4, -4294967296, 0), (1, 6, -4294967296, -1), (4, 1, -4294967296, 0)])
theorem oo_Pl_endOfRow_2 {kA : Nat → ClassId} : or_ok PRD kA GG o_Pl_endOfRow_2 := by
  refine or_mk fun A ta ws vs hD hth hl => ?_
  intro t0 r0 t1 k1 t4 k4 t6 k6 t8 k8 t20 k20 d0 d1 d4 d5 d6 d7 f0 f3 f4
  replace f0 := shm_116 f0
  replace f3 := shm_5 f3
  replace f4 := shm_5 f4
  have q3 : n_v vs 3 = n_v vs 0 := f3.symm
  have q4 : n_v vs 4 = n_v vs 1 := f4.symm
  simp only [q3] at f0
  have g0 : v_iv (n_v vs 8) = w_fi ws (n_v vs 0) 11 := congrArg v_iv f0
  have kz_0_11 := fdq_7 hD hth r0
  have nf0 : fc_1 PRD (20, [4, 20, 3], [50, 1, 0, 2011, 2, 10, 0, 6, 4, 2, 1, 0, 0, 1, 1, 1, 0, 2, 1, 1, 2, 2, 11]) ws (vs) := by
    refine ⟨nf_in hl rfl, sgq_1518 ?_⟩
    · show ((v_iv (n_v vs 4) + 1) ≤ v_iv (n_v vs 20)) ∧ (v_iv (n_v vs 20) ≤ w_fi ws (n_v vs 3) 11)
      simp only [q3, q4]
      exact vc_Pl_endOfRow_2_0 (v_iv (n_v vs 1)) (v_iv (n_v vs 4)) (v_iv (n_v vs 6)) (v_iv (n_v vs 8)) (v_iv (n_v vs 20)) (w_fi ws (n_v vs 0) 11) k1 k4 k6 k8 k20 d0 d1 d4 d5 d6 d7 g0 kz_0_11
  refine ⟨(fun _ h => (by cases h)), [], trivial, ?_, (fun _ h => (by cases h))⟩
  rw [List.append_nil]
  exact List.forall_mem_cons.mpr ⟨⟨show (20 : Nat) < 100 from by decide, nf0⟩, (fun _ h => (by cases h))⟩
set_option maxHeartbeats 4000000 in
theorem vc_Pl_endOfRow_3_0 (x1 : Int) (x6 : Int) (items_0 : Int) (k1 : 0 ≤ x1 ∧ x1 ≤ 30) (k6 : 1 ≤ x6 ∧ x6 ≤ 31) (f1 : ((x1 + 1) ≤ x6) ∧ (x6 ≤ items_0)) (kz_0_11 : 0 ≤ items_0 ∧ items_0 ≤ 32) : ((x1 + 1) ≤ x6) ∧ (x6 ≤ items_0) := by
  first
    | omega
  
def o_Pl_endOfRow_3 : or_T := (91, 20, [(0, (2, 0, 0, [6])), (1, (0, 0, 30, [])), (6, (0, 1, 31, []))], [(20, [4, 6, 3], [50, 1, 0, 2011, 2, 10, 0, 6, 4, 2, 1, 0, 0, 1, 1, 1, 0, 2, 1, 1, 2, 2, 11]), (24, [0, 3], []), (24, [1, 4], [])], [], [], [(20, [1, 6, 0], [50, 1, 0, 2011, 2, 10, 0, 6, 4, 2, 1, 0, 0, 1, 1, 1, 0, 2, 1, 1, 2, 2, 11])], [], [])
theorem oo_Pl_endOfRow_3 {kA : Nat → ClassId} : or_ok PRD kA GG o_Pl_endOfRow_3 := by
  refine or_mk fun A ta ws vs hD hth hl => ?_
  intro t0 r0 t1 k1 t6 k6 f1 f2 f3
  replace f1 := shm_1518 f1
  replace f2 := shm_5 f2
  replace f3 := shm_5 f3
  have q3 : n_v vs 3 = n_v vs 0 := f2.symm
  have q4 : n_v vs 4 = n_v vs 1 := f3.symm
  simp only [q3, q4] at f1
  have kz_0_11 := fdq_7 hD hth r0
  have nf0 : fc_1 PRD (20, [1, 6, 0], [50, 1, 0, 2011, 2, 10, 0, 6, 4, 2, 1, 0, 0, 1, 1, 1, 0, 2, 1, 1, 2, 2, 11]) ws (vs) := ⟨nf_in hl rfl, sgq_1518 (vc_Pl_endOfRow_3_0 (v_iv (n_v vs 1)) (v_iv (n_v vs 6)) (w_fi ws (n_v vs 0) 11) k1 k6 f1 kz_0_11)⟩
  refine ⟨(fun _ h => (by cases h)), [], trivial, ?_, (fun _ h => (by cases h))⟩
  rw [List.append_nil]
  exact List.forall_mem_cons.mpr ⟨⟨show (20 : Nat) < 100 from by decide, nf0⟩, (fun _ h => (by cases h))⟩
def n_Pl_endOfRow_an : List an_T := [(21, [(0, (2, 0, 0, [6])), (1, (0, 0, 31, [])), (2, (0, (Int.negSucc 2147483647), 131071, [])), (3, (0, 1, 32, [])), (4, (0, (Int.negSucc 2147483647), 2147483647, []))], [], (0, 0), [(0, 0, 99979), (1, 6, 32), (0, 0, 100000)], [(1, 4, (Int.negSucc 999999999999), 0), (1, 6, (Int.negSucc 999999999999), (Int.negSucc 0)), (1, 7, (Int.negSucc 999999999999), 2147483678), (2, 5, (Int.negSucc 999999999999), 0), (4, 1, (Int.negSucc 999999999999), 0), (4, 6, (Int.negSucc 999999999999), (Int.negSucc 0)), (4, 7, (Int.negSucc 999999999999), 2147483678), (5, 2, (Int.negSucc 999999999999), 0)], [], [(2, 0, 0, [6]), (0, 0, 31, []), (0, (Int.negSucc 2147483647), 131071, [])], 0, [], [(20, [4, 6, 3], [50, 1, 0, 2011, 2, 10, 0, 6, 4, 2, 1, 0, 0, 1, 1, 1, 0, 2, 1, 1, 2, 2, 11]), (24, [0, 3], []), (24, [1, 4], [])])]
def t_Pl_endOfRow_ct : ct_L := [(1, 204, e_Pl_findWorst)]
set_option maxRecDepth 100000 in
theorem c_Pl_endOfRow {l : Launch} {D : va_G} {kA : Nat → ClassId} (h_Pl_findWorst : ct_ok PRD l D kA GG y_Pl_findWorst z_Pl_findWorst e_Pl_findWorst) : ct_ok PRD l D kA GG y_Pl_endOfRow z_Pl_endOfRow e_Pl_endOfRow := chk_all_ok (FT := [(45, 6, 10), (48, 6, 11), (54, 6, 13), (58, 6, 14)]) (PT := []) (CT := t_Pl_endOfRow_ct) (KT := []) (NT := []) (AN := n_Pl_endOfRow_an) (OT := [o_Pl_endOfRow_0, o_Pl_endOfRow_1, o_Pl_endOfRow_2, o_Pl_endOfRow_3]) 3 224 (List.forall_mem_cons.mpr ⟨oo_Pl_endOfRow_0, List.forall_mem_cons.mpr ⟨oo_Pl_endOfRow_1, List.forall_mem_cons.mpr ⟨oo_Pl_endOfRow_2, List.forall_mem_cons.mpr ⟨oo_Pl_endOfRow_3, List.forall_mem_nil _⟩⟩⟩⟩) (by decide +kernel) ⟨List.forall_mem_cons.mpr ⟨gf_Pl_45, List.forall_mem_cons.mpr ⟨gf_Pl_48, List.forall_mem_cons.mpr ⟨gf_Pl_54, List.forall_mem_cons.mpr ⟨gf_Pl_58, List.forall_mem_nil _⟩⟩⟩⟩, List.forall_mem_nil _, List.forall_mem_cons.mpr ⟨cl_virtual (y := y_Pl_findWorst) (ci := 6) rfl rfl ⟨_, _, rfl⟩ (by decide +kernel) h_Pl_findWorst wm_1747 wm_21 wm_1744 wm_1746 wv_8_2 ⟨by decide, by decide, by decide +kernel⟩ (by decide), List.forall_mem_nil _⟩, List.forall_mem_nil _, List.forall_mem_nil _, GG_pl⟩ (by decide +kernel)

set_option maxHeartbeats 4000000 in
theorem vc_Pn_placeByOrder_0_0 (x4 : Int) (order_0 : Int → Int) (line_0 : Int → Int) (under_0 : Int → Int) (x_0o1 : Int → Int) (y_0o1 : Int → Int) (k4 : 0 ≤ x4 ∧ x4 ≤ 0) : CG0 (line_0) (order_0) (under_0) (x_0o1) (y_0o1) (x4) := by
  first
    | (intro j a b; exfalso; omega)
set_option maxHeartbeats 4000000 in
theorem vc_Pn_placeByOrder_0_1 (x4 : Int) (k4 : 0 ≤ x4 ∧ x4 ≤ 0) : x4 ≤ 3 := by
  first
    | omega
    | assumption
    | (rw [show gu = x6 by omega]; assumption)
def o_Pn_placeByOrder_0 : or_T := (2, 5, [(4, (0, 0, 0, []))], [], [], [], [(20, [0, 1, 4], [60, 0, 5, 888, 2, 1, 4, 1002, 1003]), (20, [4], [50, 0, 0, 0, 2, 1, 0, 0, 3]), (24, [0, 0], []), (24, [1, 1], [])], [], [])
theorem oo_Pn_placeByOrder_0 {kA : Nat → ClassId} : or_ok PRD kA GG o_Pn_placeByOrder_0 := by
  refine or_mk fun A ta ws vs hD hth hl => ?_
  intro t4 k4
  have nf0 : fc_1 PRD (20, [0, 1, 4], [60, 0, 5, 888, 2, 1, 4, 1002, 1003]) ws (vs) := ⟨nf_in hl rfl, sgq_1519 (vc_Pn_placeByOrder_0_0 (v_iv (n_v vs 4)) (w_ei ws (w_ar ws (n_v vs 0) 1)) (w_ei ws (w_ar ws (n_v vs 0) 2)) (w_ei ws (w_ar ws (n_v vs 0) 4)) (w_ei ws (w_ar ws (n_v vs 1) 2)) (w_ei ws (w_ar ws (n_v vs 1) 3)) k4)⟩
  have nf1 : fc_1 PRD (20, [4], [50, 0, 0, 0, 2, 1, 0, 0, 3]) ws (vs) := ⟨nf_in hl rfl, sgq_1520 (vc_Pn_placeByOrder_0_1 (v_iv (n_v vs 4)) k4)⟩
  have nf2 : fc_1 PRD (24, [0, 0], []) ws (vs) := by
    refine ⟨nf_in hl rfl, sgq_1 ?_⟩
    · show n_v vs 0 = n_v vs 0
      first | rfl | simp only [true_and]
  have nf3 : fc_1 PRD (24, [1, 1], []) ws (vs) := by
    refine ⟨nf_in hl rfl, sgq_1 ?_⟩
    · show n_v vs 1 = n_v vs 1
      first | rfl | simp only [true_and]
  refine ⟨(fun _ h => (by cases h)), [], trivial, ?_, (fun _ h => (by cases h))⟩
  rw [List.append_nil]
  exact List.forall_mem_cons.mpr ⟨⟨show (20 : Nat) < 100 from by decide, nf0⟩, List.forall_mem_cons.mpr ⟨⟨show (20 : Nat) < 100 from by decide, nf1⟩, List.forall_mem_cons.mpr ⟨⟨show (24 : Nat) < 100 from by decide, nf2⟩, List.forall_mem_cons.mpr ⟨⟨show (24 : Nat) < 100 from by decide, nf3⟩, (fun _ h => (by cases h))⟩⟩⟩⟩
set_option maxHeartbeats 4000000 in
theorem vc_Pn_placeByOrder_1_0 (x6 : Int) (x9 : Int) (x11 : Int) (x12 : Int) (x13 : Int) (x14 : Int) (x15 : Int) (x16 : Int) (x17 : Int) (x18 : Int) (x19 : Int) (x20 : Int) (lineLength_0 : Int) (order_2 : Int → Int) (order_3 : Int → Int) (order_4 : Int → Int) (line_4 : Int → Int) (under_4 : Int → Int) (x_4o1 : Int → Int) (y_4o1 : Int → Int) (lineLength_1 : Int) (lineLength_2 : Int) (lineLength_3 : Int) (order_0 : Int → Int) (order_1 : Int → Int) (line_0 : Int → Int) (line_1 : Int → Int) (line_2 : Int → Int) (line_3 : Int → Int) (under_0 : Int → Int) (under_1 : Int → Int) (under_2 : Int → Int) (under_3 : Int → Int) (x_0o1 : Int → Int) (x_1o1 : Int → Int) (x_2o1 : Int → Int) (x_3o1 : Int → Int) (y_0o1 : Int → Int) (y_1o1 : Int → Int) (y_2o1 : Int → Int) (y_3o1 : Int → Int) (k9 : 0 ≤ x9 ∧ x9 ≤ 0) (k11 : 0 ≤ x11 ∧ x11 ≤ 0) (k12 : 0 ≤ x12 ∧ x12 ≤ 23) (k13 : 1 ≤ x13 ∧ x13 ≤ 1) (k14 : 2 ≤ x14 ∧ x14 ≤ 2) (k15 : 0 ≤ x15 ∧ x15 ≤ 23) (k16 : 2 ≤ x16 ∧ x16 ≤ 2) (k17 : 1 ≤ x17 ∧ x17 ≤ 1) (k18 : 0 ≤ x18 ∧ x18 ≤ 23) (k19 : 3 ≤ x19 ∧ x19 ≤ 3) (k20 : 3 ≤ x20 ∧ x20 ≤ 3) (g0 : x19 = lineLength_0) (h9 : x18 = order_2 (x17)) (h12 : x15 = order_3 (x14)) (h15 : x12 = order_4 (x11)) (fe_0_3_2 : lineLength_1 = lineLength_2) (fe_0_3_3 : lineLength_2 = lineLength_3) (hE_0_1_1 : ∀ j : Int, order_0 j = order_1 j) (hE_0_1_2 : ∀ j : Int, order_1 j = order_2 j) (hE_0_1_3 : ∀ j : Int, order_2 j = order_3 j) (hE_0_1_4 : ∀ j : Int, order_3 j = order_4 j) (hE_0_2_1 : ∀ j : Int, line_0 j = line_1 j) (hE_0_2_2 : ∀ j : Int, 0 ≤ j → (j = x16 → line_1 j = x18) ∧ (j ≠ x16 → line_1 j = line_2 j)) (hE_0_2_3 : ∀ j : Int, 0 ≤ j → (j = x13 → line_2 j = x15) ∧ (j ≠ x13 → line_2 j = line_3 j)) (hE_0_2_4 : ∀ j : Int, 0 ≤ j → (j = x9 → line_3 j = x12) ∧ (j ≠ x9 → line_3 j = line_4 j)) (hE_0_4_1 : ∀ j : Int, under_0 j = under_1 j) (hE_0_4_2 : ∀ j : Int, under_1 j = under_2 j) (hE_0_4_3 : ∀ j : Int, under_2 j = under_3 j) (hE_0_4_4 : ∀ j : Int, under_3 j = under_4 j) (hE_1_2_1 : ∀ j : Int, x_0o1 j = x_1o1 j) (hE_1_2_2 : ∀ j : Int, x_1o1 j = x_2o1 j) (hE_1_2_3 : ∀ j : Int, x_2o1 j = x_3o1 j) (hE_1_2_4 : ∀ j : Int, x_3o1 j = x_4o1 j) (hE_1_3_1 : ∀ j : Int, y_0o1 j = y_1o1 j) (hE_1_3_2 : ∀ j : Int, y_1o1 j = y_2o1 j) (hE_1_3_3 : ∀ j : Int, y_2o1 j = y_3o1 j) (hE_1_3_4 : ∀ j : Int, y_3o1 j = y_4o1 j) (kz_0_3 : 0 ≤ lineLength_0 ∧ lineLength_0 ≤ 24) : LNO (lineLength_0) (line_0) (order_0) (x20) := by
  subst fe_0_3_2
  subst fe_0_3_3
  have e_hE_0_1_1 := funext hE_0_1_1; subst e_hE_0_1_1
  have e_hE_0_1_2 := funext hE_0_1_2; subst e_hE_0_1_2
  have e_hE_0_1_3 := funext hE_0_1_3; subst e_hE_0_1_3
  have e_hE_0_1_4 := funext hE_0_1_4; subst e_hE_0_1_4
  have e_hE_0_2_1 := funext hE_0_2_1; subst e_hE_0_2_1
  have e_hE_0_4_1 := funext hE_0_4_1; subst e_hE_0_4_1
  have e_hE_0_4_2 := funext hE_0_4_2; subst e_hE_0_4_2
  have e_hE_0_4_3 := funext hE_0_4_3; subst e_hE_0_4_3
  have e_hE_0_4_4 := funext hE_0_4_4; subst e_hE_0_4_4
  have e_hE_1_2_1 := funext hE_1_2_1; subst e_hE_1_2_1
  have e_hE_1_2_2 := funext hE_1_2_2; subst e_hE_1_2_2
  have e_hE_1_2_3 := funext hE_1_2_3; subst e_hE_1_2_3
  have e_hE_1_2_4 := funext hE_1_2_4; subst e_hE_1_2_4
  have e_hE_1_3_1 := funext hE_1_3_1; subst e_hE_1_3_1
  have e_hE_1_3_2 := funext hE_1_3_2; subst e_hE_1_3_2
  have e_hE_1_3_3 := funext hE_1_3_3; subst e_hE_1_3_3
  have e_hE_1_3_4 := funext hE_1_3_4; subst e_hE_1_3_4
  first
    | exact lno_st hE_0_2_4 hE_0_2_3 hE_0_2_2 (by omega) (by omega) (by omega) (by have e := ‹x12 = _›; rw [show x11 = 0 by omega] at e; exact e) (by have e := ‹x15 = _›; rw [show x14 = 2 by omega] at e; exact e) (by have e := ‹x18 = _›; rw [show x17 = 1 by omega] at e; exact e) (by omega) (by omega)
set_option maxHeartbeats 4000000 in
theorem vc_Pn_placeByOrder_1_1 (x6 : Int) (x20 : Int) (order_2 : Int → Int) (order_3 : Int → Int) (order_4 : Int → Int) (line_4 : Int → Int) (under_4 : Int → Int) (x_4o1 : Int → Int) (y_4o1 : Int → Int) (lineLength_1 : Int) (lineLength_2 : Int) (lineLength_3 : Int) (order_0 : Int → Int) (order_1 : Int → Int) (line_0 : Int → Int) (line_1 : Int → Int) (under_0 : Int → Int) (under_1 : Int → Int) (under_2 : Int → Int) (under_3 : Int → Int) (x_0o1 : Int → Int) (x_1o1 : Int → Int) (x_2o1 : Int → Int) (x_3o1 : Int → Int) (y_0o1 : Int → Int) (y_1o1 : Int → Int) (y_2o1 : Int → Int) (y_3o1 : Int → Int) (k6 : 3 ≤ x6 ∧ x6 ≤ 3) (k20 : 3 ≤ x20 ∧ x20 ≤ 3) (f17 : CG0 (line_4) (order_4) (under_4) (x_4o1) (y_4o1) (x6)) (fe_0_3_2 : lineLength_1 = lineLength_2) (fe_0_3_3 : lineLength_2 = lineLength_3) (hE_0_1_1 : ∀ j : Int, order_0 j = order_1 j) (hE_0_1_2 : ∀ j : Int, order_1 j = order_2 j) (hE_0_1_3 : ∀ j : Int, order_2 j = order_3 j) (hE_0_1_4 : ∀ j : Int, order_3 j = order_4 j) (hE_0_2_1 : ∀ j : Int, line_0 j = line_1 j) (hE_0_4_1 : ∀ j : Int, under_0 j = under_1 j) (hE_0_4_2 : ∀ j : Int, under_1 j = under_2 j) (hE_0_4_3 : ∀ j : Int, under_2 j = under_3 j) (hE_0_4_4 : ∀ j : Int, under_3 j = under_4 j) (hE_1_2_1 : ∀ j : Int, x_0o1 j = x_1o1 j) (hE_1_2_2 : ∀ j : Int, x_1o1 j = x_2o1 j) (hE_1_2_3 : ∀ j : Int, x_2o1 j = x_3o1 j) (hE_1_2_4 : ∀ j : Int, x_3o1 j = x_4o1 j) (hE_1_3_1 : ∀ j : Int, y_0o1 j = y_1o1 j) (hE_1_3_2 : ∀ j : Int, y_1o1 j = y_2o1 j) (hE_1_3_3 : ∀ j : Int, y_2o1 j = y_3o1 j) (hE_1_3_4 : ∀ j : Int, y_3o1 j = y_4o1 j) : CGO (order_0) (under_0) (x_0o1) (y_0o1) (x20) := by
  subst fe_0_3_2
  subst fe_0_3_3
  have e_hE_0_1_1 := funext hE_0_1_1; subst e_hE_0_1_1
  have e_hE_0_1_2 := funext hE_0_1_2; subst e_hE_0_1_2
  have e_hE_0_1_3 := funext hE_0_1_3; subst e_hE_0_1_3
  have e_hE_0_1_4 := funext hE_0_1_4; subst e_hE_0_1_4
  have e_hE_0_2_1 := funext hE_0_2_1; subst e_hE_0_2_1
  have e_hE_0_4_1 := funext hE_0_4_1; subst e_hE_0_4_1
  have e_hE_0_4_2 := funext hE_0_4_2; subst e_hE_0_4_2
  have e_hE_0_4_3 := funext hE_0_4_3; subst e_hE_0_4_3
  have e_hE_0_4_4 := funext hE_0_4_4; subst e_hE_0_4_4
  have e_hE_1_2_1 := funext hE_1_2_1; subst e_hE_1_2_1
  have e_hE_1_2_2 := funext hE_1_2_2; subst e_hE_1_2_2
  have e_hE_1_2_3 := funext hE_1_2_3; subst e_hE_1_2_3
  have e_hE_1_2_4 := funext hE_1_2_4; subst e_hE_1_2_4
  have e_hE_1_3_1 := funext hE_1_3_1; subst e_hE_1_3_1
  have e_hE_1_3_2 := funext hE_1_3_2; subst e_hE_1_3_2
  have e_hE_1_3_3 := funext hE_1_3_3; subst e_hE_1_3_3
  have e_hE_1_3_4 := funext hE_1_3_4; subst e_hE_1_3_4
  first
    | exact cgo_start ‹CG0 _ _ _ _ _ _› (by omega) (by omega)
set_option maxHeartbeats 4000000 in
theorem vc_Pn_placeByOrder_1_2 (x6 : Int) (x20 : Int) (order_2 : Int → Int) (order_3 : Int → Int) (order_4 : Int → Int) (under_4 : Int → Int) (x_4o1 : Int → Int) (y_4o1 : Int → Int) (lineLength_1 : Int) (lineLength_2 : Int) (lineLength_3 : Int) (order_0 : Int → Int) (order_1 : Int → Int) (line_0 : Int → Int) (line_1 : Int → Int) (under_0 : Int → Int) (under_1 : Int → Int) (under_2 : Int → Int) (under_3 : Int → Int) (x_0o1 : Int → Int) (x_1o1 : Int → Int) (x_2o1 : Int → Int) (x_3o1 : Int → Int) (y_0o1 : Int → Int) (y_1o1 : Int → Int) (y_2o1 : Int → Int) (y_3o1 : Int → Int) (k20 : 3 ≤ x20 ∧ x20 ≤ 3) (fe_0_3_2 : lineLength_1 = lineLength_2) (fe_0_3_3 : lineLength_2 = lineLength_3) (hE_0_1_1 : ∀ j : Int, order_0 j = order_1 j) (hE_0_1_2 : ∀ j : Int, order_1 j = order_2 j) (hE_0_1_3 : ∀ j : Int, order_2 j = order_3 j) (hE_0_1_4 : ∀ j : Int, order_3 j = order_4 j) (hE_0_2_1 : ∀ j : Int, line_0 j = line_1 j) (hE_0_4_1 : ∀ j : Int, under_0 j = under_1 j) (hE_0_4_2 : ∀ j : Int, under_1 j = under_2 j) (hE_0_4_3 : ∀ j : Int, under_2 j = under_3 j) (hE_0_4_4 : ∀ j : Int, under_3 j = under_4 j) (hE_1_2_1 : ∀ j : Int, x_0o1 j = x_1o1 j) (hE_1_2_2 : ∀ j : Int, x_1o1 j = x_2o1 j) (hE_1_2_3 : ∀ j : Int, x_2o1 j = x_3o1 j) (hE_1_2_4 : ∀ j : Int, x_3o1 j = x_4o1 j) (hE_1_3_1 : ∀ j : Int, y_0o1 j = y_1o1 j) (hE_1_3_2 : ∀ j : Int, y_1o1 j = y_2o1 j) (hE_1_3_3 : ∀ j : Int, y_2o1 j = y_3o1 j) (hE_1_3_4 : ∀ j : Int, y_3o1 j = y_4o1 j) : 3 ≤ x20 := by
  subst fe_0_3_2
  subst fe_0_3_3
  have e_hE_0_1_1 := funext hE_0_1_1; subst e_hE_0_1_1
  have e_hE_0_1_2 := funext hE_0_1_2; subst e_hE_0_1_2
  have e_hE_0_1_3 := funext hE_0_1_3; subst e_hE_0_1_3
  have e_hE_0_1_4 := funext hE_0_1_4; subst e_hE_0_1_4
  have e_hE_0_2_1 := funext hE_0_2_1; subst e_hE_0_2_1
  have e_hE_0_4_1 := funext hE_0_4_1; subst e_hE_0_4_1
  have e_hE_0_4_2 := funext hE_0_4_2; subst e_hE_0_4_2
  have e_hE_0_4_3 := funext hE_0_4_3; subst e_hE_0_4_3
  have e_hE_0_4_4 := funext hE_0_4_4; subst e_hE_0_4_4
  have e_hE_1_2_1 := funext hE_1_2_1; subst e_hE_1_2_1
  have e_hE_1_2_2 := funext hE_1_2_2; subst e_hE_1_2_2
  have e_hE_1_2_3 := funext hE_1_2_3; subst e_hE_1_2_3
  have e_hE_1_2_4 := funext hE_1_2_4; subst e_hE_1_2_4
  have e_hE_1_3_1 := funext hE_1_3_1; subst e_hE_1_3_1
  have e_hE_1_3_2 := funext hE_1_3_2; subst e_hE_1_3_2
  have e_hE_1_3_3 := funext hE_1_3_3; subst e_hE_1_3_3
  have e_hE_1_3_4 := funext hE_1_3_4; subst e_hE_1_3_4
  first
    | omega
    | assumption
    | (rw [show gu = x6 by omega]; assumption)
def o_Pn_placeByOrder_1 : or_T := (105, 21, [(0, (2, 0, 0, [7])), (1, (2, 0, 0, [0])), (6, (0, 3, 3, [])), (8, (2, 0, 0, [103])), (9, (0, 0, 0, [])), (11, (0, 0, 0, [])), (12, (0, 0, 23, [])), (13, (0, 1, 1, [])), (14, (0, 2, 2, [])), (15, (0, 0, 23, [])), (16, (0, 2, 2, [])), (17, (0, 1, 1, [])), (18, (0, 0, 23, [])), (19, (0, 3, 3, [])), (20, (0, 3, 3, []))], [(9, [19, 4], [3]), (9, [10, 4], [1]), (9, [8, 4], [2]), (24, [0, 4], []), (24, [1, 5], []), (101, [4, 19], [3]), (100, [8, 16, 18], []), (10, [18, 10, 17], []), (100, [8, 13, 15], []), (10, [15, 10, 14], []), (100, [8, 9, 12], []), (10, [12, 10, 11], []), (20, [4, 5, 6], [60, 0, 5, 888, 2, 1, 4, 1002, 1003])], [], [], [(20, [4, 20], [60, 1, 2, 889, 3, 2, 1]), (20, [4, 5, 20], [60, 0, 4, 883, 1, 4, 1002, 1003]), (20, [20], [50, 0, 0, 0, 2, 0, 3, 1, 0])], [], [])
theorem oo_Pn_placeByOrder_1 {kA : Nat → ClassId} : or_ok PRD kA GG o_Pn_placeByOrder_1 := by
  refine or_mk fun A ta ws vs hD hth hl => ?_
  intro t0 r0 t1 r1 t6 k6 t8 r8 t9 k9 t11 k11 t12 k12 t13 k13 t14 k14 t15 k15 t16 k16 t17 k17 t18 k18 t19 k19 t20 k20 f0 f1 f2 f4 f5 ta1 w1 le1 s1 ta2 w2 le2 s2 f9 ta3 w3 le3 s3 f12 ta4 w4 le4 s4 f15 f17
  replace f0 := shm_137 f0
  replace f1 := shm_215 f1
  replace f2 := shm_120 f2
  replace f4 := shm_5 f4
  replace f5 := shm_5 f5
  have s1 : (∀ b j, w_el ws b j = w_el w1 b j) ∧ ∀ b j, w_fd ws b j = if b = v_ad (n_v vs 4) ∧ j = 3 then n_v vs 19 else w_fd w1 b j := s1.2
  have s2 : (∀ b j, w_el w1 b j = if b = v_ad (n_v vs 8) ∧ j = (v_iv (n_v vs 16)).toNat then v_iv (n_v vs 18) else w_el w2 b j) ∧ ∀ b k, w_fd w1 b k = w_fd w2 b k := s2.2
  replace f9 := shm_107 f9
  have s3 : (∀ b j, w_el w2 b j = if b = v_ad (n_v vs 8) ∧ j = (v_iv (n_v vs 13)).toNat then v_iv (n_v vs 15) else w_el w3 b j) ∧ ∀ b k, w_fd w2 b k = w_fd w3 b k := s3.2
  replace f12 := shm_107 f12
  have s4 : (∀ b j, w_el w3 b j = if b = v_ad (n_v vs 8) ∧ j = (v_iv (n_v vs 9)).toNat then v_iv (n_v vs 12) else w_el w4 b j) ∧ ∀ b k, w_fd w3 b k = w_fd w4 b k := s4.2
  replace f15 := shm_107 f15
  replace f17 := shm_1519 f17
  have q4 : n_v vs 4 = n_v vs 0 := f4.symm
  have q5 : n_v vs 5 = n_v vs 1 := f5.symm
  simp only [q4] at f0 f1 f2
  rw [q4] at s1
  simp only [q4, q5] at f17
  have ar_0_1_1 : w_ar w1 (n_v vs 0) 1 = w_ar ws (n_v vs 0) 1 := by show v_ad (w_fd w1 _ _) = v_ad (w_fd ws _ _); rw [s1.2, if_neg (fun e => absurd e.2 (by decide))]
  have ar_0_1_2 : w_ar w2 (n_v vs 0) 1 = w_ar ws (n_v vs 0) 1 := by rw [← ar_0_1_1]; show v_ad (w_fd w2 _ _) = v_ad (w_fd w1 _ _); rw [s2.2]
  have ar_0_1_3 : w_ar w3 (n_v vs 0) 1 = w_ar ws (n_v vs 0) 1 := by rw [← ar_0_1_2]; show v_ad (w_fd w3 _ _) = v_ad (w_fd w2 _ _); rw [s3.2]
  have ar_0_1_4 : w_ar w4 (n_v vs 0) 1 = w_ar ws (n_v vs 0) 1 := by rw [← ar_0_1_3]; show v_ad (w_fd w4 _ _) = v_ad (w_fd w3 _ _); rw [s4.2]
  have cr_0_1 := fdq_92 hD hth r0
  have ar_0_2_1 : w_ar w1 (n_v vs 0) 2 = w_ar ws (n_v vs 0) 2 := by show v_ad (w_fd w1 _ _) = v_ad (w_fd ws _ _); rw [s1.2, if_neg (fun e => absurd e.2 (by decide))]
  have ar_0_2_2 : w_ar w2 (n_v vs 0) 2 = w_ar ws (n_v vs 0) 2 := by rw [← ar_0_2_1]; show v_ad (w_fd w2 _ _) = v_ad (w_fd w1 _ _); rw [s2.2]
  have ar_0_2_3 : w_ar w3 (n_v vs 0) 2 = w_ar ws (n_v vs 0) 2 := by rw [← ar_0_2_2]; show v_ad (w_fd w3 _ _) = v_ad (w_fd w2 _ _); rw [s3.2]
  have ar_0_2_4 : w_ar w4 (n_v vs 0) 2 = w_ar ws (n_v vs 0) 2 := by rw [← ar_0_2_3]; show v_ad (w_fd w4 _ _) = v_ad (w_fd w3 _ _); rw [s4.2]
  have ar_0_4_1 : w_ar w1 (n_v vs 0) 4 = w_ar ws (n_v vs 0) 4 := by show v_ad (w_fd w1 _ _) = v_ad (w_fd ws _ _); rw [s1.2, if_neg (fun e => absurd e.2 (by decide))]
  have ar_0_4_2 : w_ar w2 (n_v vs 0) 4 = w_ar ws (n_v vs 0) 4 := by rw [← ar_0_4_1]; show v_ad (w_fd w2 _ _) = v_ad (w_fd w1 _ _); rw [s2.2]
  have ar_0_4_3 : w_ar w3 (n_v vs 0) 4 = w_ar ws (n_v vs 0) 4 := by rw [← ar_0_4_2]; show v_ad (w_fd w3 _ _) = v_ad (w_fd w2 _ _); rw [s3.2]
  have ar_0_4_4 : w_ar w4 (n_v vs 0) 4 = w_ar ws (n_v vs 0) 4 := by rw [← ar_0_4_3]; show v_ad (w_fd w4 _ _) = v_ad (w_fd w3 _ _); rw [s4.2]
  have cr_0_4 := fdq_93 hD hth r0
  have ar_1_2_1 : w_ar w1 (n_v vs 1) 2 = w_ar ws (n_v vs 1) 2 := by show v_ad (w_fd w1 _ _) = v_ad (w_fd ws _ _); rw [s1.2, if_neg (fun e => absurd e.2 (by decide))]
  have ar_1_2_2 : w_ar w2 (n_v vs 1) 2 = w_ar ws (n_v vs 1) 2 := by rw [← ar_1_2_1]; show v_ad (w_fd w2 _ _) = v_ad (w_fd w1 _ _); rw [s2.2]
  have ar_1_2_3 : w_ar w3 (n_v vs 1) 2 = w_ar ws (n_v vs 1) 2 := by rw [← ar_1_2_2]; show v_ad (w_fd w3 _ _) = v_ad (w_fd w2 _ _); rw [s3.2]
  have ar_1_2_4 : w_ar w4 (n_v vs 1) 2 = w_ar ws (n_v vs 1) 2 := by rw [← ar_1_2_3]; show v_ad (w_fd w4 _ _) = v_ad (w_fd w3 _ _); rw [s4.2]
  have cr_1_2 := fdq_45 hD hth r1
  have ar_1_3_1 : w_ar w1 (n_v vs 1) 3 = w_ar ws (n_v vs 1) 3 := by show v_ad (w_fd w1 _ _) = v_ad (w_fd ws _ _); rw [s1.2, if_neg (fun e => by have e1 := e.1; have e2 := r1; rw [e1, r0] at e2; exact absurd (Option.some.inj e2) (by decide))]
  have ar_1_3_2 : w_ar w2 (n_v vs 1) 3 = w_ar ws (n_v vs 1) 3 := by rw [← ar_1_3_1]; show v_ad (w_fd w2 _ _) = v_ad (w_fd w1 _ _); rw [s2.2]
  have ar_1_3_3 : w_ar w3 (n_v vs 1) 3 = w_ar ws (n_v vs 1) 3 := by rw [← ar_1_3_2]; show v_ad (w_fd w3 _ _) = v_ad (w_fd w2 _ _); rw [s3.2]
  have ar_1_3_4 : w_ar w4 (n_v vs 1) 3 = w_ar ws (n_v vs 1) 3 := by rw [← ar_1_3_3]; show v_ad (w_fd w4 _ _) = v_ad (w_fd w3 _ _); rw [s4.2]
  have cr_1_3 := fdq_48 hD hth r1
  have ad_10 : v_ad (n_v vs 10) = w_ar ws (n_v vs 0) 1 := congrArg v_ad f1
  have ad_8 : v_ad (n_v vs 8) = w_ar ws (n_v vs 0) 2 := congrArg v_ad f2
  have g0 : v_iv (n_v vs 19) = w_fi ws (n_v vs 0) 3 := congrArg v_iv f0
  simp only [ad_10] at f9
  have h9 : v_iv (n_v vs 18) = w_ei w2 (w_ar ws (n_v vs 0) 1) (v_iv (n_v vs 17)) := f9
  simp only [ad_10] at f12
  have h12 : v_iv (n_v vs 15) = w_ei w3 (w_ar ws (n_v vs 0) 1) (v_iv (n_v vs 14)) := f12
  simp only [ad_10] at f15
  have h15 : v_iv (n_v vs 12) = w_ei w4 (w_ar ws (n_v vs 0) 1) (v_iv (n_v vs 11)) := f15
  simp only [ar_0_1_4, ar_0_2_4, ar_0_4_4, ar_1_2_4, ar_1_3_4] at f17
  have fe_0_3_2 : w_fi w1 (n_v vs 0) 3 = w_fi w2 (n_v vs 0) 3 := congrArg v_iv (s2.2 _ _)
  have fe_0_3_3 : w_fi w2 (n_v vs 0) 3 = w_fi w3 (n_v vs 0) 3 := congrArg v_iv (s3.2 _ _)
  have hE_0_1_1 : ∀ j : Int, w_ei ws (w_ar ws (n_v vs 0) 1) j = w_ei w1 (w_ar ws (n_v vs 0) 1) j := fun j => s1.1 _ _
  have hE_0_1_2 : ∀ j : Int, w_ei w1 (w_ar ws (n_v vs 0) 1) j = w_ei w2 (w_ar ws (n_v vs 0) 1) j := el_kp s2.1 r8 cr_0_1 (by decide)
  have hE_0_1_3 : ∀ j : Int, w_ei w2 (w_ar ws (n_v vs 0) 1) j = w_ei w3 (w_ar ws (n_v vs 0) 1) j := el_kp s3.1 r8 cr_0_1 (by decide)
  have hE_0_1_4 : ∀ j : Int, w_ei w3 (w_ar ws (n_v vs 0) 1) j = w_ei w4 (w_ar ws (n_v vs 0) 1) j := el_kp s4.1 r8 cr_0_1 (by decide)
  have hE_0_2_1 : ∀ j : Int, w_ei ws (w_ar ws (n_v vs 0) 2) j = w_ei w1 (w_ar ws (n_v vs 0) 2) j := fun j => s1.1 _ _
  have hE_0_2_2 : ∀ j : Int, 0 ≤ j → (j = v_iv (n_v vs 16) → w_ei w1 (w_ar ws (n_v vs 0) 2) j = v_iv (n_v vs 18)) ∧ (j ≠ v_iv (n_v vs 16) → w_ei w1 (w_ar ws (n_v vs 0) 2) j = w_ei w2 (w_ar ws (n_v vs 0) 2) j) := fun j hj => ⟨fun h => by unfold w_ei; rw [s2.1, if_pos ⟨ad_8.symm, by rw [h]⟩], fun h => by unfold w_ei; rw [s2.1, if_neg (fun e => h (by have := e.2; omega))]⟩
  have hE_0_2_3 : ∀ j : Int, 0 ≤ j → (j = v_iv (n_v vs 13) → w_ei w2 (w_ar ws (n_v vs 0) 2) j = v_iv (n_v vs 15)) ∧ (j ≠ v_iv (n_v vs 13) → w_ei w2 (w_ar ws (n_v vs 0) 2) j = w_ei w3 (w_ar ws (n_v vs 0) 2) j) := fun j hj => ⟨fun h => by unfold w_ei; rw [s3.1, if_pos ⟨ad_8.symm, by rw [h]⟩], fun h => by unfold w_ei; rw [s3.1, if_neg (fun e => h (by have := e.2; omega))]⟩
  have hE_0_2_4 : ∀ j : Int, 0 ≤ j → (j = v_iv (n_v vs 9) → w_ei w3 (w_ar ws (n_v vs 0) 2) j = v_iv (n_v vs 12)) ∧ (j ≠ v_iv (n_v vs 9) → w_ei w3 (w_ar ws (n_v vs 0) 2) j = w_ei w4 (w_ar ws (n_v vs 0) 2) j) := fun j hj => ⟨fun h => by unfold w_ei; rw [s4.1, if_pos ⟨ad_8.symm, by rw [h]⟩], fun h => by unfold w_ei; rw [s4.1, if_neg (fun e => h (by have := e.2; omega))]⟩
  have hE_0_4_1 : ∀ j : Int, w_ei ws (w_ar ws (n_v vs 0) 4) j = w_ei w1 (w_ar ws (n_v vs 0) 4) j := fun j => s1.1 _ _
  have hE_0_4_2 : ∀ j : Int, w_ei w1 (w_ar ws (n_v vs 0) 4) j = w_ei w2 (w_ar ws (n_v vs 0) 4) j := el_kp s2.1 r8 cr_0_4 (by decide)
  have hE_0_4_3 : ∀ j : Int, w_ei w2 (w_ar ws (n_v vs 0) 4) j = w_ei w3 (w_ar ws (n_v vs 0) 4) j := el_kp s3.1 r8 cr_0_4 (by decide)
  have hE_0_4_4 : ∀ j : Int, w_ei w3 (w_ar ws (n_v vs 0) 4) j = w_ei w4 (w_ar ws (n_v vs 0) 4) j := el_kp s4.1 r8 cr_0_4 (by decide)
  have hE_1_2_1 : ∀ j : Int, w_ei ws (w_ar ws (n_v vs 1) 2) j = w_ei w1 (w_ar ws (n_v vs 1) 2) j := fun j => s1.1 _ _
  have hE_1_2_2 : ∀ j : Int, w_ei w1 (w_ar ws (n_v vs 1) 2) j = w_ei w2 (w_ar ws (n_v vs 1) 2) j := el_kp s2.1 r8 cr_1_2 (by decide)
  have hE_1_2_3 : ∀ j : Int, w_ei w2 (w_ar ws (n_v vs 1) 2) j = w_ei w3 (w_ar ws (n_v vs 1) 2) j := el_kp s3.1 r8 cr_1_2 (by decide)
  have hE_1_2_4 : ∀ j : Int, w_ei w3 (w_ar ws (n_v vs 1) 2) j = w_ei w4 (w_ar ws (n_v vs 1) 2) j := el_kp s4.1 r8 cr_1_2 (by decide)
  have hE_1_3_1 : ∀ j : Int, w_ei ws (w_ar ws (n_v vs 1) 3) j = w_ei w1 (w_ar ws (n_v vs 1) 3) j := fun j => s1.1 _ _
  have hE_1_3_2 : ∀ j : Int, w_ei w1 (w_ar ws (n_v vs 1) 3) j = w_ei w2 (w_ar ws (n_v vs 1) 3) j := el_kp s2.1 r8 cr_1_3 (by decide)
  have hE_1_3_3 : ∀ j : Int, w_ei w2 (w_ar ws (n_v vs 1) 3) j = w_ei w3 (w_ar ws (n_v vs 1) 3) j := el_kp s3.1 r8 cr_1_3 (by decide)
  have hE_1_3_4 : ∀ j : Int, w_ei w3 (w_ar ws (n_v vs 1) 3) j = w_ei w4 (w_ar ws (n_v vs 1) 3) j := el_kp s4.1 r8 cr_1_3 (by decide)
  have kz_0_3 := fdq_13 hD hth r0
  have nf0 : fc_1 PRD (20, [4, 20], [60, 1, 2, 889, 3, 2, 1]) ws (vs) := by
    refine ⟨nf_in hl rfl, sgq_899 ?_⟩
    · show LNO (w_fi ws (n_v vs 4) 3) (w_ei ws (w_ar ws (n_v vs 4) 2)) (w_ei ws (w_ar ws (n_v vs 4) 1)) (v_iv (n_v vs 20))
      rw [q4]
      exact vc_Pn_placeByOrder_1_0 (v_iv (n_v vs 6)) (v_iv (n_v vs 9)) (v_iv (n_v vs 11)) (v_iv (n_v vs 12)) (v_iv (n_v vs 13)) (v_iv (n_v vs 14)) (v_iv (n_v vs 15)) (v_iv (n_v vs 16)) (v_iv (n_v vs 17)) (v_iv (n_v vs 18)) (v_iv (n_v vs 19)) (v_iv (n_v vs 20)) (w_fi ws (n_v vs 0) 3) (w_ei w2 (w_ar ws (n_v vs 0) 1)) (w_ei w3 (w_ar ws (n_v vs 0) 1)) (w_ei w4 (w_ar ws (n_v vs 0) 1)) (w_ei w4 (w_ar ws (n_v vs 0) 2)) (w_ei w4 (w_ar ws (n_v vs 0) 4)) (w_ei w4 (w_ar ws (n_v vs 1) 2)) (w_ei w4 (w_ar ws (n_v vs 1) 3)) (w_fi w1 (n_v vs 0) 3) (w_fi w2 (n_v vs 0) 3) (w_fi w3 (n_v vs 0) 3) (w_ei ws (w_ar ws (n_v vs 0) 1)) (w_ei w1 (w_ar ws (n_v vs 0) 1)) (w_ei ws (w_ar ws (n_v vs 0) 2)) (w_ei w1 (w_ar ws (n_v vs 0) 2)) (w_ei w2 (w_ar ws (n_v vs 0) 2)) (w_ei w3 (w_ar ws (n_v vs 0) 2)) (w_ei ws (w_ar ws (n_v vs 0) 4)) (w_ei w1 (w_ar ws (n_v vs 0) 4)) (w_ei w2 (w_ar ws (n_v vs 0) 4)) (w_ei w3 (w_ar ws (n_v vs 0) 4)) (w_ei ws (w_ar ws (n_v vs 1) 2)) (w_ei w1 (w_ar ws (n_v vs 1) 2)) (w_ei w2 (w_ar ws (n_v vs 1) 2)) (w_ei w3 (w_ar ws (n_v vs 1) 2)) (w_ei ws (w_ar ws (n_v vs 1) 3)) (w_ei w1 (w_ar ws (n_v vs 1) 3)) (w_ei w2 (w_ar ws (n_v vs 1) 3)) (w_ei w3 (w_ar ws (n_v vs 1) 3)) k9 k11 k12 k13 k14 k15 k16 k17 k18 k19 k20 g0 h9 h12 h15 fe_0_3_2 fe_0_3_3 hE_0_1_1 hE_0_1_2 hE_0_1_3 hE_0_1_4 hE_0_2_1 hE_0_2_2 hE_0_2_3 hE_0_2_4 hE_0_4_1 hE_0_4_2 hE_0_4_3 hE_0_4_4 hE_1_2_1 hE_1_2_2 hE_1_2_3 hE_1_2_4 hE_1_3_1 hE_1_3_2 hE_1_3_3 hE_1_3_4 kz_0_3
  have nf1 : fc_1 PRD (20, [4, 5, 20], [60, 0, 4, 883, 1, 4, 1002, 1003]) ws (vs) := by
    refine ⟨nf_in hl rfl, sgq_1393 ?_⟩
    · show CGO (w_ei ws (w_ar ws (n_v vs 4) 1)) (w_ei ws (w_ar ws (n_v vs 4) 4)) (w_ei ws (w_ar ws (n_v vs 5) 2)) (w_ei ws (w_ar ws (n_v vs 5) 3)) (v_iv (n_v vs 20))
      simp only [q4, q5]
      exact vc_Pn_placeByOrder_1_1 (v_iv (n_v vs 6)) (v_iv (n_v vs 20)) (w_ei w2 (w_ar ws (n_v vs 0) 1)) (w_ei w3 (w_ar ws (n_v vs 0) 1)) (w_ei w4 (w_ar ws (n_v vs 0) 1)) (w_ei w4 (w_ar ws (n_v vs 0) 2)) (w_ei w4 (w_ar ws (n_v vs 0) 4)) (w_ei w4 (w_ar ws (n_v vs 1) 2)) (w_ei w4 (w_ar ws (n_v vs 1) 3)) (w_fi w1 (n_v vs 0) 3) (w_fi w2 (n_v vs 0) 3) (w_fi w3 (n_v vs 0) 3) (w_ei ws (w_ar ws (n_v vs 0) 1)) (w_ei w1 (w_ar ws (n_v vs 0) 1)) (w_ei ws (w_ar ws (n_v vs 0) 2)) (w_ei w1 (w_ar ws (n_v vs 0) 2)) (w_ei ws (w_ar ws (n_v vs 0) 4)) (w_ei w1 (w_ar ws (n_v vs 0) 4)) (w_ei w2 (w_ar ws (n_v vs 0) 4)) (w_ei w3 (w_ar ws (n_v vs 0) 4)) (w_ei ws (w_ar ws (n_v vs 1) 2)) (w_ei w1 (w_ar ws (n_v vs 1) 2)) (w_ei w2 (w_ar ws (n_v vs 1) 2)) (w_ei w3 (w_ar ws (n_v vs 1) 2)) (w_ei ws (w_ar ws (n_v vs 1) 3)) (w_ei w1 (w_ar ws (n_v vs 1) 3)) (w_ei w2 (w_ar ws (n_v vs 1) 3)) (w_ei w3 (w_ar ws (n_v vs 1) 3)) k6 k20 f17 fe_0_3_2 fe_0_3_3 hE_0_1_1 hE_0_1_2 hE_0_1_3 hE_0_1_4 hE_0_2_1 hE_0_4_1 hE_0_4_2 hE_0_4_3 hE_0_4_4 hE_1_2_1 hE_1_2_2 hE_1_2_3 hE_1_2_4 hE_1_3_1 hE_1_3_2 hE_1_3_3 hE_1_3_4
  have nf2 : fc_1 PRD (20, [20], [50, 0, 0, 0, 2, 0, 3, 1, 0]) ws (vs) := ⟨nf_in hl rfl, sgq_1207 (vc_Pn_placeByOrder_1_2 (v_iv (n_v vs 6)) (v_iv (n_v vs 20)) (w_ei w2 (w_ar ws (n_v vs 0) 1)) (w_ei w3 (w_ar ws (n_v vs 0) 1)) (w_ei w4 (w_ar ws (n_v vs 0) 1)) (w_ei w4 (w_ar ws (n_v vs 0) 4)) (w_ei w4 (w_ar ws (n_v vs 1) 2)) (w_ei w4 (w_ar ws (n_v vs 1) 3)) (w_fi w1 (n_v vs 0) 3) (w_fi w2 (n_v vs 0) 3) (w_fi w3 (n_v vs 0) 3) (w_ei ws (w_ar ws (n_v vs 0) 1)) (w_ei w1 (w_ar ws (n_v vs 0) 1)) (w_ei ws (w_ar ws (n_v vs 0) 2)) (w_ei w1 (w_ar ws (n_v vs 0) 2)) (w_ei ws (w_ar ws (n_v vs 0) 4)) (w_ei w1 (w_ar ws (n_v vs 0) 4)) (w_ei w2 (w_ar ws (n_v vs 0) 4)) (w_ei w3 (w_ar ws (n_v vs 0) 4)) (w_ei ws (w_ar ws (n_v vs 1) 2)) (w_ei w1 (w_ar ws (n_v vs 1) 2)) (w_ei w2 (w_ar ws (n_v vs 1) 2)) (w_ei w3 (w_ar ws (n_v vs 1) 2)) (w_ei ws (w_ar ws (n_v vs 1) 3)) (w_ei w1 (w_ar ws (n_v vs 1) 3)) (w_ei w2 (w_ar ws (n_v vs 1) 3)) (w_ei w3 (w_ar ws (n_v vs 1) 3)) k20 fe_0_3_2 fe_0_3_3 hE_0_1_1 hE_0_1_2 hE_0_1_3 hE_0_1_4 hE_0_2_1 hE_0_4_1 hE_0_4_2 hE_0_4_3 hE_0_4_4 hE_1_2_1 hE_1_2_2 hE_1_2_3 hE_1_2_4 hE_1_3_1 hE_1_3_2 hE_1_3_3 hE_1_3_4)⟩
  refine ⟨(fun _ h => (by cases h)), [], trivial, ?_, (fun _ h => (by cases h))⟩
  rw [List.append_nil]
  exact List.forall_mem_cons.mpr ⟨⟨show (20 : Nat) < 100 from by decide, nf0⟩, List.forall_mem_cons.mpr ⟨⟨show (20 : Nat) < 100 from by decide, nf1⟩, List.forall_mem_cons.mpr ⟨⟨show (20 : Nat) < 100 from by decide, nf2⟩, (fun _ h => (by cases h))⟩⟩⟩
def o_Pn_placeByOrder_2 : or_T := (47, 16, [(2, (2, 0, 0, [12])), (3, (0, 0, 3072, [])), (5, (2, 0, 0, [0])), (9, (0, 0, 23, [])), (13, (2, 0, 0, [15])), (15, (0, 0, 0, []))], [(100, [13, 9, 15], []), (20, [2, 3, 5], [62, 2000000])], [], [], [(20, [2, 3, 5], [62, 2000000])], [], [])
theorem oo_Pn_placeByOrder_2 {kA : Nat → ClassId} : or_ok PRD kA GG o_Pn_placeByOrder_2 := by
  refine or_mk fun A ta ws vs hD hth hl => ?_
  intro t2 r2 t3 k3 t5 r5 t9 k9 t13 r13 t15 k15 ta1 w1 le1 s1 f1
  have s1 : (∀ b j, w_el ws b j = if b = v_ad (n_v vs 13) ∧ j = (v_iv (n_v vs 9)).toNat then v_iv (n_v vs 15) else w_el w1 b j) ∧ ∀ b k, w_fd ws b k = w_fd w1 b k := s1.2
  replace f1 := shm_1399 f1
  have nf0 : fc_1 PRD (20, [2, 3, 5], [62, 2000000]) ws (vs) := by
    refine ⟨nf_in hl rfl, sgq_1399 ?_⟩
    · show HY ws (n_v vs 2) (v_iv (n_v vs 3) + (((2000000 : Nat) : Int) - 2000000)) ∧ HYD ws (n_v vs 2) (n_v vs 5)
      have hn := hy_ne (k := 3) (g := GG_12) hD hth r2 rfl (by decide) rfl rfl r13 (by decide) s1.2
      have hn0 := hy_ne (k := 0) (g := GG_12) hD hth r2 rfl (by decide) rfl rfl r13 (by decide) s1.2
      exact ⟨hy_st (hy_le f1.1 (by omega)) s1 hn hn0 (by omega) (by omega), hyd_st f1.2 s1 hn⟩
  refine ⟨(fun _ h => (by cases h)), [], trivial, ?_, (fun _ h => (by cases h))⟩
  rw [List.append_nil]
  exact List.forall_mem_cons.mpr ⟨⟨show (20 : Nat) < 100 from by decide, nf0⟩, (fun _ h => (by cases h))⟩
set_option maxHeartbeats 4000000 in
theorem vc_Pn_placeByOrder_3_0 (x6 : Int) (x9 : Int) (x11 : Int) (x12 : Int) (x14 : Int) (x15 : Int) (x17 : Int) (x18 : Int) (x19 : Int) (order_3 : Int → Int) (line_3 : Int → Int) (under_3 : Int → Int) (x_3o1 : Int → Int) (y_3o1 : Int → Int) (order_0 : Int → Int) (order_1 : Int → Int) (order_2 : Int → Int) (line_0 : Int → Int) (line_1 : Int → Int) (line_2 : Int → Int) (under_0 : Int → Int) (under_1 : Int → Int) (under_2 : Int → Int) (x_0o1 : Int → Int) (x_1o1 : Int → Int) (x_2o1 : Int → Int) (y_0o1 : Int → Int) (y_1o1 : Int → Int) (y_2o1 : Int → Int) (k6 : 1 ≤ x6 ∧ x6 ≤ 1) (k9 : 0 ≤ x9 ∧ x9 ≤ 23) (k11 : 3 ≤ x11 ∧ x11 ≤ 3) (k12 : 1 ≤ x12 ∧ x12 ≤ 2) (k15 : 0 ≤ x15 ∧ x15 ≤ 0) (k17 : 1 ≤ x17 ∧ x17 ≤ 1) (k18 : 1 ≤ x18 ∧ x18 ≤ 8388608) (k19 : 2 ≤ x19 ∧ x19 ≤ 2) (f4 : x19 = x6 + 1) (f9 : bvp (x18) = bvp (x17) <<< (x9).toNat) (f15 : x12 = x11 - x6) (h17 : x9 = order_3 (x6)) (f19 : CG0 (line_3) (order_3) (under_3) (x_3o1) (y_3o1) (x6)) (hE_0_1_1 : ∀ j : Int, order_0 j = order_1 j) (hE_0_1_2 : ∀ j : Int, order_1 j = order_2 j) (hE_0_1_3 : ∀ j : Int, order_2 j = order_3 j) (hE_0_2_1 : ∀ j : Int, line_0 j = line_1 j) (hE_0_2_2 : ∀ j : Int, line_1 j = line_2 j) (hE_0_2_3 : ∀ j : Int, line_2 j = line_3 j) (hE_0_4_1 : ∀ j : Int, 0 ≤ j → (j = x9 → under_0 j = x18) ∧ (j ≠ x9 → under_0 j = under_1 j)) (hE_0_4_2 : ∀ j : Int, under_1 j = under_2 j) (hE_0_4_3 : ∀ j : Int, under_2 j = under_3 j) (hE_1_2_1 : ∀ j : Int, x_0o1 j = x_1o1 j) (hE_1_2_2 : ∀ j : Int, x_1o1 j = x_2o1 j) (hE_1_2_3 : ∀ j : Int, 0 ≤ j → (j = x9 → x_2o1 j = x12) ∧ (j ≠ x9 → x_2o1 j = x_3o1 j)) (hE_1_3_1 : ∀ j : Int, y_0o1 j = y_1o1 j) (hE_1_3_2 : ∀ j : Int, 0 ≤ j → (j = x9 → y_1o1 j = x15) ∧ (j ≠ x9 → y_1o1 j = y_2o1 j)) (hE_1_3_3 : ∀ j : Int, y_2o1 j = y_3o1 j) : CG0 (line_0) (order_0) (under_0) (x_0o1) (y_0o1) (x19) := by
  have e_hE_0_1_1 := funext hE_0_1_1; subst e_hE_0_1_1
  have e_hE_0_1_2 := funext hE_0_1_2; subst e_hE_0_1_2
  have e_hE_0_1_3 := funext hE_0_1_3; subst e_hE_0_1_3
  have e_hE_0_2_1 := funext hE_0_2_1; subst e_hE_0_2_1
  have e_hE_0_2_2 := funext hE_0_2_2; subst e_hE_0_2_2
  have e_hE_0_2_3 := funext hE_0_2_3; subst e_hE_0_2_3
  have e_hE_0_4_2 := funext hE_0_4_2; subst e_hE_0_4_2
  have e_hE_0_4_3 := funext hE_0_4_3; subst e_hE_0_4_3
  have e_hE_1_2_1 := funext hE_1_2_1; subst e_hE_1_2_1
  have e_hE_1_2_2 := funext hE_1_2_2; subst e_hE_1_2_2
  have e_hE_1_3_1 := funext hE_1_3_1; subst e_hE_1_3_1
  have e_hE_1_3_3 := funext hE_1_3_3; subst e_hE_1_3_3
  first
    | exact cg0_step (X := x12) (Y := x15) (w := x18) ‹CG0 _ _ _ _ _ _› (by omega) (by assumption) (by omega) (by omega) hE_1_2_3 rfl hE_1_3_2 rfl hE_0_4_1 rfl (by omega) (by omega) (by omega) (fun z a b => bit_shl (by assumption) (by omega) (by omega) a (by omega))
    | exact cg0_step (X := x11) (Y := x14) (w := x17) ‹CG0 _ _ _ _ _ _› (by omega) (by assumption) (by omega) (by omega) hE_1_2_3 rfl hE_1_3_2 rfl hE_0_4_1 rfl (by omega) (by omega) (by omega) (fun z a b => bit_shl (by assumption) (by omega) (by omega) a (by omega))
set_option maxHeartbeats 4000000 in
theorem vc_Pn_placeByOrder_3_1 (x6 : Int) (x19 : Int) (order_3 : Int → Int) (line_3 : Int → Int) (under_3 : Int → Int) (y_3o1 : Int → Int) (order_0 : Int → Int) (order_1 : Int → Int) (order_2 : Int → Int) (line_0 : Int → Int) (line_1 : Int → Int) (line_2 : Int → Int) (under_1 : Int → Int) (under_2 : Int → Int) (x_0o1 : Int → Int) (x_1o1 : Int → Int) (x_2o1 : Int → Int) (y_0o1 : Int → Int) (y_1o1 : Int → Int) (y_2o1 : Int → Int) (k19 : 2 ≤ x19 ∧ x19 ≤ 2) (hE_0_1_1 : ∀ j : Int, order_0 j = order_1 j) (hE_0_1_2 : ∀ j : Int, order_1 j = order_2 j) (hE_0_1_3 : ∀ j : Int, order_2 j = order_3 j) (hE_0_2_1 : ∀ j : Int, line_0 j = line_1 j) (hE_0_2_2 : ∀ j : Int, line_1 j = line_2 j) (hE_0_2_3 : ∀ j : Int, line_2 j = line_3 j) (hE_0_4_2 : ∀ j : Int, under_1 j = under_2 j) (hE_0_4_3 : ∀ j : Int, under_2 j = under_3 j) (hE_1_2_1 : ∀ j : Int, x_0o1 j = x_1o1 j) (hE_1_2_2 : ∀ j : Int, x_1o1 j = x_2o1 j) (hE_1_3_1 : ∀ j : Int, y_0o1 j = y_1o1 j) (hE_1_3_3 : ∀ j : Int, y_2o1 j = y_3o1 j) : x19 ≤ 3 := by
  have e_hE_0_1_1 := funext hE_0_1_1; subst e_hE_0_1_1
  have e_hE_0_1_2 := funext hE_0_1_2; subst e_hE_0_1_2
  have e_hE_0_1_3 := funext hE_0_1_3; subst e_hE_0_1_3
  have e_hE_0_2_1 := funext hE_0_2_1; subst e_hE_0_2_1
  have e_hE_0_2_2 := funext hE_0_2_2; subst e_hE_0_2_2
  have e_hE_0_2_3 := funext hE_0_2_3; subst e_hE_0_2_3
  have e_hE_0_4_2 := funext hE_0_4_2; subst e_hE_0_4_2
  have e_hE_0_4_3 := funext hE_0_4_3; subst e_hE_0_4_3
  have e_hE_1_2_1 := funext hE_1_2_1; subst e_hE_1_2_1
  have e_hE_1_2_2 := funext hE_1_2_2; subst e_hE_1_2_2
  have e_hE_1_3_1 := funext hE_1_3_1; subst e_hE_1_3_1
  have e_hE_1_3_3 := funext hE_1_3_3; subst e_hE_1_3_3
  first
    | omega
    | assumption
    | (rw [show gu = x6 by omega]; assumption)
def o_Pn_placeByOrder_3 : or_T := (2, 20, [(0, (2, 0, 0, [7])), (1, (2, 0, 0, [0])), (4, (2, 0, 0, [7])), (5, (2, 0, 0, [0])), (6, (0, 1, 1, [])), (7, (0, 3, 3, [])), (8, (2, 0, 0, [102])), (9, (0, 0, 23, [])), (10, (2, 0, 0, [14])), (11, (0, 3, 3, [])), (12, (0, 1, 2, [])), (13, (2, 0, 0, [15])), (14, (0, 2, 2, [])), (15, (0, 0, 0, [])), (16, (2, 0, 0, [104])), (17, (0, 1, 1, [])), (18, (0, 1, 8388608, [])), (19, (0, 2, 2, []))], [(9, [16, 4], [4]), (9, [13, 5], [3]), (9, [10, 5], [2]), (9, [8, 4], [1]), (6, [19, 6], [1]), (20, [6], [50, 0, 0, 0, 2, 1, 0, 0, 3]), (24, [0, 4], []), (24, [1, 5], []), (100, [16, 9, 18], []), (16, [18, 17, 9], [3]), (20, [6], [50, 0, 0, 0, 2, 1, 0, 0, 3]), (100, [13, 9, 15], []), (7, [6, 14], [1]), (20, [6], [50, 0, 0, 0, 2, 1, 0, 0, 3]), (100, [10, 9, 12], []), (2, [12, 11, 6], []), (8, [6], [1]), (10, [9, 8, 6], []), (7, [6, 7], [2]), (20, [4, 5, 6], [60, 0, 5, 888, 2, 1, 4, 1002, 1003]), (20, [6], [50, 0, 0, 0, 2, 1, 0, 0, 3])], [], [], [(20, [4, 5, 19], [60, 0, 5, 888, 2, 1, 4, 1002, 1003]), (20, [19], [50, 0, 0, 0, 2, 1, 0, 0, 3])], [], [])
theorem oo_Pn_placeByOrder_3 {kA : Nat → ClassId} : or_ok PRD kA GG o_Pn_placeByOrder_3 := by
  refine or_mk fun A ta ws vs hD hth hl => ?_
  intro t0 r0 t1 r1 t4 r4 t5 r5 t6 k6 t7 k7 t8 r8 t9 k9 t10 r10 t11 k11 t12 k12 t13 r13 t14 k14 t15 k15 t16 r16 t17 k17 t18 k18 t19 k19 f0 f1 f2 f3 f4 f5 f6 f7 ta1 w1 le1 s1 f9 f10 ta2 w2 le2 s2 f12 f13 ta3 w3 le3 s3 f15 f16 f17 f18 f19 f20
  replace f0 := shm_108 f0
  replace f1 := shm_137 f1
  replace f2 := shm_120 f2
  replace f3 := shm_215 f3
  replace f4 := shm_4 f4
  replace f6 := shm_5 f6
  replace f7 := shm_5 f7
  have s1 : (∀ b j, w_el ws b j = if b = v_ad (n_v vs 16) ∧ j = (v_iv (n_v vs 9)).toNat then v_iv (n_v vs 18) else w_el w1 b j) ∧ ∀ b k, w_fd ws b k = w_fd w1 b k := s1.2
  replace f9 := shm_349 f9
  have s2 : (∀ b j, w_el w1 b j = if b = v_ad (n_v vs 13) ∧ j = (v_iv (n_v vs 9)).toNat then v_iv (n_v vs 15) else w_el w2 b j) ∧ ∀ b k, w_fd w1 b k = w_fd w2 b k := s2.2
  have s3 : (∀ b j, w_el w2 b j = if b = v_ad (n_v vs 10) ∧ j = (v_iv (n_v vs 9)).toNat then v_iv (n_v vs 12) else w_el w3 b j) ∧ ∀ b k, w_fd w2 b k = w_fd w3 b k := s3.2
  replace f15 := shm_14 f15
  replace f17 := shm_107 f17
  replace f19 := shm_1519 f19
  have q4 : n_v vs 4 = n_v vs 0 := f6.symm
  have q5 : n_v vs 5 = n_v vs 1 := f7.symm
  simp only [q4, q5] at f0 f1 f2 f3 f19
  have ar_0_1_1 : w_ar w1 (n_v vs 0) 1 = w_ar ws (n_v vs 0) 1 := congrArg v_ad (s1.2 _ _).symm
  have ar_0_1_2 : w_ar w2 (n_v vs 0) 1 = w_ar ws (n_v vs 0) 1 := by rw [← ar_0_1_1]; show v_ad (w_fd w2 _ _) = v_ad (w_fd w1 _ _); rw [s2.2]
  have ar_0_1_3 : w_ar w3 (n_v vs 0) 1 = w_ar ws (n_v vs 0) 1 := by rw [← ar_0_1_2]; show v_ad (w_fd w3 _ _) = v_ad (w_fd w2 _ _); rw [s3.2]
  have cr_0_1 := fdq_92 hD hth r0
  have ar_0_2_1 : w_ar w1 (n_v vs 0) 2 = w_ar ws (n_v vs 0) 2 := congrArg v_ad (s1.2 _ _).symm
  have ar_0_2_2 : w_ar w2 (n_v vs 0) 2 = w_ar ws (n_v vs 0) 2 := by rw [← ar_0_2_1]; show v_ad (w_fd w2 _ _) = v_ad (w_fd w1 _ _); rw [s2.2]
  have ar_0_2_3 : w_ar w3 (n_v vs 0) 2 = w_ar ws (n_v vs 0) 2 := by rw [← ar_0_2_2]; show v_ad (w_fd w3 _ _) = v_ad (w_fd w2 _ _); rw [s3.2]
  have cr_0_2 := fdq_227 hD hth r0
  have ar_0_4_1 : w_ar w1 (n_v vs 0) 4 = w_ar ws (n_v vs 0) 4 := congrArg v_ad (s1.2 _ _).symm
  have ar_0_4_2 : w_ar w2 (n_v vs 0) 4 = w_ar ws (n_v vs 0) 4 := by rw [← ar_0_4_1]; show v_ad (w_fd w2 _ _) = v_ad (w_fd w1 _ _); rw [s2.2]
  have ar_0_4_3 : w_ar w3 (n_v vs 0) 4 = w_ar ws (n_v vs 0) 4 := by rw [← ar_0_4_2]; show v_ad (w_fd w3 _ _) = v_ad (w_fd w2 _ _); rw [s3.2]
  have cr_0_4 := fdq_93 hD hth r0
  have ar_1_2_1 : w_ar w1 (n_v vs 1) 2 = w_ar ws (n_v vs 1) 2 := congrArg v_ad (s1.2 _ _).symm
  have ar_1_2_2 : w_ar w2 (n_v vs 1) 2 = w_ar ws (n_v vs 1) 2 := by rw [← ar_1_2_1]; show v_ad (w_fd w2 _ _) = v_ad (w_fd w1 _ _); rw [s2.2]
  have ar_1_2_3 : w_ar w3 (n_v vs 1) 2 = w_ar ws (n_v vs 1) 2 := by rw [← ar_1_2_2]; show v_ad (w_fd w3 _ _) = v_ad (w_fd w2 _ _); rw [s3.2]
  have cr_1_2 := fdq_45 hD hth r1
  have ar_1_3_1 : w_ar w1 (n_v vs 1) 3 = w_ar ws (n_v vs 1) 3 := congrArg v_ad (s1.2 _ _).symm
  have ar_1_3_2 : w_ar w2 (n_v vs 1) 3 = w_ar ws (n_v vs 1) 3 := by rw [← ar_1_3_1]; show v_ad (w_fd w2 _ _) = v_ad (w_fd w1 _ _); rw [s2.2]
  have ar_1_3_3 : w_ar w3 (n_v vs 1) 3 = w_ar ws (n_v vs 1) 3 := by rw [← ar_1_3_2]; show v_ad (w_fd w3 _ _) = v_ad (w_fd w2 _ _); rw [s3.2]
  have cr_1_3 := fdq_48 hD hth r1
  have ad_16 : v_ad (n_v vs 16) = w_ar ws (n_v vs 0) 4 := congrArg v_ad f0
  have ad_13 : v_ad (n_v vs 13) = w_ar ws (n_v vs 1) 3 := congrArg v_ad f1
  have ad_10 : v_ad (n_v vs 10) = w_ar ws (n_v vs 1) 2 := congrArg v_ad f2
  have ad_8 : v_ad (n_v vs 8) = w_ar ws (n_v vs 0) 1 := congrArg v_ad f3
  simp only [ad_8] at f17
  have h17 : v_iv (n_v vs 9) = w_ei w3 (w_ar ws (n_v vs 0) 1) (v_iv (n_v vs 6)) := f17
  simp only [ar_0_1_3, ar_0_2_3, ar_0_4_3, ar_1_2_3, ar_1_3_3] at f19
  have hE_0_1_1 : ∀ j : Int, w_ei ws (w_ar ws (n_v vs 0) 1) j = w_ei w1 (w_ar ws (n_v vs 0) 1) j := el_kp s1.1 r16 cr_0_1 (by decide)
  have hE_0_1_2 : ∀ j : Int, w_ei w1 (w_ar ws (n_v vs 0) 1) j = w_ei w2 (w_ar ws (n_v vs 0) 1) j := el_kp s2.1 r13 cr_0_1 (by decide)
  have hE_0_1_3 : ∀ j : Int, w_ei w2 (w_ar ws (n_v vs 0) 1) j = w_ei w3 (w_ar ws (n_v vs 0) 1) j := el_kp s3.1 r10 cr_0_1 (by decide)
  have hE_0_2_1 : ∀ j : Int, w_ei ws (w_ar ws (n_v vs 0) 2) j = w_ei w1 (w_ar ws (n_v vs 0) 2) j := el_kp s1.1 r16 cr_0_2 (by decide)
  have hE_0_2_2 : ∀ j : Int, w_ei w1 (w_ar ws (n_v vs 0) 2) j = w_ei w2 (w_ar ws (n_v vs 0) 2) j := el_kp s2.1 r13 cr_0_2 (by decide)
  have hE_0_2_3 : ∀ j : Int, w_ei w2 (w_ar ws (n_v vs 0) 2) j = w_ei w3 (w_ar ws (n_v vs 0) 2) j := el_kp s3.1 r10 cr_0_2 (by decide)
  have hE_0_4_1 : ∀ j : Int, 0 ≤ j → (j = v_iv (n_v vs 9) → w_ei ws (w_ar ws (n_v vs 0) 4) j = v_iv (n_v vs 18)) ∧ (j ≠ v_iv (n_v vs 9) → w_ei ws (w_ar ws (n_v vs 0) 4) j = w_ei w1 (w_ar ws (n_v vs 0) 4) j) := fun j hj => ⟨fun h => by unfold w_ei; rw [s1.1, if_pos ⟨ad_16.symm, by rw [h]⟩], fun h => by unfold w_ei; rw [s1.1, if_neg (fun e => h (by have := e.2; omega))]⟩
  have hE_0_4_2 : ∀ j : Int, w_ei w1 (w_ar ws (n_v vs 0) 4) j = w_ei w2 (w_ar ws (n_v vs 0) 4) j := el_kp s2.1 r13 cr_0_4 (by decide)
  have hE_0_4_3 : ∀ j : Int, w_ei w2 (w_ar ws (n_v vs 0) 4) j = w_ei w3 (w_ar ws (n_v vs 0) 4) j := el_kp s3.1 r10 cr_0_4 (by decide)
  have hE_1_2_1 : ∀ j : Int, w_ei ws (w_ar ws (n_v vs 1) 2) j = w_ei w1 (w_ar ws (n_v vs 1) 2) j := el_kp s1.1 r16 cr_1_2 (by decide)
  have hE_1_2_2 : ∀ j : Int, w_ei w1 (w_ar ws (n_v vs 1) 2) j = w_ei w2 (w_ar ws (n_v vs 1) 2) j := el_kp s2.1 r13 cr_1_2 (by decide)
  have hE_1_2_3 : ∀ j : Int, 0 ≤ j → (j = v_iv (n_v vs 9) → w_ei w2 (w_ar ws (n_v vs 1) 2) j = v_iv (n_v vs 12)) ∧ (j ≠ v_iv (n_v vs 9) → w_ei w2 (w_ar ws (n_v vs 1) 2) j = w_ei w3 (w_ar ws (n_v vs 1) 2) j) := fun j hj => ⟨fun h => by unfold w_ei; rw [s3.1, if_pos ⟨ad_10.symm, by rw [h]⟩], fun h => by unfold w_ei; rw [s3.1, if_neg (fun e => h (by have := e.2; omega))]⟩
  have hE_1_3_1 : ∀ j : Int, w_ei ws (w_ar ws (n_v vs 1) 3) j = w_ei w1 (w_ar ws (n_v vs 1) 3) j := el_kp s1.1 r16 cr_1_3 (by decide)
  have hE_1_3_2 : ∀ j : Int, 0 ≤ j → (j = v_iv (n_v vs 9) → w_ei w1 (w_ar ws (n_v vs 1) 3) j = v_iv (n_v vs 15)) ∧ (j ≠ v_iv (n_v vs 9) → w_ei w1 (w_ar ws (n_v vs 1) 3) j = w_ei w2 (w_ar ws (n_v vs 1) 3) j) := fun j hj => ⟨fun h => by unfold w_ei; rw [s2.1, if_pos ⟨ad_13.symm, by rw [h]⟩], fun h => by unfold w_ei; rw [s2.1, if_neg (fun e => h (by have := e.2; omega))]⟩
  have hE_1_3_3 : ∀ j : Int, w_ei w2 (w_ar ws (n_v vs 1) 3) j = w_ei w3 (w_ar ws (n_v vs 1) 3) j := el_kp s3.1 r10 cr_1_3 (by decide)
  have nf0 : fc_1 PRD (20, [4, 5, 19], [60, 0, 5, 888, 2, 1, 4, 1002, 1003]) ws (vs) := by
    refine ⟨nf_in hl rfl, sgq_1519 ?_⟩
    · show CG0 (w_ei ws (w_ar ws (n_v vs 4) 2)) (w_ei ws (w_ar ws (n_v vs 4) 1)) (w_ei ws (w_ar ws (n_v vs 4) 4)) (w_ei ws (w_ar ws (n_v vs 5) 2)) (w_ei ws (w_ar ws (n_v vs 5) 3)) (v_iv (n_v vs 19))
      simp only [q4, q5]
      exact vc_Pn_placeByOrder_3_0 (v_iv (n_v vs 6)) (v_iv (n_v vs 9)) (v_iv (n_v vs 11)) (v_iv (n_v vs 12)) (v_iv (n_v vs 14)) (v_iv (n_v vs 15)) (v_iv (n_v vs 17)) (v_iv (n_v vs 18)) (v_iv (n_v vs 19)) (w_ei w3 (w_ar ws (n_v vs 0) 1)) (w_ei w3 (w_ar ws (n_v vs 0) 2)) (w_ei w3 (w_ar ws (n_v vs 0) 4)) (w_ei w3 (w_ar ws (n_v vs 1) 2)) (w_ei w3 (w_ar ws (n_v vs 1) 3)) (w_ei ws (w_ar ws (n_v vs 0) 1)) (w_ei w1 (w_ar ws (n_v vs 0) 1)) (w_ei w2 (w_ar ws (n_v vs 0) 1)) (w_ei ws (w_ar ws (n_v vs 0) 2)) (w_ei w1 (w_ar ws (n_v vs 0) 2)) (w_ei w2 (w_ar ws (n_v vs 0) 2)) (w_ei ws (w_ar ws (n_v vs 0) 4)) (w_ei w1 (w_ar ws (n_v vs 0) 4)) (w_ei w2 (w_ar ws (n_v vs 0) 4)) (w_ei ws (w_ar ws (n_v vs 1) 2)) (w_ei w1 (w_ar ws (n_v vs 1) 2)) (w_ei w2 (w_ar ws (n_v vs 1) 2)) (w_ei ws (w_ar ws (n_v vs 1) 3)) (w_ei w1 (w_ar ws (n_v vs 1) 3)) (w_ei w2 (w_ar ws (n_v vs 1) 3)) k6 k9 k11 k12 k15 k17 k18 k19 f4 f9 f15 h17 f19 hE_0_1_1 hE_0_1_2 hE_0_1_3 hE_0_2_1 hE_0_2_2 hE_0_2_3 hE_0_4_1 hE_0_4_2 hE_0_4_3 hE_1_2_1 hE_1_2_2 hE_1_2_3 hE_1_3_1 hE_1_3_2 hE_1_3_3
  have nf1 : fc_1 PRD (20, [19], [50, 0, 0, 0, 2, 1, 0, 0, 3]) ws (vs) := ⟨nf_in hl rfl, sgq_1520 (vc_Pn_placeByOrder_3_1 (v_iv (n_v vs 6)) (v_iv (n_v vs 19)) (w_ei w3 (w_ar ws (n_v vs 0) 1)) (w_ei w3 (w_ar ws (n_v vs 0) 2)) (w_ei w3 (w_ar ws (n_v vs 0) 4)) (w_ei w3 (w_ar ws (n_v vs 1) 3)) (w_ei ws (w_ar ws (n_v vs 0) 1)) (w_ei w1 (w_ar ws (n_v vs 0) 1)) (w_ei w2 (w_ar ws (n_v vs 0) 1)) (w_ei ws (w_ar ws (n_v vs 0) 2)) (w_ei w1 (w_ar ws (n_v vs 0) 2)) (w_ei w2 (w_ar ws (n_v vs 0) 2)) (w_ei w1 (w_ar ws (n_v vs 0) 4)) (w_ei w2 (w_ar ws (n_v vs 0) 4)) (w_ei ws (w_ar ws (n_v vs 1) 2)) (w_ei w1 (w_ar ws (n_v vs 1) 2)) (w_ei w2 (w_ar ws (n_v vs 1) 2)) (w_ei ws (w_ar ws (n_v vs 1) 3)) (w_ei w1 (w_ar ws (n_v vs 1) 3)) (w_ei w2 (w_ar ws (n_v vs 1) 3)) k19 hE_0_1_1 hE_0_1_2 hE_0_1_3 hE_0_2_1 hE_0_2_2 hE_0_2_3 hE_0_4_2 hE_0_4_3 hE_1_2_1 hE_1_2_2 hE_1_3_1 hE_1_3_3)⟩
  refine ⟨(fun _ h => (by cases h)), [], trivial, ?_, (fun _ h => (by cases h))⟩
  rw [List.append_nil]
  exact List.forall_mem_cons.mpr ⟨⟨show (20 : Nat) < 100 from by decide, nf0⟩, List.forall_mem_cons.mpr ⟨⟨show (20 : Nat) < 100 from by decide, nf1⟩, (fun _ h => (by cases h))⟩⟩
def o_Pn_placeByOrder_4 : or_T := (47, 16, [(2, (2, 0, 0, [12])), (3, (0, 0, 3072, [])), (5, (2, 0, 0, [0])), (9, (0, 0, 23, [])), (13, (2, 0, 0, [15])), (15, (0, 1, 1, []))], [(100, [13, 9, 15], []), (20, [2, 3, 5], [62, 2000000])], [], [], [(20, [2, 3, 5], [62, 2000000])], [], [])
theorem oo_Pn_placeByOrder_4 {kA : Nat → ClassId} : or_ok PRD kA GG o_Pn_placeByOrder_4 := by
  refine or_mk fun A ta ws vs hD hth hl => ?_
  intro t2 r2 t3 k3 t5 r5 t9 k9 t13 r13 t15 k15 ta1 w1 le1 s1 f1
  have s1 : (∀ b j, w_el ws b j = if b = v_ad (n_v vs 13) ∧ j = (v_iv (n_v vs 9)).toNat then v_iv (n_v vs 15) else w_el w1 b j) ∧ ∀ b k, w_fd ws b k = w_fd w1 b k := s1.2
  replace f1 := shm_1399 f1
  have nf0 : fc_1 PRD (20, [2, 3, 5], [62, 2000000]) ws (vs) := by
    refine ⟨nf_in hl rfl, sgq_1399 ?_⟩
    · show HY ws (n_v vs 2) (v_iv (n_v vs 3) + (((2000000 : Nat) : Int) - 2000000)) ∧ HYD ws (n_v vs 2) (n_v vs 5)
      have hn := hy_ne (k := 3) (g := GG_12) hD hth r2 rfl (by decide) rfl rfl r13 (by decide) s1.2
      have hn0 := hy_ne (k := 0) (g := GG_12) hD hth r2 rfl (by decide) rfl rfl r13 (by decide) s1.2
      exact ⟨hy_st (hy_le f1.1 (by omega)) s1 hn hn0 (by omega) (by omega), hyd_st f1.2 s1 hn⟩
  refine ⟨(fun _ h => (by cases h)), [], trivial, ?_, (fun _ h => (by cases h))⟩
  rw [List.append_nil]
  exact List.forall_mem_cons.mpr ⟨⟨show (20 : Nat) < 100 from by decide, nf0⟩, (fun _ h => (by cases h))⟩
set_option maxHeartbeats 4000000 in
theorem vc_Pn_placeByOrder_5_0 (x6 : Int) (x9 : Int) (x11 : Int) (x12 : Int) (x14 : Int) (x15 : Int) (x17 : Int) (x18 : Int) (x19 : Int) (order_3 : Int → Int) (line_3 : Int → Int) (under_3 : Int → Int) (x_3o1 : Int → Int) (y_3o1 : Int → Int) (order_0 : Int → Int) (order_1 : Int → Int) (order_2 : Int → Int) (line_0 : Int → Int) (line_1 : Int → Int) (line_2 : Int → Int) (under_0 : Int → Int) (under_1 : Int → Int) (under_2 : Int → Int) (x_0o1 : Int → Int) (x_1o1 : Int → Int) (x_2o1 : Int → Int) (y_0o1 : Int → Int) (y_1o1 : Int → Int) (y_2o1 : Int → Int) (k6 : 2 ≤ x6 ∧ x6 ≤ 2) (k9 : 0 ≤ x9 ∧ x9 ≤ 23) (k11 : 3 ≤ x11 ∧ x11 ≤ 3) (k12 : 1 ≤ x12 ∧ x12 ≤ 2) (k15 : 1 ≤ x15 ∧ x15 ≤ 1) (k17 : 1 ≤ x17 ∧ x17 ≤ 1) (k18 : 1 ≤ x18 ∧ x18 ≤ 8388608) (k19 : 3 ≤ x19 ∧ x19 ≤ 3) (f4 : x19 = x6 + 1) (f9 : bvp (x18) = bvp (x17) <<< (x9).toNat) (f15 : x12 = x11 - x6) (h17 : x9 = order_3 (x6)) (f19 : CG0 (line_3) (order_3) (under_3) (x_3o1) (y_3o1) (x6)) (hE_0_1_1 : ∀ j : Int, order_0 j = order_1 j) (hE_0_1_2 : ∀ j : Int, order_1 j = order_2 j) (hE_0_1_3 : ∀ j : Int, order_2 j = order_3 j) (hE_0_2_1 : ∀ j : Int, line_0 j = line_1 j) (hE_0_2_2 : ∀ j : Int, line_1 j = line_2 j) (hE_0_2_3 : ∀ j : Int, line_2 j = line_3 j) (hE_0_4_1 : ∀ j : Int, 0 ≤ j → (j = x9 → under_0 j = x18) ∧ (j ≠ x9 → under_0 j = under_1 j)) (hE_0_4_2 : ∀ j : Int, under_1 j = under_2 j) (hE_0_4_3 : ∀ j : Int, under_2 j = under_3 j) (hE_1_2_1 : ∀ j : Int, x_0o1 j = x_1o1 j) (hE_1_2_2 : ∀ j : Int, x_1o1 j = x_2o1 j) (hE_1_2_3 : ∀ j : Int, 0 ≤ j → (j = x9 → x_2o1 j = x12) ∧ (j ≠ x9 → x_2o1 j = x_3o1 j)) (hE_1_3_1 : ∀ j : Int, y_0o1 j = y_1o1 j) (hE_1_3_2 : ∀ j : Int, 0 ≤ j → (j = x9 → y_1o1 j = x15) ∧ (j ≠ x9 → y_1o1 j = y_2o1 j)) (hE_1_3_3 : ∀ j : Int, y_2o1 j = y_3o1 j) : CG0 (line_0) (order_0) (under_0) (x_0o1) (y_0o1) (x19) := by
  have e_hE_0_1_1 := funext hE_0_1_1; subst e_hE_0_1_1
  have e_hE_0_1_2 := funext hE_0_1_2; subst e_hE_0_1_2
  have e_hE_0_1_3 := funext hE_0_1_3; subst e_hE_0_1_3
  have e_hE_0_2_1 := funext hE_0_2_1; subst e_hE_0_2_1
  have e_hE_0_2_2 := funext hE_0_2_2; subst e_hE_0_2_2
  have e_hE_0_2_3 := funext hE_0_2_3; subst e_hE_0_2_3
  have e_hE_0_4_2 := funext hE_0_4_2; subst e_hE_0_4_2
  have e_hE_0_4_3 := funext hE_0_4_3; subst e_hE_0_4_3
  have e_hE_1_2_1 := funext hE_1_2_1; subst e_hE_1_2_1
  have e_hE_1_2_2 := funext hE_1_2_2; subst e_hE_1_2_2
  have e_hE_1_3_1 := funext hE_1_3_1; subst e_hE_1_3_1
  have e_hE_1_3_3 := funext hE_1_3_3; subst e_hE_1_3_3
  first
    | exact cg0_step (X := x12) (Y := x15) (w := x18) ‹CG0 _ _ _ _ _ _› (by omega) (by assumption) (by omega) (by omega) hE_1_2_3 rfl hE_1_3_2 rfl hE_0_4_1 rfl (by omega) (by omega) (by omega) (fun z a b => bit_shl (by assumption) (by omega) (by omega) a (by omega))
    | exact cg0_step (X := x11) (Y := x14) (w := x17) ‹CG0 _ _ _ _ _ _› (by omega) (by assumption) (by omega) (by omega) hE_1_2_3 rfl hE_1_3_2 rfl hE_0_4_1 rfl (by omega) (by omega) (by omega) (fun z a b => bit_shl (by assumption) (by omega) (by omega) a (by omega))
set_option maxHeartbeats 4000000 in
theorem vc_Pn_placeByOrder_5_1 (x6 : Int) (x19 : Int) (order_3 : Int → Int) (line_3 : Int → Int) (under_3 : Int → Int) (y_3o1 : Int → Int) (order_0 : Int → Int) (order_1 : Int → Int) (order_2 : Int → Int) (line_0 : Int → Int) (line_1 : Int → Int) (line_2 : Int → Int) (under_1 : Int → Int) (under_2 : Int → Int) (x_0o1 : Int → Int) (x_1o1 : Int → Int) (x_2o1 : Int → Int) (y_0o1 : Int → Int) (y_1o1 : Int → Int) (y_2o1 : Int → Int) (k19 : 3 ≤ x19 ∧ x19 ≤ 3) (hE_0_1_1 : ∀ j : Int, order_0 j = order_1 j) (hE_0_1_2 : ∀ j : Int, order_1 j = order_2 j) (hE_0_1_3 : ∀ j : Int, order_2 j = order_3 j) (hE_0_2_1 : ∀ j : Int, line_0 j = line_1 j) (hE_0_2_2 : ∀ j : Int, line_1 j = line_2 j) (hE_0_2_3 : ∀ j : Int, line_2 j = line_3 j) (hE_0_4_2 : ∀ j : Int, under_1 j = under_2 j) (hE_0_4_3 : ∀ j : Int, under_2 j = under_3 j) (hE_1_2_1 : ∀ j : Int, x_0o1 j = x_1o1 j) (hE_1_2_2 : ∀ j : Int, x_1o1 j = x_2o1 j) (hE_1_3_1 : ∀ j : Int, y_0o1 j = y_1o1 j) (hE_1_3_3 : ∀ j : Int, y_2o1 j = y_3o1 j) : x19 ≤ 3 := by
  have e_hE_0_1_1 := funext hE_0_1_1; subst e_hE_0_1_1
  have e_hE_0_1_2 := funext hE_0_1_2; subst e_hE_0_1_2
  have e_hE_0_1_3 := funext hE_0_1_3; subst e_hE_0_1_3
  have e_hE_0_2_1 := funext hE_0_2_1; subst e_hE_0_2_1
  have e_hE_0_2_2 := funext hE_0_2_2; subst e_hE_0_2_2
  have e_hE_0_2_3 := funext hE_0_2_3; subst e_hE_0_2_3
  have e_hE_0_4_2 := funext hE_0_4_2; subst e_hE_0_4_2
  have e_hE_0_4_3 := funext hE_0_4_3; subst e_hE_0_4_3
  have e_hE_1_2_1 := funext hE_1_2_1; subst e_hE_1_2_1
  have e_hE_1_2_2 := funext hE_1_2_2; subst e_hE_1_2_2
  have e_hE_1_3_1 := funext hE_1_3_1; subst e_hE_1_3_1
  have e_hE_1_3_3 := funext hE_1_3_3; subst e_hE_1_3_3
  first
    | omega
    | assumption
    | (rw [show gu = x6 by omega]; assumption)
def o_Pn_placeByOrder_5 : or_T := (2, 20, [(0, (2, 0, 0, [7])), (1, (2, 0, 0, [0])), (4, (2, 0, 0, [7])), (5, (2, 0, 0, [0])), (6, (0, 2, 2, [])), (7, (0, 3, 3, [])), (8, (2, 0, 0, [102])), (9, (0, 0, 23, [])), (10, (2, 0, 0, [14])), (11, (0, 3, 3, [])), (12, (0, 1, 2, [])), (13, (2, 0, 0, [15])), (14, (0, 2, 2, [])), (15, (0, 1, 1, [])), (16, (2, 0, 0, [104])), (17, (0, 1, 1, [])), (18, (0, 1, 8388608, [])), (19, (0, 3, 3, []))], [(9, [16, 4], [4]), (9, [13, 5], [3]), (9, [10, 5], [2]), (9, [8, 4], [1]), (6, [19, 6], [1]), (20, [6], [50, 0, 0, 0, 2, 1, 0, 0, 3]), (24, [0, 4], []), (24, [1, 5], []), (100, [16, 9, 18], []), (16, [18, 17, 9], [3]), (20, [6], [50, 0, 0, 0, 2, 1, 0, 0, 3]), (100, [13, 9, 15], []), (7, [6, 14], [0]), (20, [6], [50, 0, 0, 0, 2, 1, 0, 0, 3]), (100, [10, 9, 12], []), (2, [12, 11, 6], []), (8, [6], [1]), (10, [9, 8, 6], []), (7, [6, 7], [2]), (20, [4, 5, 6], [60, 0, 5, 888, 2, 1, 4, 1002, 1003]), (20, [6], [50, 0, 0, 0, 2, 1, 0, 0, 3])], [], [], [(20, [4, 5, 19], [60, 0, 5, 888, 2, 1, 4, 1002, 1003]), (20, [19], [50, 0, 0, 0, 2, 1, 0, 0, 3])], [], [])
theorem oo_Pn_placeByOrder_5 {kA : Nat → ClassId} : or_ok PRD kA GG o_Pn_placeByOrder_5 := by
  refine or_mk fun A ta ws vs hD hth hl => ?_
  intro t0 r0 t1 r1 t4 r4 t5 r5 t6 k6 t7 k7 t8 r8 t9 k9 t10 r10 t11 k11 t12 k12 t13 r13 t14 k14 t15 k15 t16 r16 t17 k17 t18 k18 t19 k19 f0 f1 f2 f3 f4 f5 f6 f7 ta1 w1 le1 s1 f9 f10 ta2 w2 le2 s2 f12 f13 ta3 w3 le3 s3 f15 f16 f17 f18 f19 f20
  replace f0 := shm_108 f0
  replace f1 := shm_137 f1
  replace f2 := shm_120 f2
  replace f3 := shm_215 f3
  replace f4 := shm_4 f4
  replace f6 := shm_5 f6
  replace f7 := shm_5 f7
  have s1 : (∀ b j, w_el ws b j = if b = v_ad (n_v vs 16) ∧ j = (v_iv (n_v vs 9)).toNat then v_iv (n_v vs 18) else w_el w1 b j) ∧ ∀ b k, w_fd ws b k = w_fd w1 b k := s1.2
  replace f9 := shm_349 f9
  have s2 : (∀ b j, w_el w1 b j = if b = v_ad (n_v vs 13) ∧ j = (v_iv (n_v vs 9)).toNat then v_iv (n_v vs 15) else w_el w2 b j) ∧ ∀ b k, w_fd w1 b k = w_fd w2 b k := s2.2
  have s3 : (∀ b j, w_el w2 b j = if b = v_ad (n_v vs 10) ∧ j = (v_iv (n_v vs 9)).toNat then v_iv (n_v vs 12) else w_el w3 b j) ∧ ∀ b k, w_fd w2 b k = w_fd w3 b k := s3.2
  replace f15 := shm_14 f15
  replace f17 := shm_107 f17
  replace f19 := shm_1519 f19
  have q4 : n_v vs 4 = n_v vs 0 := f6.symm
  have q5 : n_v vs 5 = n_v vs 1 := f7.symm
  simp only [q4, q5] at f0 f1 f2 f3 f19
  have ar_0_1_1 : w_ar w1 (n_v vs 0) 1 = w_ar ws (n_v vs 0) 1 := congrArg v_ad (s1.2 _ _).symm
  have ar_0_1_2 : w_ar w2 (n_v vs 0) 1 = w_ar ws (n_v vs 0) 1 := by rw [← ar_0_1_1]; show v_ad (w_fd w2 _ _) = v_ad (w_fd w1 _ _); rw [s2.2]
  have ar_0_1_3 : w_ar w3 (n_v vs 0) 1 = w_ar ws (n_v vs 0) 1 := by rw [← ar_0_1_2]; show v_ad (w_fd w3 _ _) = v_ad (w_fd w2 _ _); rw [s3.2]
  have cr_0_1 := fdq_92 hD hth r0
  have ar_0_2_1 : w_ar w1 (n_v vs 0) 2 = w_ar ws (n_v vs 0) 2 := congrArg v_ad (s1.2 _ _).symm
  have ar_0_2_2 : w_ar w2 (n_v vs 0) 2 = w_ar ws (n_v vs 0) 2 := by rw [← ar_0_2_1]; show v_ad (w_fd w2 _ _) = v_ad (w_fd w1 _ _); rw [s2.2]
  have ar_0_2_3 : w_ar w3 (n_v vs 0) 2 = w_ar ws (n_v vs 0) 2 := by rw [← ar_0_2_2]; show v_ad (w_fd w3 _ _) = v_ad (w_fd w2 _ _); rw [s3.2]
  have cr_0_2 := fdq_227 hD hth r0
  have ar_0_4_1 : w_ar w1 (n_v vs 0) 4 = w_ar ws (n_v vs 0) 4 := congrArg v_ad (s1.2 _ _).symm
  have ar_0_4_2 : w_ar w2 (n_v vs 0) 4 = w_ar ws (n_v vs 0) 4 := by rw [← ar_0_4_1]; show v_ad (w_fd w2 _ _) = v_ad (w_fd w1 _ _); rw [s2.2]
  have ar_0_4_3 : w_ar w3 (n_v vs 0) 4 = w_ar ws (n_v vs 0) 4 := by rw [← ar_0_4_2]; show v_ad (w_fd w3 _ _) = v_ad (w_fd w2 _ _); rw [s3.2]
  have cr_0_4 := fdq_93 hD hth r0
  have ar_1_2_1 : w_ar w1 (n_v vs 1) 2 = w_ar ws (n_v vs 1) 2 := congrArg v_ad (s1.2 _ _).symm
  have ar_1_2_2 : w_ar w2 (n_v vs 1) 2 = w_ar ws (n_v vs 1) 2 := by rw [← ar_1_2_1]; show v_ad (w_fd w2 _ _) = v_ad (w_fd w1 _ _); rw [s2.2]
  have ar_1_2_3 : w_ar w3 (n_v vs 1) 2 = w_ar ws (n_v vs 1) 2 := by rw [← ar_1_2_2]; show v_ad (w_fd w3 _ _) = v_ad (w_fd w2 _ _); rw [s3.2]
  have cr_1_2 := fdq_45 hD hth r1
  have ar_1_3_1 : w_ar w1 (n_v vs 1) 3 = w_ar ws (n_v vs 1) 3 := congrArg v_ad (s1.2 _ _).symm
  have ar_1_3_2 : w_ar w2 (n_v vs 1) 3 = w_ar ws (n_v vs 1) 3 := by rw [← ar_1_3_1]; show v_ad (w_fd w2 _ _) = v_ad (w_fd w1 _ _); rw [s2.2]
  have ar_1_3_3 : w_ar w3 (n_v vs 1) 3 = w_ar ws (n_v vs 1) 3 := by rw [← ar_1_3_2]; show v_ad (w_fd w3 _ _) = v_ad (w_fd w2 _ _); rw [s3.2]
  have cr_1_3 := fdq_48 hD hth r1
  have ad_16 : v_ad (n_v vs 16) = w_ar ws (n_v vs 0) 4 := congrArg v_ad f0
  have ad_13 : v_ad (n_v vs 13) = w_ar ws (n_v vs 1) 3 := congrArg v_ad f1
  have ad_10 : v_ad (n_v vs 10) = w_ar ws (n_v vs 1) 2 := congrArg v_ad f2
  have ad_8 : v_ad (n_v vs 8) = w_ar ws (n_v vs 0) 1 := congrArg v_ad f3
  simp only [ad_8] at f17
  have h17 : v_iv (n_v vs 9) = w_ei w3 (w_ar ws (n_v vs 0) 1) (v_iv (n_v vs 6)) := f17
  simp only [ar_0_1_3, ar_0_2_3, ar_0_4_3, ar_1_2_3, ar_1_3_3] at f19
  have hE_0_1_1 : ∀ j : Int, w_ei ws (w_ar ws (n_v vs 0) 1) j = w_ei w1 (w_ar ws (n_v vs 0) 1) j := el_kp s1.1 r16 cr_0_1 (by decide)
  have hE_0_1_2 : ∀ j : Int, w_ei w1 (w_ar ws (n_v vs 0) 1) j = w_ei w2 (w_ar ws (n_v vs 0) 1) j := el_kp s2.1 r13 cr_0_1 (by decide)
  have hE_0_1_3 : ∀ j : Int, w_ei w2 (w_ar ws (n_v vs 0) 1) j = w_ei w3 (w_ar ws (n_v vs 0) 1) j := el_kp s3.1 r10 cr_0_1 (by decide)
  have hE_0_2_1 : ∀ j : Int, w_ei ws (w_ar ws (n_v vs 0) 2) j = w_ei w1 (w_ar ws (n_v vs 0) 2) j := el_kp s1.1 r16 cr_0_2 (by decide)
  have hE_0_2_2 : ∀ j : Int, w_ei w1 (w_ar ws (n_v vs 0) 2) j = w_ei w2 (w_ar ws (n_v vs 0) 2) j := el_kp s2.1 r13 cr_0_2 (by decide)
  have hE_0_2_3 : ∀ j : Int, w_ei w2 (w_ar ws (n_v vs 0) 2) j = w_ei w3 (w_ar ws (n_v vs 0) 2) j := el_kp s3.1 r10 cr_0_2 (by decide)
  have hE_0_4_1 : ∀ j : Int, 0 ≤ j → (j = v_iv (n_v vs 9) → w_ei ws (w_ar ws (n_v vs 0) 4) j = v_iv (n_v vs 18)) ∧ (j ≠ v_iv (n_v vs 9) → w_ei ws (w_ar ws (n_v vs 0) 4) j = w_ei w1 (w_ar ws (n_v vs 0) 4) j) := fun j hj => ⟨fun h => by unfold w_ei; rw [s1.1, if_pos ⟨ad_16.symm, by rw [h]⟩], fun h => by unfold w_ei; rw [s1.1, if_neg (fun e => h (by have := e.2; omega))]⟩
  have hE_0_4_2 : ∀ j : Int, w_ei w1 (w_ar ws (n_v vs 0) 4) j = w_ei w2 (w_ar ws (n_v vs 0) 4) j := el_kp s2.1 r13 cr_0_4 (by decide)
  have hE_0_4_3 : ∀ j : Int, w_ei w2 (w_ar ws (n_v vs 0) 4) j = w_ei w3 (w_ar ws (n_v vs 0) 4) j := el_kp s3.1 r10 cr_0_4 (by decide)
  have hE_1_2_1 : ∀ j : Int, w_ei ws (w_ar ws (n_v vs 1) 2) j = w_ei w1 (w_ar ws (n_v vs 1) 2) j := el_kp s1.1 r16 cr_1_2 (by decide)
  have hE_1_2_2 : ∀ j : Int, w_ei w1 (w_ar ws (n_v vs 1) 2) j = w_ei w2 (w_ar ws (n_v vs 1) 2) j := el_kp s2.1 r13 cr_1_2 (by decide)
  have hE_1_2_3 : ∀ j : Int, 0 ≤ j → (j = v_iv (n_v vs 9) → w_ei w2 (w_ar ws (n_v vs 1) 2) j = v_iv (n_v vs 12)) ∧ (j ≠ v_iv (n_v vs 9) → w_ei w2 (w_ar ws (n_v vs 1) 2) j = w_ei w3 (w_ar ws (n_v vs 1) 2) j) := fun j hj => ⟨fun h => by unfold w_ei; rw [s3.1, if_pos ⟨ad_10.symm, by rw [h]⟩], fun h => by unfold w_ei; rw [s3.1, if_neg (fun e => h (by have := e.2; omega))]⟩
  have hE_1_3_1 : ∀ j : Int, w_ei ws (w_ar ws (n_v vs 1) 3) j = w_ei w1 (w_ar ws (n_v vs 1) 3) j := el_kp s1.1 r16 cr_1_3 (by decide)
  have hE_1_3_2 : ∀ j : Int, 0 ≤ j → (j = v_iv (n_v vs 9) → w_ei w1 (w_ar ws (n_v vs 1) 3) j = v_iv (n_v vs 15)) ∧ (j ≠ v_iv (n_v vs 9) → w_ei w1 (w_ar ws (n_v vs 1) 3) j = w_ei w2 (w_ar ws (n_v vs 1) 3) j) := fun j hj => ⟨fun h => by unfold w_ei; rw [s2.1, if_pos ⟨ad_13.symm, by rw [h]⟩], fun h => by unfold w_ei; rw [s2.1, if_neg (fun e => h (by have := e.2; omega))]⟩
  have hE_1_3_3 : ∀ j : Int, w_ei w2 (w_ar ws (n_v vs 1) 3) j = w_ei w3 (w_ar ws (n_v vs 1) 3) j := el_kp s3.1 r10 cr_1_3 (by decide)
  have nf0 : fc_1 PRD (20, [4, 5, 19], [60, 0, 5, 888, 2, 1, 4, 1002, 1003]) ws (vs) := by
    refine ⟨nf_in hl rfl, sgq_1519 ?_⟩
    · show CG0 (w_ei ws (w_ar ws (n_v vs 4) 2)) (w_ei ws (w_ar ws (n_v vs 4) 1)) (w_ei ws (w_ar ws (n_v vs 4) 4)) (w_ei ws (w_ar ws (n_v vs 5) 2)) (w_ei ws (w_ar ws (n_v vs 5) 3)) (v_iv (n_v vs 19))
      simp only [q4, q5]
      exact vc_Pn_placeByOrder_5_0 (v_iv (n_v vs 6)) (v_iv (n_v vs 9)) (v_iv (n_v vs 11)) (v_iv (n_v vs 12)) (v_iv (n_v vs 14)) (v_iv (n_v vs 15)) (v_iv (n_v vs 17)) (v_iv (n_v vs 18)) (v_iv (n_v vs 19)) (w_ei w3 (w_ar ws (n_v vs 0) 1)) (w_ei w3 (w_ar ws (n_v vs 0) 2)) (w_ei w3 (w_ar ws (n_v vs 0) 4)) (w_ei w3 (w_ar ws (n_v vs 1) 2)) (w_ei w3 (w_ar ws (n_v vs 1) 3)) (w_ei ws (w_ar ws (n_v vs 0) 1)) (w_ei w1 (w_ar ws (n_v vs 0) 1)) (w_ei w2 (w_ar ws (n_v vs 0) 1)) (w_ei ws (w_ar ws (n_v vs 0) 2)) (w_ei w1 (w_ar ws (n_v vs 0) 2)) (w_ei w2 (w_ar ws (n_v vs 0) 2)) (w_ei ws (w_ar ws (n_v vs 0) 4)) (w_ei w1 (w_ar ws (n_v vs 0) 4)) (w_ei w2 (w_ar ws (n_v vs 0) 4)) (w_ei ws (w_ar ws (n_v vs 1) 2)) (w_ei w1 (w_ar ws (n_v vs 1) 2)) (w_ei w2 (w_ar ws (n_v vs 1) 2)) (w_ei ws (w_ar ws (n_v vs 1) 3)) (w_ei w1 (w_ar ws (n_v vs 1) 3)) (w_ei w2 (w_ar ws (n_v vs 1) 3)) k6 k9 k11 k12 k15 k17 k18 k19 f4 f9 f15 h17 f19 hE_0_1_1 hE_0_1_2 hE_0_1_3 hE_0_2_1 hE_0_2_2 hE_0_2_3 hE_0_4_1 hE_0_4_2 hE_0_4_3 hE_1_2_1 hE_1_2_2 hE_1_2_3 hE_1_3_1 hE_1_3_2 hE_1_3_3
  have nf1 : fc_1 PRD (20, [19], [50, 0, 0, 0, 2, 1, 0, 0, 3]) ws (vs) := ⟨nf_in hl rfl, sgq_1520 (vc_Pn_placeByOrder_5_1 (v_iv (n_v vs 6)) (v_iv (n_v vs 19)) (w_ei w3 (w_ar ws (n_v vs 0) 1)) (w_ei w3 (w_ar ws (n_v vs 0) 2)) (w_ei w3 (w_ar ws (n_v vs 0) 4)) (w_ei w3 (w_ar ws (n_v vs 1) 3)) (w_ei ws (w_ar ws (n_v vs 0) 1)) (w_ei w1 (w_ar ws (n_v vs 0) 1)) (w_ei w2 (w_ar ws (n_v vs 0) 1)) (w_ei ws (w_ar ws (n_v vs 0) 2)) (w_ei w1 (w_ar ws (n_v vs 0) 2)) (w_ei w2 (w_ar ws (n_v vs 0) 2)) (w_ei w1 (w_ar ws (n_v vs 0) 4)) (w_ei w2 (w_ar ws (n_v vs 0) 4)) (w_ei ws (w_ar ws (n_v vs 1) 2)) (w_ei w1 (w_ar ws (n_v vs 1) 2)) (w_ei w2 (w_ar ws (n_v vs 1) 2)) (w_ei ws (w_ar ws (n_v vs 1) 3)) (w_ei w1 (w_ar ws (n_v vs 1) 3)) (w_ei w2 (w_ar ws (n_v vs 1) 3)) k19 hE_0_1_1 hE_0_1_2 hE_0_1_3 hE_0_2_1 hE_0_2_2 hE_0_2_3 hE_0_4_2 hE_0_4_3 hE_1_2_1 hE_1_2_2 hE_1_3_1 hE_1_3_3)⟩
  refine ⟨(fun _ h => (by cases h)), [], trivial, ?_, (fun _ h => (by cases h))⟩
  rw [List.append_nil]
  exact List.forall_mem_cons.mpr ⟨⟨show (20 : Nat) < 100 from by decide, nf0⟩, List.forall_mem_cons.mpr ⟨⟨show (20 : Nat) < 100 from by decide, nf1⟩, (fun _ h => (by cases h))⟩⟩
def o_Pn_placeByOrder_6 : or_T := (47, 15, [(2, (2, 0, 0, [12])), (3, (0, 0, 3072, [])), (5, (2, 0, 0, [0])), (9, (0, 0, 23, [])), (12, (2, 0, 0, [15])), (14, (0, 0, 0, []))], [(100, [12, 9, 14], []), (20, [2, 3, 5], [62, 2000000])], [], [], [(20, [2, 3, 5], [62, 2000000])], [], [])
theorem oo_Pn_placeByOrder_6 {kA : Nat → ClassId} : or_ok PRD kA GG o_Pn_placeByOrder_6 := by
  refine or_mk fun A ta ws vs hD hth hl => ?_
  intro t2 r2 t3 k3 t5 r5 t9 k9 t12 r12 t14 k14 ta1 w1 le1 s1 f1
  have s1 : (∀ b j, w_el ws b j = if b = v_ad (n_v vs 12) ∧ j = (v_iv (n_v vs 9)).toNat then v_iv (n_v vs 14) else w_el w1 b j) ∧ ∀ b k, w_fd ws b k = w_fd w1 b k := s1.2
  replace f1 := shm_1399 f1
  have nf0 : fc_1 PRD (20, [2, 3, 5], [62, 2000000]) ws (vs) := by
    refine ⟨nf_in hl rfl, sgq_1399 ?_⟩
    · show HY ws (n_v vs 2) (v_iv (n_v vs 3) + (((2000000 : Nat) : Int) - 2000000)) ∧ HYD ws (n_v vs 2) (n_v vs 5)
      have hn := hy_ne (k := 3) (g := GG_12) hD hth r2 rfl (by decide) rfl rfl r12 (by decide) s1.2
      have hn0 := hy_ne (k := 0) (g := GG_12) hD hth r2 rfl (by decide) rfl rfl r12 (by decide) s1.2
      exact ⟨hy_st (hy_le f1.1 (by omega)) s1 hn hn0 (by omega) (by omega), hyd_st f1.2 s1 hn⟩
  refine ⟨(fun _ h => (by cases h)), [], trivial, ?_, (fun _ h => (by cases h))⟩
  rw [List.append_nil]
  exact List.forall_mem_cons.mpr ⟨⟨show (20 : Nat) < 100 from by decide, nf0⟩, (fun _ h => (by cases h))⟩
set_option maxHeartbeats 4000000 in
theorem vc_Pn_placeByOrder_7_0 (x6 : Int) (x9 : Int) (x11 : Int) (x14 : Int) (x16 : Int) (x17 : Int) (x18 : Int) (order_3 : Int → Int) (line_3 : Int → Int) (under_3 : Int → Int) (x_3o1 : Int → Int) (y_3o1 : Int → Int) (order_0 : Int → Int) (order_1 : Int → Int) (order_2 : Int → Int) (line_0 : Int → Int) (line_1 : Int → Int) (line_2 : Int → Int) (under_0 : Int → Int) (under_1 : Int → Int) (under_2 : Int → Int) (x_0o1 : Int → Int) (x_1o1 : Int → Int) (x_2o1 : Int → Int) (y_0o1 : Int → Int) (y_1o1 : Int → Int) (y_2o1 : Int → Int) (k6 : 0 ≤ x6 ∧ x6 ≤ 0) (k9 : 0 ≤ x9 ∧ x9 ≤ 23) (k11 : 0 ≤ x11 ∧ x11 ≤ 0) (k14 : 0 ≤ x14 ∧ x14 ≤ 0) (k16 : 1 ≤ x16 ∧ x16 ≤ 1) (k17 : 1 ≤ x17 ∧ x17 ≤ 8388608) (k18 : 1 ≤ x18 ∧ x18 ≤ 1) (f4 : x18 = x6 + 1) (f9 : bvp (x17) = bvp (x16) <<< (x9).toNat) (h16 : x9 = order_3 (x6)) (f18 : CG0 (line_3) (order_3) (under_3) (x_3o1) (y_3o1) (x6)) (hE_0_1_1 : ∀ j : Int, order_0 j = order_1 j) (hE_0_1_2 : ∀ j : Int, order_1 j = order_2 j) (hE_0_1_3 : ∀ j : Int, order_2 j = order_3 j) (hE_0_2_1 : ∀ j : Int, line_0 j = line_1 j) (hE_0_2_2 : ∀ j : Int, line_1 j = line_2 j) (hE_0_2_3 : ∀ j : Int, line_2 j = line_3 j) (hE_0_4_1 : ∀ j : Int, 0 ≤ j → (j = x9 → under_0 j = x17) ∧ (j ≠ x9 → under_0 j = under_1 j)) (hE_0_4_2 : ∀ j : Int, under_1 j = under_2 j) (hE_0_4_3 : ∀ j : Int, under_2 j = under_3 j) (hE_1_2_1 : ∀ j : Int, x_0o1 j = x_1o1 j) (hE_1_2_2 : ∀ j : Int, x_1o1 j = x_2o1 j) (hE_1_2_3 : ∀ j : Int, 0 ≤ j → (j = x9 → x_2o1 j = x11) ∧ (j ≠ x9 → x_2o1 j = x_3o1 j)) (hE_1_3_1 : ∀ j : Int, y_0o1 j = y_1o1 j) (hE_1_3_2 : ∀ j : Int, 0 ≤ j → (j = x9 → y_1o1 j = x14) ∧ (j ≠ x9 → y_1o1 j = y_2o1 j)) (hE_1_3_3 : ∀ j : Int, y_2o1 j = y_3o1 j) : CG0 (line_0) (order_0) (under_0) (x_0o1) (y_0o1) (x18) := by
  have e_hE_0_1_1 := funext hE_0_1_1; subst e_hE_0_1_1
  have e_hE_0_1_2 := funext hE_0_1_2; subst e_hE_0_1_2
  have e_hE_0_1_3 := funext hE_0_1_3; subst e_hE_0_1_3
  have e_hE_0_2_1 := funext hE_0_2_1; subst e_hE_0_2_1
  have e_hE_0_2_2 := funext hE_0_2_2; subst e_hE_0_2_2
  have e_hE_0_2_3 := funext hE_0_2_3; subst e_hE_0_2_3
  have e_hE_0_4_2 := funext hE_0_4_2; subst e_hE_0_4_2
  have e_hE_0_4_3 := funext hE_0_4_3; subst e_hE_0_4_3
  have e_hE_1_2_1 := funext hE_1_2_1; subst e_hE_1_2_1
  have e_hE_1_2_2 := funext hE_1_2_2; subst e_hE_1_2_2
  have e_hE_1_3_1 := funext hE_1_3_1; subst e_hE_1_3_1
  have e_hE_1_3_3 := funext hE_1_3_3; subst e_hE_1_3_3
  first
    | exact cg0_step (X := x12) (Y := x15) (w := x18) ‹CG0 _ _ _ _ _ _› (by omega) (by assumption) (by omega) (by omega) hE_1_2_3 rfl hE_1_3_2 rfl hE_0_4_1 rfl (by omega) (by omega) (by omega) (fun z a b => bit_shl (by assumption) (by omega) (by omega) a (by omega))
    | exact cg0_step (X := x11) (Y := x14) (w := x17) ‹CG0 _ _ _ _ _ _› (by omega) (by assumption) (by omega) (by omega) hE_1_2_3 rfl hE_1_3_2 rfl hE_0_4_1 rfl (by omega) (by omega) (by omega) (fun z a b => bit_shl (by assumption) (by omega) (by omega) a (by omega))
set_option maxHeartbeats 4000000 in
theorem vc_Pn_placeByOrder_7_1 (x6 : Int) (x18 : Int) (order_3 : Int → Int) (line_3 : Int → Int) (under_3 : Int → Int) (y_3o1 : Int → Int) (order_0 : Int → Int) (order_1 : Int → Int) (order_2 : Int → Int) (line_0 : Int → Int) (line_1 : Int → Int) (line_2 : Int → Int) (under_1 : Int → Int) (under_2 : Int → Int) (x_0o1 : Int → Int) (x_1o1 : Int → Int) (x_2o1 : Int → Int) (y_0o1 : Int → Int) (y_1o1 : Int → Int) (y_2o1 : Int → Int) (k18 : 1 ≤ x18 ∧ x18 ≤ 1) (hE_0_1_1 : ∀ j : Int, order_0 j = order_1 j) (hE_0_1_2 : ∀ j : Int, order_1 j = order_2 j) (hE_0_1_3 : ∀ j : Int, order_2 j = order_3 j) (hE_0_2_1 : ∀ j : Int, line_0 j = line_1 j) (hE_0_2_2 : ∀ j : Int, line_1 j = line_2 j) (hE_0_2_3 : ∀ j : Int, line_2 j = line_3 j) (hE_0_4_2 : ∀ j : Int, under_1 j = under_2 j) (hE_0_4_3 : ∀ j : Int, under_2 j = under_3 j) (hE_1_2_1 : ∀ j : Int, x_0o1 j = x_1o1 j) (hE_1_2_2 : ∀ j : Int, x_1o1 j = x_2o1 j) (hE_1_3_1 : ∀ j : Int, y_0o1 j = y_1o1 j) (hE_1_3_3 : ∀ j : Int, y_2o1 j = y_3o1 j) : x18 ≤ 3 := by
  have e_hE_0_1_1 := funext hE_0_1_1; subst e_hE_0_1_1
  have e_hE_0_1_2 := funext hE_0_1_2; subst e_hE_0_1_2
  have e_hE_0_1_3 := funext hE_0_1_3; subst e_hE_0_1_3
  have e_hE_0_2_1 := funext hE_0_2_1; subst e_hE_0_2_1
  have e_hE_0_2_2 := funext hE_0_2_2; subst e_hE_0_2_2
  have e_hE_0_2_3 := funext hE_0_2_3; subst e_hE_0_2_3
  have e_hE_0_4_2 := funext hE_0_4_2; subst e_hE_0_4_2
  have e_hE_0_4_3 := funext hE_0_4_3; subst e_hE_0_4_3
  have e_hE_1_2_1 := funext hE_1_2_1; subst e_hE_1_2_1
  have e_hE_1_2_2 := funext hE_1_2_2; subst e_hE_1_2_2
  have e_hE_1_3_1 := funext hE_1_3_1; subst e_hE_1_3_1
  have e_hE_1_3_3 := funext hE_1_3_3; subst e_hE_1_3_3
  first
    | omega
    | assumption
    | (rw [show gu = x6 by omega]; assumption)
def o_Pn_placeByOrder_7 : or_T := (2, 19, [(0, (2, 0, 0, [7])), (1, (2, 0, 0, [0])), (6, (0, 0, 0, [])), (9, (0, 0, 23, [])), (10, (2, 0, 0, [14])), (11, (0, 0, 0, [])), (12, (2, 0, 0, [15])), (14, (0, 0, 0, [])), (15, (2, 0, 0, [104])), (16, (0, 1, 1, [])), (17, (0, 1, 8388608, [])), (18, (0, 1, 1, []))], [(9, [15, 4], [4]), (9, [12, 5], [3]), (9, [10, 5], [2]), (9, [8, 4], [1]), (6, [18, 6], [1]), (24, [0, 4], []), (24, [1, 5], []), (100, [15, 9, 17], []), (16, [17, 16, 9], [3]), (100, [12, 9, 14], []), (100, [10, 9, 11], []), (10, [9, 8, 6], []), (20, [4, 5, 6], [60, 0, 5, 888, 2, 1, 4, 1002, 1003])], [], [], [(20, [4, 5, 18], [60, 0, 5, 888, 2, 1, 4, 1002, 1003]), (20, [18], [50, 0, 0, 0, 2, 1, 0, 0, 3])], [], [])
theorem oo_Pn_placeByOrder_7 {kA : Nat → ClassId} : or_ok PRD kA GG o_Pn_placeByOrder_7 := by
  refine or_mk fun A ta ws vs hD hth hl => ?_
  intro t0 r0 t1 r1 t6 k6 t9 k9 t10 r10 t11 k11 t12 r12 t14 k14 t15 r15 t16 k16 t17 k17 t18 k18 f0 f1 f2 f3 f4 f6 f7 ta1 w1 le1 s1 f9 ta2 w2 le2 s2 ta3 w3 le3 s3 f16 f18
  replace f0 := shm_108 f0
  replace f1 := shm_137 f1
  replace f2 := shm_120 f2
  replace f3 := shm_215 f3
  replace f4 := shm_4 f4
  replace f6 := shm_5 f6
  replace f7 := shm_5 f7
  have s1 : (∀ b j, w_el ws b j = if b = v_ad (n_v vs 15) ∧ j = (v_iv (n_v vs 9)).toNat then v_iv (n_v vs 17) else w_el w1 b j) ∧ ∀ b k, w_fd ws b k = w_fd w1 b k := s1.2
  replace f9 := shm_349 f9
  have s2 : (∀ b j, w_el w1 b j = if b = v_ad (n_v vs 12) ∧ j = (v_iv (n_v vs 9)).toNat then v_iv (n_v vs 14) else w_el w2 b j) ∧ ∀ b k, w_fd w1 b k = w_fd w2 b k := s2.2
  have s3 : (∀ b j, w_el w2 b j = if b = v_ad (n_v vs 10) ∧ j = (v_iv (n_v vs 9)).toNat then v_iv (n_v vs 11) else w_el w3 b j) ∧ ∀ b k, w_fd w2 b k = w_fd w3 b k := s3.2
  replace f16 := shm_107 f16
  replace f18 := shm_1519 f18
  have q4 : n_v vs 4 = n_v vs 0 := f6.symm
  have q5 : n_v vs 5 = n_v vs 1 := f7.symm
  simp only [q4, q5] at f0 f1 f2 f3 f18
  have ar_0_1_1 : w_ar w1 (n_v vs 0) 1 = w_ar ws (n_v vs 0) 1 := congrArg v_ad (s1.2 _ _).symm
  have ar_0_1_2 : w_ar w2 (n_v vs 0) 1 = w_ar ws (n_v vs 0) 1 := by rw [← ar_0_1_1]; show v_ad (w_fd w2 _ _) = v_ad (w_fd w1 _ _); rw [s2.2]
  have ar_0_1_3 : w_ar w3 (n_v vs 0) 1 = w_ar ws (n_v vs 0) 1 := by rw [← ar_0_1_2]; show v_ad (w_fd w3 _ _) = v_ad (w_fd w2 _ _); rw [s3.2]
  have cr_0_1 := fdq_92 hD hth r0
  have ar_0_2_1 : w_ar w1 (n_v vs 0) 2 = w_ar ws (n_v vs 0) 2 := congrArg v_ad (s1.2 _ _).symm
  have ar_0_2_2 : w_ar w2 (n_v vs 0) 2 = w_ar ws (n_v vs 0) 2 := by rw [← ar_0_2_1]; show v_ad (w_fd w2 _ _) = v_ad (w_fd w1 _ _); rw [s2.2]
  have ar_0_2_3 : w_ar w3 (n_v vs 0) 2 = w_ar ws (n_v vs 0) 2 := by rw [← ar_0_2_2]; show v_ad (w_fd w3 _ _) = v_ad (w_fd w2 _ _); rw [s3.2]
  have cr_0_2 := fdq_227 hD hth r0
  have ar_0_4_1 : w_ar w1 (n_v vs 0) 4 = w_ar ws (n_v vs 0) 4 := congrArg v_ad (s1.2 _ _).symm
  have ar_0_4_2 : w_ar w2 (n_v vs 0) 4 = w_ar ws (n_v vs 0) 4 := by rw [← ar_0_4_1]; show v_ad (w_fd w2 _ _) = v_ad (w_fd w1 _ _); rw [s2.2]
  have ar_0_4_3 : w_ar w3 (n_v vs 0) 4 = w_ar ws (n_v vs 0) 4 := by rw [← ar_0_4_2]; show v_ad (w_fd w3 _ _) = v_ad (w_fd w2 _ _); rw [s3.2]
  have cr_0_4 := fdq_93 hD hth r0
  have ar_1_2_1 : w_ar w1 (n_v vs 1) 2 = w_ar ws (n_v vs 1) 2 := congrArg v_ad (s1.2 _ _).symm
  have ar_1_2_2 : w_ar w2 (n_v vs 1) 2 = w_ar ws (n_v vs 1) 2 := by rw [← ar_1_2_1]; show v_ad (w_fd w2 _ _) = v_ad (w_fd w1 _ _); rw [s2.2]
  have ar_1_2_3 : w_ar w3 (n_v vs 1) 2 = w_ar ws (n_v vs 1) 2 := by rw [← ar_1_2_2]; show v_ad (w_fd w3 _ _) = v_ad (w_fd w2 _ _); rw [s3.2]
  have cr_1_2 := fdq_45 hD hth r1
  have ar_1_3_1 : w_ar w1 (n_v vs 1) 3 = w_ar ws (n_v vs 1) 3 := congrArg v_ad (s1.2 _ _).symm
  have ar_1_3_2 : w_ar w2 (n_v vs 1) 3 = w_ar ws (n_v vs 1) 3 := by rw [← ar_1_3_1]; show v_ad (w_fd w2 _ _) = v_ad (w_fd w1 _ _); rw [s2.2]
  have ar_1_3_3 : w_ar w3 (n_v vs 1) 3 = w_ar ws (n_v vs 1) 3 := by rw [← ar_1_3_2]; show v_ad (w_fd w3 _ _) = v_ad (w_fd w2 _ _); rw [s3.2]
  have cr_1_3 := fdq_48 hD hth r1
  have ad_15 : v_ad (n_v vs 15) = w_ar ws (n_v vs 0) 4 := congrArg v_ad f0
  have ad_12 : v_ad (n_v vs 12) = w_ar ws (n_v vs 1) 3 := congrArg v_ad f1
  have ad_10 : v_ad (n_v vs 10) = w_ar ws (n_v vs 1) 2 := congrArg v_ad f2
  have ad_8 : v_ad (n_v vs 8) = w_ar ws (n_v vs 0) 1 := congrArg v_ad f3
  simp only [ad_8] at f16
  have h16 : v_iv (n_v vs 9) = w_ei w3 (w_ar ws (n_v vs 0) 1) (v_iv (n_v vs 6)) := f16
  simp only [ar_0_1_3, ar_0_2_3, ar_0_4_3, ar_1_2_3, ar_1_3_3] at f18
  have hE_0_1_1 : ∀ j : Int, w_ei ws (w_ar ws (n_v vs 0) 1) j = w_ei w1 (w_ar ws (n_v vs 0) 1) j := el_kp s1.1 r15 cr_0_1 (by decide)
  have hE_0_1_2 : ∀ j : Int, w_ei w1 (w_ar ws (n_v vs 0) 1) j = w_ei w2 (w_ar ws (n_v vs 0) 1) j := el_kp s2.1 r12 cr_0_1 (by decide)
  have hE_0_1_3 : ∀ j : Int, w_ei w2 (w_ar ws (n_v vs 0) 1) j = w_ei w3 (w_ar ws (n_v vs 0) 1) j := el_kp s3.1 r10 cr_0_1 (by decide)
  have hE_0_2_1 : ∀ j : Int, w_ei ws (w_ar ws (n_v vs 0) 2) j = w_ei w1 (w_ar ws (n_v vs 0) 2) j := el_kp s1.1 r15 cr_0_2 (by decide)
  have hE_0_2_2 : ∀ j : Int, w_ei w1 (w_ar ws (n_v vs 0) 2) j = w_ei w2 (w_ar ws (n_v vs 0) 2) j := el_kp s2.1 r12 cr_0_2 (by decide)
  have hE_0_2_3 : ∀ j : Int, w_ei w2 (w_ar ws (n_v vs 0) 2) j = w_ei w3 (w_ar ws (n_v vs 0) 2) j := el_kp s3.1 r10 cr_0_2 (by decide)
  have hE_0_4_1 : ∀ j : Int, 0 ≤ j → (j = v_iv (n_v vs 9) → w_ei ws (w_ar ws (n_v vs 0) 4) j = v_iv (n_v vs 17)) ∧ (j ≠ v_iv (n_v vs 9) → w_ei ws (w_ar ws (n_v vs 0) 4) j = w_ei w1 (w_ar ws (n_v vs 0) 4) j) := fun j hj => ⟨fun h => by unfold w_ei; rw [s1.1, if_pos ⟨ad_15.symm, by rw [h]⟩], fun h => by unfold w_ei; rw [s1.1, if_neg (fun e => h (by have := e.2; omega))]⟩
  have hE_0_4_2 : ∀ j : Int, w_ei w1 (w_ar ws (n_v vs 0) 4) j = w_ei w2 (w_ar ws (n_v vs 0) 4) j := el_kp s2.1 r12 cr_0_4 (by decide)
  have hE_0_4_3 : ∀ j : Int, w_ei w2 (w_ar ws (n_v vs 0) 4) j = w_ei w3 (w_ar ws (n_v vs 0) 4) j := el_kp s3.1 r10 cr_0_4 (by decide)
  have hE_1_2_1 : ∀ j : Int, w_ei ws (w_ar ws (n_v vs 1) 2) j = w_ei w1 (w_ar ws (n_v vs 1) 2) j := el_kp s1.1 r15 cr_1_2 (by decide)
  have hE_1_2_2 : ∀ j : Int, w_ei w1 (w_ar ws (n_v vs 1) 2) j = w_ei w2 (w_ar ws (n_v vs 1) 2) j := el_kp s2.1 r12 cr_1_2 (by decide)
  have hE_1_2_3 : ∀ j : Int, 0 ≤ j → (j = v_iv (n_v vs 9) → w_ei w2 (w_ar ws (n_v vs 1) 2) j = v_iv (n_v vs 11)) ∧ (j ≠ v_iv (n_v vs 9) → w_ei w2 (w_ar ws (n_v vs 1) 2) j = w_ei w3 (w_ar ws (n_v vs 1) 2) j) := fun j hj => ⟨fun h => by unfold w_ei; rw [s3.1, if_pos ⟨ad_10.symm, by rw [h]⟩], fun h => by unfold w_ei; rw [s3.1, if_neg (fun e => h (by have := e.2; omega))]⟩
  have hE_1_3_1 : ∀ j : Int, w_ei ws (w_ar ws (n_v vs 1) 3) j = w_ei w1 (w_ar ws (n_v vs 1) 3) j := el_kp s1.1 r15 cr_1_3 (by decide)
  have hE_1_3_2 : ∀ j : Int, 0 ≤ j → (j = v_iv (n_v vs 9) → w_ei w1 (w_ar ws (n_v vs 1) 3) j = v_iv (n_v vs 14)) ∧ (j ≠ v_iv (n_v vs 9) → w_ei w1 (w_ar ws (n_v vs 1) 3) j = w_ei w2 (w_ar ws (n_v vs 1) 3) j) := fun j hj => ⟨fun h => by unfold w_ei; rw [s2.1, if_pos ⟨ad_12.symm, by rw [h]⟩], fun h => by unfold w_ei; rw [s2.1, if_neg (fun e => h (by have := e.2; omega))]⟩
  have hE_1_3_3 : ∀ j : Int, w_ei w2 (w_ar ws (n_v vs 1) 3) j = w_ei w3 (w_ar ws (n_v vs 1) 3) j := el_kp s3.1 r10 cr_1_3 (by decide)
  have nf0 : fc_1 PRD (20, [4, 5, 18], [60, 0, 5, 888, 2, 1, 4, 1002, 1003]) ws (vs) := by
    refine ⟨nf_in hl rfl, sgq_1519 ?_⟩
    · show CG0 (w_ei ws (w_ar ws (n_v vs 4) 2)) (w_ei ws (w_ar ws (n_v vs 4) 1)) (w_ei ws (w_ar ws (n_v vs 4) 4)) (w_ei ws (w_ar ws (n_v vs 5) 2)) (w_ei ws (w_ar ws (n_v vs 5) 3)) (v_iv (n_v vs 18))
      simp only [q4, q5]
      exact vc_Pn_placeByOrder_7_0 (v_iv (n_v vs 6)) (v_iv (n_v vs 9)) (v_iv (n_v vs 11)) (v_iv (n_v vs 14)) (v_iv (n_v vs 16)) (v_iv (n_v vs 17)) (v_iv (n_v vs 18)) (w_ei w3 (w_ar ws (n_v vs 0) 1)) (w_ei w3 (w_ar ws (n_v vs 0) 2)) (w_ei w3 (w_ar ws (n_v vs 0) 4)) (w_ei w3 (w_ar ws (n_v vs 1) 2)) (w_ei w3 (w_ar ws (n_v vs 1) 3)) (w_ei ws (w_ar ws (n_v vs 0) 1)) (w_ei w1 (w_ar ws (n_v vs 0) 1)) (w_ei w2 (w_ar ws (n_v vs 0) 1)) (w_ei ws (w_ar ws (n_v vs 0) 2)) (w_ei w1 (w_ar ws (n_v vs 0) 2)) (w_ei w2 (w_ar ws (n_v vs 0) 2)) (w_ei ws (w_ar ws (n_v vs 0) 4)) (w_ei w1 (w_ar ws (n_v vs 0) 4)) (w_ei w2 (w_ar ws (n_v vs 0) 4)) (w_ei ws (w_ar ws (n_v vs 1) 2)) (w_ei w1 (w_ar ws (n_v vs 1) 2)) (w_ei w2 (w_ar ws (n_v vs 1) 2)) (w_ei ws (w_ar ws (n_v vs 1) 3)) (w_ei w1 (w_ar ws (n_v vs 1) 3)) (w_ei w2 (w_ar ws (n_v vs 1) 3)) k6 k9 k11 k14 k16 k17 k18 f4 f9 h16 f18 hE_0_1_1 hE_0_1_2 hE_0_1_3 hE_0_2_1 hE_0_2_2 hE_0_2_3 hE_0_4_1 hE_0_4_2 hE_0_4_3 hE_1_2_1 hE_1_2_2 hE_1_2_3 hE_1_3_1 hE_1_3_2 hE_1_3_3
  have nf1 : fc_1 PRD (20, [18], [50, 0, 0, 0, 2, 1, 0, 0, 3]) ws (vs) := ⟨nf_in hl rfl, sgq_1520 (vc_Pn_placeByOrder_7_1 (v_iv (n_v vs 6)) (v_iv (n_v vs 18)) (w_ei w3 (w_ar ws (n_v vs 0) 1)) (w_ei w3 (w_ar ws (n_v vs 0) 2)) (w_ei w3 (w_ar ws (n_v vs 0) 4)) (w_ei w3 (w_ar ws (n_v vs 1) 3)) (w_ei ws (w_ar ws (n_v vs 0) 1)) (w_ei w1 (w_ar ws (n_v vs 0) 1)) (w_ei w2 (w_ar ws (n_v vs 0) 1)) (w_ei ws (w_ar ws (n_v vs 0) 2)) (w_ei w1 (w_ar ws (n_v vs 0) 2)) (w_ei w2 (w_ar ws (n_v vs 0) 2)) (w_ei w1 (w_ar ws (n_v vs 0) 4)) (w_ei w2 (w_ar ws (n_v vs 0) 4)) (w_ei ws (w_ar ws (n_v vs 1) 2)) (w_ei w1 (w_ar ws (n_v vs 1) 2)) (w_ei w2 (w_ar ws (n_v vs 1) 2)) (w_ei ws (w_ar ws (n_v vs 1) 3)) (w_ei w1 (w_ar ws (n_v vs 1) 3)) (w_ei w2 (w_ar ws (n_v vs 1) 3)) k18 hE_0_1_1 hE_0_1_2 hE_0_1_3 hE_0_2_1 hE_0_2_2 hE_0_2_3 hE_0_4_2 hE_0_4_3 hE_1_2_1 hE_1_2_2 hE_1_3_1 hE_1_3_3)⟩
  refine ⟨(fun _ h => (by cases h)), [], trivial, ?_, (fun _ h => (by cases h))⟩
  rw [List.append_nil]
  exact List.forall_mem_cons.mpr ⟨⟨show (20 : Nat) < 100 from by decide, nf0⟩, List.forall_mem_cons.mpr ⟨⟨show (20 : Nat) < 100 from by decide, nf1⟩, (fun _ h => (by cases h))⟩⟩
def o_Pn_placeByOrder_8 : or_T := (133, 9, [(0, (2, 0, 0, [7])), (1, (2, 0, 0, [0])), (2, (2, 0, 0, [12])), (3, (0, 0, 3072, [])), (4, (2, 0, 0, [7])), (5, (2, 0, 0, [0])), (6, (0, 3, 24, [])), (7, (2, 0, 0, [294])), (8, (0, 0, 24, []))], [(7, [6, 8], [3]), (9, [8, 7], [5]), (20, [2, 3, 5], [62, 2000000]), (20, [4, 6], [60, 1, 2, 889, 3, 2, 1]), (20, [4, 5, 6], [60, 0, 4, 883, 1, 4, 1002, 1003]), (20, [6], [50, 0, 0, 0, 2, 0, 3, 1, 0]), (24, [0, 4], []), (24, [1, 5], [])], [], [], [(20, [2, 3, 1], [62, 2000000])], [], [(6, 8, 0, 4294967296)])
theorem oo_Pn_placeByOrder_8 {kA : Nat → ClassId} : or_ok PRD kA GG o_Pn_placeByOrder_8 := by
  refine or_mk fun A ta ws vs hD hth hl => ?_
  intro t0 r0 t1 r1 t2 r2 t3 k3 t4 r4 t5 r5 t6 k6 t7 r7 t8 k8 d0 f0 f1 f2 f3 f4 f5 f6 f7
  replace f0 := shm_2 f0
  replace f1 := shm_110 f1
  replace f2 := shm_1399 f2
  replace f3 := shm_899 f3
  replace f4 := shm_1393 f4
  replace f5 := shm_1207 f5
  replace f6 := shm_5 f6
  replace f7 := shm_5 f7
  have q4 : n_v vs 4 = n_v vs 0 := f6.symm
  have q5 : n_v vs 5 = n_v vs 1 := f7.symm
  simp only [q5, q4] at f2 f3 f4
  have cr_0_1 := fdq_92 hD hth r0
  have cr_0_2 := fdq_227 hD hth r0
  have cr_0_4 := fdq_93 hD hth r0
  have cr_1_2 := fdq_45 hD hth r1
  have cr_1_3 := fdq_48 hD hth r1
  have g1 : v_iv (n_v vs 8) = w_fi ws (n_v vs 7) 5 := congrArg v_iv f1
  have hK_0_1 := elq_48 hD hth cr_0_1
  have hK_0_2 := elq_140 hD hth cr_0_2
  have hK_0_4 := elq_49 hD hth cr_0_4
  have hK_1_2 := elq_10 hD hth cr_1_2
  have hK_1_3 := elq_13 hD hth cr_1_3
  have kz_0_3 := fdq_13 hD hth r0
  have kz_7_5 := fdq_94 hD hth r7
  have nf0 : fc_1 PRD (20, [2, 3, 1], [62, 2000000]) ws (vs) := by
    refine ⟨nf_in hl rfl, sgq_1399 ?_⟩
    · show HY ws (n_v vs 2) (v_iv (n_v vs 3) + (((2000000 : Nat) : Int) - 2000000)) ∧ HYD ws (n_v vs 2) (n_v vs 1)
      exact ⟨hy_le f2.1 (by omega), f2.2⟩
  refine ⟨(fun _ h => (by cases h)), [], trivial, ?_, (fun _ h => (by cases h))⟩
  rw [List.append_nil]
  exact List.forall_mem_cons.mpr ⟨⟨show (20 : Nat) < 100 from by decide, nf0⟩, (fun _ h => (by cases h))⟩
set_option maxHeartbeats 4000000 in
theorem vc_Pn_placeByOrder_9_1 (x3 : Int) (x6 : Int) (gy : Int) (gu : Int) (k3 : 0 ≤ x3 ∧ x3 ≤ 3072) (ey2 : gy = x3) : 1 * gy + ((-1) * x3 + 0) ≤ 0 := by
  first
    | omega
    | assumption
    | (rw [show gu = x6 by omega]; assumption)
set_option maxHeartbeats 4000000 in
theorem vc_Pn_placeByOrder_9_2 (x3 : Int) (x6 : Int) (gy : Int) (gu : Int) (k3 : 0 ≤ x3 ∧ x3 ≤ 3072) (ey2 : gy = x3) : (-1) * gy + (1 * x3 + 0) ≤ 0 := by
  first
    | omega
    | assumption
    | (rw [show gu = x6 by omega]; assumption)
set_option maxHeartbeats 4000000 in
theorem vc_Pn_placeByOrder_9_3 (x6 : Int) (gu : Int) (k6 : 3 ≤ x6 ∧ x6 ≤ 23) (eu2 : gu = x6) : 1 * gu + ((-1) * x6 + 0) ≤ 0 := by
  first
    | omega
    | assumption
    | (rw [show gu = x6 by omega]; assumption)
set_option maxHeartbeats 4000000 in
theorem vc_Pn_placeByOrder_9_4 (x6 : Int) (gu : Int) (k6 : 3 ≤ x6 ∧ x6 ≤ 23) (eu2 : gu = x6) : (-1) * gu + (1 * x6 + 0) ≤ 0 := by
  first
    | omega
    | assumption
    | (rw [show gu = x6 by omega]; assumption)
set_option maxHeartbeats 4000000 in
theorem vc_Pn_placeByOrder_9_6 (x6 : Int) (order_0 : Int → Int) (line_0 : Int → Int) (lineLength_0 : Int) (gu : Int) (k6 : 3 ≤ x6 ∧ x6 ≤ 23) (f5 : LNO (lineLength_0) (line_0) (order_0) (x6)) (kz_0_3 : 0 ≤ lineLength_0 ∧ lineLength_0 ≤ 24) (eu2 : gu = x6) : LNO (lineLength_0) (line_0) (order_0) (gu) := by
  first
    | (rw [show gu = x6 by omega]; assumption)
set_option maxHeartbeats 4000000 in
theorem vc_Pn_placeByOrder_9_7 (x6 : Int) (order_0 : Int → Int) (under_0 : Int → Int) (x_0o1 : Int → Int) (y_0o1 : Int → Int) (gu : Int) (k6 : 3 ≤ x6 ∧ x6 ≤ 23) (f6 : CGO (order_0) (under_0) (x_0o1) (y_0o1) (x6)) (eu2 : gu = x6) : CGO (order_0) (under_0) (x_0o1) (y_0o1) (gu) := by
  first
    | assumption
    | (rw [show gu = x6 by omega]; assumption)
set_option maxHeartbeats 4000000 in
theorem vc_Pn_placeByOrder_9_8 (x6 : Int) (x10 : Int) (order_0 : Int → Int) (gu : Int) (k6 : 3 ≤ x6 ∧ x6 ≤ 23) (k10 : 0 ≤ x10 ∧ x10 ≤ 23) (h0 : x10 = order_0 (x6)) (eu2 : gu = x6) : x10 = order_0 (gu) := by
  first
    | omega
    | assumption
    | (rw [show gu = x6 by omega]; assumption)
def o_Pn_placeByOrder_9 : or_T := (124, 11, [(0, (2, 0, 0, [7])), (1, (2, 0, 0, [0])), (2, (2, 0, 0, [12])), (3, (0, 0, 3072, [])), (4, (2, 0, 0, [7])), (5, (2, 0, 0, [0])), (6, (0, 3, 23, [])), (7, (2, 0, 0, [294])), (8, (0, 4, 24, [])), (9, (2, 0, 0, [102])), (10, (0, 0, 23, []))], [(10, [10, 9, 6], []), (9, [9, 4], [1]), (7, [6, 8], [2]), (9, [8, 7], [5]), (20, [2, 3, 5], [62, 2000000]), (20, [4, 6], [60, 1, 2, 889, 3, 2, 1]), (20, [4, 5, 6], [60, 0, 4, 883, 1, 4, 1002, 1003]), (20, [6], [50, 0, 0, 0, 2, 0, 3, 1, 0]), (24, [0, 4], []), (24, [1, 5], [])], [], [(2, 0, 0, [12]), (0, 0, 3072, []), (0, 3, 23, [])], [(24, [2, 11], []), (23, [12, 3], [0, 1, -1]), (23, [12, 3], [0, -1, 1]), (23, [13, 6], [0, 1, -1]), (23, [13, 6], [0, -1, 1]), (20, [11, 12, 5], [62, 2000000]), (20, [4, 13], [60, 1, 2, 889, 3, 2, 1]), (20, [4, 5, 13], [60, 0, 4, 883, 1, 4, 1002, 1003]), (20, [10, 4, 13], [50, 0, 1, 1001, 1, 2, 1, 0, 3, 1, 1, 1, 2])], [], [(6, 8, -4294967296, -1)])
theorem oo_Pn_placeByOrder_9 {kA : Nat → ClassId} : or_ok PRD kA GG o_Pn_placeByOrder_9 := by
  refine or_mk fun A ta ws vs hD hth hl => ?_
  intro t0 r0 t1 r1 t2 r2 t3 k3 t4 r4 t5 r5 t6 k6 t7 r7 t8 k8 t9 r9 t10 k10 d0 f0 f1 f2 f3 f4 f5 f6 f7 f8 f9
  replace f0 := shm_107 f0
  replace f1 := shm_215 f1
  replace f2 := shm_6 f2
  replace f3 := shm_110 f3
  replace f4 := shm_1399 f4
  replace f5 := shm_899 f5
  replace f6 := shm_1393 f6
  replace f7 := shm_1207 f7
  replace f8 := shm_5 f8
  replace f9 := shm_5 f9
  have q4 : n_v vs 4 = n_v vs 0 := f8.symm
  have q5 : n_v vs 5 = n_v vs 1 := f9.symm
  simp only [q4, q5] at f1 f4 f5 f6
  have cr_0_1 := fdq_92 hD hth r0
  have cr_0_2 := fdq_227 hD hth r0
  have cr_0_4 := fdq_93 hD hth r0
  have cr_1_2 := fdq_45 hD hth r1
  have cr_1_3 := fdq_48 hD hth r1
  have ad_9 : v_ad (n_v vs 9) = w_ar ws (n_v vs 0) 1 := congrArg v_ad f1
  simp only [ad_9] at f0
  have h0 : v_iv (n_v vs 10) = w_ei ws (w_ar ws (n_v vs 0) 1) (v_iv (n_v vs 6)) := f0
  have g3 : v_iv (n_v vs 8) = w_fi ws (n_v vs 7) 5 := congrArg v_iv f3
  have hK_0_1 := elq_48 hD hth cr_0_1
  have hK_0_2 := elq_140 hD hth cr_0_2
  have hK_0_4 := elq_49 hD hth cr_0_4
  have hK_1_2 := elq_10 hD hth cr_1_2
  have hK_1_3 := elq_13 hD hth cr_1_3
  have kz_0_3 := fdq_13 hD hth r0
  have kz_7_5 := fdq_94 hD hth r7
  obtain ⟨y, ey, hy⟩ := iv_ex (ta := ta) (lo := 0) (hi := 3072) (z := v_iv (n_v vs 3)) (by omega) (by omega) (by omega) (by omega)
  have ey2 : v_iv (Value.int y) = v_iv (n_v vs 3) := ey
  have ey3 : 0 ≤ v_iv (Value.int y) ∧ v_iv (Value.int y) ≤ 3072 := tv_rng hy
  obtain ⟨u, eu, hu⟩ := iv_ex (ta := ta) (lo := 3) (hi := 23) (z := v_iv (n_v vs 6)) (by omega) (by omega) (by omega) (by omega)
  have eu2 : v_iv (Value.int u) = v_iv (n_v vs 6) := eu
  have eu3 : 3 ≤ v_iv (Value.int u) ∧ v_iv (Value.int u) ≤ 23 := tv_rng hu
  have e_2 : n_v (vs ++ [n_v vs 2, Value.int y, Value.int u]) 2 = n_v vs 2 := n_v_old (by rw [hl]; decide)
  have e_3 : n_v (vs ++ [n_v vs 2, Value.int y, Value.int u]) 3 = n_v vs 3 := n_v_old (by rw [hl]; decide)
  have e_4 : n_v (vs ++ [n_v vs 2, Value.int y, Value.int u]) 4 = n_v vs 4 := n_v_old (by rw [hl]; decide)
  have e_5 : n_v (vs ++ [n_v vs 2, Value.int y, Value.int u]) 5 = n_v vs 5 := n_v_old (by rw [hl]; decide)
  have e_6 : n_v (vs ++ [n_v vs 2, Value.int y, Value.int u]) 6 = n_v vs 6 := n_v_old (by rw [hl]; decide)
  have e_10 : n_v (vs ++ [n_v vs 2, Value.int y, Value.int u]) 10 = n_v vs 10 := n_v_old (by rw [hl]; decide)
  have e_11 : n_v (vs ++ [n_v vs 2, Value.int y, Value.int u]) 11 = n_v vs 2 := n_v_newk (k := 0) hl rfl
  have e_12 : n_v (vs ++ [n_v vs 2, Value.int y, Value.int u]) 12 = Value.int y := n_v_newk (k := 1) hl rfl
  have e_13 : n_v (vs ++ [n_v vs 2, Value.int y, Value.int u]) 13 = Value.int u := n_v_newk (k := 2) hl rfl
  have nf0 : fc_1 PRD (24, [2, 11], []) ws (vs ++ [n_v vs 2, Value.int y, Value.int u]) := by
    refine ⟨nf_inA hl rfl, sgq_5 ?_⟩
    · show n_v (vs ++ [n_v vs 2, Value.int y, Value.int u]) 2 = n_v (vs ++ [n_v vs 2, Value.int y, Value.int u]) 11
      first | rfl | simp only [e_2, e_11, q4, q5]
  have nf1 : fc_1 PRD (23, [12, 3], [0, 1, -1]) ws (vs ++ [n_v vs 2, Value.int y, Value.int u]) := by
    refine ⟨nf_inA hl rfl, sgq_7 ?_⟩
    · show 1 * v_iv (n_v (vs ++ [n_v vs 2, Value.int y, Value.int u]) 12) + ((-1) * v_iv (n_v (vs ++ [n_v vs 2, Value.int y, Value.int u]) 3) + 0) ≤ 0
      simp only [e_3, e_12]
      exact vc_Pn_placeByOrder_9_1 (v_iv (n_v vs 3)) (v_iv (n_v vs 6)) (v_iv (Value.int y)) (v_iv (Value.int u)) k3 ey2
  have nf2 : fc_1 PRD (23, [12, 3], [0, -1, 1]) ws (vs ++ [n_v vs 2, Value.int y, Value.int u]) := by
    refine ⟨nf_inA hl rfl, sgq_22 ?_⟩
    · show (-1) * v_iv (n_v (vs ++ [n_v vs 2, Value.int y, Value.int u]) 12) + (1 * v_iv (n_v (vs ++ [n_v vs 2, Value.int y, Value.int u]) 3) + 0) ≤ 0
      simp only [e_3, e_12]
      exact vc_Pn_placeByOrder_9_2 (v_iv (n_v vs 3)) (v_iv (n_v vs 6)) (v_iv (Value.int y)) (v_iv (Value.int u)) k3 ey2
  have nf3 : fc_1 PRD (23, [13, 6], [0, 1, -1]) ws (vs ++ [n_v vs 2, Value.int y, Value.int u]) := by
    refine ⟨nf_inA hl rfl, sgq_7 ?_⟩
    · show 1 * v_iv (n_v (vs ++ [n_v vs 2, Value.int y, Value.int u]) 13) + ((-1) * v_iv (n_v (vs ++ [n_v vs 2, Value.int y, Value.int u]) 6) + 0) ≤ 0
      simp only [e_6, e_13]
      exact vc_Pn_placeByOrder_9_3 (v_iv (n_v vs 6)) (v_iv (Value.int u)) k6 eu2
  have nf4 : fc_1 PRD (23, [13, 6], [0, -1, 1]) ws (vs ++ [n_v vs 2, Value.int y, Value.int u]) := by
    refine ⟨nf_inA hl rfl, sgq_22 ?_⟩
    · show (-1) * v_iv (n_v (vs ++ [n_v vs 2, Value.int y, Value.int u]) 13) + (1 * v_iv (n_v (vs ++ [n_v vs 2, Value.int y, Value.int u]) 6) + 0) ≤ 0
      simp only [e_6, e_13]
      exact vc_Pn_placeByOrder_9_4 (v_iv (n_v vs 6)) (v_iv (Value.int u)) k6 eu2
  have nf5 : fc_1 PRD (20, [11, 12, 5], [62, 2000000]) ws (vs ++ [n_v vs 2, Value.int y, Value.int u]) := by
    refine ⟨nf_inA hl rfl, sgq_1399 ?_⟩
    · show HY ws (n_v (vs ++ [n_v vs 2, Value.int y, Value.int u]) 11) (v_iv (n_v (vs ++ [n_v vs 2, Value.int y, Value.int u]) 12) + (((2000000 : Nat) : Int) - 2000000)) ∧ HYD ws (n_v (vs ++ [n_v vs 2, Value.int y, Value.int u]) 11) (n_v (vs ++ [n_v vs 2, Value.int y, Value.int u]) 5)
      simp only [e_5, e_11, e_12]
      first | rw [q5] | skip
      exact ⟨hy_le f4.1 (by omega), f4.2⟩
  have nf6 : fc_1 PRD (20, [4, 13], [60, 1, 2, 889, 3, 2, 1]) ws (vs ++ [n_v vs 2, Value.int y, Value.int u]) := by
    refine ⟨nf_inA hl rfl, sgq_899 ?_⟩
    · show LNO (w_fi ws (n_v (vs ++ [n_v vs 2, Value.int y, Value.int u]) 4) 3) (w_ei ws (w_ar ws (n_v (vs ++ [n_v vs 2, Value.int y, Value.int u]) 4) 2)) (w_ei ws (w_ar ws (n_v (vs ++ [n_v vs 2, Value.int y, Value.int u]) 4) 1)) (v_iv (n_v (vs ++ [n_v vs 2, Value.int y, Value.int u]) 13))
      simp only [e_4, e_13, q4]
      exact vc_Pn_placeByOrder_9_6 (v_iv (n_v vs 6)) (w_ei ws (w_ar ws (n_v vs 0) 1)) (w_ei ws (w_ar ws (n_v vs 0) 2)) (w_fi ws (n_v vs 0) 3) (v_iv (Value.int u)) k6 f5 kz_0_3 eu2
  have nf7 : fc_1 PRD (20, [4, 5, 13], [60, 0, 4, 883, 1, 4, 1002, 1003]) ws (vs ++ [n_v vs 2, Value.int y, Value.int u]) := by
    refine ⟨nf_inA hl rfl, sgq_1393 ?_⟩
    · show CGO (w_ei ws (w_ar ws (n_v (vs ++ [n_v vs 2, Value.int y, Value.int u]) 4) 1)) (w_ei ws (w_ar ws (n_v (vs ++ [n_v vs 2, Value.int y, Value.int u]) 4) 4)) (w_ei ws (w_ar ws (n_v (vs ++ [n_v vs 2, Value.int y, Value.int u]) 5) 2)) (w_ei ws (w_ar ws (n_v (vs ++ [n_v vs 2, Value.int y, Value.int u]) 5) 3)) (v_iv (n_v (vs ++ [n_v vs 2, Value.int y, Value.int u]) 13))
      simp only [e_4, e_5, e_13, q4, q5]
      exact vc_Pn_placeByOrder_9_7 (v_iv (n_v vs 6)) (w_ei ws (w_ar ws (n_v vs 0) 1)) (w_ei ws (w_ar ws (n_v vs 0) 4)) (w_ei ws (w_ar ws (n_v vs 1) 2)) (w_ei ws (w_ar ws (n_v vs 1) 3)) (v_iv (Value.int u)) k6 f6 eu2
  have nf8 : fc_1 PRD (20, [10, 4, 13], [50, 0, 1, 1001, 1, 2, 1, 0, 3, 1, 1, 1, 2]) ws (vs ++ [n_v vs 2, Value.int y, Value.int u]) := by
    refine ⟨nf_inA hl rfl, sgq_1394 ?_⟩
    · show v_iv (n_v (vs ++ [n_v vs 2, Value.int y, Value.int u]) 10) = w_ei ws (w_ar ws (n_v (vs ++ [n_v vs 2, Value.int y, Value.int u]) 4) 1) (v_iv (n_v (vs ++ [n_v vs 2, Value.int y, Value.int u]) 13))
      simp only [e_4, e_10, e_13, q4]
      exact vc_Pn_placeByOrder_9_8 (v_iv (n_v vs 6)) (v_iv (n_v vs 10)) (w_ei ws (w_ar ws (n_v vs 0) 1)) (v_iv (Value.int u)) k6 k10 h0 eu2
  exact ⟨(fun _ h => (by cases h)), [n_v vs 2, Value.int y, Value.int u], ag_three t2 hy hu, List.forall_mem_cons.mpr ⟨⟨show (24 : Nat) < 100 from by decide, nf0⟩, List.forall_mem_cons.mpr ⟨⟨show (23 : Nat) < 100 from by decide, nf1⟩, List.forall_mem_cons.mpr ⟨⟨show (23 : Nat) < 100 from by decide, nf2⟩, List.forall_mem_cons.mpr ⟨⟨show (23 : Nat) < 100 from by decide, nf3⟩, List.forall_mem_cons.mpr ⟨⟨show (23 : Nat) < 100 from by decide, nf4⟩, List.forall_mem_cons.mpr ⟨⟨show (20 : Nat) < 100 from by decide, nf5⟩, List.forall_mem_cons.mpr ⟨⟨show (20 : Nat) < 100 from by decide, nf6⟩, List.forall_mem_cons.mpr ⟨⟨show (20 : Nat) < 100 from by decide, nf7⟩, List.forall_mem_cons.mpr ⟨⟨show (20 : Nat) < 100 from by decide, nf8⟩, (fun _ h => (by cases h))⟩⟩⟩⟩⟩⟩⟩⟩⟩, (fun _ h => (by cases h))⟩
set_option maxHeartbeats 4000000 in
theorem vc_Pn_placeByOrder_10_1 (x6 : Int) (x12 : Int) (x13 : Int) (x14 : Int) (order_0 : Int → Int) (line_0 : Int → Int) (lineLength_0 : Int) (k6 : 3 ≤ x6 ∧ x6 ≤ 23) (k13 : 3 ≤ x13 ∧ x13 ≤ 23) (k14 : 4 ≤ x14 ∧ x14 ≤ 24) (d0 : x6 + 1 ≤ x14 ∧ x14 ≤ x6 + 1) (f6 : 1 * x13 + ((-1) * x6 + 0) ≤ 0) (f7 : (-1) * x13 + (1 * x6 + 0) ≤ 0) (f13 : LNQ (lineLength_0) (line_0) (order_0) (x13)) (kz_0_3 : 0 ≤ lineLength_0 ∧ lineLength_0 ≤ 24) : LNO (lineLength_0) (line_0) (order_0) (x14) := by
  first
    | exact lnp_to ‹LNQ _ _ _ _› (by omega)
set_option maxHeartbeats 4000000 in
theorem vc_Pn_placeByOrder_10_2 (x6 : Int) (x13 : Int) (x14 : Int) (order_0 : Int → Int) (under_0 : Int → Int) (x_0o1 : Int → Int) (y_0o1 : Int → Int) (k6 : 3 ≤ x6 ∧ x6 ≤ 23) (k13 : 3 ≤ x13 ∧ x13 ≤ 23) (k14 : 4 ≤ x14 ∧ x14 ≤ 24) (d0 : x6 + 1 ≤ x14 ∧ x14 ≤ x6 + 1) (f6 : 1 * x13 + ((-1) * x6 + 0) ≤ 0) (f7 : (-1) * x13 + (1 * x6 + 0) ≤ 0) (f14 : CGP (order_0) (under_0) (x_0o1) (y_0o1) (x13)) : CGO (order_0) (under_0) (x_0o1) (y_0o1) (x14) := by
  first
    | exact cgp_to2 ‹CGP _ _ _ _ _› (by omega)
set_option maxHeartbeats 4000000 in
theorem vc_Pn_placeByOrder_10_3 (x6 : Int) (x14 : Int) (k14 : 4 ≤ x14 ∧ x14 ≤ 24) : 3 ≤ x14 := by
  first
    | omega
    | assumption
    | (rw [show gu = x6 by omega]; assumption)
def o_Pn_placeByOrder_10 : or_T := (105, 15, [(0, (2, 0, 0, [7])), (1, (2, 0, 0, [0])), (2, (2, 0, 0, [12])), (3, (0, 0, 3072, [])), (4, (2, 0, 0, [7])), (5, (2, 0, 0, [0])), (6, (0, 3, 23, [])), (7, (2, 0, 0, [294])), (8, (0, 4, 24, [])), (9, (2, 0, 0, [102])), (10, (0, 0, 23, [])), (11, (2, 0, 0, [12])), (12, (0, 0, 3072, [])), (13, (0, 3, 23, [])), (14, (0, 4, 24, []))], [(9, [9, 4], [1]), (9, [8, 7], [5]), (6, [14, 6], [1]), (24, [2, 11], []), (23, [12, 3], [0, 1, -1]), (23, [12, 3], [0, -1, 1]), (23, [13, 6], [0, 1, -1]), (23, [13, 6], [0, -1, 1]), (20, [10, 4, 13], [50, 0, 1, 1001, 1, 2, 1, 0, 3, 1, 1, 1, 2]), (20, [6], [50, 0, 0, 0, 2, 0, 3, 1, 0]), (24, [0, 4], []), (24, [1, 5], []), (20, [11, 12, 5], [62, 2000000]), (20, [4, 13], [60, 1, 2, 890, 3, 2, 1]), (20, [4, 5, 13], [60, 0, 4, 884, 1, 4, 1002, 1003]), (102, [13], [111553252820084187331709882122240, 7003]), (23, [12, 3], [0, 1, -1]), (23, [12, 3], [0, -1, 1]), (23, [13, 6], [0, 1, -1]), (23, [13, 6], [0, -1, 1]), (7, [6, 8], [2])], [], [], [(20, [2, 3, 5], [62, 2000000]), (20, [4, 14], [60, 1, 2, 889, 3, 2, 1]), (20, [4, 5, 14], [60, 0, 4, 883, 1, 4, 1002, 1003]), (20, [14], [50, 0, 0, 0, 2, 0, 3, 1, 0])], [], [(14, 6, 1, 1), (14, 8, -4294967296, 0), (6, 8, -4294967296, -1)])
theorem oo_Pn_placeByOrder_10 {kA : Nat → ClassId} : or_ok PRD kA GG o_Pn_placeByOrder_10 := by
  refine or_mk fun A ta ws vs hD hth hl => ?_
  intro t0 r0 t1 r1 t2 r2 t3 k3 t4 r4 t5 r5 t6 k6 t7 r7 t8 k8 t9 r9 t10 k10 t11 r11 t12 k12 t13 k13 t14 k14 d0 d1 d2 f0 f1 f2 f3 f4 f5 f6 f7 f8 f9 f10 f11 f12 f13 f14 ta1 w1 le1 s1 f16 f17 f18 f19 f20
  replace f0 := shm_215 f0
  replace f1 := shm_110 f1
  replace f2 := shm_4 f2
  replace f3 := shm_5 f3
  replace f4 := shm_7 f4
  replace f5 := shm_22 f5
  replace f6 := shm_7 f6
  replace f7 := shm_22 f7
  replace f8 := shm_1394 f8
  replace f9 := shm_1207 f9
  replace f10 := shm_5 f10
  replace f11 := shm_5 f11
  replace f12 := shm_1399 f12
  replace f13 := shm_902 f13
  replace f14 := shm_1400 f14
  replace f16 := shm_7 f16
  replace f17 := shm_22 f17
  replace f18 := shm_7 f18
  replace f19 := shm_22 f19
  replace f20 := shm_6 f20
  have q11 : n_v vs 11 = n_v vs 2 := f3.symm
  have q4 : n_v vs 4 = n_v vs 0 := f10.symm
  have q5 : n_v vs 5 = n_v vs 1 := f11.symm
  simp only [q4, q11, q5] at f0 f8 f12 f13 f14
  have cr_0_1 := fdq_92 hD hth r0
  have cr_0_2 := fdq_227 hD hth r0
  have cr_0_4 := fdq_93 hD hth r0
  have cr_1_2 := fdq_45 hD hth r1
  have cr_1_3 := fdq_48 hD hth r1
  have ad_9 : v_ad (n_v vs 9) = w_ar ws (n_v vs 0) 1 := congrArg v_ad f0
  have g1 : v_iv (n_v vs 8) = w_fi ws (n_v vs 7) 5 := congrArg v_iv f1
  have hK_0_1 := elq_48 hD hth cr_0_1
  have hK_0_2 := elq_140 hD hth cr_0_2
  have hK_0_4 := elq_49 hD hth cr_0_4
  have hK_1_2 := elq_10 hD hth cr_1_2
  have hK_1_3 := elq_13 hD hth cr_1_3
  have kz_0_3 := fdq_13 hD hth r0
  have kz_7_5 := fdq_94 hD hth r7
  have nf0 : fc_1 PRD (20, [2, 3, 5], [62, 2000000]) ws (vs) := by
    refine ⟨nf_in hl rfl, sgq_1399 ?_⟩
    · show HY ws (n_v vs 2) (v_iv (n_v vs 3) + (((2000000 : Nat) : Int) - 2000000)) ∧ HYD ws (n_v vs 2) (n_v vs 5)
      first | rw [q5] | skip
      exact ⟨hy_le f12.1 (by omega), f12.2⟩
  have nf1 : fc_1 PRD (20, [4, 14], [60, 1, 2, 889, 3, 2, 1]) ws (vs) := by
    refine ⟨nf_in hl rfl, sgq_899 ?_⟩
    · show LNO (w_fi ws (n_v vs 4) 3) (w_ei ws (w_ar ws (n_v vs 4) 2)) (w_ei ws (w_ar ws (n_v vs 4) 1)) (v_iv (n_v vs 14))
      rw [q4]
      exact vc_Pn_placeByOrder_10_1 (v_iv (n_v vs 6)) (v_iv (n_v vs 12)) (v_iv (n_v vs 13)) (v_iv (n_v vs 14)) (w_ei ws (w_ar ws (n_v vs 0) 1)) (w_ei ws (w_ar ws (n_v vs 0) 2)) (w_fi ws (n_v vs 0) 3) k6 k13 k14 d0 f6 f7 f13 kz_0_3
  have nf2 : fc_1 PRD (20, [4, 5, 14], [60, 0, 4, 883, 1, 4, 1002, 1003]) ws (vs) := by
    refine ⟨nf_in hl rfl, sgq_1393 ?_⟩
    · show CGO (w_ei ws (w_ar ws (n_v vs 4) 1)) (w_ei ws (w_ar ws (n_v vs 4) 4)) (w_ei ws (w_ar ws (n_v vs 5) 2)) (w_ei ws (w_ar ws (n_v vs 5) 3)) (v_iv (n_v vs 14))
      simp only [q4, q5]
      exact vc_Pn_placeByOrder_10_2 (v_iv (n_v vs 6)) (v_iv (n_v vs 13)) (v_iv (n_v vs 14)) (w_ei ws (w_ar ws (n_v vs 0) 1)) (w_ei ws (w_ar ws (n_v vs 0) 4)) (w_ei ws (w_ar ws (n_v vs 1) 2)) (w_ei ws (w_ar ws (n_v vs 1) 3)) k6 k13 k14 d0 f6 f7 f14
  have nf3 : fc_1 PRD (20, [14], [50, 0, 0, 0, 2, 0, 3, 1, 0]) ws (vs) := ⟨nf_in hl rfl, sgq_1207 (vc_Pn_placeByOrder_10_3 (v_iv (n_v vs 6)) (v_iv (n_v vs 14)) k14)⟩
  refine ⟨(fun _ h => (by cases h)), [], trivial, ?_, (fun _ h => (by cases h))⟩
  rw [List.append_nil]
  exact List.forall_mem_cons.mpr ⟨⟨show (20 : Nat) < 100 from by decide, nf0⟩, List.forall_mem_cons.mpr ⟨⟨show (20 : Nat) < 100 from by decide, nf1⟩, List.forall_mem_cons.mpr ⟨⟨show (20 : Nat) < 100 from by decide, nf2⟩, List.forall_mem_cons.mpr ⟨⟨show (20 : Nat) < 100 from by decide, nf3⟩, (fun _ h => (by cases h))⟩⟩⟩⟩
def n_Pn_placeByOrder_an : List an_T := [(2, [(0, (2, 0, 0, [7])), (1, (2, 0, 0, [0])), (2, (0, 0, 3, []))], [], (0, 0), [(0, 0, 99998), (1, 6, 3), (0, 0, 100000)], [], [], [(2, 0, 0, [7]), (2, 0, 0, [0]), (2, 0, 0, [12]), (0, 0, 3072, [])], 0, [], [(20, [2, 3, 5], [62, 2000000]), (20, [4, 5, 6], [60, 0, 5, 888, 2, 1, 4, 1002, 1003]), (20, [6], [50, 0, 0, 0, 2, 1, 0, 0, 3]), (24, [0, 4], []), (24, [1, 5], [])]), (105, [(0, (2, 0, 0, [7])), (1, (2, 0, 0, [0])), (2, (0, 3, 24, []))], [], (0, 0), [(0, 0, 99895), (1, 6, 24), (0, 0, 100000)], [], [], [(2, 0, 0, [7]), (2, 0, 0, [0]), (2, 0, 0, [12]), (0, 0, 3072, [])], 0, [], [(20, [2, 3, 5], [62, 2000000]), (20, [4, 6], [60, 1, 2, 889, 3, 2, 1]), (20, [4, 5, 6], [60, 0, 4, 883, 1, 4, 1002, 1003]), (20, [6], [50, 0, 0, 0, 2, 0, 3, 1, 0]), (24, [0, 4], []), (24, [1, 5], [])])]
def t_Pn_placeByOrder_ct : ct_L := [(1, 180, e_Pn_placeNext)]
set_option maxRecDepth 100000 in
theorem c_Pn_placeByOrder {l : Launch} {D : va_G} {kA : Nat → ClassId} (h_Pn_placeNext : ct_ok PRD l D kA GG y_Pn_placeNext z_Pn_placeNext e_Pn_placeNext) : ct_ok PRD l D kA GG y_Pn_placeByOrder z_Pn_placeByOrder e_Pn_placeByOrder := chk_all_ok (FT := [(12, 7, 0), (18, 7, 1), (22, 7, 2), (29, 7, 4), (86, 5, 5), (87, 0, 3), (177, 0, 2)]) (PT := [(25, 7, 3, .int)]) (CT := t_Pn_placeByOrder_ct) (KT := []) (NT := []) (AN := n_Pn_placeByOrder_an) (OT := [o_Pn_placeByOrder_0, o_Pn_placeByOrder_1, o_Pn_placeByOrder_2, o_Pn_placeByOrder_3, o_Pn_placeByOrder_4, o_Pn_placeByOrder_5, o_Pn_placeByOrder_6, o_Pn_placeByOrder_7, o_Pn_placeByOrder_8, o_Pn_placeByOrder_9, o_Pn_placeByOrder_10]) 3 448 (List.forall_mem_cons.mpr ⟨oo_Pn_placeByOrder_0, List.forall_mem_cons.mpr ⟨oo_Pn_placeByOrder_1, List.forall_mem_cons.mpr ⟨oo_Pn_placeByOrder_2, List.forall_mem_cons.mpr ⟨oo_Pn_placeByOrder_3, List.forall_mem_cons.mpr ⟨oo_Pn_placeByOrder_4, List.forall_mem_cons.mpr ⟨oo_Pn_placeByOrder_5, List.forall_mem_cons.mpr ⟨oo_Pn_placeByOrder_6, List.forall_mem_cons.mpr ⟨oo_Pn_placeByOrder_7, List.forall_mem_cons.mpr ⟨oo_Pn_placeByOrder_8, List.forall_mem_cons.mpr ⟨oo_Pn_placeByOrder_9, List.forall_mem_cons.mpr ⟨oo_Pn_placeByOrder_10, List.forall_mem_nil _⟩⟩⟩⟩⟩⟩⟩⟩⟩⟩⟩) (by decide +kernel) ⟨List.forall_mem_cons.mpr ⟨gf_Pn_12, List.forall_mem_cons.mpr ⟨gf_Pn_18, List.forall_mem_cons.mpr ⟨gf_Pn_22, List.forall_mem_cons.mpr ⟨gf_Pn_29, List.forall_mem_cons.mpr ⟨gf_Pn_86, List.forall_mem_cons.mpr ⟨gf_Pn_87, List.forall_mem_cons.mpr ⟨gf_Pn_177, List.forall_mem_nil _⟩⟩⟩⟩⟩⟩⟩, List.forall_mem_cons.mpr ⟨pf_Pn_25, List.forall_mem_nil _⟩, List.forall_mem_cons.mpr ⟨cl_virtual (y := y_Pn_placeNext) (ci := 7) rfl rfl ⟨_, _, rfl⟩ (by decide +kernel) h_Pn_placeNext wm_1573 wm_20 wm_1570 wm_1572 wv_6_14 ⟨by decide, by decide, by decide +kernel⟩ (by decide), List.forall_mem_nil _⟩, List.forall_mem_nil _, List.forall_mem_nil _, GG_pl⟩ (by decide +kernel)

set_option maxHeartbeats 4000000 in
theorem vc_Re_advance_0_0 (x2 : Int) (next_0 : Int) (end_0 : Int) (tape_0 : Int → Int) (k2 : 0 ≤ x2 ∧ x2 ≤ 2000) (f2 : 1 * next_0 + ((-1) * x2 + 0) ≤ 0) (f3 : (-1) * next_0 + (1 * x2 + 0) ≤ 0) (f4 : CLM (end_0) (next_0)) (kz_0_5 : 0 ≤ end_0 ∧ end_0 ≤ 2000) (kz_0_6 : 0 ≤ next_0 ∧ next_0 ≤ 2000) : CX0 (end_0) (next_0) (tape_0) (x2) := by
  first
    | exact cx_0 ‹CLM _ _› (by omega)
    | exact cx_s (by assumption) ‹CX0 _ _ _ _› (by omega) (by omega) (by omega)
set_option maxHeartbeats 4000000 in
theorem vc_Re_advance_0_1 (x2 : Int) (next_0 : Int) (tape_0 : Int → Int) (k2 : 0 ≤ x2 ∧ x2 ≤ 2000) (f2 : 1 * next_0 + ((-1) * x2 + 0) ≤ 0) (f3 : (-1) * next_0 + (1 * x2 + 0) ≤ 0) (hK_0_0 : ∀ j : Int, 0 ≤ j → j < 2000 → (-128) ≤ tape_0 j ∧ tape_0 j ≤ 127) (kz_0_6 : 0 ≤ next_0 ∧ next_0 ≤ 2000) : 1 * x2 + ((-1) * next_0 + 0) ≤ 0 := by
  first | with_reducible assumption | ((try and_intros) <;> first | with_reducible assumption | (clear hK_0_0; omega)) | omega
def o_Re_advance_0 : or_T := (0, 3, [(0, (2, 0, 0, [8])), (2, (0, 0, 2000, []))], [(20, [0, 2], [30, 0, 1, 1, 6, -1, 0, 0]), (20, [0, 2], [30, 0, -1, 1, 6, 1, 0, 0]), (20, [0], [60, 2, 0, 1073, 5, 6])], [], [], [(20, [0, 2], [60, 2, 1, 1074, 5, 6, 0]), (20, [2, 0], [30, 0, 1, 0, 0, -1, 1, 6]), (24, [0, 0], [])], [], [])
theorem oo_Re_advance_0 {kA : Nat → ClassId} : or_ok PRD kA GG o_Re_advance_0 := by
  refine or_mk fun A ta ws vs hD hth hl => ?_
  intro t0 r0 t2 k2 f2 f3 f4
  have cr_0_0 := fdq_95 hD hth r0
  have hK_0_0 := elq_33 hD hth cr_0_0
  have kz_0_5 := fdq_207 hD hth r0
  have kz_0_6 := fdq_208 hD hth r0
  have nf0 : fc_1 PRD (20, [0, 2], [60, 2, 1, 1074, 5, 6, 0]) ws (vs) := ⟨nf_in hl rfl, sgq_1526 (vc_Re_advance_0_0 (v_iv (n_v vs 2)) (w_fi ws (n_v vs 0) 6) (w_fi ws (n_v vs 0) 5) (w_ei ws (w_ar ws (n_v vs 0) 0)) k2 (shm_1523 f2) (shm_1524 f3) (shm_1525 f4) kz_0_5 kz_0_6)⟩
  have nf1 : fc_1 PRD (20, [2, 0], [30, 0, 1, 0, 0, -1, 1, 6]) ws (vs) := ⟨nf_in hl rfl, sgq_1527 (vc_Re_advance_0_1 (v_iv (n_v vs 2)) (w_fi ws (n_v vs 0) 6) (w_ei ws (w_ar ws (n_v vs 0) 0)) k2 (shm_1523 f2) (shm_1524 f3) hK_0_0 kz_0_6)⟩
  have nf2 : fc_1 PRD (24, [0, 0], []) ws (vs) := by
    refine ⟨nf_in hl rfl, sgq_1 ?_⟩
    · show n_v vs 0 = n_v vs 0
      first | rfl | simp only [true_and]
  refine ⟨(fun _ h => (by cases h)), [], trivial, ?_, (fun _ h => (by cases h))⟩
  rw [List.append_nil]
  exact List.forall_mem_cons.mpr ⟨⟨show (20 : Nat) < 100 from by decide, nf0⟩, List.forall_mem_cons.mpr ⟨⟨show (20 : Nat) < 100 from by decide, nf1⟩, List.forall_mem_cons.mpr ⟨⟨show (24 : Nat) < 100 from by decide, nf2⟩, (fun _ h => (by cases h))⟩⟩⟩
set_option maxHeartbeats 4000000 in
theorem vc_Re_advance_1_0 (x1 : Int) (x5 : Int) (x11 : Int) (kind_0 : Int) (next_0 : Int) (begin_0 : Int) (end_0 : Int) (number_0 : Int) (number_1 : Int) (next_2 : Int) (tape_2 : Int → Int) (number_2 : Int) (end_2 : Int) (number_3 : Int) (tape_3 : Int → Int) (end_3 : Int) (next_3 : Int) (end_1 : Int) (next_1 : Int) (begin_1 : Int) (kind_1 : Int) (kind_2 : Int) (begin_2 : Int) (tape_0 : Int → Int) (tape_1 : Int → Int) (k1 : (-2147483648) ≤ x1 ∧ x1 ≤ 1000000) (k5 : 1 ≤ x5 ∧ x5 ≤ 1999) (k11 : 2 ≤ x11 ∧ x11 ≤ 2000) (d1 : x5 + (-4294967296) ≤ x11 ∧ x11 ≤ x5 + 0) (d2 : x5 + 1 ≤ x11 ∧ x11 ≤ x5 + 4294967296) (fe_0_5_1 : end_0 = end_1) (fe_0_6_1 : next_0 = next_1) (fe_0_8_1 : begin_0 = begin_1) (fe_0_9_1 : number_0 = number_1) (fe_0_5_2 : end_1 = end_2) (fe_0_7_2 : kind_1 = kind_2) (fe_0_8_2 : begin_1 = begin_2) (fe_0_9_2 : number_1 = number_2) (fe_0_5_3 : end_2 = end_3) (fe_0_6_3 : next_2 = next_3) (fe_0_9_3 : number_2 = number_3) (hE_0_0_1 : ∀ j : Int, tape_0 j = tape_1 j) (hE_0_0_2 : ∀ j : Int, tape_1 j = tape_2 j) (hE_0_0_3 : ∀ j : Int, tape_2 j = tape_3 j) (hK_0_0 : ∀ j : Int, 0 ≤ j → j < 2000 → (-128) ≤ tape_0 j ∧ tape_0 j ≤ 127) (kz_0_5 : 0 ≤ end_0 ∧ end_0 ≤ 2000) (kz_0_6 : 0 ≤ next_0 ∧ next_0 ≤ 2000) (kz_0_7 : (-128) ≤ kind_0 ∧ kind_0 ≤ 127) (kz_0_8 : 0 ≤ begin_0 ∧ begin_0 ≤ 2000) (kz_0_9 : (-176) ≤ number_0 ∧ number_0 ≤ 1000000) : (1 * kind_0 + 0 ≤ 3) ∨ (1 * number_0 + ((-1) * x1 + 0) ≤ 0) := by
  subst fe_0_5_1
  subst fe_0_6_1
  subst fe_0_8_1
  subst fe_0_9_1
  subst fe_0_5_2
  subst fe_0_7_2
  subst fe_0_8_2
  subst fe_0_9_2
  subst fe_0_5_3
  subst fe_0_6_3
  subst fe_0_9_3
  have e_hE_0_0_1 := funext hE_0_0_1; subst e_hE_0_0_1
  have e_hE_0_0_2 := funext hE_0_0_2; subst e_hE_0_0_2
  have e_hE_0_0_3 := funext hE_0_0_3; subst e_hE_0_0_3
  first | with_reducible assumption | ((try and_intros) <;> first | with_reducible assumption | (clear hE_0_0_1 hE_0_0_2 hE_0_0_3 hK_0_0; omega)) | omega
set_option maxHeartbeats 4000000 in
theorem vc_Re_advance_1_1 (x1 : Int) (x5 : Int) (x11 : Int) (kind_0 : Int) (next_0 : Int) (begin_0 : Int) (end_0 : Int) (number_0 : Int) (number_1 : Int) (next_2 : Int) (tape_2 : Int → Int) (number_2 : Int) (end_2 : Int) (number_3 : Int) (tape_3 : Int → Int) (end_3 : Int) (next_3 : Int) (end_1 : Int) (next_1 : Int) (begin_1 : Int) (kind_1 : Int) (kind_2 : Int) (begin_2 : Int) (tape_0 : Int → Int) (tape_1 : Int → Int) (k1 : (-2147483648) ≤ x1 ∧ x1 ≤ 1000000) (k5 : 1 ≤ x5 ∧ x5 ≤ 1999) (k11 : 2 ≤ x11 ∧ x11 ≤ 2000) (d1 : x5 + (-4294967296) ≤ x11 ∧ x11 ≤ x5 + 0) (d2 : x5 + 1 ≤ x11 ∧ x11 ≤ x5 + 4294967296) (fe_0_5_1 : end_0 = end_1) (fe_0_6_1 : next_0 = next_1) (fe_0_8_1 : begin_0 = begin_1) (fe_0_9_1 : number_0 = number_1) (fe_0_5_2 : end_1 = end_2) (fe_0_7_2 : kind_1 = kind_2) (fe_0_8_2 : begin_1 = begin_2) (fe_0_9_2 : number_1 = number_2) (fe_0_5_3 : end_2 = end_3) (fe_0_6_3 : next_2 = next_3) (fe_0_9_3 : number_2 = number_3) (hE_0_0_1 : ∀ j : Int, tape_0 j = tape_1 j) (hE_0_0_2 : ∀ j : Int, tape_1 j = tape_2 j) (hE_0_0_3 : ∀ j : Int, tape_2 j = tape_3 j) (hK_0_0 : ∀ j : Int, 0 ≤ j → j < 2000 → (-128) ≤ tape_0 j ∧ tape_0 j ≤ 127) (kz_0_5 : 0 ≤ end_0 ∧ end_0 ≤ 2000) (kz_0_6 : 0 ≤ next_0 ∧ next_0 ≤ 2000) (kz_0_7 : (-128) ≤ kind_0 ∧ kind_0 ≤ 127) (kz_0_8 : 0 ≤ begin_0 ∧ begin_0 ≤ 2000) (kz_0_9 : (-176) ≤ number_0 ∧ number_0 ≤ 1000000) : (1 * kind_0 + 0 ≤ 3) ∨ ((-1) * number_0 + (1 * x1 + 0) ≤ 0) := by
  subst fe_0_5_1
  subst fe_0_6_1
  subst fe_0_8_1
  subst fe_0_9_1
  subst fe_0_5_2
  subst fe_0_7_2
  subst fe_0_8_2
  subst fe_0_9_2
  subst fe_0_5_3
  subst fe_0_6_3
  subst fe_0_9_3
  have e_hE_0_0_1 := funext hE_0_0_1; subst e_hE_0_0_1
  have e_hE_0_0_2 := funext hE_0_0_2; subst e_hE_0_0_2
  have e_hE_0_0_3 := funext hE_0_0_3; subst e_hE_0_0_3
  first | with_reducible assumption | ((try and_intros) <;> first | with_reducible assumption | (clear hE_0_0_1 hE_0_0_2 hE_0_0_3 hK_0_0; omega)) | omega
set_option maxHeartbeats 4000000 in
theorem vc_Re_advance_1_2 (x5 : Int) (x11 : Int) (kind_0 : Int) (next_0 : Int) (begin_0 : Int) (end_0 : Int) (number_0 : Int) (number_1 : Int) (next_2 : Int) (tape_2 : Int → Int) (number_2 : Int) (end_2 : Int) (number_3 : Int) (tape_3 : Int → Int) (end_3 : Int) (next_3 : Int) (end_1 : Int) (next_1 : Int) (begin_1 : Int) (kind_1 : Int) (kind_2 : Int) (begin_2 : Int) (tape_0 : Int → Int) (tape_1 : Int → Int) (k5 : 1 ≤ x5 ∧ x5 ≤ 1999) (k11 : 2 ≤ x11 ∧ x11 ≤ 2000) (d1 : x5 + (-4294967296) ≤ x11 ∧ x11 ≤ x5 + 0) (d2 : x5 + 1 ≤ x11 ∧ x11 ≤ x5 + 4294967296) (fe_0_5_1 : end_0 = end_1) (fe_0_6_1 : next_0 = next_1) (fe_0_8_1 : begin_0 = begin_1) (fe_0_9_1 : number_0 = number_1) (fe_0_5_2 : end_1 = end_2) (fe_0_7_2 : kind_1 = kind_2) (fe_0_8_2 : begin_1 = begin_2) (fe_0_9_2 : number_1 = number_2) (fe_0_5_3 : end_2 = end_3) (fe_0_6_3 : next_2 = next_3) (fe_0_9_3 : number_2 = number_3) (hE_0_0_1 : ∀ j : Int, tape_0 j = tape_1 j) (hE_0_0_2 : ∀ j : Int, tape_1 j = tape_2 j) (hE_0_0_3 : ∀ j : Int, tape_2 j = tape_3 j) (hK_0_0 : ∀ j : Int, 0 ≤ j → j < 2000 → (-128) ≤ tape_0 j ∧ tape_0 j ≤ 127) (kz_0_5 : 0 ≤ end_0 ∧ end_0 ≤ 2000) (kz_0_6 : 0 ≤ next_0 ∧ next_0 ≤ 2000) (kz_0_7 : (-128) ≤ kind_0 ∧ kind_0 ≤ 127) (kz_0_8 : 0 ≤ begin_0 ∧ begin_0 ≤ 2000) (kz_0_9 : (-176) ≤ number_0 ∧ number_0 ≤ 1000000) : ((-1) * kind_0 + 0 ≤ (-3)) ∨ (1 * next_0 + ((-1) * begin_0 + (2000 * kind_0 + 0)) ≤ 4008) := by
  subst fe_0_5_1
  subst fe_0_6_1
  subst fe_0_8_1
  subst fe_0_9_1
  subst fe_0_5_2
  subst fe_0_7_2
  subst fe_0_8_2
  subst fe_0_9_2
  subst fe_0_5_3
  subst fe_0_6_3
  subst fe_0_9_3
  have e_hE_0_0_1 := funext hE_0_0_1; subst e_hE_0_0_1
  have e_hE_0_0_2 := funext hE_0_0_2; subst e_hE_0_0_2
  have e_hE_0_0_3 := funext hE_0_0_3; subst e_hE_0_0_3
  first | with_reducible assumption | ((try and_intros) <;> first | with_reducible assumption | (clear hE_0_0_1 hE_0_0_2 hE_0_0_3 hK_0_0; omega)) | omega
set_option maxHeartbeats 4000000 in
theorem vc_Re_advance_1_3 (x5 : Int) (x11 : Int) (next_0 : Int) (begin_0 : Int) (end_0 : Int) (number_0 : Int) (number_1 : Int) (next_2 : Int) (tape_2 : Int → Int) (number_2 : Int) (end_2 : Int) (number_3 : Int) (tape_3 : Int → Int) (end_3 : Int) (next_3 : Int) (end_1 : Int) (next_1 : Int) (begin_1 : Int) (kind_1 : Int) (kind_2 : Int) (begin_2 : Int) (tape_0 : Int → Int) (tape_1 : Int → Int) (k5 : 1 ≤ x5 ∧ x5 ≤ 1999) (k11 : 2 ≤ x11 ∧ x11 ≤ 2000) (d1 : x5 + (-4294967296) ≤ x11 ∧ x11 ≤ x5 + 0) (d2 : x5 + 1 ≤ x11 ∧ x11 ≤ x5 + 4294967296) (fe_0_5_1 : end_0 = end_1) (fe_0_6_1 : next_0 = next_1) (fe_0_8_1 : begin_0 = begin_1) (fe_0_9_1 : number_0 = number_1) (fe_0_5_2 : end_1 = end_2) (fe_0_7_2 : kind_1 = kind_2) (fe_0_8_2 : begin_1 = begin_2) (fe_0_9_2 : number_1 = number_2) (fe_0_5_3 : end_2 = end_3) (fe_0_6_3 : next_2 = next_3) (fe_0_9_3 : number_2 = number_3) (hE_0_0_1 : ∀ j : Int, tape_0 j = tape_1 j) (hE_0_0_2 : ∀ j : Int, tape_1 j = tape_2 j) (hE_0_0_3 : ∀ j : Int, tape_2 j = tape_3 j) (hK_0_0 : ∀ j : Int, 0 ≤ j → j < 2000 → (-128) ≤ tape_0 j ∧ tape_0 j ≤ 127) (kz_0_5 : 0 ≤ end_0 ∧ end_0 ≤ 2000) (kz_0_6 : 0 ≤ next_0 ∧ next_0 ≤ 2000) (kz_0_8 : 0 ≤ begin_0 ∧ begin_0 ≤ 2000) (kz_0_9 : (-176) ≤ number_0 ∧ number_0 ≤ 1000000) : 1 * begin_0 + ((-1) * next_0 + 0) ≤ 0 := by
  subst fe_0_5_1
  subst fe_0_6_1
  subst fe_0_8_1
  subst fe_0_9_1
  subst fe_0_5_2
  subst fe_0_7_2
  subst fe_0_8_2
  subst fe_0_9_2
  subst fe_0_5_3
  subst fe_0_6_3
  subst fe_0_9_3
  have e_hE_0_0_1 := funext hE_0_0_1; subst e_hE_0_0_1
  have e_hE_0_0_2 := funext hE_0_0_2; subst e_hE_0_0_2
  have e_hE_0_0_3 := funext hE_0_0_3; subst e_hE_0_0_3
  first | with_reducible assumption | ((try and_intros) <;> first | with_reducible assumption | (clear hE_0_0_1 hE_0_0_2 hE_0_0_3 hK_0_0; omega)) | omega
set_option maxHeartbeats 4000000 in
theorem vc_Re_advance_1_4 (x2 : Int) (x4 : Int) (x5 : Int) (x7 : Int) (x11 : Int) (x12 : Int) (x13 : Int) (kind_0 : Int) (next_0 : Int) (begin_0 : Int) (end_0 : Int) (number_0 : Int) (number_1 : Int) (next_2 : Int) (tape_2 : Int → Int) (number_2 : Int) (end_2 : Int) (number_3 : Int) (tape_3 : Int → Int) (end_3 : Int) (next_3 : Int) (end_1 : Int) (next_1 : Int) (begin_1 : Int) (kind_1 : Int) (kind_2 : Int) (begin_2 : Int) (tape_0 : Int → Int) (tape_1 : Int → Int) (k2 : 0 ≤ x2 ∧ x2 ≤ 2000) (k4 : 1 ≤ x4 ∧ x4 ≤ 1999) (k5 : 1 ≤ x5 ∧ x5 ≤ 1999) (k7 : (-128) ≤ x7 ∧ x7 ≤ 47) (k11 : 2 ≤ x11 ∧ x11 ≤ 2000) (k12 : 0 ≤ x12 ∧ x12 ≤ 0) (k13 : 1 ≤ x13 ∧ x13 ≤ 1) (d1 : x5 + (-4294967296) ≤ x11 ∧ x11 ≤ x5 + 0) (d2 : x5 + 1 ≤ x11 ∧ x11 ≤ x5 + 4294967296) (g0 : x13 = kind_0) (g1 : x11 = next_0) (g3 : x4 = begin_0) (g4 : x5 = end_0) (f13 : CSG (x7) (x12)) (g20 : x4 = next_2) (h25 : x7 = tape_2 (x4)) (f26 : x4 < x5) (f35 : CX0 (end_3) (next_3) (tape_3) (x2)) (fe_0_5_1 : end_0 = end_1) (fe_0_6_1 : next_0 = next_1) (fe_0_8_1 : begin_0 = begin_1) (fe_0_9_1 : number_0 = number_1) (fe_0_5_2 : end_1 = end_2) (fe_0_7_2 : kind_1 = kind_2) (fe_0_8_2 : begin_1 = begin_2) (fe_0_9_2 : number_1 = number_2) (fe_0_5_3 : end_2 = end_3) (fe_0_6_3 : next_2 = next_3) (fe_0_8_3 : begin_2 = x4) (fe_0_9_3 : number_2 = number_3) (hE_0_0_1 : ∀ j : Int, tape_0 j = tape_1 j) (hE_0_0_2 : ∀ j : Int, tape_1 j = tape_2 j) (hE_0_0_3 : ∀ j : Int, tape_2 j = tape_3 j) (hK_0_0 : ∀ j : Int, 0 ≤ j → j < 2000 → (-128) ≤ tape_0 j ∧ tape_0 j ≤ 127) (kz_0_5 : 0 ≤ end_0 ∧ end_0 ≤ 2000) (kz_0_6 : 0 ≤ next_0 ∧ next_0 ≤ 2000) (kz_0_7 : (-128) ≤ kind_0 ∧ kind_0 ≤ 127) (kz_0_8 : 0 ≤ begin_0 ∧ begin_0 ≤ 2000) (kz_0_9 : (-176) ≤ number_0 ∧ number_0 ≤ 1000000) : TKC (end_0) (next_0) (kind_0) (begin_0) (number_0) (tape_0) (x2) := by
  subst fe_0_5_1
  subst fe_0_6_1
  subst fe_0_8_1
  subst fe_0_9_1
  subst fe_0_5_2
  subst fe_0_7_2
  subst fe_0_8_2
  subst fe_0_9_2
  subst fe_0_5_3
  subst fe_0_6_3
  subst fe_0_9_3
  have e_hE_0_0_1 := funext hE_0_0_1; subst e_hE_0_0_1
  have e_hE_0_0_2 := funext hE_0_0_2; subst e_hE_0_0_2
  have e_hE_0_0_3 := funext hE_0_0_3; subst e_hE_0_0_3
  first | subst g0 | skip
  first | subst g1 | skip
  first | subst g3 | skip
  first | subst g4 | skip
  first | subst g20 | skip
  first
    | exact cxl_e (by assumption) ‹CXL _ _ _ _ _› (fun q => by omega) (by omega)
    | exact cxl_e (by assumption) ‹CXL _ _ _ _ _› (fun q => cnb_f ‹CNBy _ _› (by omega) (by omega)) (by omega)
    | exact cxd_e (by assumption) ‹CXD _ _ _ _ _ _› (fun q => by unfold cIG; omega) (by omega)
    | exact cxs_e (by assumption) (cx_1 (by assumption) ‹CX0 _ _ _ _› (fun q => by omega) (by omega)) (by omega) rfl (by unfold cIL; omega) (by unfold cIG; omega) (by omega) (Or.inl ⟨csg_t ‹CSG _ _› (by omega) (by omega), by omega⟩)
    | exact cxs_e (by assumption) (cx_1 (by assumption) ‹CX0 _ _ _ _› (fun q => by omega) (by omega)) (by omega) rfl (by unfold cIL; omega) (by unfold cIG; omega) (by omega) (Or.inr ⟨csg_f ‹CSG _ _› (by omega) (by omega), by omega⟩)
set_option maxHeartbeats 4000000 in
theorem vc_Re_advance_1_5 (x2 : Int) (x5 : Int) (x11 : Int) (next_0 : Int) (begin_0 : Int) (end_0 : Int) (number_0 : Int) (number_1 : Int) (next_2 : Int) (tape_2 : Int → Int) (number_2 : Int) (end_2 : Int) (number_3 : Int) (tape_3 : Int → Int) (end_3 : Int) (next_3 : Int) (end_1 : Int) (next_1 : Int) (begin_1 : Int) (kind_1 : Int) (kind_2 : Int) (begin_2 : Int) (tape_0 : Int → Int) (tape_1 : Int → Int) (k2 : 0 ≤ x2 ∧ x2 ≤ 2000) (k5 : 1 ≤ x5 ∧ x5 ≤ 1999) (k11 : 2 ≤ x11 ∧ x11 ≤ 2000) (d1 : x5 + (-4294967296) ≤ x11 ∧ x11 ≤ x5 + 0) (d2 : x5 + 1 ≤ x11 ∧ x11 ≤ x5 + 4294967296) (fe_0_5_1 : end_0 = end_1) (fe_0_6_1 : next_0 = next_1) (fe_0_8_1 : begin_0 = begin_1) (fe_0_9_1 : number_0 = number_1) (fe_0_5_2 : end_1 = end_2) (fe_0_7_2 : kind_1 = kind_2) (fe_0_8_2 : begin_1 = begin_2) (fe_0_9_2 : number_1 = number_2) (fe_0_5_3 : end_2 = end_3) (fe_0_6_3 : next_2 = next_3) (fe_0_9_3 : number_2 = number_3) (hE_0_0_1 : ∀ j : Int, tape_0 j = tape_1 j) (hE_0_0_2 : ∀ j : Int, tape_1 j = tape_2 j) (hE_0_0_3 : ∀ j : Int, tape_2 j = tape_3 j) (hK_0_0 : ∀ j : Int, 0 ≤ j → j < 2000 → (-128) ≤ tape_0 j ∧ tape_0 j ≤ 127) (kz_0_5 : 0 ≤ end_0 ∧ end_0 ≤ 2000) (kz_0_6 : 0 ≤ next_0 ∧ next_0 ≤ 2000) (kz_0_8 : 0 ≤ begin_0 ∧ begin_0 ≤ 2000) (kz_0_9 : (-176) ≤ number_0 ∧ number_0 ≤ 1000000) : 1 * x2 + ((-1) * next_0 + 0) ≤ 0 := by
  subst fe_0_5_1
  subst fe_0_6_1
  subst fe_0_8_1
  subst fe_0_9_1
  subst fe_0_5_2
  subst fe_0_7_2
  subst fe_0_8_2
  subst fe_0_9_2
  subst fe_0_5_3
  subst fe_0_6_3
  subst fe_0_9_3
  have e_hE_0_0_1 := funext hE_0_0_1; subst e_hE_0_0_1
  have e_hE_0_0_2 := funext hE_0_0_2; subst e_hE_0_0_2
  have e_hE_0_0_3 := funext hE_0_0_3; subst e_hE_0_0_3
  first | with_reducible assumption | ((try and_intros) <;> first | with_reducible assumption | (clear hE_0_0_1 hE_0_0_2 hE_0_0_3 hK_0_0; omega)) | omega
def o_Re_advance_1 : or_T := (290, 14, [(0, (2, 0, 0, [8])), (1, (0, -2147483648, 1000000, [])), (2, (0, 0, 2000, [])), (3, (2, 0, 0, [8])), (4, (0, 1, 1999, [])), (5, (0, 1, 1999, [])), (6, (2, 0, 0, [109])), (7, (0, -128, 47, [])), (8, (0, 0, 0, [])), (9, (0, 0, 0, [])), (10, (0, 1, 1, [])), (11, (0, 2, 2000, [])), (12, (0, 0, 0, [])), (13, (0, 1, 1, []))], [(9, [13, 3], [7]), (9, [11, 3], [6]), (9, [6, 3], [0]), (9, [4, 3], [8]), (9, [5, 3], [5]), (20, [7, 12], [61, 0, 1100]), (20, [7, 9], [61, 0, 1098]), (20, [7, 8], [61, 0, 1097]), (20, [3, 1], [30, 0, 1, 1, 9, -1, 0, 0]), (20, [3, 1], [30, 0, -1, 1, 9, 1, 0, 0]), (24, [0, 3], []), (101, [3, 13], [7]), (8, [12], [0]), (20, [7, 12], [61, 0, 1100]), (20, [7, 9], [61, 0, 1098]), (20, [7, 8], [61, 0, 1097]), (20, [3, 1], [30, 0, 1, 1, 9, -1, 0, 0]), (20, [3, 1], [30, 0, -1, 1, 9, 1, 0, 0]), (101, [3, 11], [6]), (1, [11, 4, 10], []), (9, [4, 3], [6]), (8, [9], [0]), (20, [7, 9], [61, 0, 1098]), (8, [8], [0]), (20, [7, 8], [61, 0, 1097]), (10, [7, 6, 4], []), (7, [4, 5], [2]), (20, [3, 1], [30, 0, 1, 1, 9, -1, 0, 0]), (20, [3, 1], [30, 0, -1, 1, 9, 1, 0, 0]), (20, [3, 2], [60, 2, 1, 1074, 5, 6, 0]), (20, [2, 3], [30, 0, 1, 0, 0, -1, 1, 6]), (101, [3, 4], [8]), (7, [4, 5], [3]), (20, [3, 1], [30, 0, 1, 1, 9, -1, 0, 0]), (20, [3, 1], [30, 0, -1, 1, 9, 1, 0, 0]), (20, [3, 2], [60, 2, 1, 1074, 5, 6, 0]), (20, [2, 3], [30, 0, 1, 0, 0, -1, 1, 6])], [], [], [(20, [0, 0, 1], [31, 1, 3, 1, 1, 7, 0, 1, 1, 9, -1, 0, 0]), (20, [0, 0, 1], [31, 1, 3, 1, 1, 7, 0, -1, 1, 9, 1, 0, 0]), (20, [0, 0, 0, 0], [31, 1, -3, -1, 1, 7, 4008, 1, 1, 6, -1, 1, 8, 2000, 1, 7]), (20, [0, 0], [30, 0, 1, 1, 8, -1, 1, 6]), (20, [0, 2], [60, 5, 1, 1072, 5, 6, 7, 8, 9, 0]), (20, [2, 0], [30, 0, 1, 0, 0, -1, 1, 6])], [], [(11, 4, 1, 1), (11, 5, -4294967296, 0), (11, 5, 1, 4294967296), (4, 5, -4294967296, -1), (4, 5, 0, 4294967296)])
theorem oo_Re_advance_1 {kA : Nat → ClassId} : or_ok PRD kA GG o_Re_advance_1 := by
  refine or_mk fun A ta ws vs hD hth hl => ?_
  intro t0 r0 t1 k1 t2 k2 t3 r3 t4 k4 t5 k5 t6 r6 t7 k7 t8 k8 t9 k9 t10 k10 t11 k11 t12 k12 t13 k13 d0 d1 d2 d3 d4 f0 f1 f2 f3 f4 f5 f6 f7 f8 f9 f10 ta1 w1 le1 s1 f12 f13 f14 f15 f16 f17 ta2 w2 le2 s2 f19 f20 f21 f22 f23 f24 f25 f26 f27 f28 f29 f30 ta3 w3 le3 s3 f32 f33 f34 f35 f36
  replace f0 := shm_198 f0
  replace f1 := shm_111 f1
  replace f2 := shm_163 f2
  replace f3 := shm_293 f3
  replace f4 := shm_110 f4
  replace f10 := shm_5 f10
  have s1 : (∀ b j, w_el ws b j = w_el w1 b j) ∧ ∀ b j, w_fd ws b j = if b = v_ad (n_v vs 3) ∧ j = 7 then n_v vs 13 else w_fd w1 b j := s1.2
  have s2 : (∀ b j, w_el w1 b j = w_el w2 b j) ∧ ∀ b j, w_fd w1 b j = if b = v_ad (n_v vs 3) ∧ j = 6 then n_v vs 11 else w_fd w2 b j := s2.2
  replace f20 := shm_111 f20
  replace f25 := shm_107 f25
  have s3 : (∀ b j, w_el w2 b j = w_el w3 b j) ∧ ∀ b j, w_fd w2 b j = if b = v_ad (n_v vs 3) ∧ j = 8 then n_v vs 4 else w_fd w3 b j := s3.2
  replace f35 := shm_1526 f35
  have q3 : n_v vs 3 = n_v vs 0 := f10.symm
  simp only [q3] at f0 f1 f2 f3 f4
  rw [q3] at s1
  rw [q3] at s2
  simp only [q3] at f20
  rw [q3] at s3
  simp only [q3] at f35
  have ar_0_0_1 : w_ar w1 (n_v vs 0) 0 = w_ar ws (n_v vs 0) 0 := by show v_ad (w_fd w1 _ _) = v_ad (w_fd ws _ _); rw [s1.2, if_neg (fun e => absurd e.2 (by decide))]
  have ar_0_0_2 : w_ar w2 (n_v vs 0) 0 = w_ar ws (n_v vs 0) 0 := by rw [← ar_0_0_1]; show v_ad (w_fd w2 _ _) = v_ad (w_fd w1 _ _); rw [s2.2, if_neg (fun e => absurd e.2 (by decide))]
  have ar_0_0_3 : w_ar w3 (n_v vs 0) 0 = w_ar ws (n_v vs 0) 0 := by rw [← ar_0_0_2]; show v_ad (w_fd w3 _ _) = v_ad (w_fd w2 _ _); rw [s3.2, if_neg (fun e => absurd e.2 (by decide))]
  have cr_0_0 := fdq_95 hD hth r0
  have ad_6 : v_ad (n_v vs 6) = w_ar ws (n_v vs 0) 0 := congrArg v_ad f2
  have g0 : v_iv (n_v vs 13) = w_fi ws (n_v vs 0) 7 := congrArg v_iv f0
  have g1 : v_iv (n_v vs 11) = w_fi ws (n_v vs 0) 6 := congrArg v_iv f1
  have g3 : v_iv (n_v vs 4) = w_fi ws (n_v vs 0) 8 := congrArg v_iv f3
  have g4 : v_iv (n_v vs 5) = w_fi ws (n_v vs 0) 5 := congrArg v_iv f4
  have g20 : v_iv (n_v vs 4) = w_fi w2 (n_v vs 0) 6 := congrArg v_iv f20
  simp only [ad_6] at f25
  have h25 : v_iv (n_v vs 7) = w_ei w2 (w_ar ws (n_v vs 0) 0) (v_iv (n_v vs 4)) := f25
  simp only [ar_0_0_2, ar_0_0_3] at f35
  have fe_0_5_1 : w_fi ws (n_v vs 0) 5 = w_fi w1 (n_v vs 0) 5 := by show v_iv (w_fd _ _ _) = v_iv (w_fd _ _ _); rw [s1.2, if_neg (fun e => absurd e.2 (by decide))]
  have fe_0_6_1 : w_fi ws (n_v vs 0) 6 = w_fi w1 (n_v vs 0) 6 := by show v_iv (w_fd _ _ _) = v_iv (w_fd _ _ _); rw [s1.2, if_neg (fun e => absurd e.2 (by decide))]
  have fe_0_8_1 : w_fi ws (n_v vs 0) 8 = w_fi w1 (n_v vs 0) 8 := by show v_iv (w_fd _ _ _) = v_iv (w_fd _ _ _); rw [s1.2, if_neg (fun e => absurd e.2 (by decide))]
  have fe_0_9_1 : w_fi ws (n_v vs 0) 9 = w_fi w1 (n_v vs 0) 9 := by show v_iv (w_fd _ _ _) = v_iv (w_fd _ _ _); rw [s1.2, if_neg (fun e => absurd e.2 (by decide))]
  have fe_0_5_2 : w_fi w1 (n_v vs 0) 5 = w_fi w2 (n_v vs 0) 5 := by show v_iv (w_fd _ _ _) = v_iv (w_fd _ _ _); rw [s2.2, if_neg (fun e => absurd e.2 (by decide))]
  have fe_0_7_2 : w_fi w1 (n_v vs 0) 7 = w_fi w2 (n_v vs 0) 7 := by show v_iv (w_fd _ _ _) = v_iv (w_fd _ _ _); rw [s2.2, if_neg (fun e => absurd e.2 (by decide))]
  have fe_0_8_2 : w_fi w1 (n_v vs 0) 8 = w_fi w2 (n_v vs 0) 8 := by show v_iv (w_fd _ _ _) = v_iv (w_fd _ _ _); rw [s2.2, if_neg (fun e => absurd e.2 (by decide))]
  have fe_0_9_2 : w_fi w1 (n_v vs 0) 9 = w_fi w2 (n_v vs 0) 9 := by show v_iv (w_fd _ _ _) = v_iv (w_fd _ _ _); rw [s2.2, if_neg (fun e => absurd e.2 (by decide))]
  have fe_0_5_3 : w_fi w2 (n_v vs 0) 5 = w_fi w3 (n_v vs 0) 5 := by show v_iv (w_fd _ _ _) = v_iv (w_fd _ _ _); rw [s3.2, if_neg (fun e => absurd e.2 (by decide))]
  have fe_0_6_3 : w_fi w2 (n_v vs 0) 6 = w_fi w3 (n_v vs 0) 6 := by show v_iv (w_fd _ _ _) = v_iv (w_fd _ _ _); rw [s3.2, if_neg (fun e => absurd e.2 (by decide))]
  have fe_0_8_3 : w_fi w2 (n_v vs 0) 8 = v_iv (n_v vs 4) := by show v_iv (w_fd _ _ _) = _; rw [s3.2, if_pos ⟨rfl, rfl⟩]
  have fe_0_9_3 : w_fi w2 (n_v vs 0) 9 = w_fi w3 (n_v vs 0) 9 := by show v_iv (w_fd _ _ _) = v_iv (w_fd _ _ _); rw [s3.2, if_neg (fun e => absurd e.2 (by decide))]
  have hE_0_0_1 : ∀ j : Int, w_ei ws (w_ar ws (n_v vs 0) 0) j = w_ei w1 (w_ar ws (n_v vs 0) 0) j := fun j => s1.1 _ _
  have hE_0_0_2 : ∀ j : Int, w_ei w1 (w_ar ws (n_v vs 0) 0) j = w_ei w2 (w_ar ws (n_v vs 0) 0) j := fun j => s2.1 _ _
  have hE_0_0_3 : ∀ j : Int, w_ei w2 (w_ar ws (n_v vs 0) 0) j = w_ei w3 (w_ar ws (n_v vs 0) 0) j := fun j => s3.1 _ _
  have hK_0_0 := elq_33 hD hth cr_0_0
  have kz_0_5 := fdq_207 hD hth r0
  have kz_0_6 := fdq_208 hD hth r0
  have kz_0_7 := fdq_297 hD hth r0
  have kz_0_8 := fdq_99 hD hth r0
  have kz_0_9 := fdq_296 hD hth r0
  have nf0 : fc_1 PRD (20, [0, 0, 1], [31, 1, 3, 1, 1, 7, 0, 1, 1, 9, -1, 0, 0]) ws (vs) := ⟨nf_in hl rfl, sgq_1528 (vc_Re_advance_1_0 (v_iv (n_v vs 1)) (v_iv (n_v vs 5)) (v_iv (n_v vs 11)) (w_fi ws (n_v vs 0) 7) (w_fi ws (n_v vs 0) 6) (w_fi ws (n_v vs 0) 8) (w_fi ws (n_v vs 0) 5) (w_fi ws (n_v vs 0) 9) (w_fi w1 (n_v vs 0) 9) (w_fi w2 (n_v vs 0) 6) (w_ei w2 (w_ar ws (n_v vs 0) 0)) (w_fi w2 (n_v vs 0) 9) (w_fi w2 (n_v vs 0) 5) (w_fi w3 (n_v vs 0) 9) (w_ei w3 (w_ar ws (n_v vs 0) 0)) (w_fi w3 (n_v vs 0) 5) (w_fi w3 (n_v vs 0) 6) (w_fi w1 (n_v vs 0) 5) (w_fi w1 (n_v vs 0) 6) (w_fi w1 (n_v vs 0) 8) (w_fi w1 (n_v vs 0) 7) (w_fi w2 (n_v vs 0) 7) (w_fi w2 (n_v vs 0) 8) (w_ei ws (w_ar ws (n_v vs 0) 0)) (w_ei w1 (w_ar ws (n_v vs 0) 0)) k1 k5 k11 d1 d2 fe_0_5_1 fe_0_6_1 fe_0_8_1 fe_0_9_1 fe_0_5_2 fe_0_7_2 fe_0_8_2 fe_0_9_2 fe_0_5_3 fe_0_6_3 fe_0_9_3 hE_0_0_1 hE_0_0_2 hE_0_0_3 hK_0_0 kz_0_5 kz_0_6 kz_0_7 kz_0_8 kz_0_9)⟩
  have nf1 : fc_1 PRD (20, [0, 0, 1], [31, 1, 3, 1, 1, 7, 0, -1, 1, 9, 1, 0, 0]) ws (vs) := ⟨nf_in hl rfl, sgq_1529 (vc_Re_advance_1_1 (v_iv (n_v vs 1)) (v_iv (n_v vs 5)) (v_iv (n_v vs 11)) (w_fi ws (n_v vs 0) 7) (w_fi ws (n_v vs 0) 6) (w_fi ws (n_v vs 0) 8) (w_fi ws (n_v vs 0) 5) (w_fi ws (n_v vs 0) 9) (w_fi w1 (n_v vs 0) 9) (w_fi w2 (n_v vs 0) 6) (w_ei w2 (w_ar ws (n_v vs 0) 0)) (w_fi w2 (n_v vs 0) 9) (w_fi w2 (n_v vs 0) 5) (w_fi w3 (n_v vs 0) 9) (w_ei w3 (w_ar ws (n_v vs 0) 0)) (w_fi w3 (n_v vs 0) 5) (w_fi w3 (n_v vs 0) 6) (w_fi w1 (n_v vs 0) 5) (w_fi w1 (n_v vs 0) 6) (w_fi w1 (n_v vs 0) 8) (w_fi w1 (n_v vs 0) 7) (w_fi w2 (n_v vs 0) 7) (w_fi w2 (n_v vs 0) 8) (w_ei ws (w_ar ws (n_v vs 0) 0)) (w_ei w1 (w_ar ws (n_v vs 0) 0)) k1 k5 k11 d1 d2 fe_0_5_1 fe_0_6_1 fe_0_8_1 fe_0_9_1 fe_0_5_2 fe_0_7_2 fe_0_8_2 fe_0_9_2 fe_0_5_3 fe_0_6_3 fe_0_9_3 hE_0_0_1 hE_0_0_2 hE_0_0_3 hK_0_0 kz_0_5 kz_0_6 kz_0_7 kz_0_8 kz_0_9)⟩
  have nf2 : fc_1 PRD (20, [0, 0, 0, 0], [31, 1, -3, -1, 1, 7, 4008, 1, 1, 6, -1, 1, 8, 2000, 1, 7]) ws (vs) := ⟨nf_in hl rfl, sgq_1530 (vc_Re_advance_1_2 (v_iv (n_v vs 5)) (v_iv (n_v vs 11)) (w_fi ws (n_v vs 0) 7) (w_fi ws (n_v vs 0) 6) (w_fi ws (n_v vs 0) 8) (w_fi ws (n_v vs 0) 5) (w_fi ws (n_v vs 0) 9) (w_fi w1 (n_v vs 0) 9) (w_fi w2 (n_v vs 0) 6) (w_ei w2 (w_ar ws (n_v vs 0) 0)) (w_fi w2 (n_v vs 0) 9) (w_fi w2 (n_v vs 0) 5) (w_fi w3 (n_v vs 0) 9) (w_ei w3 (w_ar ws (n_v vs 0) 0)) (w_fi w3 (n_v vs 0) 5) (w_fi w3 (n_v vs 0) 6) (w_fi w1 (n_v vs 0) 5) (w_fi w1 (n_v vs 0) 6) (w_fi w1 (n_v vs 0) 8) (w_fi w1 (n_v vs 0) 7) (w_fi w2 (n_v vs 0) 7) (w_fi w2 (n_v vs 0) 8) (w_ei ws (w_ar ws (n_v vs 0) 0)) (w_ei w1 (w_ar ws (n_v vs 0) 0)) k5 k11 d1 d2 fe_0_5_1 fe_0_6_1 fe_0_8_1 fe_0_9_1 fe_0_5_2 fe_0_7_2 fe_0_8_2 fe_0_9_2 fe_0_5_3 fe_0_6_3 fe_0_9_3 hE_0_0_1 hE_0_0_2 hE_0_0_3 hK_0_0 kz_0_5 kz_0_6 kz_0_7 kz_0_8 kz_0_9)⟩
  have nf3 : fc_1 PRD (20, [0, 0], [30, 0, 1, 1, 8, -1, 1, 6]) ws (vs) := ⟨nf_in hl rfl, sgq_1531 (vc_Re_advance_1_3 (v_iv (n_v vs 5)) (v_iv (n_v vs 11)) (w_fi ws (n_v vs 0) 6) (w_fi ws (n_v vs 0) 8) (w_fi ws (n_v vs 0) 5) (w_fi ws (n_v vs 0) 9) (w_fi w1 (n_v vs 0) 9) (w_fi w2 (n_v vs 0) 6) (w_ei w2 (w_ar ws (n_v vs 0) 0)) (w_fi w2 (n_v vs 0) 9) (w_fi w2 (n_v vs 0) 5) (w_fi w3 (n_v vs 0) 9) (w_ei w3 (w_ar ws (n_v vs 0) 0)) (w_fi w3 (n_v vs 0) 5) (w_fi w3 (n_v vs 0) 6) (w_fi w1 (n_v vs 0) 5) (w_fi w1 (n_v vs 0) 6) (w_fi w1 (n_v vs 0) 8) (w_fi w1 (n_v vs 0) 7) (w_fi w2 (n_v vs 0) 7) (w_fi w2 (n_v vs 0) 8) (w_ei ws (w_ar ws (n_v vs 0) 0)) (w_ei w1 (w_ar ws (n_v vs 0) 0)) k5 k11 d1 d2 fe_0_5_1 fe_0_6_1 fe_0_8_1 fe_0_9_1 fe_0_5_2 fe_0_7_2 fe_0_8_2 fe_0_9_2 fe_0_5_3 fe_0_6_3 fe_0_9_3 hE_0_0_1 hE_0_0_2 hE_0_0_3 hK_0_0 kz_0_5 kz_0_6 kz_0_8 kz_0_9)⟩
  have nf4 : fc_1 PRD (20, [0, 2], [60, 5, 1, 1072, 5, 6, 7, 8, 9, 0]) ws (vs) := ⟨nf_in hl rfl, sgq_1532 (vc_Re_advance_1_4 (v_iv (n_v vs 2)) (v_iv (n_v vs 4)) (v_iv (n_v vs 5)) (v_iv (n_v vs 7)) (v_iv (n_v vs 11)) (v_iv (n_v vs 12)) (v_iv (n_v vs 13)) (w_fi ws (n_v vs 0) 7) (w_fi ws (n_v vs 0) 6) (w_fi ws (n_v vs 0) 8) (w_fi ws (n_v vs 0) 5) (w_fi ws (n_v vs 0) 9) (w_fi w1 (n_v vs 0) 9) (w_fi w2 (n_v vs 0) 6) (w_ei w2 (w_ar ws (n_v vs 0) 0)) (w_fi w2 (n_v vs 0) 9) (w_fi w2 (n_v vs 0) 5) (w_fi w3 (n_v vs 0) 9) (w_ei w3 (w_ar ws (n_v vs 0) 0)) (w_fi w3 (n_v vs 0) 5) (w_fi w3 (n_v vs 0) 6) (w_fi w1 (n_v vs 0) 5) (w_fi w1 (n_v vs 0) 6) (w_fi w1 (n_v vs 0) 8) (w_fi w1 (n_v vs 0) 7) (w_fi w2 (n_v vs 0) 7) (w_fi w2 (n_v vs 0) 8) (w_ei ws (w_ar ws (n_v vs 0) 0)) (w_ei w1 (w_ar ws (n_v vs 0) 0)) k2 k4 k5 k7 k11 k12 k13 d1 d2 g0 g1 g3 g4 (shm_454 f13) g20 h25 (shm_6 f26) f35 fe_0_5_1 fe_0_6_1 fe_0_8_1 fe_0_9_1 fe_0_5_2 fe_0_7_2 fe_0_8_2 fe_0_9_2 fe_0_5_3 fe_0_6_3 fe_0_8_3 fe_0_9_3 hE_0_0_1 hE_0_0_2 hE_0_0_3 hK_0_0 kz_0_5 kz_0_6 kz_0_7 kz_0_8 kz_0_9)⟩
  have nf5 : fc_1 PRD (20, [2, 0], [30, 0, 1, 0, 0, -1, 1, 6]) ws (vs) := ⟨nf_in hl rfl, sgq_1527 (vc_Re_advance_1_5 (v_iv (n_v vs 2)) (v_iv (n_v vs 5)) (v_iv (n_v vs 11)) (w_fi ws (n_v vs 0) 6) (w_fi ws (n_v vs 0) 8) (w_fi ws (n_v vs 0) 5) (w_fi ws (n_v vs 0) 9) (w_fi w1 (n_v vs 0) 9) (w_fi w2 (n_v vs 0) 6) (w_ei w2 (w_ar ws (n_v vs 0) 0)) (w_fi w2 (n_v vs 0) 9) (w_fi w2 (n_v vs 0) 5) (w_fi w3 (n_v vs 0) 9) (w_ei w3 (w_ar ws (n_v vs 0) 0)) (w_fi w3 (n_v vs 0) 5) (w_fi w3 (n_v vs 0) 6) (w_fi w1 (n_v vs 0) 5) (w_fi w1 (n_v vs 0) 6) (w_fi w1 (n_v vs 0) 8) (w_fi w1 (n_v vs 0) 7) (w_fi w2 (n_v vs 0) 7) (w_fi w2 (n_v vs 0) 8) (w_ei ws (w_ar ws (n_v vs 0) 0)) (w_ei w1 (w_ar ws (n_v vs 0) 0)) k2 k5 k11 d1 d2 fe_0_5_1 fe_0_6_1 fe_0_8_1 fe_0_9_1 fe_0_5_2 fe_0_7_2 fe_0_8_2 fe_0_9_2 fe_0_5_3 fe_0_6_3 fe_0_9_3 hE_0_0_1 hE_0_0_2 hE_0_0_3 hK_0_0 kz_0_5 kz_0_6 kz_0_8 kz_0_9)⟩
  refine ⟨(fun _ h => (by cases h)), [], trivial, ?_, (fun _ h => (by cases h))⟩
  rw [List.append_nil]
  exact List.forall_mem_cons.mpr ⟨⟨show (20 : Nat) < 100 from by decide, nf0⟩, List.forall_mem_cons.mpr ⟨⟨show (20 : Nat) < 100 from by decide, nf1⟩, List.forall_mem_cons.mpr ⟨⟨show (20 : Nat) < 100 from by decide, nf2⟩, List.forall_mem_cons.mpr ⟨⟨show (20 : Nat) < 100 from by decide, nf3⟩, List.forall_mem_cons.mpr ⟨⟨show (20 : Nat) < 100 from by decide, nf4⟩, List.forall_mem_cons.mpr ⟨⟨show (20 : Nat) < 100 from by decide, nf5⟩, (fun _ h => (by cases h))⟩⟩⟩⟩⟩⟩
set_option maxHeartbeats 4000000 in
theorem vc_Re_advance_2_0 (x1 : Int) (x5 : Int) (x11 : Int) (kind_0 : Int) (next_0 : Int) (begin_0 : Int) (end_0 : Int) (number_0 : Int) (number_1 : Int) (next_2 : Int) (tape_2 : Int → Int) (number_2 : Int) (end_2 : Int) (number_3 : Int) (tape_3 : Int → Int) (end_3 : Int) (next_3 : Int) (end_1 : Int) (next_1 : Int) (begin_1 : Int) (kind_1 : Int) (kind_2 : Int) (begin_2 : Int) (tape_0 : Int → Int) (tape_1 : Int → Int) (k1 : (-2147483648) ≤ x1 ∧ x1 ≤ 1000000) (k5 : 1 ≤ x5 ∧ x5 ≤ 1999) (k11 : 2 ≤ x11 ∧ x11 ≤ 2000) (d1 : x5 + (-4294967296) ≤ x11 ∧ x11 ≤ x5 + 0) (d2 : x5 + 1 ≤ x11 ∧ x11 ≤ x5 + 4294967296) (fe_0_5_1 : end_0 = end_1) (fe_0_6_1 : next_0 = next_1) (fe_0_8_1 : begin_0 = begin_1) (fe_0_9_1 : number_0 = number_1) (fe_0_5_2 : end_1 = end_2) (fe_0_7_2 : kind_1 = kind_2) (fe_0_8_2 : begin_1 = begin_2) (fe_0_9_2 : number_1 = number_2) (fe_0_5_3 : end_2 = end_3) (fe_0_6_3 : next_2 = next_3) (fe_0_9_3 : number_2 = number_3) (hE_0_0_1 : ∀ j : Int, tape_0 j = tape_1 j) (hE_0_0_2 : ∀ j : Int, tape_1 j = tape_2 j) (hE_0_0_3 : ∀ j : Int, tape_2 j = tape_3 j) (hK_0_0 : ∀ j : Int, 0 ≤ j → j < 2000 → (-128) ≤ tape_0 j ∧ tape_0 j ≤ 127) (kz_0_5 : 0 ≤ end_0 ∧ end_0 ≤ 2000) (kz_0_6 : 0 ≤ next_0 ∧ next_0 ≤ 2000) (kz_0_7 : (-128) ≤ kind_0 ∧ kind_0 ≤ 127) (kz_0_8 : 0 ≤ begin_0 ∧ begin_0 ≤ 2000) (kz_0_9 : (-176) ≤ number_0 ∧ number_0 ≤ 1000000) : (1 * kind_0 + 0 ≤ 3) ∨ (1 * number_0 + ((-1) * x1 + 0) ≤ 0) := by
  subst fe_0_5_1
  subst fe_0_6_1
  subst fe_0_8_1
  subst fe_0_9_1
  subst fe_0_5_2
  subst fe_0_7_2
  subst fe_0_8_2
  subst fe_0_9_2
  subst fe_0_5_3
  subst fe_0_6_3
  subst fe_0_9_3
  have e_hE_0_0_1 := funext hE_0_0_1; subst e_hE_0_0_1
  have e_hE_0_0_2 := funext hE_0_0_2; subst e_hE_0_0_2
  have e_hE_0_0_3 := funext hE_0_0_3; subst e_hE_0_0_3
  first | with_reducible assumption | ((try and_intros) <;> first | with_reducible assumption | (clear hE_0_0_1 hE_0_0_2 hE_0_0_3 hK_0_0; omega)) | omega
set_option maxHeartbeats 4000000 in
theorem vc_Re_advance_2_1 (x1 : Int) (x5 : Int) (x11 : Int) (kind_0 : Int) (next_0 : Int) (begin_0 : Int) (end_0 : Int) (number_0 : Int) (number_1 : Int) (next_2 : Int) (tape_2 : Int → Int) (number_2 : Int) (end_2 : Int) (number_3 : Int) (tape_3 : Int → Int) (end_3 : Int) (next_3 : Int) (end_1 : Int) (next_1 : Int) (begin_1 : Int) (kind_1 : Int) (kind_2 : Int) (begin_2 : Int) (tape_0 : Int → Int) (tape_1 : Int → Int) (k1 : (-2147483648) ≤ x1 ∧ x1 ≤ 1000000) (k5 : 1 ≤ x5 ∧ x5 ≤ 1999) (k11 : 2 ≤ x11 ∧ x11 ≤ 2000) (d1 : x5 + (-4294967296) ≤ x11 ∧ x11 ≤ x5 + 0) (d2 : x5 + 1 ≤ x11 ∧ x11 ≤ x5 + 4294967296) (fe_0_5_1 : end_0 = end_1) (fe_0_6_1 : next_0 = next_1) (fe_0_8_1 : begin_0 = begin_1) (fe_0_9_1 : number_0 = number_1) (fe_0_5_2 : end_1 = end_2) (fe_0_7_2 : kind_1 = kind_2) (fe_0_8_2 : begin_1 = begin_2) (fe_0_9_2 : number_1 = number_2) (fe_0_5_3 : end_2 = end_3) (fe_0_6_3 : next_2 = next_3) (fe_0_9_3 : number_2 = number_3) (hE_0_0_1 : ∀ j : Int, tape_0 j = tape_1 j) (hE_0_0_2 : ∀ j : Int, tape_1 j = tape_2 j) (hE_0_0_3 : ∀ j : Int, tape_2 j = tape_3 j) (hK_0_0 : ∀ j : Int, 0 ≤ j → j < 2000 → (-128) ≤ tape_0 j ∧ tape_0 j ≤ 127) (kz_0_5 : 0 ≤ end_0 ∧ end_0 ≤ 2000) (kz_0_6 : 0 ≤ next_0 ∧ next_0 ≤ 2000) (kz_0_7 : (-128) ≤ kind_0 ∧ kind_0 ≤ 127) (kz_0_8 : 0 ≤ begin_0 ∧ begin_0 ≤ 2000) (kz_0_9 : (-176) ≤ number_0 ∧ number_0 ≤ 1000000) : (1 * kind_0 + 0 ≤ 3) ∨ ((-1) * number_0 + (1 * x1 + 0) ≤ 0) := by
  subst fe_0_5_1
  subst fe_0_6_1
  subst fe_0_8_1
  subst fe_0_9_1
  subst fe_0_5_2
  subst fe_0_7_2
  subst fe_0_8_2
  subst fe_0_9_2
  subst fe_0_5_3
  subst fe_0_6_3
  subst fe_0_9_3
  have e_hE_0_0_1 := funext hE_0_0_1; subst e_hE_0_0_1
  have e_hE_0_0_2 := funext hE_0_0_2; subst e_hE_0_0_2
  have e_hE_0_0_3 := funext hE_0_0_3; subst e_hE_0_0_3
  first | with_reducible assumption | ((try and_intros) <;> first | with_reducible assumption | (clear hE_0_0_1 hE_0_0_2 hE_0_0_3 hK_0_0; omega)) | omega
set_option maxHeartbeats 4000000 in
theorem vc_Re_advance_2_2 (x5 : Int) (x11 : Int) (kind_0 : Int) (next_0 : Int) (begin_0 : Int) (end_0 : Int) (number_0 : Int) (number_1 : Int) (next_2 : Int) (tape_2 : Int → Int) (number_2 : Int) (end_2 : Int) (number_3 : Int) (tape_3 : Int → Int) (end_3 : Int) (next_3 : Int) (end_1 : Int) (next_1 : Int) (begin_1 : Int) (kind_1 : Int) (kind_2 : Int) (begin_2 : Int) (tape_0 : Int → Int) (tape_1 : Int → Int) (k5 : 1 ≤ x5 ∧ x5 ≤ 1999) (k11 : 2 ≤ x11 ∧ x11 ≤ 2000) (d1 : x5 + (-4294967296) ≤ x11 ∧ x11 ≤ x5 + 0) (d2 : x5 + 1 ≤ x11 ∧ x11 ≤ x5 + 4294967296) (fe_0_5_1 : end_0 = end_1) (fe_0_6_1 : next_0 = next_1) (fe_0_8_1 : begin_0 = begin_1) (fe_0_9_1 : number_0 = number_1) (fe_0_5_2 : end_1 = end_2) (fe_0_7_2 : kind_1 = kind_2) (fe_0_8_2 : begin_1 = begin_2) (fe_0_9_2 : number_1 = number_2) (fe_0_5_3 : end_2 = end_3) (fe_0_6_3 : next_2 = next_3) (fe_0_9_3 : number_2 = number_3) (hE_0_0_1 : ∀ j : Int, tape_0 j = tape_1 j) (hE_0_0_2 : ∀ j : Int, tape_1 j = tape_2 j) (hE_0_0_3 : ∀ j : Int, tape_2 j = tape_3 j) (hK_0_0 : ∀ j : Int, 0 ≤ j → j < 2000 → (-128) ≤ tape_0 j ∧ tape_0 j ≤ 127) (kz_0_5 : 0 ≤ end_0 ∧ end_0 ≤ 2000) (kz_0_6 : 0 ≤ next_0 ∧ next_0 ≤ 2000) (kz_0_7 : (-128) ≤ kind_0 ∧ kind_0 ≤ 127) (kz_0_8 : 0 ≤ begin_0 ∧ begin_0 ≤ 2000) (kz_0_9 : (-176) ≤ number_0 ∧ number_0 ≤ 1000000) : ((-1) * kind_0 + 0 ≤ (-3)) ∨ (1 * next_0 + ((-1) * begin_0 + (2000 * kind_0 + 0)) ≤ 4008) := by
  subst fe_0_5_1
  subst fe_0_6_1
  subst fe_0_8_1
  subst fe_0_9_1
  subst fe_0_5_2
  subst fe_0_7_2
  subst fe_0_8_2
  subst fe_0_9_2
  subst fe_0_5_3
  subst fe_0_6_3
  subst fe_0_9_3
  have e_hE_0_0_1 := funext hE_0_0_1; subst e_hE_0_0_1
  have e_hE_0_0_2 := funext hE_0_0_2; subst e_hE_0_0_2
  have e_hE_0_0_3 := funext hE_0_0_3; subst e_hE_0_0_3
  first | with_reducible assumption | ((try and_intros) <;> first | with_reducible assumption | (clear hE_0_0_1 hE_0_0_2 hE_0_0_3 hK_0_0; omega)) | omega
set_option maxHeartbeats 4000000 in
theorem vc_Re_advance_2_3 (x5 : Int) (x11 : Int) (next_0 : Int) (begin_0 : Int) (end_0 : Int) (number_0 : Int) (number_1 : Int) (next_2 : Int) (tape_2 : Int → Int) (number_2 : Int) (end_2 : Int) (number_3 : Int) (tape_3 : Int → Int) (end_3 : Int) (next_3 : Int) (end_1 : Int) (next_1 : Int) (begin_1 : Int) (kind_1 : Int) (kind_2 : Int) (begin_2 : Int) (tape_0 : Int → Int) (tape_1 : Int → Int) (k5 : 1 ≤ x5 ∧ x5 ≤ 1999) (k11 : 2 ≤ x11 ∧ x11 ≤ 2000) (d1 : x5 + (-4294967296) ≤ x11 ∧ x11 ≤ x5 + 0) (d2 : x5 + 1 ≤ x11 ∧ x11 ≤ x5 + 4294967296) (fe_0_5_1 : end_0 = end_1) (fe_0_6_1 : next_0 = next_1) (fe_0_8_1 : begin_0 = begin_1) (fe_0_9_1 : number_0 = number_1) (fe_0_5_2 : end_1 = end_2) (fe_0_7_2 : kind_1 = kind_2) (fe_0_8_2 : begin_1 = begin_2) (fe_0_9_2 : number_1 = number_2) (fe_0_5_3 : end_2 = end_3) (fe_0_6_3 : next_2 = next_3) (fe_0_9_3 : number_2 = number_3) (hE_0_0_1 : ∀ j : Int, tape_0 j = tape_1 j) (hE_0_0_2 : ∀ j : Int, tape_1 j = tape_2 j) (hE_0_0_3 : ∀ j : Int, tape_2 j = tape_3 j) (hK_0_0 : ∀ j : Int, 0 ≤ j → j < 2000 → (-128) ≤ tape_0 j ∧ tape_0 j ≤ 127) (kz_0_5 : 0 ≤ end_0 ∧ end_0 ≤ 2000) (kz_0_6 : 0 ≤ next_0 ∧ next_0 ≤ 2000) (kz_0_8 : 0 ≤ begin_0 ∧ begin_0 ≤ 2000) (kz_0_9 : (-176) ≤ number_0 ∧ number_0 ≤ 1000000) : 1 * begin_0 + ((-1) * next_0 + 0) ≤ 0 := by
  subst fe_0_5_1
  subst fe_0_6_1
  subst fe_0_8_1
  subst fe_0_9_1
  subst fe_0_5_2
  subst fe_0_7_2
  subst fe_0_8_2
  subst fe_0_9_2
  subst fe_0_5_3
  subst fe_0_6_3
  subst fe_0_9_3
  have e_hE_0_0_1 := funext hE_0_0_1; subst e_hE_0_0_1
  have e_hE_0_0_2 := funext hE_0_0_2; subst e_hE_0_0_2
  have e_hE_0_0_3 := funext hE_0_0_3; subst e_hE_0_0_3
  first | with_reducible assumption | ((try and_intros) <;> first | with_reducible assumption | (clear hE_0_0_1 hE_0_0_2 hE_0_0_3 hK_0_0; omega)) | omega
set_option maxHeartbeats 4000000 in
theorem vc_Re_advance_2_4 (x2 : Int) (x4 : Int) (x5 : Int) (x7 : Int) (x11 : Int) (x12 : Int) (kind_0 : Int) (next_0 : Int) (begin_0 : Int) (end_0 : Int) (number_0 : Int) (number_1 : Int) (next_2 : Int) (tape_2 : Int → Int) (number_2 : Int) (end_2 : Int) (number_3 : Int) (tape_3 : Int → Int) (end_3 : Int) (next_3 : Int) (end_1 : Int) (next_1 : Int) (begin_1 : Int) (kind_1 : Int) (kind_2 : Int) (begin_2 : Int) (tape_0 : Int → Int) (tape_1 : Int → Int) (k2 : 0 ≤ x2 ∧ x2 ≤ 2000) (k4 : 1 ≤ x4 ∧ x4 ≤ 1999) (k5 : 1 ≤ x5 ∧ x5 ≤ 1999) (k7 : (-128) ≤ x7 ∧ x7 ≤ 47) (k11 : 2 ≤ x11 ∧ x11 ≤ 2000) (k12 : 1 ≤ x12 ∧ x12 ≤ 1) (d1 : x5 + (-4294967296) ≤ x11 ∧ x11 ≤ x5 + 0) (d2 : x5 + 1 ≤ x11 ∧ x11 ≤ x5 + 4294967296) (g0 : x7 = kind_0) (g1 : x11 = next_0) (g3 : x4 = begin_0) (g4 : x5 = end_0) (f12 : x12 ≠ 0) (f13 : CSG (x7) (x12)) (g20 : x4 = next_2) (h25 : x7 = tape_2 (x4)) (f26 : x4 < x5) (f35 : CX0 (end_3) (next_3) (tape_3) (x2)) (fe_0_5_1 : end_0 = end_1) (fe_0_6_1 : next_0 = next_1) (fe_0_8_1 : begin_0 = begin_1) (fe_0_9_1 : number_0 = number_1) (fe_0_5_2 : end_1 = end_2) (fe_0_7_2 : kind_1 = kind_2) (fe_0_8_2 : begin_1 = begin_2) (fe_0_9_2 : number_1 = number_2) (fe_0_5_3 : end_2 = end_3) (fe_0_6_3 : next_2 = next_3) (fe_0_8_3 : begin_2 = x4) (fe_0_9_3 : number_2 = number_3) (hE_0_0_1 : ∀ j : Int, tape_0 j = tape_1 j) (hE_0_0_2 : ∀ j : Int, tape_1 j = tape_2 j) (hE_0_0_3 : ∀ j : Int, tape_2 j = tape_3 j) (hK_0_0 : ∀ j : Int, 0 ≤ j → j < 2000 → (-128) ≤ tape_0 j ∧ tape_0 j ≤ 127) (kz_0_5 : 0 ≤ end_0 ∧ end_0 ≤ 2000) (kz_0_6 : 0 ≤ next_0 ∧ next_0 ≤ 2000) (kz_0_7 : (-128) ≤ kind_0 ∧ kind_0 ≤ 127) (kz_0_8 : 0 ≤ begin_0 ∧ begin_0 ≤ 2000) (kz_0_9 : (-176) ≤ number_0 ∧ number_0 ≤ 1000000) : TKC (end_0) (next_0) (kind_0) (begin_0) (number_0) (tape_0) (x2) := by
  subst fe_0_5_1
  subst fe_0_6_1
  subst fe_0_8_1
  subst fe_0_9_1
  subst fe_0_5_2
  subst fe_0_7_2
  subst fe_0_8_2
  subst fe_0_9_2
  subst fe_0_5_3
  subst fe_0_6_3
  subst fe_0_9_3
  have e_hE_0_0_1 := funext hE_0_0_1; subst e_hE_0_0_1
  have e_hE_0_0_2 := funext hE_0_0_2; subst e_hE_0_0_2
  have e_hE_0_0_3 := funext hE_0_0_3; subst e_hE_0_0_3
  first | subst g0 | skip
  first | subst g1 | skip
  first | subst g3 | skip
  first | subst g4 | skip
  first | subst g20 | skip
  first
    | exact cxl_e (by assumption) ‹CXL _ _ _ _ _› (fun q => by omega) (by omega)
    | exact cxl_e (by assumption) ‹CXL _ _ _ _ _› (fun q => cnb_f ‹CNBy _ _› (by omega) (by omega)) (by omega)
    | exact cxd_e (by assumption) ‹CXD _ _ _ _ _ _› (fun q => by unfold cIG; omega) (by omega)
    | exact cxs_e (by assumption) (cx_1 (by assumption) ‹CX0 _ _ _ _› (fun q => by omega) (by omega)) (by omega) rfl (by unfold cIL; omega) (by unfold cIG; omega) (by omega) (Or.inl ⟨csg_t ‹CSG _ _› (by omega) (by omega), by omega⟩)
    | exact cxs_e (by assumption) (cx_1 (by assumption) ‹CX0 _ _ _ _› (fun q => by omega) (by omega)) (by omega) rfl (by unfold cIL; omega) (by unfold cIG; omega) (by omega) (Or.inr ⟨csg_f ‹CSG _ _› (by omega) (by omega), by omega⟩)
set_option maxHeartbeats 4000000 in
theorem vc_Re_advance_2_5 (x2 : Int) (x5 : Int) (x11 : Int) (next_0 : Int) (begin_0 : Int) (end_0 : Int) (number_0 : Int) (number_1 : Int) (next_2 : Int) (tape_2 : Int → Int) (number_2 : Int) (end_2 : Int) (number_3 : Int) (tape_3 : Int → Int) (end_3 : Int) (next_3 : Int) (end_1 : Int) (next_1 : Int) (begin_1 : Int) (kind_1 : Int) (kind_2 : Int) (begin_2 : Int) (tape_0 : Int → Int) (tape_1 : Int → Int) (k2 : 0 ≤ x2 ∧ x2 ≤ 2000) (k5 : 1 ≤ x5 ∧ x5 ≤ 1999) (k11 : 2 ≤ x11 ∧ x11 ≤ 2000) (d1 : x5 + (-4294967296) ≤ x11 ∧ x11 ≤ x5 + 0) (d2 : x5 + 1 ≤ x11 ∧ x11 ≤ x5 + 4294967296) (fe_0_5_1 : end_0 = end_1) (fe_0_6_1 : next_0 = next_1) (fe_0_8_1 : begin_0 = begin_1) (fe_0_9_1 : number_0 = number_1) (fe_0_5_2 : end_1 = end_2) (fe_0_7_2 : kind_1 = kind_2) (fe_0_8_2 : begin_1 = begin_2) (fe_0_9_2 : number_1 = number_2) (fe_0_5_3 : end_2 = end_3) (fe_0_6_3 : next_2 = next_3) (fe_0_9_3 : number_2 = number_3) (hE_0_0_1 : ∀ j : Int, tape_0 j = tape_1 j) (hE_0_0_2 : ∀ j : Int, tape_1 j = tape_2 j) (hE_0_0_3 : ∀ j : Int, tape_2 j = tape_3 j) (hK_0_0 : ∀ j : Int, 0 ≤ j → j < 2000 → (-128) ≤ tape_0 j ∧ tape_0 j ≤ 127) (kz_0_5 : 0 ≤ end_0 ∧ end_0 ≤ 2000) (kz_0_6 : 0 ≤ next_0 ∧ next_0 ≤ 2000) (kz_0_8 : 0 ≤ begin_0 ∧ begin_0 ≤ 2000) (kz_0_9 : (-176) ≤ number_0 ∧ number_0 ≤ 1000000) : 1 * x2 + ((-1) * next_0 + 0) ≤ 0 := by
  subst fe_0_5_1
  subst fe_0_6_1
  subst fe_0_8_1
  subst fe_0_9_1
  subst fe_0_5_2
  subst fe_0_7_2
  subst fe_0_8_2
  subst fe_0_9_2
  subst fe_0_5_3
  subst fe_0_6_3
  subst fe_0_9_3
  have e_hE_0_0_1 := funext hE_0_0_1; subst e_hE_0_0_1
  have e_hE_0_0_2 := funext hE_0_0_2; subst e_hE_0_0_2
  have e_hE_0_0_3 := funext hE_0_0_3; subst e_hE_0_0_3
  first | with_reducible assumption | ((try and_intros) <;> first | with_reducible assumption | (clear hE_0_0_1 hE_0_0_2 hE_0_0_3 hK_0_0; omega)) | omega
def o_Re_advance_2 : or_T := (290, 13, [(0, (2, 0, 0, [8])), (1, (0, -2147483648, 1000000, [])), (2, (0, 0, 2000, [])), (3, (2, 0, 0, [8])), (4, (0, 1, 1999, [])), (5, (0, 1, 1999, [])), (6, (2, 0, 0, [109])), (7, (0, -128, 47, [])), (8, (0, 0, 0, [])), (9, (0, 0, 0, [])), (10, (0, 1, 1, [])), (11, (0, 2, 2000, [])), (12, (0, 1, 1, []))], [(9, [7, 3], [7]), (9, [11, 3], [6]), (9, [6, 3], [0]), (9, [4, 3], [8]), (9, [5, 3], [5]), (20, [7, 12], [61, 0, 1100]), (20, [7, 9], [61, 0, 1098]), (20, [7, 8], [61, 0, 1097]), (20, [3, 1], [30, 0, 1, 1, 9, -1, 0, 0]), (20, [3, 1], [30, 0, -1, 1, 9, 1, 0, 0]), (24, [0, 3], []), (101, [3, 7], [7]), (8, [12], [1]), (20, [7, 12], [61, 0, 1100]), (20, [7, 9], [61, 0, 1098]), (20, [7, 8], [61, 0, 1097]), (20, [3, 1], [30, 0, 1, 1, 9, -1, 0, 0]), (20, [3, 1], [30, 0, -1, 1, 9, 1, 0, 0]), (101, [3, 11], [6]), (1, [11, 4, 10], []), (9, [4, 3], [6]), (8, [9], [0]), (20, [7, 9], [61, 0, 1098]), (8, [8], [0]), (20, [7, 8], [61, 0, 1097]), (10, [7, 6, 4], []), (7, [4, 5], [2]), (20, [3, 1], [30, 0, 1, 1, 9, -1, 0, 0]), (20, [3, 1], [30, 0, -1, 1, 9, 1, 0, 0]), (20, [3, 2], [60, 2, 1, 1074, 5, 6, 0]), (20, [2, 3], [30, 0, 1, 0, 0, -1, 1, 6]), (101, [3, 4], [8]), (7, [4, 5], [3]), (20, [3, 1], [30, 0, 1, 1, 9, -1, 0, 0]), (20, [3, 1], [30, 0, -1, 1, 9, 1, 0, 0]), (20, [3, 2], [60, 2, 1, 1074, 5, 6, 0]), (20, [2, 3], [30, 0, 1, 0, 0, -1, 1, 6])], [], [], [(20, [0, 0, 1], [31, 1, 3, 1, 1, 7, 0, 1, 1, 9, -1, 0, 0]), (20, [0, 0, 1], [31, 1, 3, 1, 1, 7, 0, -1, 1, 9, 1, 0, 0]), (20, [0, 0, 0, 0], [31, 1, -3, -1, 1, 7, 4008, 1, 1, 6, -1, 1, 8, 2000, 1, 7]), (20, [0, 0], [30, 0, 1, 1, 8, -1, 1, 6]), (20, [0, 2], [60, 5, 1, 1072, 5, 6, 7, 8, 9, 0]), (20, [2, 0], [30, 0, 1, 0, 0, -1, 1, 6])], [], [(11, 4, 1, 1), (11, 5, -4294967296, 0), (11, 5, 1, 4294967296), (4, 5, -4294967296, -1), (4, 5, 0, 4294967296)])
theorem oo_Re_advance_2 {kA : Nat → ClassId} : or_ok PRD kA GG o_Re_advance_2 := by
  refine or_mk fun A ta ws vs hD hth hl => ?_
  intro t0 r0 t1 k1 t2 k2 t3 r3 t4 k4 t5 k5 t6 r6 t7 k7 t8 k8 t9 k9 t10 k10 t11 k11 t12 k12 d0 d1 d2 d3 d4 f0 f1 f2 f3 f4 f5 f6 f7 f8 f9 f10 ta1 w1 le1 s1 f12 f13 f14 f15 f16 f17 ta2 w2 le2 s2 f19 f20 f21 f22 f23 f24 f25 f26 f27 f28 f29 f30 ta3 w3 le3 s3 f32 f33 f34 f35 f36
  replace f0 := shm_198 f0
  replace f1 := shm_111 f1
  replace f2 := shm_163 f2
  replace f3 := shm_293 f3
  replace f4 := shm_110 f4
  replace f10 := shm_5 f10
  have s1 : (∀ b j, w_el ws b j = w_el w1 b j) ∧ ∀ b j, w_fd ws b j = if b = v_ad (n_v vs 3) ∧ j = 7 then n_v vs 7 else w_fd w1 b j := s1.2
  have s2 : (∀ b j, w_el w1 b j = w_el w2 b j) ∧ ∀ b j, w_fd w1 b j = if b = v_ad (n_v vs 3) ∧ j = 6 then n_v vs 11 else w_fd w2 b j := s2.2
  replace f20 := shm_111 f20
  replace f25 := shm_107 f25
  have s3 : (∀ b j, w_el w2 b j = w_el w3 b j) ∧ ∀ b j, w_fd w2 b j = if b = v_ad (n_v vs 3) ∧ j = 8 then n_v vs 4 else w_fd w3 b j := s3.2
  replace f35 := shm_1526 f35
  have q3 : n_v vs 3 = n_v vs 0 := f10.symm
  simp only [q3] at f0 f1 f2 f3 f4
  rw [q3] at s1
  rw [q3] at s2
  simp only [q3] at f20
  rw [q3] at s3
  simp only [q3] at f35
  have ar_0_0_1 : w_ar w1 (n_v vs 0) 0 = w_ar ws (n_v vs 0) 0 := by show v_ad (w_fd w1 _ _) = v_ad (w_fd ws _ _); rw [s1.2, if_neg (fun e => absurd e.2 (by decide))]
  have ar_0_0_2 : w_ar w2 (n_v vs 0) 0 = w_ar ws (n_v vs 0) 0 := by rw [← ar_0_0_1]; show v_ad (w_fd w2 _ _) = v_ad (w_fd w1 _ _); rw [s2.2, if_neg (fun e => absurd e.2 (by decide))]
  have ar_0_0_3 : w_ar w3 (n_v vs 0) 0 = w_ar ws (n_v vs 0) 0 := by rw [← ar_0_0_2]; show v_ad (w_fd w3 _ _) = v_ad (w_fd w2 _ _); rw [s3.2, if_neg (fun e => absurd e.2 (by decide))]
  have cr_0_0 := fdq_95 hD hth r0
  have ad_6 : v_ad (n_v vs 6) = w_ar ws (n_v vs 0) 0 := congrArg v_ad f2
  have g0 : v_iv (n_v vs 7) = w_fi ws (n_v vs 0) 7 := congrArg v_iv f0
  have g1 : v_iv (n_v vs 11) = w_fi ws (n_v vs 0) 6 := congrArg v_iv f1
  have g3 : v_iv (n_v vs 4) = w_fi ws (n_v vs 0) 8 := congrArg v_iv f3
  have g4 : v_iv (n_v vs 5) = w_fi ws (n_v vs 0) 5 := congrArg v_iv f4
  have g20 : v_iv (n_v vs 4) = w_fi w2 (n_v vs 0) 6 := congrArg v_iv f20
  simp only [ad_6] at f25
  have h25 : v_iv (n_v vs 7) = w_ei w2 (w_ar ws (n_v vs 0) 0) (v_iv (n_v vs 4)) := f25
  simp only [ar_0_0_2, ar_0_0_3] at f35
  have fe_0_5_1 : w_fi ws (n_v vs 0) 5 = w_fi w1 (n_v vs 0) 5 := by show v_iv (w_fd _ _ _) = v_iv (w_fd _ _ _); rw [s1.2, if_neg (fun e => absurd e.2 (by decide))]
  have fe_0_6_1 : w_fi ws (n_v vs 0) 6 = w_fi w1 (n_v vs 0) 6 := by show v_iv (w_fd _ _ _) = v_iv (w_fd _ _ _); rw [s1.2, if_neg (fun e => absurd e.2 (by decide))]
  have fe_0_8_1 : w_fi ws (n_v vs 0) 8 = w_fi w1 (n_v vs 0) 8 := by show v_iv (w_fd _ _ _) = v_iv (w_fd _ _ _); rw [s1.2, if_neg (fun e => absurd e.2 (by decide))]
  have fe_0_9_1 : w_fi ws (n_v vs 0) 9 = w_fi w1 (n_v vs 0) 9 := by show v_iv (w_fd _ _ _) = v_iv (w_fd _ _ _); rw [s1.2, if_neg (fun e => absurd e.2 (by decide))]
  have fe_0_5_2 : w_fi w1 (n_v vs 0) 5 = w_fi w2 (n_v vs 0) 5 := by show v_iv (w_fd _ _ _) = v_iv (w_fd _ _ _); rw [s2.2, if_neg (fun e => absurd e.2 (by decide))]
  have fe_0_7_2 : w_fi w1 (n_v vs 0) 7 = w_fi w2 (n_v vs 0) 7 := by show v_iv (w_fd _ _ _) = v_iv (w_fd _ _ _); rw [s2.2, if_neg (fun e => absurd e.2 (by decide))]
  have fe_0_8_2 : w_fi w1 (n_v vs 0) 8 = w_fi w2 (n_v vs 0) 8 := by show v_iv (w_fd _ _ _) = v_iv (w_fd _ _ _); rw [s2.2, if_neg (fun e => absurd e.2 (by decide))]
  have fe_0_9_2 : w_fi w1 (n_v vs 0) 9 = w_fi w2 (n_v vs 0) 9 := by show v_iv (w_fd _ _ _) = v_iv (w_fd _ _ _); rw [s2.2, if_neg (fun e => absurd e.2 (by decide))]
  have fe_0_5_3 : w_fi w2 (n_v vs 0) 5 = w_fi w3 (n_v vs 0) 5 := by show v_iv (w_fd _ _ _) = v_iv (w_fd _ _ _); rw [s3.2, if_neg (fun e => absurd e.2 (by decide))]
  have fe_0_6_3 : w_fi w2 (n_v vs 0) 6 = w_fi w3 (n_v vs 0) 6 := by show v_iv (w_fd _ _ _) = v_iv (w_fd _ _ _); rw [s3.2, if_neg (fun e => absurd e.2 (by decide))]
  have fe_0_8_3 : w_fi w2 (n_v vs 0) 8 = v_iv (n_v vs 4) := by show v_iv (w_fd _ _ _) = _; rw [s3.2, if_pos ⟨rfl, rfl⟩]
  have fe_0_9_3 : w_fi w2 (n_v vs 0) 9 = w_fi w3 (n_v vs 0) 9 := by show v_iv (w_fd _ _ _) = v_iv (w_fd _ _ _); rw [s3.2, if_neg (fun e => absurd e.2 (by decide))]
  have hE_0_0_1 : ∀ j : Int, w_ei ws (w_ar ws (n_v vs 0) 0) j = w_ei w1 (w_ar ws (n_v vs 0) 0) j := fun j => s1.1 _ _
  have hE_0_0_2 : ∀ j : Int, w_ei w1 (w_ar ws (n_v vs 0) 0) j = w_ei w2 (w_ar ws (n_v vs 0) 0) j := fun j => s2.1 _ _
  have hE_0_0_3 : ∀ j : Int, w_ei w2 (w_ar ws (n_v vs 0) 0) j = w_ei w3 (w_ar ws (n_v vs 0) 0) j := fun j => s3.1 _ _
  have hK_0_0 := elq_33 hD hth cr_0_0
  have kz_0_5 := fdq_207 hD hth r0
  have kz_0_6 := fdq_208 hD hth r0
  have kz_0_7 := fdq_297 hD hth r0
  have kz_0_8 := fdq_99 hD hth r0
  have kz_0_9 := fdq_296 hD hth r0
  have nf0 : fc_1 PRD (20, [0, 0, 1], [31, 1, 3, 1, 1, 7, 0, 1, 1, 9, -1, 0, 0]) ws (vs) := ⟨nf_in hl rfl, sgq_1528 (vc_Re_advance_2_0 (v_iv (n_v vs 1)) (v_iv (n_v vs 5)) (v_iv (n_v vs 11)) (w_fi ws (n_v vs 0) 7) (w_fi ws (n_v vs 0) 6) (w_fi ws (n_v vs 0) 8) (w_fi ws (n_v vs 0) 5) (w_fi ws (n_v vs 0) 9) (w_fi w1 (n_v vs 0) 9) (w_fi w2 (n_v vs 0) 6) (w_ei w2 (w_ar ws (n_v vs 0) 0)) (w_fi w2 (n_v vs 0) 9) (w_fi w2 (n_v vs 0) 5) (w_fi w3 (n_v vs 0) 9) (w_ei w3 (w_ar ws (n_v vs 0) 0)) (w_fi w3 (n_v vs 0) 5) (w_fi w3 (n_v vs 0) 6) (w_fi w1 (n_v vs 0) 5) (w_fi w1 (n_v vs 0) 6) (w_fi w1 (n_v vs 0) 8) (w_fi w1 (n_v vs 0) 7) (w_fi w2 (n_v vs 0) 7) (w_fi w2 (n_v vs 0) 8) (w_ei ws (w_ar ws (n_v vs 0) 0)) (w_ei w1 (w_ar ws (n_v vs 0) 0)) k1 k5 k11 d1 d2 fe_0_5_1 fe_0_6_1 fe_0_8_1 fe_0_9_1 fe_0_5_2 fe_0_7_2 fe_0_8_2 fe_0_9_2 fe_0_5_3 fe_0_6_3 fe_0_9_3 hE_0_0_1 hE_0_0_2 hE_0_0_3 hK_0_0 kz_0_5 kz_0_6 kz_0_7 kz_0_8 kz_0_9)⟩
  have nf1 : fc_1 PRD (20, [0, 0, 1], [31, 1, 3, 1, 1, 7, 0, -1, 1, 9, 1, 0, 0]) ws (vs) := ⟨nf_in hl rfl, sgq_1529 (vc_Re_advance_2_1 (v_iv (n_v vs 1)) (v_iv (n_v vs 5)) (v_iv (n_v vs 11)) (w_fi ws (n_v vs 0) 7) (w_fi ws (n_v vs 0) 6) (w_fi ws (n_v vs 0) 8) (w_fi ws (n_v vs 0) 5) (w_fi ws (n_v vs 0) 9) (w_fi w1 (n_v vs 0) 9) (w_fi w2 (n_v vs 0) 6) (w_ei w2 (w_ar ws (n_v vs 0) 0)) (w_fi w2 (n_v vs 0) 9) (w_fi w2 (n_v vs 0) 5) (w_fi w3 (n_v vs 0) 9) (w_ei w3 (w_ar ws (n_v vs 0) 0)) (w_fi w3 (n_v vs 0) 5) (w_fi w3 (n_v vs 0) 6) (w_fi w1 (n_v vs 0) 5) (w_fi w1 (n_v vs 0) 6) (w_fi w1 (n_v vs 0) 8) (w_fi w1 (n_v vs 0) 7) (w_fi w2 (n_v vs 0) 7) (w_fi w2 (n_v vs 0) 8) (w_ei ws (w_ar ws (n_v vs 0) 0)) (w_ei w1 (w_ar ws (n_v vs 0) 0)) k1 k5 k11 d1 d2 fe_0_5_1 fe_0_6_1 fe_0_8_1 fe_0_9_1 fe_0_5_2 fe_0_7_2 fe_0_8_2 fe_0_9_2 fe_0_5_3 fe_0_6_3 fe_0_9_3 hE_0_0_1 hE_0_0_2 hE_0_0_3 hK_0_0 kz_0_5 kz_0_6 kz_0_7 kz_0_8 kz_0_9)⟩
  have nf2 : fc_1 PRD (20, [0, 0, 0, 0], [31, 1, -3, -1, 1, 7, 4008, 1, 1, 6, -1, 1, 8, 2000, 1, 7]) ws (vs) := ⟨nf_in hl rfl, sgq_1530 (vc_Re_advance_2_2 (v_iv (n_v vs 5)) (v_iv (n_v vs 11)) (w_fi ws (n_v vs 0) 7) (w_fi ws (n_v vs 0) 6) (w_fi ws (n_v vs 0) 8) (w_fi ws (n_v vs 0) 5) (w_fi ws (n_v vs 0) 9) (w_fi w1 (n_v vs 0) 9) (w_fi w2 (n_v vs 0) 6) (w_ei w2 (w_ar ws (n_v vs 0) 0)) (w_fi w2 (n_v vs 0) 9) (w_fi w2 (n_v vs 0) 5) (w_fi w3 (n_v vs 0) 9) (w_ei w3 (w_ar ws (n_v vs 0) 0)) (w_fi w3 (n_v vs 0) 5) (w_fi w3 (n_v vs 0) 6) (w_fi w1 (n_v vs 0) 5) (w_fi w1 (n_v vs 0) 6) (w_fi w1 (n_v vs 0) 8) (w_fi w1 (n_v vs 0) 7) (w_fi w2 (n_v vs 0) 7) (w_fi w2 (n_v vs 0) 8) (w_ei ws (w_ar ws (n_v vs 0) 0)) (w_ei w1 (w_ar ws (n_v vs 0) 0)) k5 k11 d1 d2 fe_0_5_1 fe_0_6_1 fe_0_8_1 fe_0_9_1 fe_0_5_2 fe_0_7_2 fe_0_8_2 fe_0_9_2 fe_0_5_3 fe_0_6_3 fe_0_9_3 hE_0_0_1 hE_0_0_2 hE_0_0_3 hK_0_0 kz_0_5 kz_0_6 kz_0_7 kz_0_8 kz_0_9)⟩
  have nf3 : fc_1 PRD (20, [0, 0], [30, 0, 1, 1, 8, -1, 1, 6]) ws (vs) := ⟨nf_in hl rfl, sgq_1531 (vc_Re_advance_2_3 (v_iv (n_v vs 5)) (v_iv (n_v vs 11)) (w_fi ws (n_v vs 0) 6) (w_fi ws (n_v vs 0) 8) (w_fi ws (n_v vs 0) 5) (w_fi ws (n_v vs 0) 9) (w_fi w1 (n_v vs 0) 9) (w_fi w2 (n_v vs 0) 6) (w_ei w2 (w_ar ws (n_v vs 0) 0)) (w_fi w2 (n_v vs 0) 9) (w_fi w2 (n_v vs 0) 5) (w_fi w3 (n_v vs 0) 9) (w_ei w3 (w_ar ws (n_v vs 0) 0)) (w_fi w3 (n_v vs 0) 5) (w_fi w3 (n_v vs 0) 6) (w_fi w1 (n_v vs 0) 5) (w_fi w1 (n_v vs 0) 6) (w_fi w1 (n_v vs 0) 8) (w_fi w1 (n_v vs 0) 7) (w_fi w2 (n_v vs 0) 7) (w_fi w2 (n_v vs 0) 8) (w_ei ws (w_ar ws (n_v vs 0) 0)) (w_ei w1 (w_ar ws (n_v vs 0) 0)) k5 k11 d1 d2 fe_0_5_1 fe_0_6_1 fe_0_8_1 fe_0_9_1 fe_0_5_2 fe_0_7_2 fe_0_8_2 fe_0_9_2 fe_0_5_3 fe_0_6_3 fe_0_9_3 hE_0_0_1 hE_0_0_2 hE_0_0_3 hK_0_0 kz_0_5 kz_0_6 kz_0_8 kz_0_9)⟩
  have nf4 : fc_1 PRD (20, [0, 2], [60, 5, 1, 1072, 5, 6, 7, 8, 9, 0]) ws (vs) := ⟨nf_in hl rfl, sgq_1532 (vc_Re_advance_2_4 (v_iv (n_v vs 2)) (v_iv (n_v vs 4)) (v_iv (n_v vs 5)) (v_iv (n_v vs 7)) (v_iv (n_v vs 11)) (v_iv (n_v vs 12)) (w_fi ws (n_v vs 0) 7) (w_fi ws (n_v vs 0) 6) (w_fi ws (n_v vs 0) 8) (w_fi ws (n_v vs 0) 5) (w_fi ws (n_v vs 0) 9) (w_fi w1 (n_v vs 0) 9) (w_fi w2 (n_v vs 0) 6) (w_ei w2 (w_ar ws (n_v vs 0) 0)) (w_fi w2 (n_v vs 0) 9) (w_fi w2 (n_v vs 0) 5) (w_fi w3 (n_v vs 0) 9) (w_ei w3 (w_ar ws (n_v vs 0) 0)) (w_fi w3 (n_v vs 0) 5) (w_fi w3 (n_v vs 0) 6) (w_fi w1 (n_v vs 0) 5) (w_fi w1 (n_v vs 0) 6) (w_fi w1 (n_v vs 0) 8) (w_fi w1 (n_v vs 0) 7) (w_fi w2 (n_v vs 0) 7) (w_fi w2 (n_v vs 0) 8) (w_ei ws (w_ar ws (n_v vs 0) 0)) (w_ei w1 (w_ar ws (n_v vs 0) 0)) k2 k4 k5 k7 k11 k12 d1 d2 g0 g1 g3 g4 (shm_142 f12) (shm_454 f13) g20 h25 (shm_6 f26) f35 fe_0_5_1 fe_0_6_1 fe_0_8_1 fe_0_9_1 fe_0_5_2 fe_0_7_2 fe_0_8_2 fe_0_9_2 fe_0_5_3 fe_0_6_3 fe_0_8_3 fe_0_9_3 hE_0_0_1 hE_0_0_2 hE_0_0_3 hK_0_0 kz_0_5 kz_0_6 kz_0_7 kz_0_8 kz_0_9)⟩
  have nf5 : fc_1 PRD (20, [2, 0], [30, 0, 1, 0, 0, -1, 1, 6]) ws (vs) := ⟨nf_in hl rfl, sgq_1527 (vc_Re_advance_2_5 (v_iv (n_v vs 2)) (v_iv (n_v vs 5)) (v_iv (n_v vs 11)) (w_fi ws (n_v vs 0) 6) (w_fi ws (n_v vs 0) 8) (w_fi ws (n_v vs 0) 5) (w_fi ws (n_v vs 0) 9) (w_fi w1 (n_v vs 0) 9) (w_fi w2 (n_v vs 0) 6) (w_ei w2 (w_ar ws (n_v vs 0) 0)) (w_fi w2 (n_v vs 0) 9) (w_fi w2 (n_v vs 0) 5) (w_fi w3 (n_v vs 0) 9) (w_ei w3 (w_ar ws (n_v vs 0) 0)) (w_fi w3 (n_v vs 0) 5) (w_fi w3 (n_v vs 0) 6) (w_fi w1 (n_v vs 0) 5) (w_fi w1 (n_v vs 0) 6) (w_fi w1 (n_v vs 0) 8) (w_fi w1 (n_v vs 0) 7) (w_fi w2 (n_v vs 0) 7) (w_fi w2 (n_v vs 0) 8) (w_ei ws (w_ar ws (n_v vs 0) 0)) (w_ei w1 (w_ar ws (n_v vs 0) 0)) k2 k5 k11 d1 d2 fe_0_5_1 fe_0_6_1 fe_0_8_1 fe_0_9_1 fe_0_5_2 fe_0_7_2 fe_0_8_2 fe_0_9_2 fe_0_5_3 fe_0_6_3 fe_0_9_3 hE_0_0_1 hE_0_0_2 hE_0_0_3 hK_0_0 kz_0_5 kz_0_6 kz_0_8 kz_0_9)⟩
  refine ⟨(fun _ h => (by cases h)), [], trivial, ?_, (fun _ h => (by cases h))⟩
  rw [List.append_nil]
  exact List.forall_mem_cons.mpr ⟨⟨show (20 : Nat) < 100 from by decide, nf0⟩, List.forall_mem_cons.mpr ⟨⟨show (20 : Nat) < 100 from by decide, nf1⟩, List.forall_mem_cons.mpr ⟨⟨show (20 : Nat) < 100 from by decide, nf2⟩, List.forall_mem_cons.mpr ⟨⟨show (20 : Nat) < 100 from by decide, nf3⟩, List.forall_mem_cons.mpr ⟨⟨show (20 : Nat) < 100 from by decide, nf4⟩, List.forall_mem_cons.mpr ⟨⟨show (20 : Nat) < 100 from by decide, nf5⟩, (fun _ h => (by cases h))⟩⟩⟩⟩⟩⟩
set_option maxHeartbeats 4000000 in
theorem vc_Re_advance_3_0 (x1 : Int) (x5 : Int) (x11 : Int) (kind_0 : Int) (next_0 : Int) (begin_0 : Int) (end_0 : Int) (number_0 : Int) (number_1 : Int) (next_2 : Int) (tape_2 : Int → Int) (number_2 : Int) (end_2 : Int) (number_3 : Int) (tape_3 : Int → Int) (end_3 : Int) (next_3 : Int) (end_1 : Int) (next_1 : Int) (begin_1 : Int) (kind_1 : Int) (kind_2 : Int) (begin_2 : Int) (tape_0 : Int → Int) (tape_1 : Int → Int) (k1 : (-2147483648) ≤ x1 ∧ x1 ≤ 1000000) (k5 : 1 ≤ x5 ∧ x5 ≤ 1999) (k11 : 2 ≤ x11 ∧ x11 ≤ 2000) (d1 : x5 + (-4294967296) ≤ x11 ∧ x11 ≤ x5 + 0) (d2 : x5 + 1 ≤ x11 ∧ x11 ≤ x5 + 4294967296) (fe_0_5_1 : end_0 = end_1) (fe_0_6_1 : next_0 = next_1) (fe_0_8_1 : begin_0 = begin_1) (fe_0_9_1 : number_0 = number_1) (fe_0_5_2 : end_1 = end_2) (fe_0_7_2 : kind_1 = kind_2) (fe_0_8_2 : begin_1 = begin_2) (fe_0_9_2 : number_1 = number_2) (fe_0_5_3 : end_2 = end_3) (fe_0_6_3 : next_2 = next_3) (fe_0_9_3 : number_2 = number_3) (hE_0_0_1 : ∀ j : Int, tape_0 j = tape_1 j) (hE_0_0_2 : ∀ j : Int, tape_1 j = tape_2 j) (hE_0_0_3 : ∀ j : Int, tape_2 j = tape_3 j) (hK_0_0 : ∀ j : Int, 0 ≤ j → j < 2000 → (-128) ≤ tape_0 j ∧ tape_0 j ≤ 127) (kz_0_5 : 0 ≤ end_0 ∧ end_0 ≤ 2000) (kz_0_6 : 0 ≤ next_0 ∧ next_0 ≤ 2000) (kz_0_7 : (-128) ≤ kind_0 ∧ kind_0 ≤ 127) (kz_0_8 : 0 ≤ begin_0 ∧ begin_0 ≤ 2000) (kz_0_9 : (-176) ≤ number_0 ∧ number_0 ≤ 1000000) : (1 * kind_0 + 0 ≤ 3) ∨ (1 * number_0 + ((-1) * x1 + 0) ≤ 0) := by
  subst fe_0_5_1
  subst fe_0_6_1
  subst fe_0_8_1
  subst fe_0_9_1
  subst fe_0_5_2
  subst fe_0_7_2
  subst fe_0_8_2
  subst fe_0_9_2
  subst fe_0_5_3
  subst fe_0_6_3
  subst fe_0_9_3
  have e_hE_0_0_1 := funext hE_0_0_1; subst e_hE_0_0_1
  have e_hE_0_0_2 := funext hE_0_0_2; subst e_hE_0_0_2
  have e_hE_0_0_3 := funext hE_0_0_3; subst e_hE_0_0_3
  first | with_reducible assumption | ((try and_intros) <;> first | with_reducible assumption | (clear hE_0_0_1 hE_0_0_2 hE_0_0_3 hK_0_0; omega)) | omega
set_option maxHeartbeats 4000000 in
theorem vc_Re_advance_3_1 (x1 : Int) (x5 : Int) (x11 : Int) (kind_0 : Int) (next_0 : Int) (begin_0 : Int) (end_0 : Int) (number_0 : Int) (number_1 : Int) (next_2 : Int) (tape_2 : Int → Int) (number_2 : Int) (end_2 : Int) (number_3 : Int) (tape_3 : Int → Int) (end_3 : Int) (next_3 : Int) (end_1 : Int) (next_1 : Int) (begin_1 : Int) (kind_1 : Int) (kind_2 : Int) (begin_2 : Int) (tape_0 : Int → Int) (tape_1 : Int → Int) (k1 : (-2147483648) ≤ x1 ∧ x1 ≤ 1000000) (k5 : 1 ≤ x5 ∧ x5 ≤ 1999) (k11 : 2 ≤ x11 ∧ x11 ≤ 2000) (d1 : x5 + (-4294967296) ≤ x11 ∧ x11 ≤ x5 + 0) (d2 : x5 + 1 ≤ x11 ∧ x11 ≤ x5 + 4294967296) (fe_0_5_1 : end_0 = end_1) (fe_0_6_1 : next_0 = next_1) (fe_0_8_1 : begin_0 = begin_1) (fe_0_9_1 : number_0 = number_1) (fe_0_5_2 : end_1 = end_2) (fe_0_7_2 : kind_1 = kind_2) (fe_0_8_2 : begin_1 = begin_2) (fe_0_9_2 : number_1 = number_2) (fe_0_5_3 : end_2 = end_3) (fe_0_6_3 : next_2 = next_3) (fe_0_9_3 : number_2 = number_3) (hE_0_0_1 : ∀ j : Int, tape_0 j = tape_1 j) (hE_0_0_2 : ∀ j : Int, tape_1 j = tape_2 j) (hE_0_0_3 : ∀ j : Int, tape_2 j = tape_3 j) (hK_0_0 : ∀ j : Int, 0 ≤ j → j < 2000 → (-128) ≤ tape_0 j ∧ tape_0 j ≤ 127) (kz_0_5 : 0 ≤ end_0 ∧ end_0 ≤ 2000) (kz_0_6 : 0 ≤ next_0 ∧ next_0 ≤ 2000) (kz_0_7 : (-128) ≤ kind_0 ∧ kind_0 ≤ 127) (kz_0_8 : 0 ≤ begin_0 ∧ begin_0 ≤ 2000) (kz_0_9 : (-176) ≤ number_0 ∧ number_0 ≤ 1000000) : (1 * kind_0 + 0 ≤ 3) ∨ ((-1) * number_0 + (1 * x1 + 0) ≤ 0) := by
  subst fe_0_5_1
  subst fe_0_6_1
  subst fe_0_8_1
  subst fe_0_9_1
  subst fe_0_5_2
  subst fe_0_7_2
  subst fe_0_8_2
  subst fe_0_9_2
  subst fe_0_5_3
  subst fe_0_6_3
  subst fe_0_9_3
  have e_hE_0_0_1 := funext hE_0_0_1; subst e_hE_0_0_1
  have e_hE_0_0_2 := funext hE_0_0_2; subst e_hE_0_0_2
  have e_hE_0_0_3 := funext hE_0_0_3; subst e_hE_0_0_3
  first | with_reducible assumption | ((try and_intros) <;> first | with_reducible assumption | (clear hE_0_0_1 hE_0_0_2 hE_0_0_3 hK_0_0; omega)) | omega
set_option maxHeartbeats 4000000 in
theorem vc_Re_advance_3_2 (x5 : Int) (x11 : Int) (kind_0 : Int) (next_0 : Int) (begin_0 : Int) (end_0 : Int) (number_0 : Int) (number_1 : Int) (next_2 : Int) (tape_2 : Int → Int) (number_2 : Int) (end_2 : Int) (number_3 : Int) (tape_3 : Int → Int) (end_3 : Int) (next_3 : Int) (end_1 : Int) (next_1 : Int) (begin_1 : Int) (kind_1 : Int) (kind_2 : Int) (begin_2 : Int) (tape_0 : Int → Int) (tape_1 : Int → Int) (k5 : 1 ≤ x5 ∧ x5 ≤ 1999) (k11 : 2 ≤ x11 ∧ x11 ≤ 2000) (d1 : x5 + (-4294967296) ≤ x11 ∧ x11 ≤ x5 + 0) (d2 : x5 + 1 ≤ x11 ∧ x11 ≤ x5 + 4294967296) (fe_0_5_1 : end_0 = end_1) (fe_0_6_1 : next_0 = next_1) (fe_0_8_1 : begin_0 = begin_1) (fe_0_9_1 : number_0 = number_1) (fe_0_5_2 : end_1 = end_2) (fe_0_7_2 : kind_1 = kind_2) (fe_0_8_2 : begin_1 = begin_2) (fe_0_9_2 : number_1 = number_2) (fe_0_5_3 : end_2 = end_3) (fe_0_6_3 : next_2 = next_3) (fe_0_9_3 : number_2 = number_3) (hE_0_0_1 : ∀ j : Int, tape_0 j = tape_1 j) (hE_0_0_2 : ∀ j : Int, tape_1 j = tape_2 j) (hE_0_0_3 : ∀ j : Int, tape_2 j = tape_3 j) (hK_0_0 : ∀ j : Int, 0 ≤ j → j < 2000 → (-128) ≤ tape_0 j ∧ tape_0 j ≤ 127) (kz_0_5 : 0 ≤ end_0 ∧ end_0 ≤ 2000) (kz_0_6 : 0 ≤ next_0 ∧ next_0 ≤ 2000) (kz_0_7 : (-128) ≤ kind_0 ∧ kind_0 ≤ 127) (kz_0_8 : 0 ≤ begin_0 ∧ begin_0 ≤ 2000) (kz_0_9 : (-176) ≤ number_0 ∧ number_0 ≤ 1000000) : ((-1) * kind_0 + 0 ≤ (-3)) ∨ (1 * next_0 + ((-1) * begin_0 + (2000 * kind_0 + 0)) ≤ 4008) := by
  subst fe_0_5_1
  subst fe_0_6_1
  subst fe_0_8_1
  subst fe_0_9_1
  subst fe_0_5_2
  subst fe_0_7_2
  subst fe_0_8_2
  subst fe_0_9_2
  subst fe_0_5_3
  subst fe_0_6_3
  subst fe_0_9_3
  have e_hE_0_0_1 := funext hE_0_0_1; subst e_hE_0_0_1
  have e_hE_0_0_2 := funext hE_0_0_2; subst e_hE_0_0_2
  have e_hE_0_0_3 := funext hE_0_0_3; subst e_hE_0_0_3
  first | with_reducible assumption | ((try and_intros) <;> first | with_reducible assumption | (clear hE_0_0_1 hE_0_0_2 hE_0_0_3 hK_0_0; omega)) | omega
set_option maxHeartbeats 4000000 in
theorem vc_Re_advance_3_3 (x5 : Int) (x11 : Int) (next_0 : Int) (begin_0 : Int) (end_0 : Int) (number_0 : Int) (number_1 : Int) (next_2 : Int) (tape_2 : Int → Int) (number_2 : Int) (end_2 : Int) (number_3 : Int) (tape_3 : Int → Int) (end_3 : Int) (next_3 : Int) (end_1 : Int) (next_1 : Int) (begin_1 : Int) (kind_1 : Int) (kind_2 : Int) (begin_2 : Int) (tape_0 : Int → Int) (tape_1 : Int → Int) (k5 : 1 ≤ x5 ∧ x5 ≤ 1999) (k11 : 2 ≤ x11 ∧ x11 ≤ 2000) (d1 : x5 + (-4294967296) ≤ x11 ∧ x11 ≤ x5 + 0) (d2 : x5 + 1 ≤ x11 ∧ x11 ≤ x5 + 4294967296) (fe_0_5_1 : end_0 = end_1) (fe_0_6_1 : next_0 = next_1) (fe_0_8_1 : begin_0 = begin_1) (fe_0_9_1 : number_0 = number_1) (fe_0_5_2 : end_1 = end_2) (fe_0_7_2 : kind_1 = kind_2) (fe_0_8_2 : begin_1 = begin_2) (fe_0_9_2 : number_1 = number_2) (fe_0_5_3 : end_2 = end_3) (fe_0_6_3 : next_2 = next_3) (fe_0_9_3 : number_2 = number_3) (hE_0_0_1 : ∀ j : Int, tape_0 j = tape_1 j) (hE_0_0_2 : ∀ j : Int, tape_1 j = tape_2 j) (hE_0_0_3 : ∀ j : Int, tape_2 j = tape_3 j) (hK_0_0 : ∀ j : Int, 0 ≤ j → j < 2000 → (-128) ≤ tape_0 j ∧ tape_0 j ≤ 127) (kz_0_5 : 0 ≤ end_0 ∧ end_0 ≤ 2000) (kz_0_6 : 0 ≤ next_0 ∧ next_0 ≤ 2000) (kz_0_8 : 0 ≤ begin_0 ∧ begin_0 ≤ 2000) (kz_0_9 : (-176) ≤ number_0 ∧ number_0 ≤ 1000000) : 1 * begin_0 + ((-1) * next_0 + 0) ≤ 0 := by
  subst fe_0_5_1
  subst fe_0_6_1
  subst fe_0_8_1
  subst fe_0_9_1
  subst fe_0_5_2
  subst fe_0_7_2
  subst fe_0_8_2
  subst fe_0_9_2
  subst fe_0_5_3
  subst fe_0_6_3
  subst fe_0_9_3
  have e_hE_0_0_1 := funext hE_0_0_1; subst e_hE_0_0_1
  have e_hE_0_0_2 := funext hE_0_0_2; subst e_hE_0_0_2
  have e_hE_0_0_3 := funext hE_0_0_3; subst e_hE_0_0_3
  first | with_reducible assumption | ((try and_intros) <;> first | with_reducible assumption | (clear hE_0_0_1 hE_0_0_2 hE_0_0_3 hK_0_0; omega)) | omega
set_option maxHeartbeats 4000000 in
theorem vc_Re_advance_3_4 (x2 : Int) (x4 : Int) (x5 : Int) (x7 : Int) (x11 : Int) (x12 : Int) (x13 : Int) (kind_0 : Int) (next_0 : Int) (begin_0 : Int) (end_0 : Int) (number_0 : Int) (number_1 : Int) (next_2 : Int) (tape_2 : Int → Int) (number_2 : Int) (end_2 : Int) (number_3 : Int) (tape_3 : Int → Int) (end_3 : Int) (next_3 : Int) (end_1 : Int) (next_1 : Int) (begin_1 : Int) (kind_1 : Int) (kind_2 : Int) (begin_2 : Int) (tape_0 : Int → Int) (tape_1 : Int → Int) (k2 : 0 ≤ x2 ∧ x2 ≤ 2000) (k4 : 1 ≤ x4 ∧ x4 ≤ 1999) (k5 : 1 ≤ x5 ∧ x5 ≤ 1999) (k7 : 58 ≤ x7 ∧ x7 ≤ 64) (k11 : 2 ≤ x11 ∧ x11 ≤ 2000) (k12 : 0 ≤ x12 ∧ x12 ≤ 0) (k13 : 1 ≤ x13 ∧ x13 ≤ 1) (d1 : x5 + (-4294967296) ≤ x11 ∧ x11 ≤ x5 + 0) (d2 : x5 + 1 ≤ x11 ∧ x11 ≤ x5 + 4294967296) (g0 : x13 = kind_0) (g1 : x11 = next_0) (g3 : x4 = begin_0) (g4 : x5 = end_0) (f13 : CSG (x7) (x12)) (g20 : x4 = next_2) (h25 : x7 = tape_2 (x4)) (f26 : x4 < x5) (f35 : CX0 (end_3) (next_3) (tape_3) (x2)) (fe_0_5_1 : end_0 = end_1) (fe_0_6_1 : next_0 = next_1) (fe_0_8_1 : begin_0 = begin_1) (fe_0_9_1 : number_0 = number_1) (fe_0_5_2 : end_1 = end_2) (fe_0_7_2 : kind_1 = kind_2) (fe_0_8_2 : begin_1 = begin_2) (fe_0_9_2 : number_1 = number_2) (fe_0_5_3 : end_2 = end_3) (fe_0_6_3 : next_2 = next_3) (fe_0_8_3 : begin_2 = x4) (fe_0_9_3 : number_2 = number_3) (hE_0_0_1 : ∀ j : Int, tape_0 j = tape_1 j) (hE_0_0_2 : ∀ j : Int, tape_1 j = tape_2 j) (hE_0_0_3 : ∀ j : Int, tape_2 j = tape_3 j) (hK_0_0 : ∀ j : Int, 0 ≤ j → j < 2000 → (-128) ≤ tape_0 j ∧ tape_0 j ≤ 127) (kz_0_5 : 0 ≤ end_0 ∧ end_0 ≤ 2000) (kz_0_6 : 0 ≤ next_0 ∧ next_0 ≤ 2000) (kz_0_7 : (-128) ≤ kind_0 ∧ kind_0 ≤ 127) (kz_0_8 : 0 ≤ begin_0 ∧ begin_0 ≤ 2000) (kz_0_9 : (-176) ≤ number_0 ∧ number_0 ≤ 1000000) : TKC (end_0) (next_0) (kind_0) (begin_0) (number_0) (tape_0) (x2) := by
  subst fe_0_5_1
  subst fe_0_6_1
  subst fe_0_8_1
  subst fe_0_9_1
  subst fe_0_5_2
  subst fe_0_7_2
  subst fe_0_8_2
  subst fe_0_9_2
  subst fe_0_5_3
  subst fe_0_6_3
  subst fe_0_9_3
  have e_hE_0_0_1 := funext hE_0_0_1; subst e_hE_0_0_1
  have e_hE_0_0_2 := funext hE_0_0_2; subst e_hE_0_0_2
  have e_hE_0_0_3 := funext hE_0_0_3; subst e_hE_0_0_3
  first | subst g0 | skip
  first | subst g1 | skip
  first | subst g3 | skip
  first | subst g4 | skip
  first | subst g20 | skip
  first
    | exact cxl_e (by assumption) ‹CXL _ _ _ _ _› (fun q => by omega) (by omega)
    | exact cxl_e (by assumption) ‹CXL _ _ _ _ _› (fun q => cnb_f ‹CNBy _ _› (by omega) (by omega)) (by omega)
    | exact cxd_e (by assumption) ‹CXD _ _ _ _ _ _› (fun q => by unfold cIG; omega) (by omega)
    | exact cxs_e (by assumption) (cx_1 (by assumption) ‹CX0 _ _ _ _› (fun q => by omega) (by omega)) (by omega) rfl (by unfold cIL; omega) (by unfold cIG; omega) (by omega) (Or.inl ⟨csg_t ‹CSG _ _› (by omega) (by omega), by omega⟩)
    | exact cxs_e (by assumption) (cx_1 (by assumption) ‹CX0 _ _ _ _› (fun q => by omega) (by omega)) (by omega) rfl (by unfold cIL; omega) (by unfold cIG; omega) (by omega) (Or.inr ⟨csg_f ‹CSG _ _› (by omega) (by omega), by omega⟩)
set_option maxHeartbeats 4000000 in
theorem vc_Re_advance_3_5 (x2 : Int) (x5 : Int) (x11 : Int) (next_0 : Int) (begin_0 : Int) (end_0 : Int) (number_0 : Int) (number_1 : Int) (next_2 : Int) (tape_2 : Int → Int) (number_2 : Int) (end_2 : Int) (number_3 : Int) (tape_3 : Int → Int) (end_3 : Int) (next_3 : Int) (end_1 : Int) (next_1 : Int) (begin_1 : Int) (kind_1 : Int) (kind_2 : Int) (begin_2 : Int) (tape_0 : Int → Int) (tape_1 : Int → Int) (k2 : 0 ≤ x2 ∧ x2 ≤ 2000) (k5 : 1 ≤ x5 ∧ x5 ≤ 1999) (k11 : 2 ≤ x11 ∧ x11 ≤ 2000) (d1 : x5 + (-4294967296) ≤ x11 ∧ x11 ≤ x5 + 0) (d2 : x5 + 1 ≤ x11 ∧ x11 ≤ x5 + 4294967296) (fe_0_5_1 : end_0 = end_1) (fe_0_6_1 : next_0 = next_1) (fe_0_8_1 : begin_0 = begin_1) (fe_0_9_1 : number_0 = number_1) (fe_0_5_2 : end_1 = end_2) (fe_0_7_2 : kind_1 = kind_2) (fe_0_8_2 : begin_1 = begin_2) (fe_0_9_2 : number_1 = number_2) (fe_0_5_3 : end_2 = end_3) (fe_0_6_3 : next_2 = next_3) (fe_0_9_3 : number_2 = number_3) (hE_0_0_1 : ∀ j : Int, tape_0 j = tape_1 j) (hE_0_0_2 : ∀ j : Int, tape_1 j = tape_2 j) (hE_0_0_3 : ∀ j : Int, tape_2 j = tape_3 j) (hK_0_0 : ∀ j : Int, 0 ≤ j → j < 2000 → (-128) ≤ tape_0 j ∧ tape_0 j ≤ 127) (kz_0_5 : 0 ≤ end_0 ∧ end_0 ≤ 2000) (kz_0_6 : 0 ≤ next_0 ∧ next_0 ≤ 2000) (kz_0_8 : 0 ≤ begin_0 ∧ begin_0 ≤ 2000) (kz_0_9 : (-176) ≤ number_0 ∧ number_0 ≤ 1000000) : 1 * x2 + ((-1) * next_0 + 0) ≤ 0 := by
  subst fe_0_5_1
  subst fe_0_6_1
  subst fe_0_8_1
  subst fe_0_9_1
  subst fe_0_5_2
  subst fe_0_7_2
  subst fe_0_8_2
  subst fe_0_9_2
  subst fe_0_5_3
  subst fe_0_6_3
  subst fe_0_9_3
  have e_hE_0_0_1 := funext hE_0_0_1; subst e_hE_0_0_1
  have e_hE_0_0_2 := funext hE_0_0_2; subst e_hE_0_0_2
  have e_hE_0_0_3 := funext hE_0_0_3; subst e_hE_0_0_3
  first | with_reducible assumption | ((try and_intros) <;> first | with_reducible assumption | (clear hE_0_0_1 hE_0_0_2 hE_0_0_3 hK_0_0; omega)) | omega
def o_Re_advance_3 : or_T := (290, 14, [(0, (2, 0, 0, [8])), (1, (0, -2147483648, 1000000, [])), (2, (0, 0, 2000, [])), (3, (2, 0, 0, [8])), (4, (0, 1, 1999, [])), (5, (0, 1, 1999, [])), (6, (2, 0, 0, [109])), (7, (0, 58, 64, [])), (8, (0, 0, 0, [])), (9, (0, 0, 0, [])), (10, (0, 1, 1, [])), (11, (0, 2, 2000, [])), (12, (0, 0, 0, [])), (13, (0, 1, 1, []))], [(9, [13, 3], [7]), (9, [11, 3], [6]), (9, [6, 3], [0]), (9, [4, 3], [8]), (9, [5, 3], [5]), (20, [7, 12], [61, 0, 1100]), (20, [7, 9], [61, 0, 1098]), (20, [7, 8], [61, 0, 1097]), (20, [3, 1], [30, 0, 1, 1, 9, -1, 0, 0]), (20, [3, 1], [30, 0, -1, 1, 9, 1, 0, 0]), (24, [0, 3], []), (101, [3, 13], [7]), (8, [12], [0]), (20, [7, 12], [61, 0, 1100]), (20, [7, 9], [61, 0, 1098]), (20, [7, 8], [61, 0, 1097]), (20, [3, 1], [30, 0, 1, 1, 9, -1, 0, 0]), (20, [3, 1], [30, 0, -1, 1, 9, 1, 0, 0]), (101, [3, 11], [6]), (1, [11, 4, 10], []), (9, [4, 3], [6]), (8, [9], [0]), (20, [7, 9], [61, 0, 1098]), (8, [8], [0]), (20, [7, 8], [61, 0, 1097]), (10, [7, 6, 4], []), (7, [4, 5], [2]), (20, [3, 1], [30, 0, 1, 1, 9, -1, 0, 0]), (20, [3, 1], [30, 0, -1, 1, 9, 1, 0, 0]), (20, [3, 2], [60, 2, 1, 1074, 5, 6, 0]), (20, [2, 3], [30, 0, 1, 0, 0, -1, 1, 6]), (101, [3, 4], [8]), (7, [4, 5], [3]), (20, [3, 1], [30, 0, 1, 1, 9, -1, 0, 0]), (20, [3, 1], [30, 0, -1, 1, 9, 1, 0, 0]), (20, [3, 2], [60, 2, 1, 1074, 5, 6, 0]), (20, [2, 3], [30, 0, 1, 0, 0, -1, 1, 6])], [], [], [(20, [0, 0, 1], [31, 1, 3, 1, 1, 7, 0, 1, 1, 9, -1, 0, 0]), (20, [0, 0, 1], [31, 1, 3, 1, 1, 7, 0, -1, 1, 9, 1, 0, 0]), (20, [0, 0, 0, 0], [31, 1, -3, -1, 1, 7, 4008, 1, 1, 6, -1, 1, 8, 2000, 1, 7]), (20, [0, 0], [30, 0, 1, 1, 8, -1, 1, 6]), (20, [0, 2], [60, 5, 1, 1072, 5, 6, 7, 8, 9, 0]), (20, [2, 0], [30, 0, 1, 0, 0, -1, 1, 6])], [], [(11, 4, 1, 1), (11, 5, -4294967296, 0), (11, 5, 1, 4294967296), (4, 5, -4294967296, -1), (4, 5, 0, 4294967296)])
theorem oo_Re_advance_3 {kA : Nat → ClassId} : or_ok PRD kA GG o_Re_advance_3 := by
  refine or_mk fun A ta ws vs hD hth hl => ?_
  intro t0 r0 t1 k1 t2 k2 t3 r3 t4 k4 t5 k5 t6 r6 t7 k7 t8 k8 t9 k9 t10 k10 t11 k11 t12 k12 t13 k13 d0 d1 d2 d3 d4 f0 f1 f2 f3 f4 f5 f6 f7 f8 f9 f10 ta1 w1 le1 s1 f12 f13 f14 f15 f16 f17 ta2 w2 le2 s2 f19 f20 f21 f22 f23 f24 f25 f26 f27 f28 f29 f30 ta3 w3 le3 s3 f32 f33 f34 f35 f36
  replace f0 := shm_198 f0
  replace f1 := shm_111 f1
  replace f2 := shm_163 f2
  replace f3 := shm_293 f3
  replace f4 := shm_110 f4
  replace f10 := shm_5 f10
  have s1 : (∀ b j, w_el ws b j = w_el w1 b j) ∧ ∀ b j, w_fd ws b j = if b = v_ad (n_v vs 3) ∧ j = 7 then n_v vs 13 else w_fd w1 b j := s1.2
  have s2 : (∀ b j, w_el w1 b j = w_el w2 b j) ∧ ∀ b j, w_fd w1 b j = if b = v_ad (n_v vs 3) ∧ j = 6 then n_v vs 11 else w_fd w2 b j := s2.2
  replace f20 := shm_111 f20
  replace f25 := shm_107 f25
  have s3 : (∀ b j, w_el w2 b j = w_el w3 b j) ∧ ∀ b j, w_fd w2 b j = if b = v_ad (n_v vs 3) ∧ j = 8 then n_v vs 4 else w_fd w3 b j := s3.2
  replace f35 := shm_1526 f35
  have q3 : n_v vs 3 = n_v vs 0 := f10.symm
  simp only [q3] at f0 f1 f2 f3 f4
  rw [q3] at s1
  rw [q3] at s2
  simp only [q3] at f20
  rw [q3] at s3
  simp only [q3] at f35
  have ar_0_0_1 : w_ar w1 (n_v vs 0) 0 = w_ar ws (n_v vs 0) 0 := by show v_ad (w_fd w1 _ _) = v_ad (w_fd ws _ _); rw [s1.2, if_neg (fun e => absurd e.2 (by decide))]
  have ar_0_0_2 : w_ar w2 (n_v vs 0) 0 = w_ar ws (n_v vs 0) 0 := by rw [← ar_0_0_1]; show v_ad (w_fd w2 _ _) = v_ad (w_fd w1 _ _); rw [s2.2, if_neg (fun e => absurd e.2 (by decide))]
  have ar_0_0_3 : w_ar w3 (n_v vs 0) 0 = w_ar ws (n_v vs 0) 0 := by rw [← ar_0_0_2]; show v_ad (w_fd w3 _ _) = v_ad (w_fd w2 _ _); rw [s3.2, if_neg (fun e => absurd e.2 (by decide))]
  have cr_0_0 := fdq_95 hD hth r0
  have ad_6 : v_ad (n_v vs 6) = w_ar ws (n_v vs 0) 0 := congrArg v_ad f2
  have g0 : v_iv (n_v vs 13) = w_fi ws (n_v vs 0) 7 := congrArg v_iv f0
  have g1 : v_iv (n_v vs 11) = w_fi ws (n_v vs 0) 6 := congrArg v_iv f1
  have g3 : v_iv (n_v vs 4) = w_fi ws (n_v vs 0) 8 := congrArg v_iv f3
  have g4 : v_iv (n_v vs 5) = w_fi ws (n_v vs 0) 5 := congrArg v_iv f4
  have g20 : v_iv (n_v vs 4) = w_fi w2 (n_v vs 0) 6 := congrArg v_iv f20
  simp only [ad_6] at f25
  have h25 : v_iv (n_v vs 7) = w_ei w2 (w_ar ws (n_v vs 0) 0) (v_iv (n_v vs 4)) := f25
  simp only [ar_0_0_2, ar_0_0_3] at f35
  have fe_0_5_1 : w_fi ws (n_v vs 0) 5 = w_fi w1 (n_v vs 0) 5 := by show v_iv (w_fd _ _ _) = v_iv (w_fd _ _ _); rw [s1.2, if_neg (fun e => absurd e.2 (by decide))]
  have fe_0_6_1 : w_fi ws (n_v vs 0) 6 = w_fi w1 (n_v vs 0) 6 := by show v_iv (w_fd _ _ _) = v_iv (w_fd _ _ _); rw [s1.2, if_neg (fun e => absurd e.2 (by decide))]
  have fe_0_8_1 : w_fi ws (n_v vs 0) 8 = w_fi w1 (n_v vs 0) 8 := by show v_iv (w_fd _ _ _) = v_iv (w_fd _ _ _); rw [s1.2, if_neg (fun e => absurd e.2 (by decide))]
  have fe_0_9_1 : w_fi ws (n_v vs 0) 9 = w_fi w1 (n_v vs 0) 9 := by show v_iv (w_fd _ _ _) = v_iv (w_fd _ _ _); rw [s1.2, if_neg (fun e => absurd e.2 (by decide))]
  have fe_0_5_2 : w_fi w1 (n_v vs 0) 5 = w_fi w2 (n_v vs 0) 5 := by show v_iv (w_fd _ _ _) = v_iv (w_fd _ _ _); rw [s2.2, if_neg (fun e => absurd e.2 (by decide))]
  have fe_0_7_2 : w_fi w1 (n_v vs 0) 7 = w_fi w2 (n_v vs 0) 7 := by show v_iv (w_fd _ _ _) = v_iv (w_fd _ _ _); rw [s2.2, if_neg (fun e => absurd e.2 (by decide))]
  have fe_0_8_2 : w_fi w1 (n_v vs 0) 8 = w_fi w2 (n_v vs 0) 8 := by show v_iv (w_fd _ _ _) = v_iv (w_fd _ _ _); rw [s2.2, if_neg (fun e => absurd e.2 (by decide))]
  have fe_0_9_2 : w_fi w1 (n_v vs 0) 9 = w_fi w2 (n_v vs 0) 9 := by show v_iv (w_fd _ _ _) = v_iv (w_fd _ _ _); rw [s2.2, if_neg (fun e => absurd e.2 (by decide))]
  have fe_0_5_3 : w_fi w2 (n_v vs 0) 5 = w_fi w3 (n_v vs 0) 5 := by show v_iv (w_fd _ _ _) = v_iv (w_fd _ _ _); rw [s3.2, if_neg (fun e => absurd e.2 (by decide))]
  have fe_0_6_3 : w_fi w2 (n_v vs 0) 6 = w_fi w3 (n_v vs 0) 6 := by show v_iv (w_fd _ _ _) = v_iv (w_fd _ _ _); rw [s3.2, if_neg (fun e => absurd e.2 (by decide))]
  have fe_0_8_3 : w_fi w2 (n_v vs 0) 8 = v_iv (n_v vs 4) := by show v_iv (w_fd _ _ _) = _; rw [s3.2, if_pos ⟨rfl, rfl⟩]
  have fe_0_9_3 : w_fi w2 (n_v vs 0) 9 = w_fi w3 (n_v vs 0) 9 := by show v_iv (w_fd _ _ _) = v_iv (w_fd _ _ _); rw [s3.2, if_neg (fun e => absurd e.2 (by decide))]
  have hE_0_0_1 : ∀ j : Int, w_ei ws (w_ar ws (n_v vs 0) 0) j = w_ei w1 (w_ar ws (n_v vs 0) 0) j := fun j => s1.1 _ _
  have hE_0_0_2 : ∀ j : Int, w_ei w1 (w_ar ws (n_v vs 0) 0) j = w_ei w2 (w_ar ws (n_v vs 0) 0) j := fun j => s2.1 _ _
  have hE_0_0_3 : ∀ j : Int, w_ei w2 (w_ar ws (n_v vs 0) 0) j = w_ei w3 (w_ar ws (n_v vs 0) 0) j := fun j => s3.1 _ _
  have hK_0_0 := elq_33 hD hth cr_0_0
  have kz_0_5 := fdq_207 hD hth r0
  have kz_0_6 := fdq_208 hD hth r0
  have kz_0_7 := fdq_297 hD hth r0
  have kz_0_8 := fdq_99 hD hth r0
  have kz_0_9 := fdq_296 hD hth r0
  have nf0 : fc_1 PRD (20, [0, 0, 1], [31, 1, 3, 1, 1, 7, 0, 1, 1, 9, -1, 0, 0]) ws (vs) := ⟨nf_in hl rfl, sgq_1528 (vc_Re_advance_3_0 (v_iv (n_v vs 1)) (v_iv (n_v vs 5)) (v_iv (n_v vs 11)) (w_fi ws (n_v vs 0) 7) (w_fi ws (n_v vs 0) 6) (w_fi ws (n_v vs 0) 8) (w_fi ws (n_v vs 0) 5) (w_fi ws (n_v vs 0) 9) (w_fi w1 (n_v vs 0) 9) (w_fi w2 (n_v vs 0) 6) (w_ei w2 (w_ar ws (n_v vs 0) 0)) (w_fi w2 (n_v vs 0) 9) (w_fi w2 (n_v vs 0) 5) (w_fi w3 (n_v vs 0) 9) (w_ei w3 (w_ar ws (n_v vs 0) 0)) (w_fi w3 (n_v vs 0) 5) (w_fi w3 (n_v vs 0) 6) (w_fi w1 (n_v vs 0) 5) (w_fi w1 (n_v vs 0) 6) (w_fi w1 (n_v vs 0) 8) (w_fi w1 (n_v vs 0) 7) (w_fi w2 (n_v vs 0) 7) (w_fi w2 (n_v vs 0) 8) (w_ei ws (w_ar ws (n_v vs 0) 0)) (w_ei w1 (w_ar ws (n_v vs 0) 0)) k1 k5 k11 d1 d2 fe_0_5_1 fe_0_6_1 fe_0_8_1 fe_0_9_1 fe_0_5_2 fe_0_7_2 fe_0_8_2 fe_0_9_2 fe_0_5_3 fe_0_6_3 fe_0_9_3 hE_0_0_1 hE_0_0_2 hE_0_0_3 hK_0_0 kz_0_5 kz_0_6 kz_0_7 kz_0_8 kz_0_9)⟩
  have nf1 : fc_1 PRD (20, [0, 0, 1], [31, 1, 3, 1, 1, 7, 0, -1, 1, 9, 1, 0, 0]) ws (vs) := ⟨nf_in hl rfl, sgq_1529 (vc_Re_advance_3_1 (v_iv (n_v vs 1)) (v_iv (n_v vs 5)) (v_iv (n_v vs 11)) (w_fi ws (n_v vs 0) 7) (w_fi ws (n_v vs 0) 6) (w_fi ws (n_v vs 0) 8) (w_fi ws (n_v vs 0) 5) (w_fi ws (n_v vs 0) 9) (w_fi w1 (n_v vs 0) 9) (w_fi w2 (n_v vs 0) 6) (w_ei w2 (w_ar ws (n_v vs 0) 0)) (w_fi w2 (n_v vs 0) 9) (w_fi w2 (n_v vs 0) 5) (w_fi w3 (n_v vs 0) 9) (w_ei w3 (w_ar ws (n_v vs 0) 0)) (w_fi w3 (n_v vs 0) 5) (w_fi w3 (n_v vs 0) 6) (w_fi w1 (n_v vs 0) 5) (w_fi w1 (n_v vs 0) 6) (w_fi w1 (n_v vs 0) 8) (w_fi w1 (n_v vs 0) 7) (w_fi w2 (n_v vs 0) 7) (w_fi w2 (n_v vs 0) 8) (w_ei ws (w_ar ws (n_v vs 0) 0)) (w_ei w1 (w_ar ws (n_v vs 0) 0)) k1 k5 k11 d1 d2 fe_0_5_1 fe_0_6_1 fe_0_8_1 fe_0_9_1 fe_0_5_2 fe_0_7_2 fe_0_8_2 fe_0_9_2 fe_0_5_3 fe_0_6_3 fe_0_9_3 hE_0_0_1 hE_0_0_2 hE_0_0_3 hK_0_0 kz_0_5 kz_0_6 kz_0_7 kz_0_8 kz_0_9)⟩
  have nf2 : fc_1 PRD (20, [0, 0, 0, 0], [31, 1, -3, -1, 1, 7, 4008, 1, 1, 6, -1, 1, 8, 2000, 1, 7]) ws (vs) := ⟨nf_in hl rfl, sgq_1530 (vc_Re_advance_3_2 (v_iv (n_v vs 5)) (v_iv (n_v vs 11)) (w_fi ws (n_v vs 0) 7) (w_fi ws (n_v vs 0) 6) (w_fi ws (n_v vs 0) 8) (w_fi ws (n_v vs 0) 5) (w_fi ws (n_v vs 0) 9) (w_fi w1 (n_v vs 0) 9) (w_fi w2 (n_v vs 0) 6) (w_ei w2 (w_ar ws (n_v vs 0) 0)) (w_fi w2 (n_v vs 0) 9) (w_fi w2 (n_v vs 0) 5) (w_fi w3 (n_v vs 0) 9) (w_ei w3 (w_ar ws (n_v vs 0) 0)) (w_fi w3 (n_v vs 0) 5) (w_fi w3 (n_v vs 0) 6) (w_fi w1 (n_v vs 0) 5) (w_fi w1 (n_v vs 0) 6) (w_fi w1 (n_v vs 0) 8) (w_fi w1 (n_v vs 0) 7) (w_fi w2 (n_v vs 0) 7) (w_fi w2 (n_v vs 0) 8) (w_ei ws (w_ar ws (n_v vs 0) 0)) (w_ei w1 (w_ar ws (n_v vs 0) 0)) k5 k11 d1 d2 fe_0_5_1 fe_0_6_1 fe_0_8_1 fe_0_9_1 fe_0_5_2 fe_0_7_2 fe_0_8_2 fe_0_9_2 fe_0_5_3 fe_0_6_3 fe_0_9_3 hE_0_0_1 hE_0_0_2 hE_0_0_3 hK_0_0 kz_0_5 kz_0_6 kz_0_7 kz_0_8 kz_0_9)⟩
  have nf3 : fc_1 PRD (20, [0, 0], [30, 0, 1, 1, 8, -1, 1, 6]) ws (vs) := ⟨nf_in hl rfl, sgq_1531 (vc_Re_advance_3_3 (v_iv (n_v vs 5)) (v_iv (n_v vs 11)) (w_fi ws (n_v vs 0) 6) (w_fi ws (n_v vs 0) 8) (w_fi ws (n_v vs 0) 5) (w_fi ws (n_v vs 0) 9) (w_fi w1 (n_v vs 0) 9) (w_fi w2 (n_v vs 0) 6) (w_ei w2 (w_ar ws (n_v vs 0) 0)) (w_fi w2 (n_v vs 0) 9) (w_fi w2 (n_v vs 0) 5) (w_fi w3 (n_v vs 0) 9) (w_ei w3 (w_ar ws (n_v vs 0) 0)) (w_fi w3 (n_v vs 0) 5) (w_fi w3 (n_v vs 0) 6) (w_fi w1 (n_v vs 0) 5) (w_fi w1 (n_v vs 0) 6) (w_fi w1 (n_v vs 0) 8) (w_fi w1 (n_v vs 0) 7) (w_fi w2 (n_v vs 0) 7) (w_fi w2 (n_v vs 0) 8) (w_ei ws (w_ar ws (n_v vs 0) 0)) (w_ei w1 (w_ar ws (n_v vs 0) 0)) k5 k11 d1 d2 fe_0_5_1 fe_0_6_1 fe_0_8_1 fe_0_9_1 fe_0_5_2 fe_0_7_2 fe_0_8_2 fe_0_9_2 fe_0_5_3 fe_0_6_3 fe_0_9_3 hE_0_0_1 hE_0_0_2 hE_0_0_3 hK_0_0 kz_0_5 kz_0_6 kz_0_8 kz_0_9)⟩
  have nf4 : fc_1 PRD (20, [0, 2], [60, 5, 1, 1072, 5, 6, 7, 8, 9, 0]) ws (vs) := ⟨nf_in hl rfl, sgq_1532 (vc_Re_advance_3_4 (v_iv (n_v vs 2)) (v_iv (n_v vs 4)) (v_iv (n_v vs 5)) (v_iv (n_v vs 7)) (v_iv (n_v vs 11)) (v_iv (n_v vs 12)) (v_iv (n_v vs 13)) (w_fi ws (n_v vs 0) 7) (w_fi ws (n_v vs 0) 6) (w_fi ws (n_v vs 0) 8) (w_fi ws (n_v vs 0) 5) (w_fi ws (n_v vs 0) 9) (w_fi w1 (n_v vs 0) 9) (w_fi w2 (n_v vs 0) 6) (w_ei w2 (w_ar ws (n_v vs 0) 0)) (w_fi w2 (n_v vs 0) 9) (w_fi w2 (n_v vs 0) 5) (w_fi w3 (n_v vs 0) 9) (w_ei w3 (w_ar ws (n_v vs 0) 0)) (w_fi w3 (n_v vs 0) 5) (w_fi w3 (n_v vs 0) 6) (w_fi w1 (n_v vs 0) 5) (w_fi w1 (n_v vs 0) 6) (w_fi w1 (n_v vs 0) 8) (w_fi w1 (n_v vs 0) 7) (w_fi w2 (n_v vs 0) 7) (w_fi w2 (n_v vs 0) 8) (w_ei ws (w_ar ws (n_v vs 0) 0)) (w_ei w1 (w_ar ws (n_v vs 0) 0)) k2 k4 k5 k7 k11 k12 k13 d1 d2 g0 g1 g3 g4 (shm_454 f13) g20 h25 (shm_6 f26) f35 fe_0_5_1 fe_0_6_1 fe_0_8_1 fe_0_9_1 fe_0_5_2 fe_0_7_2 fe_0_8_2 fe_0_9_2 fe_0_5_3 fe_0_6_3 fe_0_8_3 fe_0_9_3 hE_0_0_1 hE_0_0_2 hE_0_0_3 hK_0_0 kz_0_5 kz_0_6 kz_0_7 kz_0_8 kz_0_9)⟩
  have nf5 : fc_1 PRD (20, [2, 0], [30, 0, 1, 0, 0, -1, 1, 6]) ws (vs) := ⟨nf_in hl rfl, sgq_1527 (vc_Re_advance_3_5 (v_iv (n_v vs 2)) (v_iv (n_v vs 5)) (v_iv (n_v vs 11)) (w_fi ws (n_v vs 0) 6) (w_fi ws (n_v vs 0) 8) (w_fi ws (n_v vs 0) 5) (w_fi ws (n_v vs 0) 9) (w_fi w1 (n_v vs 0) 9) (w_fi w2 (n_v vs 0) 6) (w_ei w2 (w_ar ws (n_v vs 0) 0)) (w_fi w2 (n_v vs 0) 9) (w_fi w2 (n_v vs 0) 5) (w_fi w3 (n_v vs 0) 9) (w_ei w3 (w_ar ws (n_v vs 0) 0)) (w_fi w3 (n_v vs 0) 5) (w_fi w3 (n_v vs 0) 6) (w_fi w1 (n_v vs 0) 5) (w_fi w1 (n_v vs 0) 6) (w_fi w1 (n_v vs 0) 8) (w_fi w1 (n_v vs 0) 7) (w_fi w2 (n_v vs 0) 7) (w_fi w2 (n_v vs 0) 8) (w_ei ws (w_ar ws (n_v vs 0) 0)) (w_ei w1 (w_ar ws (n_v vs 0) 0)) k2 k5 k11 d1 d2 fe_0_5_1 fe_0_6_1 fe_0_8_1 fe_0_9_1 fe_0_5_2 fe_0_7_2 fe_0_8_2 fe_0_9_2 fe_0_5_3 fe_0_6_3 fe_0_9_3 hE_0_0_1 hE_0_0_2 hE_0_0_3 hK_0_0 kz_0_5 kz_0_6 kz_0_8 kz_0_9)⟩
  refine ⟨(fun _ h => (by cases h)), [], trivial, ?_, (fun _ h => (by cases h))⟩
  rw [List.append_nil]
  exact List.forall_mem_cons.mpr ⟨⟨show (20 : Nat) < 100 from by decide, nf0⟩, List.forall_mem_cons.mpr ⟨⟨show (20 : Nat) < 100 from by decide, nf1⟩, List.forall_mem_cons.mpr ⟨⟨show (20 : Nat) < 100 from by decide, nf2⟩, List.forall_mem_cons.mpr ⟨⟨show (20 : Nat) < 100 from by decide, nf3⟩, List.forall_mem_cons.mpr ⟨⟨show (20 : Nat) < 100 from by decide, nf4⟩, List.forall_mem_cons.mpr ⟨⟨show (20 : Nat) < 100 from by decide, nf5⟩, (fun _ h => (by cases h))⟩⟩⟩⟩⟩⟩
set_option maxHeartbeats 4000000 in
theorem vc_Re_advance_4_0 (x1 : Int) (x5 : Int) (x11 : Int) (kind_0 : Int) (next_0 : Int) (begin_0 : Int) (end_0 : Int) (number_0 : Int) (number_1 : Int) (next_2 : Int) (tape_2 : Int → Int) (number_2 : Int) (end_2 : Int) (number_3 : Int) (tape_3 : Int → Int) (end_3 : Int) (next_3 : Int) (end_1 : Int) (next_1 : Int) (begin_1 : Int) (kind_1 : Int) (kind_2 : Int) (begin_2 : Int) (tape_0 : Int → Int) (tape_1 : Int → Int) (k1 : (-2147483648) ≤ x1 ∧ x1 ≤ 1000000) (k5 : 1 ≤ x5 ∧ x5 ≤ 1999) (k11 : 2 ≤ x11 ∧ x11 ≤ 2000) (d1 : x5 + (-4294967296) ≤ x11 ∧ x11 ≤ x5 + 0) (d2 : x5 + 1 ≤ x11 ∧ x11 ≤ x5 + 4294967296) (fe_0_5_1 : end_0 = end_1) (fe_0_6_1 : next_0 = next_1) (fe_0_8_1 : begin_0 = begin_1) (fe_0_9_1 : number_0 = number_1) (fe_0_5_2 : end_1 = end_2) (fe_0_7_2 : kind_1 = kind_2) (fe_0_8_2 : begin_1 = begin_2) (fe_0_9_2 : number_1 = number_2) (fe_0_5_3 : end_2 = end_3) (fe_0_6_3 : next_2 = next_3) (fe_0_9_3 : number_2 = number_3) (hE_0_0_1 : ∀ j : Int, tape_0 j = tape_1 j) (hE_0_0_2 : ∀ j : Int, tape_1 j = tape_2 j) (hE_0_0_3 : ∀ j : Int, tape_2 j = tape_3 j) (hK_0_0 : ∀ j : Int, 0 ≤ j → j < 2000 → (-128) ≤ tape_0 j ∧ tape_0 j ≤ 127) (kz_0_5 : 0 ≤ end_0 ∧ end_0 ≤ 2000) (kz_0_6 : 0 ≤ next_0 ∧ next_0 ≤ 2000) (kz_0_7 : (-128) ≤ kind_0 ∧ kind_0 ≤ 127) (kz_0_8 : 0 ≤ begin_0 ∧ begin_0 ≤ 2000) (kz_0_9 : (-176) ≤ number_0 ∧ number_0 ≤ 1000000) : (1 * kind_0 + 0 ≤ 3) ∨ (1 * number_0 + ((-1) * x1 + 0) ≤ 0) := by
  subst fe_0_5_1
  subst fe_0_6_1
  subst fe_0_8_1
  subst fe_0_9_1
  subst fe_0_5_2
  subst fe_0_7_2
  subst fe_0_8_2
  subst fe_0_9_2
  subst fe_0_5_3
  subst fe_0_6_3
  subst fe_0_9_3
  have e_hE_0_0_1 := funext hE_0_0_1; subst e_hE_0_0_1
  have e_hE_0_0_2 := funext hE_0_0_2; subst e_hE_0_0_2
  have e_hE_0_0_3 := funext hE_0_0_3; subst e_hE_0_0_3
  first | with_reducible assumption | ((try and_intros) <;> first | with_reducible assumption | (clear hE_0_0_1 hE_0_0_2 hE_0_0_3 hK_0_0; omega)) | omega
set_option maxHeartbeats 4000000 in
theorem vc_Re_advance_4_1 (x1 : Int) (x5 : Int) (x11 : Int) (kind_0 : Int) (next_0 : Int) (begin_0 : Int) (end_0 : Int) (number_0 : Int) (number_1 : Int) (next_2 : Int) (tape_2 : Int → Int) (number_2 : Int) (end_2 : Int) (number_3 : Int) (tape_3 : Int → Int) (end_3 : Int) (next_3 : Int) (end_1 : Int) (next_1 : Int) (begin_1 : Int) (kind_1 : Int) (kind_2 : Int) (begin_2 : Int) (tape_0 : Int → Int) (tape_1 : Int → Int) (k1 : (-2147483648) ≤ x1 ∧ x1 ≤ 1000000) (k5 : 1 ≤ x5 ∧ x5 ≤ 1999) (k11 : 2 ≤ x11 ∧ x11 ≤ 2000) (d1 : x5 + (-4294967296) ≤ x11 ∧ x11 ≤ x5 + 0) (d2 : x5 + 1 ≤ x11 ∧ x11 ≤ x5 + 4294967296) (fe_0_5_1 : end_0 = end_1) (fe_0_6_1 : next_0 = next_1) (fe_0_8_1 : begin_0 = begin_1) (fe_0_9_1 : number_0 = number_1) (fe_0_5_2 : end_1 = end_2) (fe_0_7_2 : kind_1 = kind_2) (fe_0_8_2 : begin_1 = begin_2) (fe_0_9_2 : number_1 = number_2) (fe_0_5_3 : end_2 = end_3) (fe_0_6_3 : next_2 = next_3) (fe_0_9_3 : number_2 = number_3) (hE_0_0_1 : ∀ j : Int, tape_0 j = tape_1 j) (hE_0_0_2 : ∀ j : Int, tape_1 j = tape_2 j) (hE_0_0_3 : ∀ j : Int, tape_2 j = tape_3 j) (hK_0_0 : ∀ j : Int, 0 ≤ j → j < 2000 → (-128) ≤ tape_0 j ∧ tape_0 j ≤ 127) (kz_0_5 : 0 ≤ end_0 ∧ end_0 ≤ 2000) (kz_0_6 : 0 ≤ next_0 ∧ next_0 ≤ 2000) (kz_0_7 : (-128) ≤ kind_0 ∧ kind_0 ≤ 127) (kz_0_8 : 0 ≤ begin_0 ∧ begin_0 ≤ 2000) (kz_0_9 : (-176) ≤ number_0 ∧ number_0 ≤ 1000000) : (1 * kind_0 + 0 ≤ 3) ∨ ((-1) * number_0 + (1 * x1 + 0) ≤ 0) := by
  subst fe_0_5_1
  subst fe_0_6_1
  subst fe_0_8_1
  subst fe_0_9_1
  subst fe_0_5_2
  subst fe_0_7_2
  subst fe_0_8_2
  subst fe_0_9_2
  subst fe_0_5_3
  subst fe_0_6_3
  subst fe_0_9_3
  have e_hE_0_0_1 := funext hE_0_0_1; subst e_hE_0_0_1
  have e_hE_0_0_2 := funext hE_0_0_2; subst e_hE_0_0_2
  have e_hE_0_0_3 := funext hE_0_0_3; subst e_hE_0_0_3
  first | with_reducible assumption | ((try and_intros) <;> first | with_reducible assumption | (clear hE_0_0_1 hE_0_0_2 hE_0_0_3 hK_0_0; omega)) | omega
set_option maxHeartbeats 4000000 in
theorem vc_Re_advance_4_2 (x5 : Int) (x11 : Int) (kind_0 : Int) (next_0 : Int) (begin_0 : Int) (end_0 : Int) (number_0 : Int) (number_1 : Int) (next_2 : Int) (tape_2 : Int → Int) (number_2 : Int) (end_2 : Int) (number_3 : Int) (tape_3 : Int → Int) (end_3 : Int) (next_3 : Int) (end_1 : Int) (next_1 : Int) (begin_1 : Int) (kind_1 : Int) (kind_2 : Int) (begin_2 : Int) (tape_0 : Int → Int) (tape_1 : Int → Int) (k5 : 1 ≤ x5 ∧ x5 ≤ 1999) (k11 : 2 ≤ x11 ∧ x11 ≤ 2000) (d1 : x5 + (-4294967296) ≤ x11 ∧ x11 ≤ x5 + 0) (d2 : x5 + 1 ≤ x11 ∧ x11 ≤ x5 + 4294967296) (fe_0_5_1 : end_0 = end_1) (fe_0_6_1 : next_0 = next_1) (fe_0_8_1 : begin_0 = begin_1) (fe_0_9_1 : number_0 = number_1) (fe_0_5_2 : end_1 = end_2) (fe_0_7_2 : kind_1 = kind_2) (fe_0_8_2 : begin_1 = begin_2) (fe_0_9_2 : number_1 = number_2) (fe_0_5_3 : end_2 = end_3) (fe_0_6_3 : next_2 = next_3) (fe_0_9_3 : number_2 = number_3) (hE_0_0_1 : ∀ j : Int, tape_0 j = tape_1 j) (hE_0_0_2 : ∀ j : Int, tape_1 j = tape_2 j) (hE_0_0_3 : ∀ j : Int, tape_2 j = tape_3 j) (hK_0_0 : ∀ j : Int, 0 ≤ j → j < 2000 → (-128) ≤ tape_0 j ∧ tape_0 j ≤ 127) (kz_0_5 : 0 ≤ end_0 ∧ end_0 ≤ 2000) (kz_0_6 : 0 ≤ next_0 ∧ next_0 ≤ 2000) (kz_0_7 : (-128) ≤ kind_0 ∧ kind_0 ≤ 127) (kz_0_8 : 0 ≤ begin_0 ∧ begin_0 ≤ 2000) (kz_0_9 : (-176) ≤ number_0 ∧ number_0 ≤ 1000000) : ((-1) * kind_0 + 0 ≤ (-3)) ∨ (1 * next_0 + ((-1) * begin_0 + (2000 * kind_0 + 0)) ≤ 4008) := by
  subst fe_0_5_1
  subst fe_0_6_1
  subst fe_0_8_1
  subst fe_0_9_1
  subst fe_0_5_2
  subst fe_0_7_2
  subst fe_0_8_2
  subst fe_0_9_2
  subst fe_0_5_3
  subst fe_0_6_3
  subst fe_0_9_3
  have e_hE_0_0_1 := funext hE_0_0_1; subst e_hE_0_0_1
  have e_hE_0_0_2 := funext hE_0_0_2; subst e_hE_0_0_2
  have e_hE_0_0_3 := funext hE_0_0_3; subst e_hE_0_0_3
  first | with_reducible assumption | ((try and_intros) <;> first | with_reducible assumption | (clear hE_0_0_1 hE_0_0_2 hE_0_0_3 hK_0_0; omega)) | omega
set_option maxHeartbeats 4000000 in
theorem vc_Re_advance_4_3 (x5 : Int) (x11 : Int) (next_0 : Int) (begin_0 : Int) (end_0 : Int) (number_0 : Int) (number_1 : Int) (next_2 : Int) (tape_2 : Int → Int) (number_2 : Int) (end_2 : Int) (number_3 : Int) (tape_3 : Int → Int) (end_3 : Int) (next_3 : Int) (end_1 : Int) (next_1 : Int) (begin_1 : Int) (kind_1 : Int) (kind_2 : Int) (begin_2 : Int) (tape_0 : Int → Int) (tape_1 : Int → Int) (k5 : 1 ≤ x5 ∧ x5 ≤ 1999) (k11 : 2 ≤ x11 ∧ x11 ≤ 2000) (d1 : x5 + (-4294967296) ≤ x11 ∧ x11 ≤ x5 + 0) (d2 : x5 + 1 ≤ x11 ∧ x11 ≤ x5 + 4294967296) (fe_0_5_1 : end_0 = end_1) (fe_0_6_1 : next_0 = next_1) (fe_0_8_1 : begin_0 = begin_1) (fe_0_9_1 : number_0 = number_1) (fe_0_5_2 : end_1 = end_2) (fe_0_7_2 : kind_1 = kind_2) (fe_0_8_2 : begin_1 = begin_2) (fe_0_9_2 : number_1 = number_2) (fe_0_5_3 : end_2 = end_3) (fe_0_6_3 : next_2 = next_3) (fe_0_9_3 : number_2 = number_3) (hE_0_0_1 : ∀ j : Int, tape_0 j = tape_1 j) (hE_0_0_2 : ∀ j : Int, tape_1 j = tape_2 j) (hE_0_0_3 : ∀ j : Int, tape_2 j = tape_3 j) (hK_0_0 : ∀ j : Int, 0 ≤ j → j < 2000 → (-128) ≤ tape_0 j ∧ tape_0 j ≤ 127) (kz_0_5 : 0 ≤ end_0 ∧ end_0 ≤ 2000) (kz_0_6 : 0 ≤ next_0 ∧ next_0 ≤ 2000) (kz_0_8 : 0 ≤ begin_0 ∧ begin_0 ≤ 2000) (kz_0_9 : (-176) ≤ number_0 ∧ number_0 ≤ 1000000) : 1 * begin_0 + ((-1) * next_0 + 0) ≤ 0 := by
  subst fe_0_5_1
  subst fe_0_6_1
  subst fe_0_8_1
  subst fe_0_9_1
  subst fe_0_5_2
  subst fe_0_7_2
  subst fe_0_8_2
  subst fe_0_9_2
  subst fe_0_5_3
  subst fe_0_6_3
  subst fe_0_9_3
  have e_hE_0_0_1 := funext hE_0_0_1; subst e_hE_0_0_1
  have e_hE_0_0_2 := funext hE_0_0_2; subst e_hE_0_0_2
  have e_hE_0_0_3 := funext hE_0_0_3; subst e_hE_0_0_3
  first | with_reducible assumption | ((try and_intros) <;> first | with_reducible assumption | (clear hE_0_0_1 hE_0_0_2 hE_0_0_3 hK_0_0; omega)) | omega
set_option maxHeartbeats 4000000 in
theorem vc_Re_advance_4_4 (x2 : Int) (x4 : Int) (x5 : Int) (x7 : Int) (x11 : Int) (x12 : Int) (kind_0 : Int) (next_0 : Int) (begin_0 : Int) (end_0 : Int) (number_0 : Int) (number_1 : Int) (next_2 : Int) (tape_2 : Int → Int) (number_2 : Int) (end_2 : Int) (number_3 : Int) (tape_3 : Int → Int) (end_3 : Int) (next_3 : Int) (end_1 : Int) (next_1 : Int) (begin_1 : Int) (kind_1 : Int) (kind_2 : Int) (begin_2 : Int) (tape_0 : Int → Int) (tape_1 : Int → Int) (k2 : 0 ≤ x2 ∧ x2 ≤ 2000) (k4 : 1 ≤ x4 ∧ x4 ≤ 1999) (k5 : 1 ≤ x5 ∧ x5 ≤ 1999) (k7 : 58 ≤ x7 ∧ x7 ≤ 64) (k11 : 2 ≤ x11 ∧ x11 ≤ 2000) (k12 : 1 ≤ x12 ∧ x12 ≤ 1) (d1 : x5 + (-4294967296) ≤ x11 ∧ x11 ≤ x5 + 0) (d2 : x5 + 1 ≤ x11 ∧ x11 ≤ x5 + 4294967296) (g0 : x7 = kind_0) (g1 : x11 = next_0) (g3 : x4 = begin_0) (g4 : x5 = end_0) (f12 : x12 ≠ 0) (f13 : CSG (x7) (x12)) (g20 : x4 = next_2) (h25 : x7 = tape_2 (x4)) (f26 : x4 < x5) (f35 : CX0 (end_3) (next_3) (tape_3) (x2)) (fe_0_5_1 : end_0 = end_1) (fe_0_6_1 : next_0 = next_1) (fe_0_8_1 : begin_0 = begin_1) (fe_0_9_1 : number_0 = number_1) (fe_0_5_2 : end_1 = end_2) (fe_0_7_2 : kind_1 = kind_2) (fe_0_8_2 : begin_1 = begin_2) (fe_0_9_2 : number_1 = number_2) (fe_0_5_3 : end_2 = end_3) (fe_0_6_3 : next_2 = next_3) (fe_0_8_3 : begin_2 = x4) (fe_0_9_3 : number_2 = number_3) (hE_0_0_1 : ∀ j : Int, tape_0 j = tape_1 j) (hE_0_0_2 : ∀ j : Int, tape_1 j = tape_2 j) (hE_0_0_3 : ∀ j : Int, tape_2 j = tape_3 j) (hK_0_0 : ∀ j : Int, 0 ≤ j → j < 2000 → (-128) ≤ tape_0 j ∧ tape_0 j ≤ 127) (kz_0_5 : 0 ≤ end_0 ∧ end_0 ≤ 2000) (kz_0_6 : 0 ≤ next_0 ∧ next_0 ≤ 2000) (kz_0_7 : (-128) ≤ kind_0 ∧ kind_0 ≤ 127) (kz_0_8 : 0 ≤ begin_0 ∧ begin_0 ≤ 2000) (kz_0_9 : (-176) ≤ number_0 ∧ number_0 ≤ 1000000) : TKC (end_0) (next_0) (kind_0) (begin_0) (number_0) (tape_0) (x2) := by
  subst fe_0_5_1
  subst fe_0_6_1
  subst fe_0_8_1
  subst fe_0_9_1
  subst fe_0_5_2
  subst fe_0_7_2
  subst fe_0_8_2
  subst fe_0_9_2
  subst fe_0_5_3
  subst fe_0_6_3
  subst fe_0_9_3
  have e_hE_0_0_1 := funext hE_0_0_1; subst e_hE_0_0_1
  have e_hE_0_0_2 := funext hE_0_0_2; subst e_hE_0_0_2
  have e_hE_0_0_3 := funext hE_0_0_3; subst e_hE_0_0_3
  first | subst g0 | skip
  first | subst g1 | skip
  first | subst g3 | skip
  first | subst g4 | skip
  first | subst g20 | skip
  first
    | exact cxl_e (by assumption) ‹CXL _ _ _ _ _› (fun q => by omega) (by omega)
    | exact cxl_e (by assumption) ‹CXL _ _ _ _ _› (fun q => cnb_f ‹CNBy _ _› (by omega) (by omega)) (by omega)
    | exact cxd_e (by assumption) ‹CXD _ _ _ _ _ _› (fun q => by unfold cIG; omega) (by omega)
    | exact cxs_e (by assumption) (cx_1 (by assumption) ‹CX0 _ _ _ _› (fun q => by omega) (by omega)) (by omega) rfl (by unfold cIL; omega) (by unfold cIG; omega) (by omega) (Or.inl ⟨csg_t ‹CSG _ _› (by omega) (by omega), by omega⟩)
    | exact cxs_e (by assumption) (cx_1 (by assumption) ‹CX0 _ _ _ _› (fun q => by omega) (by omega)) (by omega) rfl (by unfold cIL; omega) (by unfold cIG; omega) (by omega) (Or.inr ⟨csg_f ‹CSG _ _› (by omega) (by omega), by omega⟩)
set_option maxHeartbeats 4000000 in
theorem vc_Re_advance_4_5 (x2 : Int) (x5 : Int) (x11 : Int) (next_0 : Int) (begin_0 : Int) (end_0 : Int) (number_0 : Int) (number_1 : Int) (next_2 : Int) (tape_2 : Int → Int) (number_2 : Int) (end_2 : Int) (number_3 : Int) (tape_3 : Int → Int) (end_3 : Int) (next_3 : Int) (end_1 : Int) (next_1 : Int) (begin_1 : Int) (kind_1 : Int) (kind_2 : Int) (begin_2 : Int) (tape_0 : Int → Int) (tape_1 : Int → Int) (k2 : 0 ≤ x2 ∧ x2 ≤ 2000) (k5 : 1 ≤ x5 ∧ x5 ≤ 1999) (k11 : 2 ≤ x11 ∧ x11 ≤ 2000) (d1 : x5 + (-4294967296) ≤ x11 ∧ x11 ≤ x5 + 0) (d2 : x5 + 1 ≤ x11 ∧ x11 ≤ x5 + 4294967296) (fe_0_5_1 : end_0 = end_1) (fe_0_6_1 : next_0 = next_1) (fe_0_8_1 : begin_0 = begin_1) (fe_0_9_1 : number_0 = number_1) (fe_0_5_2 : end_1 = end_2) (fe_0_7_2 : kind_1 = kind_2) (fe_0_8_2 : begin_1 = begin_2) (fe_0_9_2 : number_1 = number_2) (fe_0_5_3 : end_2 = end_3) (fe_0_6_3 : next_2 = next_3) (fe_0_9_3 : number_2 = number_3) (hE_0_0_1 : ∀ j : Int, tape_0 j = tape_1 j) (hE_0_0_2 : ∀ j : Int, tape_1 j = tape_2 j) (hE_0_0_3 : ∀ j : Int, tape_2 j = tape_3 j) (hK_0_0 : ∀ j : Int, 0 ≤ j → j < 2000 → (-128) ≤ tape_0 j ∧ tape_0 j ≤ 127) (kz_0_5 : 0 ≤ end_0 ∧ end_0 ≤ 2000) (kz_0_6 : 0 ≤ next_0 ∧ next_0 ≤ 2000) (kz_0_8 : 0 ≤ begin_0 ∧ begin_0 ≤ 2000) (kz_0_9 : (-176) ≤ number_0 ∧ number_0 ≤ 1000000) : 1 * x2 + ((-1) * next_0 + 0) ≤ 0 := by
  subst fe_0_5_1
  subst fe_0_6_1
  subst fe_0_8_1
  subst fe_0_9_1
  subst fe_0_5_2
  subst fe_0_7_2
  subst fe_0_8_2
  subst fe_0_9_2
  subst fe_0_5_3
  subst fe_0_6_3
  subst fe_0_9_3
  have e_hE_0_0_1 := funext hE_0_0_1; subst e_hE_0_0_1
  have e_hE_0_0_2 := funext hE_0_0_2; subst e_hE_0_0_2
  have e_hE_0_0_3 := funext hE_0_0_3; subst e_hE_0_0_3
  first | with_reducible assumption | ((try and_intros) <;> first | with_reducible assumption | (clear hE_0_0_1 hE_0_0_2 hE_0_0_3 hK_0_0; omega)) | omega
def o_Re_advance_4 : or_T := (290, 13, [(0, (2, 0, 0, [8])), (1, (0, -2147483648, 1000000, [])), (2, (0, 0, 2000, [])), (3, (2, 0, 0, [8])), (4, (0, 1, 1999, [])), (5, (0, 1, 1999, [])), (6, (2, 0, 0, [109])), (7, (0, 58, 64, [])), (8, (0, 0, 0, [])), (9, (0, 0, 0, [])), (10, (0, 1, 1, [])), (11, (0, 2, 2000, [])), (12, (0, 1, 1, []))], [(9, [7, 3], [7]), (9, [11, 3], [6]), (9, [6, 3], [0]), (9, [4, 3], [8]), (9, [5, 3], [5]), (20, [7, 12], [61, 0, 1100]), (20, [7, 9], [61, 0, 1098]), (20, [7, 8], [61, 0, 1097]), (20, [3, 1], [30, 0, 1, 1, 9, -1, 0, 0]), (20, [3, 1], [30, 0, -1, 1, 9, 1, 0, 0]), (24, [0, 3], []), (101, [3, 7], [7]), (8, [12], [1]), (20, [7, 12], [61, 0, 1100]), (20, [7, 9], [61, 0, 1098]), (20, [7, 8], [61, 0, 1097]), (20, [3, 1], [30, 0, 1, 1, 9, -1, 0, 0]), (20, [3, 1], [30, 0, -1, 1, 9, 1, 0, 0]), (101, [3, 11], [6]), (1, [11, 4, 10], []), (9, [4, 3], [6]), (8, [9], [0]), (20, [7, 9], [61, 0, 1098]), (8, [8], [0]), (20, [7, 8], [61, 0, 1097]), (10, [7, 6, 4], []), (7, [4, 5], [2]), (20, [3, 1], [30, 0, 1, 1, 9, -1, 0, 0]), (20, [3, 1], [30, 0, -1, 1, 9, 1, 0, 0]), (20, [3, 2], [60, 2, 1, 1074, 5, 6, 0]), (20, [2, 3], [30, 0, 1, 0, 0, -1, 1, 6]), (101, [3, 4], [8]), (7, [4, 5], [3]), (20, [3, 1], [30, 0, 1, 1, 9, -1, 0, 0]), (20, [3, 1], [30, 0, -1, 1, 9, 1, 0, 0]), (20, [3, 2], [60, 2, 1, 1074, 5, 6, 0]), (20, [2, 3], [30, 0, 1, 0, 0, -1, 1, 6])], [], [], [(20, [0, 0, 1], [31, 1, 3, 1, 1, 7, 0, 1, 1, 9, -1, 0, 0]), (20, [0, 0, 1], [31, 1, 3, 1, 1, 7, 0, -1, 1, 9, 1, 0, 0]), (20, [0, 0, 0, 0], [31, 1, -3, -1, 1, 7, 4008, 1, 1, 6, -1, 1, 8, 2000, 1, 7]), (20, [0, 0], [30, 0, 1, 1, 8, -1, 1, 6]), (20, [0, 2], [60, 5, 1, 1072, 5, 6, 7, 8, 9, 0]), (20, [2, 0], [30, 0, 1, 0, 0, -1, 1, 6])], [], [(11, 4, 1, 1), (11, 5, -4294967296, 0), (11, 5, 1, 4294967296), (4, 5, -4294967296, -1), (4, 5, 0, 4294967296)])
theorem oo_Re_advance_4 {kA : Nat → ClassId} : or_ok PRD kA GG o_Re_advance_4 := by
  refine or_mk fun A ta ws vs hD hth hl => ?_
  intro t0 r0 t1 k1 t2 k2 t3 r3 t4 k4 t5 k5 t6 r6 t7 k7 t8 k8 t9 k9 t10 k10 t11 k11 t12 k12 d0 d1 d2 d3 d4 f0 f1 f2 f3 f4 f5 f6 f7 f8 f9 f10 ta1 w1 le1 s1 f12 f13 f14 f15 f16 f17 ta2 w2 le2 s2 f19 f20 f21 f22 f23 f24 f25 f26 f27 f28 f29 f30 ta3 w3 le3 s3 f32 f33 f34 f35 f36
  replace f0 := shm_198 f0
  replace f1 := shm_111 f1
  replace f2 := shm_163 f2
  replace f3 := shm_293 f3
  replace f4 := shm_110 f4
  replace f10 := shm_5 f10
  have s1 : (∀ b j, w_el ws b j = w_el w1 b j) ∧ ∀ b j, w_fd ws b j = if b = v_ad (n_v vs 3) ∧ j = 7 then n_v vs 7 else w_fd w1 b j := s1.2
  have s2 : (∀ b j, w_el w1 b j = w_el w2 b j) ∧ ∀ b j, w_fd w1 b j = if b = v_ad (n_v vs 3) ∧ j = 6 then n_v vs 11 else w_fd w2 b j := s2.2
  replace f20 := shm_111 f20
  replace f25 := shm_107 f25
  have s3 : (∀ b j, w_el w2 b j = w_el w3 b j) ∧ ∀ b j, w_fd w2 b j = if b = v_ad (n_v vs 3) ∧ j = 8 then n_v vs 4 else w_fd w3 b j := s3.2
  replace f35 := shm_1526 f35
  have q3 : n_v vs 3 = n_v vs 0 := f10.symm
  simp only [q3] at f0 f1 f2 f3 f4
  rw [q3] at s1
  rw [q3] at s2
  simp only [q3] at f20
  rw [q3] at s3
  simp only [q3] at f35
  have ar_0_0_1 : w_ar w1 (n_v vs 0) 0 = w_ar ws (n_v vs 0) 0 := by show v_ad (w_fd w1 _ _) = v_ad (w_fd ws _ _); rw [s1.2, if_neg (fun e => absurd e.2 (by decide))]
  have ar_0_0_2 : w_ar w2 (n_v vs 0) 0 = w_ar ws (n_v vs 0) 0 := by rw [← ar_0_0_1]; show v_ad (w_fd w2 _ _) = v_ad (w_fd w1 _ _); rw [s2.2, if_neg (fun e => absurd e.2 (by decide))]
  have ar_0_0_3 : w_ar w3 (n_v vs 0) 0 = w_ar ws (n_v vs 0) 0 := by rw [← ar_0_0_2]; show v_ad (w_fd w3 _ _) = v_ad (w_fd w2 _ _); rw [s3.2, if_neg (fun e => absurd e.2 (by decide))]
  have cr_0_0 := fdq_95 hD hth r0
  have ad_6 : v_ad (n_v vs 6) = w_ar ws (n_v vs 0) 0 := congrArg v_ad f2
  have g0 : v_iv (n_v vs 7) = w_fi ws (n_v vs 0) 7 := congrArg v_iv f0
  have g1 : v_iv (n_v vs 11) = w_fi ws (n_v vs 0) 6 := congrArg v_iv f1
  have g3 : v_iv (n_v vs 4) = w_fi ws (n_v vs 0) 8 := congrArg v_iv f3
  have g4 : v_iv (n_v vs 5) = w_fi ws (n_v vs 0) 5 := congrArg v_iv f4
  have g20 : v_iv (n_v vs 4) = w_fi w2 (n_v vs 0) 6 := congrArg v_iv f20
  simp only [ad_6] at f25
  have h25 : v_iv (n_v vs 7) = w_ei w2 (w_ar ws (n_v vs 0) 0) (v_iv (n_v vs 4)) := f25
  simp only [ar_0_0_2, ar_0_0_3] at f35
  have fe_0_5_1 : w_fi ws (n_v vs 0) 5 = w_fi w1 (n_v vs 0) 5 := by show v_iv (w_fd _ _ _) = v_iv (w_fd _ _ _); rw [s1.2, if_neg (fun e => absurd e.2 (by decide))]
  have fe_0_6_1 : w_fi ws (n_v vs 0) 6 = w_fi w1 (n_v vs 0) 6 := by show v_iv (w_fd _ _ _) = v_iv (w_fd _ _ _); rw [s1.2, if_neg (fun e => absurd e.2 (by decide))]
  have fe_0_8_1 : w_fi ws (n_v vs 0) 8 = w_fi w1 (n_v vs 0) 8 := by show v_iv (w_fd _ _ _) = v_iv (w_fd _ _ _); rw [s1.2, if_neg (fun e => absurd e.2 (by decide))]
  have fe_0_9_1 : w_fi ws (n_v vs 0) 9 = w_fi w1 (n_v vs 0) 9 := by show v_iv (w_fd _ _ _) = v_iv (w_fd _ _ _); rw [s1.2, if_neg (fun e => absurd e.2 (by decide))]
  have fe_0_5_2 : w_fi w1 (n_v vs 0) 5 = w_fi w2 (n_v vs 0) 5 := by show v_iv (w_fd _ _ _) = v_iv (w_fd _ _ _); rw [s2.2, if_neg (fun e => absurd e.2 (by decide))]
  have fe_0_7_2 : w_fi w1 (n_v vs 0) 7 = w_fi w2 (n_v vs 0) 7 := by show v_iv (w_fd _ _ _) = v_iv (w_fd _ _ _); rw [s2.2, if_neg (fun e => absurd e.2 (by decide))]
  have fe_0_8_2 : w_fi w1 (n_v vs 0) 8 = w_fi w2 (n_v vs 0) 8 := by show v_iv (w_fd _ _ _) = v_iv (w_fd _ _ _); rw [s2.2, if_neg (fun e => absurd e.2 (by decide))]
  have fe_0_9_2 : w_fi w1 (n_v vs 0) 9 = w_fi w2 (n_v vs 0) 9 := by show v_iv (w_fd _ _ _) = v_iv (w_fd _ _ _); rw [s2.2, if_neg (fun e => absurd e.2 (by decide))]
  have fe_0_5_3 : w_fi w2 (n_v vs 0) 5 = w_fi w3 (n_v vs 0) 5 := by show v_iv (w_fd _ _ _) = v_iv (w_fd _ _ _); rw [s3.2, if_neg (fun e => absurd e.2 (by decide))]
  have fe_0_6_3 : w_fi w2 (n_v vs 0) 6 = w_fi w3 (n_v vs 0) 6 := by show v_iv (w_fd _ _ _) = v_iv (w_fd _ _ _); rw [s3.2, if_neg (fun e => absurd e.2 (by decide))]
  have fe_0_8_3 : w_fi w2 (n_v vs 0) 8 = v_iv (n_v vs 4) := by show v_iv (w_fd _ _ _) = _; rw [s3.2, if_pos ⟨rfl, rfl⟩]
  have fe_0_9_3 : w_fi w2 (n_v vs 0) 9 = w_fi w3 (n_v vs 0) 9 := by show v_iv (w_fd _ _ _) = v_iv (w_fd _ _ _); rw [s3.2, if_neg (fun e => absurd e.2 (by decide))]
  have hE_0_0_1 : ∀ j : Int, w_ei ws (w_ar ws (n_v vs 0) 0) j = w_ei w1 (w_ar ws (n_v vs 0) 0) j := fun j => s1.1 _ _
  have hE_0_0_2 : ∀ j : Int, w_ei w1 (w_ar ws (n_v vs 0) 0) j = w_ei w2 (w_ar ws (n_v vs 0) 0) j := fun j => s2.1 _ _
  have hE_0_0_3 : ∀ j : Int, w_ei w2 (w_ar ws (n_v vs 0) 0) j = w_ei w3 (w_ar ws (n_v vs 0) 0) j := fun j => s3.1 _ _
  have hK_0_0 := elq_33 hD hth cr_0_0
  have kz_0_5 := fdq_207 hD hth r0
  have kz_0_6 := fdq_208 hD hth r0
  have kz_0_7 := fdq_297 hD hth r0
  have kz_0_8 := fdq_99 hD hth r0
  have kz_0_9 := fdq_296 hD hth r0
  have nf0 : fc_1 PRD (20, [0, 0, 1], [31, 1, 3, 1, 1, 7, 0, 1, 1, 9, -1, 0, 0]) ws (vs) := ⟨nf_in hl rfl, sgq_1528 (vc_Re_advance_4_0 (v_iv (n_v vs 1)) (v_iv (n_v vs 5)) (v_iv (n_v vs 11)) (w_fi ws (n_v vs 0) 7) (w_fi ws (n_v vs 0) 6) (w_fi ws (n_v vs 0) 8) (w_fi ws (n_v vs 0) 5) (w_fi ws (n_v vs 0) 9) (w_fi w1 (n_v vs 0) 9) (w_fi w2 (n_v vs 0) 6) (w_ei w2 (w_ar ws (n_v vs 0) 0)) (w_fi w2 (n_v vs 0) 9) (w_fi w2 (n_v vs 0) 5) (w_fi w3 (n_v vs 0) 9) (w_ei w3 (w_ar ws (n_v vs 0) 0)) (w_fi w3 (n_v vs 0) 5) (w_fi w3 (n_v vs 0) 6) (w_fi w1 (n_v vs 0) 5) (w_fi w1 (n_v vs 0) 6) (w_fi w1 (n_v vs 0) 8) (w_fi w1 (n_v vs 0) 7) (w_fi w2 (n_v vs 0) 7) (w_fi w2 (n_v vs 0) 8) (w_ei ws (w_ar ws (n_v vs 0) 0)) (w_ei w1 (w_ar ws (n_v vs 0) 0)) k1 k5 k11 d1 d2 fe_0_5_1 fe_0_6_1 fe_0_8_1 fe_0_9_1 fe_0_5_2 fe_0_7_2 fe_0_8_2 fe_0_9_2 fe_0_5_3 fe_0_6_3 fe_0_9_3 hE_0_0_1 hE_0_0_2 hE_0_0_3 hK_0_0 kz_0_5 kz_0_6 kz_0_7 kz_0_8 kz_0_9)⟩
  have nf1 : fc_1 PRD (20, [0, 0, 1], [31, 1, 3, 1, 1, 7, 0, -1, 1, 9, 1, 0, 0]) ws (vs) := ⟨nf_in hl rfl, sgq_1529 (vc_Re_advance_4_1 (v_iv (n_v vs 1)) (v_iv (n_v vs 5)) (v_iv (n_v vs 11)) (w_fi ws (n_v vs 0) 7) (w_fi ws (n_v vs 0) 6) (w_fi ws (n_v vs 0) 8) (w_fi ws (n_v vs 0) 5) (w_fi ws (n_v vs 0) 9) (w_fi w1 (n_v vs 0) 9) (w_fi w2 (n_v vs 0) 6) (w_ei w2 (w_ar ws (n_v vs 0) 0)) (w_fi w2 (n_v vs 0) 9) (w_fi w2 (n_v vs 0) 5) (w_fi w3 (n_v vs 0) 9) (w_ei w3 (w_ar ws (n_v vs 0) 0)) (w_fi w3 (n_v vs 0) 5) (w_fi w3 (n_v vs 0) 6) (w_fi w1 (n_v vs 0) 5) (w_fi w1 (n_v vs 0) 6) (w_fi w1 (n_v vs 0) 8) (w_fi w1 (n_v vs 0) 7) (w_fi w2 (n_v vs 0) 7) (w_fi w2 (n_v vs 0) 8) (w_ei ws (w_ar ws (n_v vs 0) 0)) (w_ei w1 (w_ar ws (n_v vs 0) 0)) k1 k5 k11 d1 d2 fe_0_5_1 fe_0_6_1 fe_0_8_1 fe_0_9_1 fe_0_5_2 fe_0_7_2 fe_0_8_2 fe_0_9_2 fe_0_5_3 fe_0_6_3 fe_0_9_3 hE_0_0_1 hE_0_0_2 hE_0_0_3 hK_0_0 kz_0_5 kz_0_6 kz_0_7 kz_0_8 kz_0_9)⟩
  have nf2 : fc_1 PRD (20, [0, 0, 0, 0], [31, 1, -3, -1, 1, 7, 4008, 1, 1, 6, -1, 1, 8, 2000, 1, 7]) ws (vs) := ⟨nf_in hl rfl, sgq_1530 (vc_Re_advance_4_2 (v_iv (n_v vs 5)) (v_iv (n_v vs 11)) (w_fi ws (n_v vs 0) 7) (w_fi ws (n_v vs 0) 6) (w_fi ws (n_v vs 0) 8) (w_fi ws (n_v vs 0) 5) (w_fi ws (n_v vs 0) 9) (w_fi w1 (n_v vs 0) 9) (w_fi w2 (n_v vs 0) 6) (w_ei w2 (w_ar ws (n_v vs 0) 0)) (w_fi w2 (n_v vs 0) 9) (w_fi w2 (n_v vs 0) 5) (w_fi w3 (n_v vs 0) 9) (w_ei w3 (w_ar ws (n_v vs 0) 0)) (w_fi w3 (n_v vs 0) 5) (w_fi w3 (n_v vs 0) 6) (w_fi w1 (n_v vs 0) 5) (w_fi w1 (n_v vs 0) 6) (w_fi w1 (n_v vs 0) 8) (w_fi w1 (n_v vs 0) 7) (w_fi w2 (n_v vs 0) 7) (w_fi w2 (n_v vs 0) 8) (w_ei ws (w_ar ws (n_v vs 0) 0)) (w_ei w1 (w_ar ws (n_v vs 0) 0)) k5 k11 d1 d2 fe_0_5_1 fe_0_6_1 fe_0_8_1 fe_0_9_1 fe_0_5_2 fe_0_7_2 fe_0_8_2 fe_0_9_2 fe_0_5_3 fe_0_6_3 fe_0_9_3 hE_0_0_1 hE_0_0_2 hE_0_0_3 hK_0_0 kz_0_5 kz_0_6 kz_0_7 kz_0_8 kz_0_9)⟩
  have nf3 : fc_1 PRD (20, [0, 0], [30, 0, 1, 1, 8, -1, 1, 6]) ws (vs) := ⟨nf_in hl rfl, sgq_1531 (vc_Re_advance_4_3 (v_iv (n_v vs 5)) (v_iv (n_v vs 11)) (w_fi ws (n_v vs 0) 6) (w_fi ws (n_v vs 0) 8) (w_fi ws (n_v vs 0) 5) (w_fi ws (n_v vs 0) 9) (w_fi w1 (n_v vs 0) 9) (w_fi w2 (n_v vs 0) 6) (w_ei w2 (w_ar ws (n_v vs 0) 0)) (w_fi w2 (n_v vs 0) 9) (w_fi w2 (n_v vs 0) 5) (w_fi w3 (n_v vs 0) 9) (w_ei w3 (w_ar ws (n_v vs 0) 0)) (w_fi w3 (n_v vs 0) 5) (w_fi w3 (n_v vs 0) 6) (w_fi w1 (n_v vs 0) 5) (w_fi w1 (n_v vs 0) 6) (w_fi w1 (n_v vs 0) 8) (w_fi w1 (n_v vs 0) 7) (w_fi w2 (n_v vs 0) 7) (w_fi w2 (n_v vs 0) 8) (w_ei ws (w_ar ws (n_v vs 0) 0)) (w_ei w1 (w_ar ws (n_v vs 0) 0)) k5 k11 d1 d2 fe_0_5_1 fe_0_6_1 fe_0_8_1 fe_0_9_1 fe_0_5_2 fe_0_7_2 fe_0_8_2 fe_0_9_2 fe_0_5_3 fe_0_6_3 fe_0_9_3 hE_0_0_1 hE_0_0_2 hE_0_0_3 hK_0_0 kz_0_5 kz_0_6 kz_0_8 kz_0_9)⟩
  have nf4 : fc_1 PRD (20, [0, 2], [60, 5, 1, 1072, 5, 6, 7, 8, 9, 0]) ws (vs) := ⟨nf_in hl rfl, sgq_1532 (vc_Re_advance_4_4 (v_iv (n_v vs 2)) (v_iv (n_v vs 4)) (v_iv (n_v vs 5)) (v_iv (n_v vs 7)) (v_iv (n_v vs 11)) (v_iv (n_v vs 12)) (w_fi ws (n_v vs 0) 7) (w_fi ws (n_v vs 0) 6) (w_fi ws (n_v vs 0) 8) (w_fi ws (n_v vs 0) 5) (w_fi ws (n_v vs 0) 9) (w_fi w1 (n_v vs 0) 9) (w_fi w2 (n_v vs 0) 6) (w_ei w2 (w_ar ws (n_v vs 0) 0)) (w_fi w2 (n_v vs 0) 9) (w_fi w2 (n_v vs 0) 5) (w_fi w3 (n_v vs 0) 9) (w_ei w3 (w_ar ws (n_v vs 0) 0)) (w_fi w3 (n_v vs 0) 5) (w_fi w3 (n_v vs 0) 6) (w_fi w1 (n_v vs 0) 5) (w_fi w1 (n_v vs 0) 6) (w_fi w1 (n_v vs 0) 8) (w_fi w1 (n_v vs 0) 7) (w_fi w2 (n_v vs 0) 7) (w_fi w2 (n_v vs 0) 8) (w_ei ws (w_ar ws (n_v vs 0) 0)) (w_ei w1 (w_ar ws (n_v vs 0) 0)) k2 k4 k5 k7 k11 k12 d1 d2 g0 g1 g3 g4 (shm_142 f12) (shm_454 f13) g20 h25 (shm_6 f26) f35 fe_0_5_1 fe_0_6_1 fe_0_8_1 fe_0_9_1 fe_0_5_2 fe_0_7_2 fe_0_8_2 fe_0_9_2 fe_0_5_3 fe_0_6_3 fe_0_8_3 fe_0_9_3 hE_0_0_1 hE_0_0_2 hE_0_0_3 hK_0_0 kz_0_5 kz_0_6 kz_0_7 kz_0_8 kz_0_9)⟩
  have nf5 : fc_1 PRD (20, [2, 0], [30, 0, 1, 0, 0, -1, 1, 6]) ws (vs) := ⟨nf_in hl rfl, sgq_1527 (vc_Re_advance_4_5 (v_iv (n_v vs 2)) (v_iv (n_v vs 5)) (v_iv (n_v vs 11)) (w_fi ws (n_v vs 0) 6) (w_fi ws (n_v vs 0) 8) (w_fi ws (n_v vs 0) 5) (w_fi ws (n_v vs 0) 9) (w_fi w1 (n_v vs 0) 9) (w_fi w2 (n_v vs 0) 6) (w_ei w2 (w_ar ws (n_v vs 0) 0)) (w_fi w2 (n_v vs 0) 9) (w_fi w2 (n_v vs 0) 5) (w_fi w3 (n_v vs 0) 9) (w_ei w3 (w_ar ws (n_v vs 0) 0)) (w_fi w3 (n_v vs 0) 5) (w_fi w3 (n_v vs 0) 6) (w_fi w1 (n_v vs 0) 5) (w_fi w1 (n_v vs 0) 6) (w_fi w1 (n_v vs 0) 8) (w_fi w1 (n_v vs 0) 7) (w_fi w2 (n_v vs 0) 7) (w_fi w2 (n_v vs 0) 8) (w_ei ws (w_ar ws (n_v vs 0) 0)) (w_ei w1 (w_ar ws (n_v vs 0) 0)) k2 k5 k11 d1 d2 fe_0_5_1 fe_0_6_1 fe_0_8_1 fe_0_9_1 fe_0_5_2 fe_0_7_2 fe_0_8_2 fe_0_9_2 fe_0_5_3 fe_0_6_3 fe_0_9_3 hE_0_0_1 hE_0_0_2 hE_0_0_3 hK_0_0 kz_0_5 kz_0_6 kz_0_8 kz_0_9)⟩
  refine ⟨(fun _ h => (by cases h)), [], trivial, ?_, (fun _ h => (by cases h))⟩
  rw [List.append_nil]
  exact List.forall_mem_cons.mpr ⟨⟨show (20 : Nat) < 100 from by decide, nf0⟩, List.forall_mem_cons.mpr ⟨⟨show (20 : Nat) < 100 from by decide, nf1⟩, List.forall_mem_cons.mpr ⟨⟨show (20 : Nat) < 100 from by decide, nf2⟩, List.forall_mem_cons.mpr ⟨⟨show (20 : Nat) < 100 from by decide, nf3⟩, List.forall_mem_cons.mpr ⟨⟨show (20 : Nat) < 100 from by decide, nf4⟩, List.forall_mem_cons.mpr ⟨⟨show (20 : Nat) < 100 from by decide, nf5⟩, (fun _ h => (by cases h))⟩⟩⟩⟩⟩⟩
set_option maxHeartbeats 4000000 in
theorem vc_Re_advance_5_0 (x4 : Int) (x5 : Int) (begin_0 : Int) (end_0 : Int) (next_0 : Int) (tape_0 : Int → Int) (tape_1 : Int → Int) (number_1 : Int) (end_1 : Int) (next_1 : Int) (number_2 : Int) (tape_2 : Int → Int) (end_2 : Int) (next_2 : Int) (begin_1 : Int) (k4 : 1 ≤ x4 ∧ x4 ≤ 1999) (k5 : 1 ≤ x5 ∧ x5 ≤ 1999) (d0 : x5 + (-4294967296) ≤ x4 ∧ x4 ≤ x5 + (-1)) (d1 : x5 + 0 ≤ x4 ∧ x4 ≤ x5 + 4294967296) (fe_0_5_1 : end_0 = end_1) (fe_0_6_1 : next_0 = next_1) (fe_0_8_1 : begin_0 = begin_1) (fe_0_5_2 : end_1 = end_2) (fe_0_6_2 : next_1 = next_2) (fe_0_9_2 : number_1 = number_2) (hE_0_0_1 : ∀ j : Int, tape_0 j = tape_1 j) (hE_0_0_2 : ∀ j : Int, tape_1 j = tape_2 j) (hK_0_0 : ∀ j : Int, 0 ≤ j → j < 2000 → (-128) ≤ tape_0 j ∧ tape_0 j ≤ 127) (kz_0_5 : 0 ≤ end_0 ∧ end_0 ≤ 2000) (kz_0_6 : 0 ≤ next_0 ∧ next_0 ≤ 2000) (kz_0_8 : 0 ≤ begin_0 ∧ begin_0 ≤ 2000) : 1 * begin_0 + ((-1) * next_0 + 0) ≤ 0 := by
  subst fe_0_5_1
  subst fe_0_6_1
  subst fe_0_8_1
  subst fe_0_5_2
  subst fe_0_6_2
  subst fe_0_9_2
  have e_hE_0_0_1 := funext hE_0_0_1; subst e_hE_0_0_1
  have e_hE_0_0_2 := funext hE_0_0_2; subst e_hE_0_0_2
  first | with_reducible assumption | ((try and_intros) <;> first | with_reducible assumption | (clear hE_0_0_1 hE_0_0_2 hK_0_0; omega)) | omega
set_option maxHeartbeats 4000000 in
theorem vc_Re_advance_5_1 (x2 : Int) (x4 : Int) (x5 : Int) (x10 : Int) (number_0 : Int) (begin_0 : Int) (end_0 : Int) (next_0 : Int) (tape_0 : Int → Int) (tape_1 : Int → Int) (number_1 : Int) (end_1 : Int) (next_1 : Int) (number_2 : Int) (tape_2 : Int → Int) (end_2 : Int) (next_2 : Int) (begin_1 : Int) (k2 : 0 ≤ x2 ∧ x2 ≤ 2000) (k4 : 1 ≤ x4 ∧ x4 ≤ 1999) (k5 : 1 ≤ x5 ∧ x5 ≤ 1999) (k10 : 0 ≤ x10 ∧ x10 ≤ 0) (d0 : x5 + (-4294967296) ≤ x4 ∧ x4 ≤ x5 + (-1)) (d1 : x5 + 0 ≤ x4 ∧ x4 ≤ x5 + 4294967296) (g0 : x10 = number_0) (g2 : x4 = begin_0) (g3 : x5 = end_0) (g4 : x4 = next_0) (f16 : x4 < x5) (f25 : CX0 (end_2) (next_2) (tape_2) (x2)) (fe_0_5_1 : end_0 = end_1) (fe_0_6_1 : next_0 = next_1) (fe_0_8_1 : begin_0 = begin_1) (fe_0_5_2 : end_1 = end_2) (fe_0_6_2 : next_1 = next_2) (fe_0_8_2 : begin_1 = x4) (fe_0_9_2 : number_1 = number_2) (hE_0_0_1 : ∀ j : Int, tape_0 j = tape_1 j) (hE_0_0_2 : ∀ j : Int, tape_1 j = tape_2 j) (hK_0_0 : ∀ j : Int, 0 ≤ j → j < 2000 → (-128) ≤ tape_0 j ∧ tape_0 j ≤ 127) (kz_0_5 : 0 ≤ end_0 ∧ end_0 ≤ 2000) (kz_0_6 : 0 ≤ next_0 ∧ next_0 ≤ 2000) (kz_0_8 : 0 ≤ begin_0 ∧ begin_0 ≤ 2000) (kz_0_9 : (-176) ≤ number_0 ∧ number_0 ≤ 1000000) : CXD (end_0) (next_0) (begin_0) (number_0) (tape_0) (x2) := by
  subst fe_0_5_1
  subst fe_0_6_1
  subst fe_0_8_1
  subst fe_0_5_2
  subst fe_0_6_2
  subst fe_0_9_2
  have e_hE_0_0_1 := funext hE_0_0_1; subst e_hE_0_0_1
  have e_hE_0_0_2 := funext hE_0_0_2; subst e_hE_0_0_2
  first | subst g0 | skip
  first | subst g2 | skip
  first | subst g3 | skip
  first | subst g4 | skip
  first
    | exact cxd_s (by assumption) ‹CXD _ _ _ _ _ _› (by omega) (by unfold cIG; omega) (by omega) (by omega)
    | exact cxd_0 (by assumption) (cx_1 (by assumption) ‹CX0 _ _ _ _› (fun q => by omega) (by omega)) (by omega) (by unfold cIG; omega) (by omega)
def o_Re_advance_5 : or_T := (171, 11, [(0, (2, 0, 0, [8])), (2, (0, 0, 2000, [])), (4, (0, 1, 1999, [])), (5, (0, 1, 1999, [])), (10, (0, 0, 0, []))], [(9, [10, 3], [9]), (9, [4, 3], [8]), (9, [5, 3], [5]), (9, [4, 3], [6]), (24, [0, 3], []), (101, [3, 10], [9]), (7, [4, 5], [2]), (101, [3, 4], [8]), (20, [3, 2], [60, 2, 1, 1074, 5, 6, 0])], [], [], [(20, [3, 3], [30, 0, 1, 1, 8, -1, 1, 6]), (20, [3, 2], [60, 4, 1, 1077, 5, 6, 8, 9, 0])], [], [(4, 5, -4294967296, -1), (4, 5, 0, 4294967296)])
theorem oo_Re_advance_5 {kA : Nat → ClassId} : or_ok PRD kA GG o_Re_advance_5 := by
  refine or_mk fun A ta ws vs hD hth hl => ?_
  intro t0 r0 t2 k2 t4 k4 t5 k5 t10 k10 d0 d1 f0 f2 f3 f4 f9 ta1 w1 le1 s1 f16 ta2 w2 le2 s2 f25
  replace f0 := shm_119 f0
  replace f2 := shm_293 f2
  replace f3 := shm_110 f3
  replace f4 := shm_111 f4
  replace f9 := shm_5 f9
  have s1 : (∀ b j, w_el ws b j = w_el w1 b j) ∧ ∀ b j, w_fd ws b j = if b = v_ad (n_v vs 3) ∧ j = 9 then n_v vs 10 else w_fd w1 b j := s1.2
  replace f16 := shm_6 f16
  have s2 : (∀ b j, w_el w1 b j = w_el w2 b j) ∧ ∀ b j, w_fd w1 b j = if b = v_ad (n_v vs 3) ∧ j = 8 then n_v vs 4 else w_fd w2 b j := s2.2
  replace f25 := shm_1526 f25
  have q3 : n_v vs 3 = n_v vs 0 := f9.symm
  simp only [q3] at f0 f2 f3 f4
  rw [q3] at s1
  rw [q3] at s2
  simp only [q3] at f25
  have ar_0_0_1 : w_ar w1 (n_v vs 0) 0 = w_ar ws (n_v vs 0) 0 := by show v_ad (w_fd w1 _ _) = v_ad (w_fd ws _ _); rw [s1.2, if_neg (fun e => absurd e.2 (by decide))]
  have ar_0_0_2 : w_ar w2 (n_v vs 0) 0 = w_ar ws (n_v vs 0) 0 := by rw [← ar_0_0_1]; show v_ad (w_fd w2 _ _) = v_ad (w_fd w1 _ _); rw [s2.2, if_neg (fun e => absurd e.2 (by decide))]
  have cr_0_0 := fdq_95 hD hth r0
  have g0 : v_iv (n_v vs 10) = w_fi ws (n_v vs 0) 9 := congrArg v_iv f0
  have g2 : v_iv (n_v vs 4) = w_fi ws (n_v vs 0) 8 := congrArg v_iv f2
  have g3 : v_iv (n_v vs 5) = w_fi ws (n_v vs 0) 5 := congrArg v_iv f3
  have g4 : v_iv (n_v vs 4) = w_fi ws (n_v vs 0) 6 := congrArg v_iv f4
  simp only [ar_0_0_1, ar_0_0_2] at f25
  have fe_0_5_1 : w_fi ws (n_v vs 0) 5 = w_fi w1 (n_v vs 0) 5 := by show v_iv (w_fd _ _ _) = v_iv (w_fd _ _ _); rw [s1.2, if_neg (fun e => absurd e.2 (by decide))]
  have fe_0_6_1 : w_fi ws (n_v vs 0) 6 = w_fi w1 (n_v vs 0) 6 := by show v_iv (w_fd _ _ _) = v_iv (w_fd _ _ _); rw [s1.2, if_neg (fun e => absurd e.2 (by decide))]
  have fe_0_8_1 : w_fi ws (n_v vs 0) 8 = w_fi w1 (n_v vs 0) 8 := by show v_iv (w_fd _ _ _) = v_iv (w_fd _ _ _); rw [s1.2, if_neg (fun e => absurd e.2 (by decide))]
  have fe_0_5_2 : w_fi w1 (n_v vs 0) 5 = w_fi w2 (n_v vs 0) 5 := by show v_iv (w_fd _ _ _) = v_iv (w_fd _ _ _); rw [s2.2, if_neg (fun e => absurd e.2 (by decide))]
  have fe_0_6_2 : w_fi w1 (n_v vs 0) 6 = w_fi w2 (n_v vs 0) 6 := by show v_iv (w_fd _ _ _) = v_iv (w_fd _ _ _); rw [s2.2, if_neg (fun e => absurd e.2 (by decide))]
  have fe_0_8_2 : w_fi w1 (n_v vs 0) 8 = v_iv (n_v vs 4) := by show v_iv (w_fd _ _ _) = _; rw [s2.2, if_pos ⟨rfl, rfl⟩]
  have fe_0_9_2 : w_fi w1 (n_v vs 0) 9 = w_fi w2 (n_v vs 0) 9 := by show v_iv (w_fd _ _ _) = v_iv (w_fd _ _ _); rw [s2.2, if_neg (fun e => absurd e.2 (by decide))]
  have hE_0_0_1 : ∀ j : Int, w_ei ws (w_ar ws (n_v vs 0) 0) j = w_ei w1 (w_ar ws (n_v vs 0) 0) j := fun j => s1.1 _ _
  have hE_0_0_2 : ∀ j : Int, w_ei w1 (w_ar ws (n_v vs 0) 0) j = w_ei w2 (w_ar ws (n_v vs 0) 0) j := fun j => s2.1 _ _
  have hK_0_0 := elq_33 hD hth cr_0_0
  have kz_0_5 := fdq_207 hD hth r0
  have kz_0_6 := fdq_208 hD hth r0
  have kz_0_8 := fdq_99 hD hth r0
  have kz_0_9 := fdq_296 hD hth r0
  have nf0 : fc_1 PRD (20, [3, 3], [30, 0, 1, 1, 8, -1, 1, 6]) ws (vs) := by
    refine ⟨nf_in hl rfl, sgq_1531 ?_⟩
    · show 1 * w_fi ws (n_v vs 3) 8 + ((-1) * w_fi ws (n_v vs 3) 6 + 0) ≤ 0
      rw [q3]
      exact vc_Re_advance_5_0 (v_iv (n_v vs 4)) (v_iv (n_v vs 5)) (w_fi ws (n_v vs 0) 8) (w_fi ws (n_v vs 0) 5) (w_fi ws (n_v vs 0) 6) (w_ei ws (w_ar ws (n_v vs 0) 0)) (w_ei w1 (w_ar ws (n_v vs 0) 0)) (w_fi w1 (n_v vs 0) 9) (w_fi w1 (n_v vs 0) 5) (w_fi w1 (n_v vs 0) 6) (w_fi w2 (n_v vs 0) 9) (w_ei w2 (w_ar ws (n_v vs 0) 0)) (w_fi w2 (n_v vs 0) 5) (w_fi w2 (n_v vs 0) 6) (w_fi w1 (n_v vs 0) 8) k4 k5 d0 d1 fe_0_5_1 fe_0_6_1 fe_0_8_1 fe_0_5_2 fe_0_6_2 fe_0_9_2 hE_0_0_1 hE_0_0_2 hK_0_0 kz_0_5 kz_0_6 kz_0_8
  have nf1 : fc_1 PRD (20, [3, 2], [60, 4, 1, 1077, 5, 6, 8, 9, 0]) ws (vs) := by
    refine ⟨nf_in hl rfl, sgq_1533 ?_⟩
    · show CXD (w_fi ws (n_v vs 3) 5) (w_fi ws (n_v vs 3) 6) (w_fi ws (n_v vs 3) 8) (w_fi ws (n_v vs 3) 9) (w_ei ws (w_ar ws (n_v vs 3) 0)) (v_iv (n_v vs 2))
      rw [q3]
      exact vc_Re_advance_5_1 (v_iv (n_v vs 2)) (v_iv (n_v vs 4)) (v_iv (n_v vs 5)) (v_iv (n_v vs 10)) (w_fi ws (n_v vs 0) 9) (w_fi ws (n_v vs 0) 8) (w_fi ws (n_v vs 0) 5) (w_fi ws (n_v vs 0) 6) (w_ei ws (w_ar ws (n_v vs 0) 0)) (w_ei w1 (w_ar ws (n_v vs 0) 0)) (w_fi w1 (n_v vs 0) 9) (w_fi w1 (n_v vs 0) 5) (w_fi w1 (n_v vs 0) 6) (w_fi w2 (n_v vs 0) 9) (w_ei w2 (w_ar ws (n_v vs 0) 0)) (w_fi w2 (n_v vs 0) 5) (w_fi w2 (n_v vs 0) 6) (w_fi w1 (n_v vs 0) 8) k2 k4 k5 k10 d0 d1 g0 g2 g3 g4 f16 f25 fe_0_5_1 fe_0_6_1 fe_0_8_1 fe_0_5_2 fe_0_6_2 fe_0_8_2 fe_0_9_2 hE_0_0_1 hE_0_0_2 hK_0_0 kz_0_5 kz_0_6 kz_0_8 kz_0_9
  refine ⟨(fun _ h => (by cases h)), [], trivial, ?_, (fun _ h => (by cases h))⟩
  rw [List.append_nil]
  exact List.forall_mem_cons.mpr ⟨⟨show (20 : Nat) < 100 from by decide, nf0⟩, List.forall_mem_cons.mpr ⟨⟨show (20 : Nat) < 100 from by decide, nf1⟩, (fun _ h => (by cases h))⟩⟩
set_option maxHeartbeats 4000000 in
theorem vc_Re_advance_6_0 (x1 : Int) (x5 : Int) (x11 : Int) (kind_0 : Int) (next_0 : Int) (begin_0 : Int) (end_0 : Int) (number_0 : Int) (number_1 : Int) (next_2 : Int) (tape_2 : Int → Int) (number_2 : Int) (end_2 : Int) (number_3 : Int) (tape_3 : Int → Int) (end_3 : Int) (next_3 : Int) (end_1 : Int) (next_1 : Int) (begin_1 : Int) (kind_1 : Int) (kind_2 : Int) (begin_2 : Int) (tape_0 : Int → Int) (tape_1 : Int → Int) (k1 : (-2147483648) ≤ x1 ∧ x1 ≤ 1000000) (k5 : 1 ≤ x5 ∧ x5 ≤ 1999) (k11 : 2 ≤ x11 ∧ x11 ≤ 2000) (d1 : x5 + (-4294967296) ≤ x11 ∧ x11 ≤ x5 + 0) (d2 : x5 + 1 ≤ x11 ∧ x11 ≤ x5 + 4294967296) (fe_0_5_1 : end_0 = end_1) (fe_0_6_1 : next_0 = next_1) (fe_0_8_1 : begin_0 = begin_1) (fe_0_9_1 : number_0 = number_1) (fe_0_5_2 : end_1 = end_2) (fe_0_7_2 : kind_1 = kind_2) (fe_0_8_2 : begin_1 = begin_2) (fe_0_9_2 : number_1 = number_2) (fe_0_5_3 : end_2 = end_3) (fe_0_6_3 : next_2 = next_3) (fe_0_9_3 : number_2 = number_3) (hE_0_0_1 : ∀ j : Int, tape_0 j = tape_1 j) (hE_0_0_2 : ∀ j : Int, tape_1 j = tape_2 j) (hE_0_0_3 : ∀ j : Int, tape_2 j = tape_3 j) (hK_0_0 : ∀ j : Int, 0 ≤ j → j < 2000 → (-128) ≤ tape_0 j ∧ tape_0 j ≤ 127) (kz_0_5 : 0 ≤ end_0 ∧ end_0 ≤ 2000) (kz_0_6 : 0 ≤ next_0 ∧ next_0 ≤ 2000) (kz_0_7 : (-128) ≤ kind_0 ∧ kind_0 ≤ 127) (kz_0_8 : 0 ≤ begin_0 ∧ begin_0 ≤ 2000) (kz_0_9 : (-176) ≤ number_0 ∧ number_0 ≤ 1000000) : (1 * kind_0 + 0 ≤ 3) ∨ (1 * number_0 + ((-1) * x1 + 0) ≤ 0) := by
  subst fe_0_5_1
  subst fe_0_6_1
  subst fe_0_8_1
  subst fe_0_9_1
  subst fe_0_5_2
  subst fe_0_7_2
  subst fe_0_8_2
  subst fe_0_9_2
  subst fe_0_5_3
  subst fe_0_6_3
  subst fe_0_9_3
  have e_hE_0_0_1 := funext hE_0_0_1; subst e_hE_0_0_1
  have e_hE_0_0_2 := funext hE_0_0_2; subst e_hE_0_0_2
  have e_hE_0_0_3 := funext hE_0_0_3; subst e_hE_0_0_3
  first | with_reducible assumption | ((try and_intros) <;> first | with_reducible assumption | (clear hE_0_0_1 hE_0_0_2 hE_0_0_3 hK_0_0; omega)) | omega
set_option maxHeartbeats 4000000 in
theorem vc_Re_advance_6_1 (x1 : Int) (x5 : Int) (x11 : Int) (kind_0 : Int) (next_0 : Int) (begin_0 : Int) (end_0 : Int) (number_0 : Int) (number_1 : Int) (next_2 : Int) (tape_2 : Int → Int) (number_2 : Int) (end_2 : Int) (number_3 : Int) (tape_3 : Int → Int) (end_3 : Int) (next_3 : Int) (end_1 : Int) (next_1 : Int) (begin_1 : Int) (kind_1 : Int) (kind_2 : Int) (begin_2 : Int) (tape_0 : Int → Int) (tape_1 : Int → Int) (k1 : (-2147483648) ≤ x1 ∧ x1 ≤ 1000000) (k5 : 1 ≤ x5 ∧ x5 ≤ 1999) (k11 : 2 ≤ x11 ∧ x11 ≤ 2000) (d1 : x5 + (-4294967296) ≤ x11 ∧ x11 ≤ x5 + 0) (d2 : x5 + 1 ≤ x11 ∧ x11 ≤ x5 + 4294967296) (fe_0_5_1 : end_0 = end_1) (fe_0_6_1 : next_0 = next_1) (fe_0_8_1 : begin_0 = begin_1) (fe_0_9_1 : number_0 = number_1) (fe_0_5_2 : end_1 = end_2) (fe_0_7_2 : kind_1 = kind_2) (fe_0_8_2 : begin_1 = begin_2) (fe_0_9_2 : number_1 = number_2) (fe_0_5_3 : end_2 = end_3) (fe_0_6_3 : next_2 = next_3) (fe_0_9_3 : number_2 = number_3) (hE_0_0_1 : ∀ j : Int, tape_0 j = tape_1 j) (hE_0_0_2 : ∀ j : Int, tape_1 j = tape_2 j) (hE_0_0_3 : ∀ j : Int, tape_2 j = tape_3 j) (hK_0_0 : ∀ j : Int, 0 ≤ j → j < 2000 → (-128) ≤ tape_0 j ∧ tape_0 j ≤ 127) (kz_0_5 : 0 ≤ end_0 ∧ end_0 ≤ 2000) (kz_0_6 : 0 ≤ next_0 ∧ next_0 ≤ 2000) (kz_0_7 : (-128) ≤ kind_0 ∧ kind_0 ≤ 127) (kz_0_8 : 0 ≤ begin_0 ∧ begin_0 ≤ 2000) (kz_0_9 : (-176) ≤ number_0 ∧ number_0 ≤ 1000000) : (1 * kind_0 + 0 ≤ 3) ∨ ((-1) * number_0 + (1 * x1 + 0) ≤ 0) := by
  subst fe_0_5_1
  subst fe_0_6_1
  subst fe_0_8_1
  subst fe_0_9_1
  subst fe_0_5_2
  subst fe_0_7_2
  subst fe_0_8_2
  subst fe_0_9_2
  subst fe_0_5_3
  subst fe_0_6_3
  subst fe_0_9_3
  have e_hE_0_0_1 := funext hE_0_0_1; subst e_hE_0_0_1
  have e_hE_0_0_2 := funext hE_0_0_2; subst e_hE_0_0_2
  have e_hE_0_0_3 := funext hE_0_0_3; subst e_hE_0_0_3
  first | with_reducible assumption | ((try and_intros) <;> first | with_reducible assumption | (clear hE_0_0_1 hE_0_0_2 hE_0_0_3 hK_0_0; omega)) | omega
set_option maxHeartbeats 4000000 in
theorem vc_Re_advance_6_2 (x5 : Int) (x11 : Int) (kind_0 : Int) (next_0 : Int) (begin_0 : Int) (end_0 : Int) (number_0 : Int) (number_1 : Int) (next_2 : Int) (tape_2 : Int → Int) (number_2 : Int) (end_2 : Int) (number_3 : Int) (tape_3 : Int → Int) (end_3 : Int) (next_3 : Int) (end_1 : Int) (next_1 : Int) (begin_1 : Int) (kind_1 : Int) (kind_2 : Int) (begin_2 : Int) (tape_0 : Int → Int) (tape_1 : Int → Int) (k5 : 1 ≤ x5 ∧ x5 ≤ 1999) (k11 : 2 ≤ x11 ∧ x11 ≤ 2000) (d1 : x5 + (-4294967296) ≤ x11 ∧ x11 ≤ x5 + 0) (d2 : x5 + 1 ≤ x11 ∧ x11 ≤ x5 + 4294967296) (fe_0_5_1 : end_0 = end_1) (fe_0_6_1 : next_0 = next_1) (fe_0_8_1 : begin_0 = begin_1) (fe_0_9_1 : number_0 = number_1) (fe_0_5_2 : end_1 = end_2) (fe_0_7_2 : kind_1 = kind_2) (fe_0_8_2 : begin_1 = begin_2) (fe_0_9_2 : number_1 = number_2) (fe_0_5_3 : end_2 = end_3) (fe_0_6_3 : next_2 = next_3) (fe_0_9_3 : number_2 = number_3) (hE_0_0_1 : ∀ j : Int, tape_0 j = tape_1 j) (hE_0_0_2 : ∀ j : Int, tape_1 j = tape_2 j) (hE_0_0_3 : ∀ j : Int, tape_2 j = tape_3 j) (hK_0_0 : ∀ j : Int, 0 ≤ j → j < 2000 → (-128) ≤ tape_0 j ∧ tape_0 j ≤ 127) (kz_0_5 : 0 ≤ end_0 ∧ end_0 ≤ 2000) (kz_0_6 : 0 ≤ next_0 ∧ next_0 ≤ 2000) (kz_0_7 : (-128) ≤ kind_0 ∧ kind_0 ≤ 127) (kz_0_8 : 0 ≤ begin_0 ∧ begin_0 ≤ 2000) (kz_0_9 : (-176) ≤ number_0 ∧ number_0 ≤ 1000000) : ((-1) * kind_0 + 0 ≤ (-3)) ∨ (1 * next_0 + ((-1) * begin_0 + (2000 * kind_0 + 0)) ≤ 4008) := by
  subst fe_0_5_1
  subst fe_0_6_1
  subst fe_0_8_1
  subst fe_0_9_1
  subst fe_0_5_2
  subst fe_0_7_2
  subst fe_0_8_2
  subst fe_0_9_2
  subst fe_0_5_3
  subst fe_0_6_3
  subst fe_0_9_3
  have e_hE_0_0_1 := funext hE_0_0_1; subst e_hE_0_0_1
  have e_hE_0_0_2 := funext hE_0_0_2; subst e_hE_0_0_2
  have e_hE_0_0_3 := funext hE_0_0_3; subst e_hE_0_0_3
  first | with_reducible assumption | ((try and_intros) <;> first | with_reducible assumption | (clear hE_0_0_1 hE_0_0_2 hE_0_0_3 hK_0_0; omega)) | omega
set_option maxHeartbeats 4000000 in
theorem vc_Re_advance_6_3 (x5 : Int) (x11 : Int) (next_0 : Int) (begin_0 : Int) (end_0 : Int) (number_0 : Int) (number_1 : Int) (next_2 : Int) (tape_2 : Int → Int) (number_2 : Int) (end_2 : Int) (number_3 : Int) (tape_3 : Int → Int) (end_3 : Int) (next_3 : Int) (end_1 : Int) (next_1 : Int) (begin_1 : Int) (kind_1 : Int) (kind_2 : Int) (begin_2 : Int) (tape_0 : Int → Int) (tape_1 : Int → Int) (k5 : 1 ≤ x5 ∧ x5 ≤ 1999) (k11 : 2 ≤ x11 ∧ x11 ≤ 2000) (d1 : x5 + (-4294967296) ≤ x11 ∧ x11 ≤ x5 + 0) (d2 : x5 + 1 ≤ x11 ∧ x11 ≤ x5 + 4294967296) (fe_0_5_1 : end_0 = end_1) (fe_0_6_1 : next_0 = next_1) (fe_0_8_1 : begin_0 = begin_1) (fe_0_9_1 : number_0 = number_1) (fe_0_5_2 : end_1 = end_2) (fe_0_7_2 : kind_1 = kind_2) (fe_0_8_2 : begin_1 = begin_2) (fe_0_9_2 : number_1 = number_2) (fe_0_5_3 : end_2 = end_3) (fe_0_6_3 : next_2 = next_3) (fe_0_9_3 : number_2 = number_3) (hE_0_0_1 : ∀ j : Int, tape_0 j = tape_1 j) (hE_0_0_2 : ∀ j : Int, tape_1 j = tape_2 j) (hE_0_0_3 : ∀ j : Int, tape_2 j = tape_3 j) (hK_0_0 : ∀ j : Int, 0 ≤ j → j < 2000 → (-128) ≤ tape_0 j ∧ tape_0 j ≤ 127) (kz_0_5 : 0 ≤ end_0 ∧ end_0 ≤ 2000) (kz_0_6 : 0 ≤ next_0 ∧ next_0 ≤ 2000) (kz_0_8 : 0 ≤ begin_0 ∧ begin_0 ≤ 2000) (kz_0_9 : (-176) ≤ number_0 ∧ number_0 ≤ 1000000) : 1 * begin_0 + ((-1) * next_0 + 0) ≤ 0 := by
  subst fe_0_5_1
  subst fe_0_6_1
  subst fe_0_8_1
  subst fe_0_9_1
  subst fe_0_5_2
  subst fe_0_7_2
  subst fe_0_8_2
  subst fe_0_9_2
  subst fe_0_5_3
  subst fe_0_6_3
  subst fe_0_9_3
  have e_hE_0_0_1 := funext hE_0_0_1; subst e_hE_0_0_1
  have e_hE_0_0_2 := funext hE_0_0_2; subst e_hE_0_0_2
  have e_hE_0_0_3 := funext hE_0_0_3; subst e_hE_0_0_3
  first | with_reducible assumption | ((try and_intros) <;> first | with_reducible assumption | (clear hE_0_0_1 hE_0_0_2 hE_0_0_3 hK_0_0; omega)) | omega
set_option maxHeartbeats 4000000 in
theorem vc_Re_advance_6_4 (x2 : Int) (x4 : Int) (x5 : Int) (x7 : Int) (x11 : Int) (x12 : Int) (x13 : Int) (kind_0 : Int) (next_0 : Int) (begin_0 : Int) (end_0 : Int) (number_0 : Int) (number_1 : Int) (next_2 : Int) (tape_2 : Int → Int) (number_2 : Int) (end_2 : Int) (number_3 : Int) (tape_3 : Int → Int) (end_3 : Int) (next_3 : Int) (end_1 : Int) (next_1 : Int) (begin_1 : Int) (kind_1 : Int) (kind_2 : Int) (begin_2 : Int) (tape_0 : Int → Int) (tape_1 : Int → Int) (k2 : 0 ≤ x2 ∧ x2 ≤ 2000) (k4 : 1 ≤ x4 ∧ x4 ≤ 1999) (k5 : 1 ≤ x5 ∧ x5 ≤ 1999) (k7 : 91 ≤ x7 ∧ x7 ≤ 96) (k11 : 2 ≤ x11 ∧ x11 ≤ 2000) (k12 : 0 ≤ x12 ∧ x12 ≤ 0) (k13 : 1 ≤ x13 ∧ x13 ≤ 1) (d1 : x5 + (-4294967296) ≤ x11 ∧ x11 ≤ x5 + 0) (d2 : x5 + 1 ≤ x11 ∧ x11 ≤ x5 + 4294967296) (g0 : x13 = kind_0) (g1 : x11 = next_0) (g3 : x4 = begin_0) (g4 : x5 = end_0) (f13 : CSG (x7) (x12)) (g20 : x4 = next_2) (h25 : x7 = tape_2 (x4)) (f26 : x4 < x5) (f35 : CX0 (end_3) (next_3) (tape_3) (x2)) (fe_0_5_1 : end_0 = end_1) (fe_0_6_1 : next_0 = next_1) (fe_0_8_1 : begin_0 = begin_1) (fe_0_9_1 : number_0 = number_1) (fe_0_5_2 : end_1 = end_2) (fe_0_7_2 : kind_1 = kind_2) (fe_0_8_2 : begin_1 = begin_2) (fe_0_9_2 : number_1 = number_2) (fe_0_5_3 : end_2 = end_3) (fe_0_6_3 : next_2 = next_3) (fe_0_8_3 : begin_2 = x4) (fe_0_9_3 : number_2 = number_3) (hE_0_0_1 : ∀ j : Int, tape_0 j = tape_1 j) (hE_0_0_2 : ∀ j : Int, tape_1 j = tape_2 j) (hE_0_0_3 : ∀ j : Int, tape_2 j = tape_3 j) (hK_0_0 : ∀ j : Int, 0 ≤ j → j < 2000 → (-128) ≤ tape_0 j ∧ tape_0 j ≤ 127) (kz_0_5 : 0 ≤ end_0 ∧ end_0 ≤ 2000) (kz_0_6 : 0 ≤ next_0 ∧ next_0 ≤ 2000) (kz_0_7 : (-128) ≤ kind_0 ∧ kind_0 ≤ 127) (kz_0_8 : 0 ≤ begin_0 ∧ begin_0 ≤ 2000) (kz_0_9 : (-176) ≤ number_0 ∧ number_0 ≤ 1000000) : TKC (end_0) (next_0) (kind_0) (begin_0) (number_0) (tape_0) (x2) := by
  subst fe_0_5_1
  subst fe_0_6_1
  subst fe_0_8_1
  subst fe_0_9_1
  subst fe_0_5_2
  subst fe_0_7_2
  subst fe_0_8_2
  subst fe_0_9_2
  subst fe_0_5_3
  subst fe_0_6_3
  subst fe_0_9_3
  have e_hE_0_0_1 := funext hE_0_0_1; subst e_hE_0_0_1
  have e_hE_0_0_2 := funext hE_0_0_2; subst e_hE_0_0_2
  have e_hE_0_0_3 := funext hE_0_0_3; subst e_hE_0_0_3
  first | subst g0 | skip
  first | subst g1 | skip
  first | subst g3 | skip
  first | subst g4 | skip
  first | subst g20 | skip
  first
    | exact cxl_e (by assumption) ‹CXL _ _ _ _ _› (fun q => by omega) (by omega)
    | exact cxl_e (by assumption) ‹CXL _ _ _ _ _› (fun q => cnb_f ‹CNBy _ _› (by omega) (by omega)) (by omega)
    | exact cxd_e (by assumption) ‹CXD _ _ _ _ _ _› (fun q => by unfold cIG; omega) (by omega)
    | exact cxs_e (by assumption) (cx_1 (by assumption) ‹CX0 _ _ _ _› (fun q => by omega) (by omega)) (by omega) rfl (by unfold cIL; omega) (by unfold cIG; omega) (by omega) (Or.inl ⟨csg_t ‹CSG _ _› (by omega) (by omega), by omega⟩)
    | exact cxs_e (by assumption) (cx_1 (by assumption) ‹CX0 _ _ _ _› (fun q => by omega) (by omega)) (by omega) rfl (by unfold cIL; omega) (by unfold cIG; omega) (by omega) (Or.inr ⟨csg_f ‹CSG _ _› (by omega) (by omega), by omega⟩)
set_option maxHeartbeats 4000000 in
theorem vc_Re_advance_6_5 (x2 : Int) (x5 : Int) (x11 : Int) (next_0 : Int) (begin_0 : Int) (end_0 : Int) (number_0 : Int) (number_1 : Int) (next_2 : Int) (tape_2 : Int → Int) (number_2 : Int) (end_2 : Int) (number_3 : Int) (tape_3 : Int → Int) (end_3 : Int) (next_3 : Int) (end_1 : Int) (next_1 : Int) (begin_1 : Int) (kind_1 : Int) (kind_2 : Int) (begin_2 : Int) (tape_0 : Int → Int) (tape_1 : Int → Int) (k2 : 0 ≤ x2 ∧ x2 ≤ 2000) (k5 : 1 ≤ x5 ∧ x5 ≤ 1999) (k11 : 2 ≤ x11 ∧ x11 ≤ 2000) (d1 : x5 + (-4294967296) ≤ x11 ∧ x11 ≤ x5 + 0) (d2 : x5 + 1 ≤ x11 ∧ x11 ≤ x5 + 4294967296) (fe_0_5_1 : end_0 = end_1) (fe_0_6_1 : next_0 = next_1) (fe_0_8_1 : begin_0 = begin_1) (fe_0_9_1 : number_0 = number_1) (fe_0_5_2 : end_1 = end_2) (fe_0_7_2 : kind_1 = kind_2) (fe_0_8_2 : begin_1 = begin_2) (fe_0_9_2 : number_1 = number_2) (fe_0_5_3 : end_2 = end_3) (fe_0_6_3 : next_2 = next_3) (fe_0_9_3 : number_2 = number_3) (hE_0_0_1 : ∀ j : Int, tape_0 j = tape_1 j) (hE_0_0_2 : ∀ j : Int, tape_1 j = tape_2 j) (hE_0_0_3 : ∀ j : Int, tape_2 j = tape_3 j) (hK_0_0 : ∀ j : Int, 0 ≤ j → j < 2000 → (-128) ≤ tape_0 j ∧ tape_0 j ≤ 127) (kz_0_5 : 0 ≤ end_0 ∧ end_0 ≤ 2000) (kz_0_6 : 0 ≤ next_0 ∧ next_0 ≤ 2000) (kz_0_8 : 0 ≤ begin_0 ∧ begin_0 ≤ 2000) (kz_0_9 : (-176) ≤ number_0 ∧ number_0 ≤ 1000000) : 1 * x2 + ((-1) * next_0 + 0) ≤ 0 := by
  subst fe_0_5_1
  subst fe_0_6_1
  subst fe_0_8_1
  subst fe_0_9_1
  subst fe_0_5_2
  subst fe_0_7_2
  subst fe_0_8_2
  subst fe_0_9_2
  subst fe_0_5_3
  subst fe_0_6_3
  subst fe_0_9_3
  have e_hE_0_0_1 := funext hE_0_0_1; subst e_hE_0_0_1
  have e_hE_0_0_2 := funext hE_0_0_2; subst e_hE_0_0_2
  have e_hE_0_0_3 := funext hE_0_0_3; subst e_hE_0_0_3
  first | with_reducible assumption | ((try and_intros) <;> first | with_reducible assumption | (clear hE_0_0_1 hE_0_0_2 hE_0_0_3 hK_0_0; omega)) | omega
def o_Re_advance_6 : or_T := (290, 14, [(0, (2, 0, 0, [8])), (1, (0, -2147483648, 1000000, [])), (2, (0, 0, 2000, [])), (3, (2, 0, 0, [8])), (4, (0, 1, 1999, [])), (5, (0, 1, 1999, [])), (6, (2, 0, 0, [109])), (7, (0, 91, 96, [])), (8, (0, 0, 0, [])), (9, (0, 0, 0, [])), (10, (0, 1, 1, [])), (11, (0, 2, 2000, [])), (12, (0, 0, 0, [])), (13, (0, 1, 1, []))], [(9, [13, 3], [7]), (9, [11, 3], [6]), (9, [6, 3], [0]), (9, [4, 3], [8]), (9, [5, 3], [5]), (20, [7, 12], [61, 0, 1100]), (20, [7, 9], [61, 0, 1098]), (20, [7, 8], [61, 0, 1097]), (20, [3, 1], [30, 0, 1, 1, 9, -1, 0, 0]), (20, [3, 1], [30, 0, -1, 1, 9, 1, 0, 0]), (24, [0, 3], []), (101, [3, 13], [7]), (8, [12], [0]), (20, [7, 12], [61, 0, 1100]), (20, [7, 9], [61, 0, 1098]), (20, [7, 8], [61, 0, 1097]), (20, [3, 1], [30, 0, 1, 1, 9, -1, 0, 0]), (20, [3, 1], [30, 0, -1, 1, 9, 1, 0, 0]), (101, [3, 11], [6]), (1, [11, 4, 10], []), (9, [4, 3], [6]), (8, [9], [0]), (20, [7, 9], [61, 0, 1098]), (8, [8], [0]), (20, [7, 8], [61, 0, 1097]), (10, [7, 6, 4], []), (7, [4, 5], [2]), (20, [3, 1], [30, 0, 1, 1, 9, -1, 0, 0]), (20, [3, 1], [30, 0, -1, 1, 9, 1, 0, 0]), (20, [3, 2], [60, 2, 1, 1074, 5, 6, 0]), (20, [2, 3], [30, 0, 1, 0, 0, -1, 1, 6]), (101, [3, 4], [8]), (7, [4, 5], [3]), (20, [3, 1], [30, 0, 1, 1, 9, -1, 0, 0]), (20, [3, 1], [30, 0, -1, 1, 9, 1, 0, 0]), (20, [3, 2], [60, 2, 1, 1074, 5, 6, 0]), (20, [2, 3], [30, 0, 1, 0, 0, -1, 1, 6])], [], [], [(20, [0, 0, 1], [31, 1, 3, 1, 1, 7, 0, 1, 1, 9, -1, 0, 0]), (20, [0, 0, 1], [31, 1, 3, 1, 1, 7, 0, -1, 1, 9, 1, 0, 0]), (20, [0, 0, 0, 0], [31, 1, -3, -1, 1, 7, 4008, 1, 1, 6, -1, 1, 8, 2000, 1, 7]), (20, [0, 0], [30, 0, 1, 1, 8, -1, 1, 6]), (20, [0, 2], [60, 5, 1, 1072, 5, 6, 7, 8, 9, 0]), (20, [2, 0], [30, 0, 1, 0, 0, -1, 1, 6])], [], [(11, 4, 1, 1), (11, 5, -4294967296, 0), (11, 5, 1, 4294967296), (4, 5, -4294967296, -1), (4, 5, 0, 4294967296)])
theorem oo_Re_advance_6 {kA : Nat → ClassId} : or_ok PRD kA GG o_Re_advance_6 := by
  refine or_mk fun A ta ws vs hD hth hl => ?_
  intro t0 r0 t1 k1 t2 k2 t3 r3 t4 k4 t5 k5 t6 r6 t7 k7 t8 k8 t9 k9 t10 k10 t11 k11 t12 k12 t13 k13 d0 d1 d2 d3 d4 f0 f1 f2 f3 f4 f5 f6 f7 f8 f9 f10 ta1 w1 le1 s1 f12 f13 f14 f15 f16 f17 ta2 w2 le2 s2 f19 f20 f21 f22 f23 f24 f25 f26 f27 f28 f29 f30 ta3 w3 le3 s3 f32 f33 f34 f35 f36
  replace f0 := shm_198 f0
  replace f1 := shm_111 f1
  replace f2 := shm_163 f2
  replace f3 := shm_293 f3
  replace f4 := shm_110 f4
  replace f10 := shm_5 f10
  have s1 : (∀ b j, w_el ws b j = w_el w1 b j) ∧ ∀ b j, w_fd ws b j = if b = v_ad (n_v vs 3) ∧ j = 7 then n_v vs 13 else w_fd w1 b j := s1.2
  have s2 : (∀ b j, w_el w1 b j = w_el w2 b j) ∧ ∀ b j, w_fd w1 b j = if b = v_ad (n_v vs 3) ∧ j = 6 then n_v vs 11 else w_fd w2 b j := s2.2
  replace f20 := shm_111 f20
  replace f25 := shm_107 f25
  have s3 : (∀ b j, w_el w2 b j = w_el w3 b j) ∧ ∀ b j, w_fd w2 b j = if b = v_ad (n_v vs 3) ∧ j = 8 then n_v vs 4 else w_fd w3 b j := s3.2
  replace f35 := shm_1526 f35
  have q3 : n_v vs 3 = n_v vs 0 := f10.symm
  simp only [q3] at f0 f1 f2 f3 f4
  rw [q3] at s1
  rw [q3] at s2
  simp only [q3] at f20
  rw [q3] at s3
  simp only [q3] at f35
  have ar_0_0_1 : w_ar w1 (n_v vs 0) 0 = w_ar ws (n_v vs 0) 0 := by show v_ad (w_fd w1 _ _) = v_ad (w_fd ws _ _); rw [s1.2, if_neg (fun e => absurd e.2 (by decide))]
  have ar_0_0_2 : w_ar w2 (n_v vs 0) 0 = w_ar ws (n_v vs 0) 0 := by rw [← ar_0_0_1]; show v_ad (w_fd w2 _ _) = v_ad (w_fd w1 _ _); rw [s2.2, if_neg (fun e => absurd e.2 (by decide))]
  have ar_0_0_3 : w_ar w3 (n_v vs 0) 0 = w_ar ws (n_v vs 0) 0 := by rw [← ar_0_0_2]; show v_ad (w_fd w3 _ _) = v_ad (w_fd w2 _ _); rw [s3.2, if_neg (fun e => absurd e.2 (by decide))]
  have cr_0_0 := fdq_95 hD hth r0
  have ad_6 : v_ad (n_v vs 6) = w_ar ws (n_v vs 0) 0 := congrArg v_ad f2
  have g0 : v_iv (n_v vs 13) = w_fi ws (n_v vs 0) 7 := congrArg v_iv f0
  have g1 : v_iv (n_v vs 11) = w_fi ws (n_v vs 0) 6 := congrArg v_iv f1
  have g3 : v_iv (n_v vs 4) = w_fi ws (n_v vs 0) 8 := congrArg v_iv f3
  have g4 : v_iv (n_v vs 5) = w_fi ws (n_v vs 0) 5 := congrArg v_iv f4
  have g20 : v_iv (n_v vs 4) = w_fi w2 (n_v vs 0) 6 := congrArg v_iv f20
  simp only [ad_6] at f25
  have h25 : v_iv (n_v vs 7) = w_ei w2 (w_ar ws (n_v vs 0) 0) (v_iv (n_v vs 4)) := f25
  simp only [ar_0_0_2, ar_0_0_3] at f35
  have fe_0_5_1 : w_fi ws (n_v vs 0) 5 = w_fi w1 (n_v vs 0) 5 := by show v_iv (w_fd _ _ _) = v_iv (w_fd _ _ _); rw [s1.2, if_neg (fun e => absurd e.2 (by decide))]
  have fe_0_6_1 : w_fi ws (n_v vs 0) 6 = w_fi w1 (n_v vs 0) 6 := by show v_iv (w_fd _ _ _) = v_iv (w_fd _ _ _); rw [s1.2, if_neg (fun e => absurd e.2 (by decide))]
  have fe_0_8_1 : w_fi ws (n_v vs 0) 8 = w_fi w1 (n_v vs 0) 8 := by show v_iv (w_fd _ _ _) = v_iv (w_fd _ _ _); rw [s1.2, if_neg (fun e => absurd e.2 (by decide))]
  have fe_0_9_1 : w_fi ws (n_v vs 0) 9 = w_fi w1 (n_v vs 0) 9 := by show v_iv (w_fd _ _ _) = v_iv (w_fd _ _ _); rw [s1.2, if_neg (fun e => absurd e.2 (by decide))]
  have fe_0_5_2 : w_fi w1 (n_v vs 0) 5 = w_fi w2 (n_v vs 0) 5 := by show v_iv (w_fd _ _ _) = v_iv (w_fd _ _ _); rw [s2.2, if_neg (fun e => absurd e.2 (by decide))]
  have fe_0_7_2 : w_fi w1 (n_v vs 0) 7 = w_fi w2 (n_v vs 0) 7 := by show v_iv (w_fd _ _ _) = v_iv (w_fd _ _ _); rw [s2.2, if_neg (fun e => absurd e.2 (by decide))]
  have fe_0_8_2 : w_fi w1 (n_v vs 0) 8 = w_fi w2 (n_v vs 0) 8 := by show v_iv (w_fd _ _ _) = v_iv (w_fd _ _ _); rw [s2.2, if_neg (fun e => absurd e.2 (by decide))]
  have fe_0_9_2 : w_fi w1 (n_v vs 0) 9 = w_fi w2 (n_v vs 0) 9 := by show v_iv (w_fd _ _ _) = v_iv (w_fd _ _ _); rw [s2.2, if_neg (fun e => absurd e.2 (by decide))]
  have fe_0_5_3 : w_fi w2 (n_v vs 0) 5 = w_fi w3 (n_v vs 0) 5 := by show v_iv (w_fd _ _ _) = v_iv (w_fd _ _ _); rw [s3.2, if_neg (fun e => absurd e.2 (by decide))]
  have fe_0_6_3 : w_fi w2 (n_v vs 0) 6 = w_fi w3 (n_v vs 0) 6 := by show v_iv (w_fd _ _ _) = v_iv (w_fd _ _ _); rw [s3.2, if_neg (fun e => absurd e.2 (by decide))]
  have fe_0_8_3 : w_fi w2 (n_v vs 0) 8 = v_iv (n_v vs 4) := by show v_iv (w_fd _ _ _) = _; rw [s3.2, if_pos ⟨rfl, rfl⟩]
  have fe_0_9_3 : w_fi w2 (n_v vs 0) 9 = w_fi w3 (n_v vs 0) 9 := by show v_iv (w_fd _ _ _) = v_iv (w_fd _ _ _); rw [s3.2, if_neg (fun e => absurd e.2 (by decide))]
  have hE_0_0_1 : ∀ j : Int, w_ei ws (w_ar ws (n_v vs 0) 0) j = w_ei w1 (w_ar ws (n_v vs 0) 0) j := fun j => s1.1 _ _
  have hE_0_0_2 : ∀ j : Int, w_ei w1 (w_ar ws (n_v vs 0) 0) j = w_ei w2 (w_ar ws (n_v vs 0) 0) j := fun j => s2.1 _ _
  have hE_0_0_3 : ∀ j : Int, w_ei w2 (w_ar ws (n_v vs 0) 0) j = w_ei w3 (w_ar ws (n_v vs 0) 0) j := fun j => s3.1 _ _
  have hK_0_0 := elq_33 hD hth cr_0_0
  have kz_0_5 := fdq_207 hD hth r0
  have kz_0_6 := fdq_208 hD hth r0
  have kz_0_7 := fdq_297 hD hth r0
  have kz_0_8 := fdq_99 hD hth r0
  have kz_0_9 := fdq_296 hD hth r0
  have nf0 : fc_1 PRD (20, [0, 0, 1], [31, 1, 3, 1, 1, 7, 0, 1, 1, 9, -1, 0, 0]) ws (vs) := ⟨nf_in hl rfl, sgq_1528 (vc_Re_advance_6_0 (v_iv (n_v vs 1)) (v_iv (n_v vs 5)) (v_iv (n_v vs 11)) (w_fi ws (n_v vs 0) 7) (w_fi ws (n_v vs 0) 6) (w_fi ws (n_v vs 0) 8) (w_fi ws (n_v vs 0) 5) (w_fi ws (n_v vs 0) 9) (w_fi w1 (n_v vs 0) 9) (w_fi w2 (n_v vs 0) 6) (w_ei w2 (w_ar ws (n_v vs 0) 0)) (w_fi w2 (n_v vs 0) 9) (w_fi w2 (n_v vs 0) 5) (w_fi w3 (n_v vs 0) 9) (w_ei w3 (w_ar ws (n_v vs 0) 0)) (w_fi w3 (n_v vs 0) 5) (w_fi w3 (n_v vs 0) 6) (w_fi w1 (n_v vs 0) 5) (w_fi w1 (n_v vs 0) 6) (w_fi w1 (n_v vs 0) 8) (w_fi w1 (n_v vs 0) 7) (w_fi w2 (n_v vs 0) 7) (w_fi w2 (n_v vs 0) 8) (w_ei ws (w_ar ws (n_v vs 0) 0)) (w_ei w1 (w_ar ws (n_v vs 0) 0)) k1 k5 k11 d1 d2 fe_0_5_1 fe_0_6_1 fe_0_8_1 fe_0_9_1 fe_0_5_2 fe_0_7_2 fe_0_8_2 fe_0_9_2 fe_0_5_3 fe_0_6_3 fe_0_9_3 hE_0_0_1 hE_0_0_2 hE_0_0_3 hK_0_0 kz_0_5 kz_0_6 kz_0_7 kz_0_8 kz_0_9)⟩
  have nf1 : fc_1 PRD (20, [0, 0, 1], [31, 1, 3, 1, 1, 7, 0, -1, 1, 9, 1, 0, 0]) ws (vs) := ⟨nf_in hl rfl, sgq_1529 (vc_Re_advance_6_1 (v_iv (n_v vs 1)) (v_iv (n_v vs 5)) (v_iv (n_v vs 11)) (w_fi ws (n_v vs 0) 7) (w_fi ws (n_v vs 0) 6) (w_fi ws (n_v vs 0) 8) (w_fi ws (n_v vs 0) 5) (w_fi ws (n_v vs 0) 9) (w_fi w1 (n_v vs 0) 9) (w_fi w2 (n_v vs 0) 6) (w_ei w2 (w_ar ws (n_v vs 0) 0)) (w_fi w2 (n_v vs 0) 9) (w_fi w2 (n_v vs 0) 5) (w_fi w3 (n_v vs 0) 9) (w_ei w3 (w_ar ws (n_v vs 0) 0)) (w_fi w3 (n_v vs 0) 5) (w_fi w3 (n_v vs 0) 6) (w_fi w1 (n_v vs 0) 5) (w_fi w1 (n_v vs 0) 6) (w_fi w1 (n_v vs 0) 8) (w_fi w1 (n_v vs 0) 7) (w_fi w2 (n_v vs 0) 7) (w_fi w2 (n_v vs 0) 8) (w_ei ws (w_ar ws (n_v vs 0) 0)) (w_ei w1 (w_ar ws (n_v vs 0) 0)) k1 k5 k11 d1 d2 fe_0_5_1 fe_0_6_1 fe_0_8_1 fe_0_9_1 fe_0_5_2 fe_0_7_2 fe_0_8_2 fe_0_9_2 fe_0_5_3 fe_0_6_3 fe_0_9_3 hE_0_0_1 hE_0_0_2 hE_0_0_3 hK_0_0 kz_0_5 kz_0_6 kz_0_7 kz_0_8 kz_0_9)⟩
  have nf2 : fc_1 PRD (20, [0, 0, 0, 0], [31, 1, -3, -1, 1, 7, 4008, 1, 1, 6, -1, 1, 8, 2000, 1, 7]) ws (vs) := ⟨nf_in hl rfl, sgq_1530 (vc_Re_advance_6_2 (v_iv (n_v vs 5)) (v_iv (n_v vs 11)) (w_fi ws (n_v vs 0) 7) (w_fi ws (n_v vs 0) 6) (w_fi ws (n_v vs 0) 8) (w_fi ws (n_v vs 0) 5) (w_fi ws (n_v vs 0) 9) (w_fi w1 (n_v vs 0) 9) (w_fi w2 (n_v vs 0) 6) (w_ei w2 (w_ar ws (n_v vs 0) 0)) (w_fi w2 (n_v vs 0) 9) (w_fi w2 (n_v vs 0) 5) (w_fi w3 (n_v vs 0) 9) (w_ei w3 (w_ar ws (n_v vs 0) 0)) (w_fi w3 (n_v vs 0) 5) (w_fi w3 (n_v vs 0) 6) (w_fi w1 (n_v vs 0) 5) (w_fi w1 (n_v vs 0) 6) (w_fi w1 (n_v vs 0) 8) (w_fi w1 (n_v vs 0) 7) (w_fi w2 (n_v vs 0) 7) (w_fi w2 (n_v vs 0) 8) (w_ei ws (w_ar ws (n_v vs 0) 0)) (w_ei w1 (w_ar ws (n_v vs 0) 0)) k5 k11 d1 d2 fe_0_5_1 fe_0_6_1 fe_0_8_1 fe_0_9_1 fe_0_5_2 fe_0_7_2 fe_0_8_2 fe_0_9_2 fe_0_5_3 fe_0_6_3 fe_0_9_3 hE_0_0_1 hE_0_0_2 hE_0_0_3 hK_0_0 kz_0_5 kz_0_6 kz_0_7 kz_0_8 kz_0_9)⟩
  have nf3 : fc_1 PRD (20, [0, 0], [30, 0, 1, 1, 8, -1, 1, 6]) ws (vs) := ⟨nf_in hl rfl, sgq_1531 (vc_Re_advance_6_3 (v_iv (n_v vs 5)) (v_iv (n_v vs 11)) (w_fi ws (n_v vs 0) 6) (w_fi ws (n_v vs 0) 8) (w_fi ws (n_v vs 0) 5) (w_fi ws (n_v vs 0) 9) (w_fi w1 (n_v vs 0) 9) (w_fi w2 (n_v vs 0) 6) (w_ei w2 (w_ar ws (n_v vs 0) 0)) (w_fi w2 (n_v vs 0) 9) (w_fi w2 (n_v vs 0) 5) (w_fi w3 (n_v vs 0) 9) (w_ei w3 (w_ar ws (n_v vs 0) 0)) (w_fi w3 (n_v vs 0) 5) (w_fi w3 (n_v vs 0) 6) (w_fi w1 (n_v vs 0) 5) (w_fi w1 (n_v vs 0) 6) (w_fi w1 (n_v vs 0) 8) (w_fi w1 (n_v vs 0) 7) (w_fi w2 (n_v vs 0) 7) (w_fi w2 (n_v vs 0) 8) (w_ei ws (w_ar ws (n_v vs 0) 0)) (w_ei w1 (w_ar ws (n_v vs 0) 0)) k5 k11 d1 d2 fe_0_5_1 fe_0_6_1 fe_0_8_1 fe_0_9_1 fe_0_5_2 fe_0_7_2 fe_0_8_2 fe_0_9_2 fe_0_5_3 fe_0_6_3 fe_0_9_3 hE_0_0_1 hE_0_0_2 hE_0_0_3 hK_0_0 kz_0_5 kz_0_6 kz_0_8 kz_0_9)⟩
  have nf4 : fc_1 PRD (20, [0, 2], [60, 5, 1, 1072, 5, 6, 7, 8, 9, 0]) ws (vs) := ⟨nf_in hl rfl, sgq_1532 (vc_Re_advance_6_4 (v_iv (n_v vs 2)) (v_iv (n_v vs 4)) (v_iv (n_v vs 5)) (v_iv (n_v vs 7)) (v_iv (n_v vs 11)) (v_iv (n_v vs 12)) (v_iv (n_v vs 13)) (w_fi ws (n_v vs 0) 7) (w_fi ws (n_v vs 0) 6) (w_fi ws (n_v vs 0) 8) (w_fi ws (n_v vs 0) 5) (w_fi ws (n_v vs 0) 9) (w_fi w1 (n_v vs 0) 9) (w_fi w2 (n_v vs 0) 6) (w_ei w2 (w_ar ws (n_v vs 0) 0)) (w_fi w2 (n_v vs 0) 9) (w_fi w2 (n_v vs 0) 5) (w_fi w3 (n_v vs 0) 9) (w_ei w3 (w_ar ws (n_v vs 0) 0)) (w_fi w3 (n_v vs 0) 5) (w_fi w3 (n_v vs 0) 6) (w_fi w1 (n_v vs 0) 5) (w_fi w1 (n_v vs 0) 6) (w_fi w1 (n_v vs 0) 8) (w_fi w1 (n_v vs 0) 7) (w_fi w2 (n_v vs 0) 7) (w_fi w2 (n_v vs 0) 8) (w_ei ws (w_ar ws (n_v vs 0) 0)) (w_ei w1 (w_ar ws (n_v vs 0) 0)) k2 k4 k5 k7 k11 k12 k13 d1 d2 g0 g1 g3 g4 (shm_454 f13) g20 h25 (shm_6 f26) f35 fe_0_5_1 fe_0_6_1 fe_0_8_1 fe_0_9_1 fe_0_5_2 fe_0_7_2 fe_0_8_2 fe_0_9_2 fe_0_5_3 fe_0_6_3 fe_0_8_3 fe_0_9_3 hE_0_0_1 hE_0_0_2 hE_0_0_3 hK_0_0 kz_0_5 kz_0_6 kz_0_7 kz_0_8 kz_0_9)⟩
  have nf5 : fc_1 PRD (20, [2, 0], [30, 0, 1, 0, 0, -1, 1, 6]) ws (vs) := ⟨nf_in hl rfl, sgq_1527 (vc_Re_advance_6_5 (v_iv (n_v vs 2)) (v_iv (n_v vs 5)) (v_iv (n_v vs 11)) (w_fi ws (n_v vs 0) 6) (w_fi ws (n_v vs 0) 8) (w_fi ws (n_v vs 0) 5) (w_fi ws (n_v vs 0) 9) (w_fi w1 (n_v vs 0) 9) (w_fi w2 (n_v vs 0) 6) (w_ei w2 (w_ar ws (n_v vs 0) 0)) (w_fi w2 (n_v vs 0) 9) (w_fi w2 (n_v vs 0) 5) (w_fi w3 (n_v vs 0) 9) (w_ei w3 (w_ar ws (n_v vs 0) 0)) (w_fi w3 (n_v vs 0) 5) (w_fi w3 (n_v vs 0) 6) (w_fi w1 (n_v vs 0) 5) (w_fi w1 (n_v vs 0) 6) (w_fi w1 (n_v vs 0) 8) (w_fi w1 (n_v vs 0) 7) (w_fi w2 (n_v vs 0) 7) (w_fi w2 (n_v vs 0) 8) (w_ei ws (w_ar ws (n_v vs 0) 0)) (w_ei w1 (w_ar ws (n_v vs 0) 0)) k2 k5 k11 d1 d2 fe_0_5_1 fe_0_6_1 fe_0_8_1 fe_0_9_1 fe_0_5_2 fe_0_7_2 fe_0_8_2 fe_0_9_2 fe_0_5_3 fe_0_6_3 fe_0_9_3 hE_0_0_1 hE_0_0_2 hE_0_0_3 hK_0_0 kz_0_5 kz_0_6 kz_0_8 kz_0_9)⟩
  refine ⟨(fun _ h => (by cases h)), [], trivial, ?_, (fun _ h => (by cases h))⟩
  rw [List.append_nil]
  exact List.forall_mem_cons.mpr ⟨⟨show (20 : Nat) < 100 from by decide, nf0⟩, List.forall_mem_cons.mpr ⟨⟨show (20 : Nat) < 100 from by decide, nf1⟩, List.forall_mem_cons.mpr ⟨⟨show (20 : Nat) < 100 from by decide, nf2⟩, List.forall_mem_cons.mpr ⟨⟨show (20 : Nat) < 100 from by decide, nf3⟩, List.forall_mem_cons.mpr ⟨⟨show (20 : Nat) < 100 from by decide, nf4⟩, List.forall_mem_cons.mpr ⟨⟨show (20 : Nat) < 100 from by decide, nf5⟩, (fun _ h => (by cases h))⟩⟩⟩⟩⟩⟩
