def o_Pl_lay_6 : or_T := (144, 11, [(1, (0, 5, 4, [])), (2, (0, -2147483648, 2147483647, [])), (3, (2, 0, 0, [3])), (4, (2, 0, 0, [2])), (6, (2, 0, 0, [12])), (7, (0, 0, 3072, [])), (8, (0, 3, 3, [])), (9, (0, 4, 4, [])), (10, (0, 6, 6, []))], [(20, [2, 1], [50, 0, 0, 2, 6, 0, 2, 0, 8, 1, 0, 2, 6, 0, 2, 1, 0, 0, 512, 1, 2, 1, 1, 0, 4]), (7, [1, 10], [1]), (7, [1, 9], [1]), (7, [1, 8], [1]), (20, [3, 4], [60, 1, 2, 671, 0, 14, 1004]), (20, [3, 4], [60, 2, 1, 672, 0, 1001, 1004]), (20, [6, 7], [62, 2000000])], [(2, (0, 8, 512, []))], [(2, 0, 0, [12]), (0, 0, 3072, [])], [(24, [6, 11], []), (23, [12, 7], [0, 1, -1]), (23, [12, 7], [0, -1, 1]), (20, [11, 12], [62, 2000000])], [], [])
theorem oo_Pl_lay_6 {kA : Nat → ClassId} : or_ok PRD kA GG o_Pl_lay_6 := by
  refine or_mk fun A ta ws vs hD hth hl => ?_
  intro t1 k1 t2 k2 t3 r3 t4 r4 t6 r6 t7 k7 t8 k8 t9 k9 t10 k10 f0 f1 f2 f3 f4 f5 f6
  replace f0 := shm_2058 f0
  replace f1 := shm_40 f1
  replace f2 := shm_40 f2
  replace f3 := shm_40 f3
  replace f4 := shm_432 f4
  replace f5 := shm_1148 f5
  replace f6 := shm_173 f6
  have cr_3_14 := fdq_79 hD hth r3
  have cr_4_4 := fdq_91 hD hth r4
  have hK_3_14 := elq_24 hD hth cr_3_14
  have hK_4_4 := elq_28 hD hth cr_4_4
  have kz_3_0 := fdq_23 hD hth r3
  have kz_4_1 := fdq_270 hD hth r4
  obtain ⟨y, ey, hy⟩ := iv_ex (ta := ta) (lo := 0) (hi := 3072) (z := v_iv (n_v vs 7)) (by omega) (by omega) (by omega) (by omega)
  have ey2 : v_iv (Value.int y) = v_iv (n_v vs 7) := ey
  have ey3 : 0 ≤ v_iv (Value.int y) ∧ v_iv (Value.int y) ≤ 3072 := tv_rng hy
  have hrf0 : 8 ≤ v_iv (n_v vs 2) ∧ v_iv (n_v vs 2) ≤ 512 := vc_Pl_lay_6_r0 (v_iv (n_v vs 1)) (v_iv (n_v vs 2)) k1 k2
  have e_6 : n_v (vs ++ [n_v vs 6, Value.int y]) 6 = n_v vs 6 := n_v_old (by rw [hl]; decide)
  have e_7 : n_v (vs ++ [n_v vs 6, Value.int y]) 7 = n_v vs 7 := n_v_old (by rw [hl]; decide)
  have e_11 : n_v (vs ++ [n_v vs 6, Value.int y]) 11 = n_v vs 6 := n_v_new0 hl
  have e_12 : n_v (vs ++ [n_v vs 6, Value.int y]) 12 = Value.int y := n_v_new1 hl
  have nf0 : fc_1 PRD (24, [6, 11], []) ws (vs ++ [n_v vs 6, Value.int y]) := by
    refine ⟨nf_inA hl rfl, sgq_5 ?_⟩
    · show n_v (vs ++ [n_v vs 6, Value.int y]) 6 = n_v (vs ++ [n_v vs 6, Value.int y]) 11
      first | rfl | simp only [e_6, e_11]
  have nf1 : fc_1 PRD (23, [12, 7], [0, 1, -1]) ws (vs ++ [n_v vs 6, Value.int y]) := by
    refine ⟨nf_inA hl rfl, sgq_7 ?_⟩
    · show 1 * v_iv (n_v (vs ++ [n_v vs 6, Value.int y]) 12) + ((-1) * v_iv (n_v (vs ++ [n_v vs 6, Value.int y]) 7) + 0) ≤ 0
      simp only [e_7, e_12]
      exact vc_Pl_lay_6_1 (v_iv (n_v vs 1)) (v_iv (n_v vs 7)) (v_iv (Value.int y)) k1 k7
  have nf2 : fc_1 PRD (23, [12, 7], [0, -1, 1]) ws (vs ++ [n_v vs 6, Value.int y]) := by
    refine ⟨nf_inA hl rfl, sgq_22 ?_⟩
    · show (-1) * v_iv (n_v (vs ++ [n_v vs 6, Value.int y]) 12) + (1 * v_iv (n_v (vs ++ [n_v vs 6, Value.int y]) 7) + 0) ≤ 0
      simp only [e_7, e_12]
      exact vc_Pl_lay_6_2 (v_iv (n_v vs 1)) (v_iv (n_v vs 7)) (v_iv (Value.int y)) k1 k7
  have nf3 : fc_1 PRD (20, [11, 12], [62, 2000000]) ws (vs ++ [n_v vs 6, Value.int y]) := by
    refine ⟨nf_inA hl rfl, sgq_173 ?_⟩
    · show HY ws (n_v (vs ++ [n_v vs 6, Value.int y]) 11) (v_iv (n_v (vs ++ [n_v vs 6, Value.int y]) 12) + (((2000000 : Nat) : Int) - 2000000))
      simp only [e_11, e_12]
      exact hy_le f6 (by omega)
  have rf2 : tv_ok ta (0, 8, 512, []) (n_v vs 2) := tv_in t2 (by first | omega | grind) (by first | omega | grind)
  exact ⟨List.forall_mem_cons.mpr ⟨rf2, (fun _ h => (by cases h))⟩, [n_v vs 6, Value.int y], ag_two t6 hy, List.forall_mem_cons.mpr ⟨⟨show (24 : Nat) < 100 from by decide, nf0⟩, List.forall_mem_cons.mpr ⟨⟨show (23 : Nat) < 100 from by decide, nf1⟩, List.forall_mem_cons.mpr ⟨⟨show (23 : Nat) < 100 from by decide, nf2⟩, List.forall_mem_cons.mpr ⟨⟨show (20 : Nat) < 100 from by decide, nf3⟩, (fun _ h => (by cases h))⟩⟩⟩⟩, (fun _ h => (by cases h))⟩
def o_Pl_lay_7 : or_T := (177, 14, [(1, (0, 5, 4, [])), (2, (0, 8, 512, [])), (3, (2, 0, 0, [3])), (4, (2, 0, 0, [2])), (5, (2, 0, 0, [0])), (6, (2, 0, 0, [12])), (7, (0, 0, 3072, [])), (8, (0, 3, 3, [])), (9, (0, 4, 4, [])), (10, (0, 6, 6, [])), (11, (2, 0, 0, [12])), (12, (0, 0, 3072, []))], [(24, [6, 11], []), (23, [12, 7], [0, 1, -1]), (23, [12, 7], [0, -1, 1]), (20, [2, 1], [50, 0, 0, 2, 6, 0, 2, 0, 8, 1, 0, 2, 6, 0, 2, 1, 0, 0, 512, 1, 2, 1, 1, 0, 4]), (20, [3, 4], [60, 1, 2, 671, 0, 14, 1004]), (20, [3, 4], [60, 2, 1, 672, 0, 1001, 1004]), (20, [11, 12], [62, 2000000]), (20, [5], [60, 0, 1, 641, 4]), (102, [12], [65536]), (23, [12, 7], [0, 1, -1]), (23, [12, 7], [0, -1, 1]), (102, [12], [277298568799925181577408069632, 6011, 6013, 6014]), (23, [12, 7], [0, 1, -1]), (23, [12, 7], [0, -1, 1]), (7, [1, 10], [1]), (7, [1, 9], [1]), (7, [1, 8], [1])], [], [], [(20, [6, 7], [62, 2000000])], [], [])
theorem oo_Pl_lay_7 {kA : Nat → ClassId} : or_ok PRD kA GG o_Pl_lay_7 := by
  refine or_mk fun A ta ws vs hD hth hl => ?_
  intro t1 k1 t2 k2 t3 r3 t4 r4 t5 r5 t6 r6 t7 k7 t8 k8 t9 k9 t10 k10 t11 r11 t12 k12 f0 f1 f2 f3 f4 f5 f6 f7 ta1 w1 le1 s1 f9 f10 ta2 w2 le2 s2 f12 f13 f14 f15 f16
  replace f0 := shm_5 f0
  replace f1 := shm_7 f1
  replace f2 := shm_22 f2
  replace f3 := shm_2058 f3
  replace f4 := shm_432 f4
  replace f5 := shm_1148 f5
  replace f6 := shm_173 f6
  replace f7 := shm_780 f7
  replace f9 := shm_7 f9
  replace f10 := shm_22 f10
  replace f12 := shm_7 f12
  replace f13 := shm_22 f13
  replace f14 := shm_40 f14
  replace f15 := shm_40 f15
  replace f16 := shm_40 f16
  have q11 : n_v vs 11 = n_v vs 6 := f0.symm
  simp only [q11] at f6
  have cr_3_14 := fdq_79 hD hth r3
  have cr_4_4 := fdq_91 hD hth r4
  have cr_5_4 := fdq_1 hD hth r5
  have hK_3_14 := elq_24 hD hth cr_3_14
  have hK_4_4 := elq_28 hD hth cr_4_4
  have hK_5_4 := elq_0 hD hth cr_5_4
  have kz_3_0 := fdq_23 hD hth r3
  have kz_4_1 := fdq_270 hD hth r4
  have nf0 : fc_1 PRD (20, [6, 7], [62, 2000000]) ws (vs) := by
    refine ⟨nf_in hl rfl, sgq_173 ?_⟩
    · show HY ws (n_v vs 6) (v_iv (n_v vs 7) + (((2000000 : Nat) : Int) - 2000000))
      exact hy_le f6 (by omega)
  refine ⟨(fun _ h => (by cases h)), [], trivial, ?_, (fun _ h => (by cases h))⟩
  rw [List.append_nil]
  exact List.forall_mem_cons.mpr ⟨⟨show (20 : Nat) < 100 from by decide, nf0⟩, (fun _ h => (by cases h))⟩
set_option maxHeartbeats 4000000 in
theorem vc_Pl_lay_8_1 (x7 : Int) (gy : Int) (k7 : 0 ≤ x7 ∧ x7 ≤ 3072) (ey2 : gy = x7) : 1 * gy + ((-1) * x7 + 0) ≤ 0 := by
  first
    | omega
  
set_option maxHeartbeats 4000000 in
theorem vc_Pl_lay_8_2 (x7 : Int) (gy : Int) (k7 : 0 ≤ x7 ∧ x7 ≤ 3072) (ey2 : gy = x7) : (-1) * gy + (1 * x7 + 0) ≤ 0 := by
  first
    | omega
  
def o_Pl_lay_8 : or_T := (151, 11, [(3, (2, 0, 0, [3])), (4, (2, 0, 0, [2])), (6, (2, 0, 0, [12])), (7, (0, 0, 3072, []))], [(20, [3, 4], [60, 1, 2, 671, 0, 14, 1004]), (20, [3, 4], [60, 2, 1, 672, 0, 1001, 1004]), (20, [6, 7], [62, 2000000])], [], [(2, 0, 0, [12]), (0, 0, 3072, [])], [(24, [6, 11], []), (23, [12, 7], [0, 1, -1]), (23, [12, 7], [0, -1, 1]), (20, [11, 12], [62, 2000000])], [], [])
theorem oo_Pl_lay_8 {kA : Nat → ClassId} : or_ok PRD kA GG o_Pl_lay_8 := by
  refine or_mk fun A ta ws vs hD hth hl => ?_
  intro t3 r3 t4 r4 t6 r6 t7 k7 f0 f1 f2
  replace f0 := shm_432 f0
  replace f1 := shm_1148 f1
  replace f2 := shm_173 f2
  have cr_3_14 := fdq_79 hD hth r3
  have cr_4_4 := fdq_91 hD hth r4
  have hK_3_14 := elq_24 hD hth cr_3_14
  have hK_4_4 := elq_28 hD hth cr_4_4
  have kz_3_0 := fdq_23 hD hth r3
  have kz_4_1 := fdq_270 hD hth r4
  obtain ⟨y, ey, hy⟩ := iv_ex (ta := ta) (lo := 0) (hi := 3072) (z := v_iv (n_v vs 7)) (by omega) (by omega) (by omega) (by omega)
  have ey2 : v_iv (Value.int y) = v_iv (n_v vs 7) := ey
  have ey3 : 0 ≤ v_iv (Value.int y) ∧ v_iv (Value.int y) ≤ 3072 := tv_rng hy
  have e_6 : n_v (vs ++ [n_v vs 6, Value.int y]) 6 = n_v vs 6 := n_v_old (by rw [hl]; decide)
  have e_7 : n_v (vs ++ [n_v vs 6, Value.int y]) 7 = n_v vs 7 := n_v_old (by rw [hl]; decide)
  have e_11 : n_v (vs ++ [n_v vs 6, Value.int y]) 11 = n_v vs 6 := n_v_new0 hl
  have e_12 : n_v (vs ++ [n_v vs 6, Value.int y]) 12 = Value.int y := n_v_new1 hl
  have nf0 : fc_1 PRD (24, [6, 11], []) ws (vs ++ [n_v vs 6, Value.int y]) := by
    refine ⟨nf_inA hl rfl, sgq_5 ?_⟩
    · show n_v (vs ++ [n_v vs 6, Value.int y]) 6 = n_v (vs ++ [n_v vs 6, Value.int y]) 11
      first | rfl | simp only [e_6, e_11]
  have nf1 : fc_1 PRD (23, [12, 7], [0, 1, -1]) ws (vs ++ [n_v vs 6, Value.int y]) := by
    refine ⟨nf_inA hl rfl, sgq_7 ?_⟩
    · show 1 * v_iv (n_v (vs ++ [n_v vs 6, Value.int y]) 12) + ((-1) * v_iv (n_v (vs ++ [n_v vs 6, Value.int y]) 7) + 0) ≤ 0
      simp only [e_7, e_12]
      exact vc_Pl_lay_8_1 (v_iv (n_v vs 7)) (v_iv (Value.int y)) k7 ey2
  have nf2 : fc_1 PRD (23, [12, 7], [0, -1, 1]) ws (vs ++ [n_v vs 6, Value.int y]) := by
    refine ⟨nf_inA hl rfl, sgq_22 ?_⟩
    · show (-1) * v_iv (n_v (vs ++ [n_v vs 6, Value.int y]) 12) + (1 * v_iv (n_v (vs ++ [n_v vs 6, Value.int y]) 7) + 0) ≤ 0
      simp only [e_7, e_12]
      exact vc_Pl_lay_8_2 (v_iv (n_v vs 7)) (v_iv (Value.int y)) k7 ey2
  have nf3 : fc_1 PRD (20, [11, 12], [62, 2000000]) ws (vs ++ [n_v vs 6, Value.int y]) := by
    refine ⟨nf_inA hl rfl, sgq_173 ?_⟩
    · show HY ws (n_v (vs ++ [n_v vs 6, Value.int y]) 11) (v_iv (n_v (vs ++ [n_v vs 6, Value.int y]) 12) + (((2000000 : Nat) : Int) - 2000000))
      simp only [e_11, e_12]
      exact hy_le f2 (by omega)
  exact ⟨(fun _ h => (by cases h)), [n_v vs 6, Value.int y], ag_two t6 hy, List.forall_mem_cons.mpr ⟨⟨show (24 : Nat) < 100 from by decide, nf0⟩, List.forall_mem_cons.mpr ⟨⟨show (23 : Nat) < 100 from by decide, nf1⟩, List.forall_mem_cons.mpr ⟨⟨show (23 : Nat) < 100 from by decide, nf2⟩, List.forall_mem_cons.mpr ⟨⟨show (20 : Nat) < 100 from by decide, nf3⟩, (fun _ h => (by cases h))⟩⟩⟩⟩, (fun _ h => (by cases h))⟩
def o_Pl_lay_9 : or_T := (177, 14, [(3, (2, 0, 0, [3])), (4, (2, 0, 0, [2])), (5, (2, 0, 0, [0])), (6, (2, 0, 0, [12])), (7, (0, 0, 3072, [])), (11, (2, 0, 0, [12])), (12, (0, 0, 3072, []))], [(24, [6, 11], []), (23, [12, 7], [0, 1, -1]), (23, [12, 7], [0, -1, 1]), (20, [3, 4], [60, 1, 2, 671, 0, 14, 1004]), (20, [3, 4], [60, 2, 1, 672, 0, 1001, 1004]), (20, [11, 12], [62, 2000000]), (20, [5], [60, 0, 1, 641, 4]), (102, [12], [65536]), (23, [12, 7], [0, 1, -1]), (23, [12, 7], [0, -1, 1]), (102, [12], [1856910058928070412348735488, 7, 6008]), (23, [12, 7], [0, 1, -1]), (23, [12, 7], [0, -1, 1])], [], [], [(20, [6, 7], [62, 2000000])], [], [])
theorem oo_Pl_lay_9 {kA : Nat → ClassId} : or_ok PRD kA GG o_Pl_lay_9 := by
  refine or_mk fun A ta ws vs hD hth hl => ?_
  intro t3 r3 t4 r4 t5 r5 t6 r6 t7 k7 t11 r11 t12 k12 f0 f1 f2 f3 f4 f5 f6 ta1 w1 le1 s1 f8 f9 ta2 w2 le2 s2 f11 f12
  replace f0 := shm_5 f0
  replace f1 := shm_7 f1
  replace f2 := shm_22 f2
  replace f3 := shm_432 f3
  replace f4 := shm_1148 f4
  replace f5 := shm_173 f5
  replace f6 := shm_780 f6
  replace f8 := shm_7 f8
  replace f9 := shm_22 f9
  replace f11 := shm_7 f11
  replace f12 := shm_22 f12
  have q11 : n_v vs 11 = n_v vs 6 := f0.symm
  simp only [q11] at f5
  have cr_3_14 := fdq_79 hD hth r3
  have cr_4_4 := fdq_91 hD hth r4
  have cr_5_4 := fdq_1 hD hth r5
  have hK_3_14 := elq_24 hD hth cr_3_14
  have hK_4_4 := elq_28 hD hth cr_4_4
  have hK_5_4 := elq_0 hD hth cr_5_4
  have kz_3_0 := fdq_23 hD hth r3
  have kz_4_1 := fdq_270 hD hth r4
  have nf0 : fc_1 PRD (20, [6, 7], [62, 2000000]) ws (vs) := by
    refine ⟨nf_in hl rfl, sgq_173 ?_⟩
    · show HY ws (n_v vs 6) (v_iv (n_v vs 7) + (((2000000 : Nat) : Int) - 2000000))
      exact hy_le f5 (by omega)
  refine ⟨(fun _ h => (by cases h)), [], trivial, ?_, (fun _ h => (by cases h))⟩
  rw [List.append_nil]
  exact List.forall_mem_cons.mpr ⟨⟨show (20 : Nat) < 100 from by decide, nf0⟩, (fun _ h => (by cases h))⟩
set_option maxHeartbeats 4000000 in
theorem vc_Pl_lay_10_0 (x1 : Int) (x2 : Int) (x8 : Int) (x9 : Int) (x10 : Int) (k1 : 6 ≤ x1 ∧ x1 ≤ 6) (k2 : (-2147483648) ≤ x2 ∧ x2 ≤ 2147483647) (k8 : 3 ≤ x8 ∧ x8 ≤ 3) (k9 : 4 ≤ x9 ∧ x9 ≤ 4) (k10 : 6 ≤ x10 ∧ x10 ≤ 6) (f0 : x1 ≠ x10) (f1 : x1 ≠ x9) (f2 : x1 ≠ x8) : (0 ≤ x2) ∧ ((x2 ≤ 200) ∧ (x1 = 6)) := by
  first
    | omega
  
def o_Pl_lay_10 : or_T := (157, 11, [(1, (0, 6, 6, [])), (2, (0, -2147483648, 2147483647, [])), (8, (0, 3, 3, [])), (9, (0, 4, 4, [])), (10, (0, 6, 6, []))], [(7, [1, 10], [1]), (7, [1, 9], [1]), (7, [1, 8], [1])], [], [], [(20, [2, 1], [50, 0, 0, 2, 6, 0, 2, 0, 0, 1, 0, 2, 6, 0, 2, 1, 0, 0, 200, 1, 2, 1, 1, 0, 6])], [], [])
theorem oo_Pl_lay_10 {kA : Nat → ClassId} : or_ok PRD kA GG o_Pl_lay_10 := by
  refine or_mk fun A ta ws vs hD hth hl => ?_
  intro t1 k1 t2 k2 t8 k8 t9 k9 t10 k10 f0 f1 f2
  have nf0 : fc_1 PRD (20, [2, 1], [50, 0, 0, 2, 6, 0, 2, 0, 0, 1, 0, 2, 6, 0, 2, 1, 0, 0, 200, 1, 2, 1, 1, 0, 6]) ws (vs) := ⟨nf_in hl rfl, sgq_2059 (vc_Pl_lay_10_0 (v_iv (n_v vs 1)) (v_iv (n_v vs 2)) (v_iv (n_v vs 8)) (v_iv (n_v vs 9)) (v_iv (n_v vs 10)) k1 k2 k8 k9 k10 (shm_40 f0) (shm_40 f1) (shm_40 f2))⟩
  refine ⟨(fun _ h => (by cases h)), [], trivial, ?_, (fun _ h => (by cases h))⟩
  rw [List.append_nil]
  exact List.forall_mem_cons.mpr ⟨⟨show (20 : Nat) < 100 from by decide, nf0⟩, (fun _ h => (by cases h))⟩
set_option maxHeartbeats 4000000 in
theorem vc_Pl_lay_11_r0 (x1 : Int) (x2 : Int) (k1 : 6 ≤ x1 ∧ x1 ≤ 6) (k2 : (-2147483648) ≤ x2 ∧ x2 ≤ 2147483647) (f0 : (0 ≤ x2) ∧ ((x2 ≤ 200) ∧ (x1 = 6))) : 0 ≤ x2 ∧ x2 ≤ 200 := by
  first
    | omega
  
set_option maxHeartbeats 4000000 in
theorem vc_Pl_lay_11_1 (x7 : Int) (gy : Int) (k7 : 0 ≤ x7 ∧ x7 ≤ 3072) (ey2 : gy = x7) : 1 * gy + ((-1) * x7 + 0) ≤ 0 := by
  first
    | omega
  
set_option maxHeartbeats 4000000 in
theorem vc_Pl_lay_11_2 (x7 : Int) (gy : Int) (k7 : 0 ≤ x7 ∧ x7 ≤ 3072) (ey2 : gy = x7) : (-1) * gy + (1 * x7 + 0) ≤ 0 := by
  first
    | omega
  
def o_Pl_lay_11 : or_T := (159, 11, [(1, (0, 6, 6, [])), (2, (0, -2147483648, 2147483647, [])), (3, (2, 0, 0, [3])), (4, (2, 0, 0, [2])), (6, (2, 0, 0, [12])), (7, (0, 0, 3072, [])), (8, (0, 3, 3, [])), (9, (0, 4, 4, [])), (10, (0, 6, 6, []))], [(20, [2, 1], [50, 0, 0, 2, 6, 0, 2, 0, 0, 1, 0, 2, 6, 0, 2, 1, 0, 0, 200, 1, 2, 1, 1, 0, 6]), (7, [1, 10], [1]), (7, [1, 9], [1]), (7, [1, 8], [1]), (20, [3, 4], [60, 1, 2, 671, 0, 14, 1004]), (20, [3, 4], [60, 2, 1, 672, 0, 1001, 1004]), (20, [6, 7], [62, 2000000])], [(2, (0, 0, 200, []))], [(2, 0, 0, [12]), (0, 0, 3072, [])], [(24, [6, 11], []), (23, [12, 7], [0, 1, -1]), (23, [12, 7], [0, -1, 1]), (20, [11, 12], [62, 2000000])], [], [])
theorem oo_Pl_lay_11 {kA : Nat → ClassId} : or_ok PRD kA GG o_Pl_lay_11 := by
  refine or_mk fun A ta ws vs hD hth hl => ?_
  intro t1 k1 t2 k2 t3 r3 t4 r4 t6 r6 t7 k7 t8 k8 t9 k9 t10 k10 f0 f1 f2 f3 f4 f5 f6
  replace f0 := shm_2059 f0
  replace f1 := shm_40 f1
  replace f2 := shm_40 f2
  replace f3 := shm_40 f3
  replace f4 := shm_432 f4
  replace f5 := shm_1148 f5
  replace f6 := shm_173 f6
  have cr_3_14 := fdq_79 hD hth r3
  have cr_4_4 := fdq_91 hD hth r4
  have hK_3_14 := elq_24 hD hth cr_3_14
  have hK_4_4 := elq_28 hD hth cr_4_4
  have kz_3_0 := fdq_23 hD hth r3
  have kz_4_1 := fdq_270 hD hth r4
  obtain ⟨y, ey, hy⟩ := iv_ex (ta := ta) (lo := 0) (hi := 3072) (z := v_iv (n_v vs 7)) (by omega) (by omega) (by omega) (by omega)
  have ey2 : v_iv (Value.int y) = v_iv (n_v vs 7) := ey
  have ey3 : 0 ≤ v_iv (Value.int y) ∧ v_iv (Value.int y) ≤ 3072 := tv_rng hy
  have hrf0 : 0 ≤ v_iv (n_v vs 2) ∧ v_iv (n_v vs 2) ≤ 200 := vc_Pl_lay_11_r0 (v_iv (n_v vs 1)) (v_iv (n_v vs 2)) k1 k2 f0
  have e_6 : n_v (vs ++ [n_v vs 6, Value.int y]) 6 = n_v vs 6 := n_v_old (by rw [hl]; decide)
  have e_7 : n_v (vs ++ [n_v vs 6, Value.int y]) 7 = n_v vs 7 := n_v_old (by rw [hl]; decide)
  have e_11 : n_v (vs ++ [n_v vs 6, Value.int y]) 11 = n_v vs 6 := n_v_new0 hl
  have e_12 : n_v (vs ++ [n_v vs 6, Value.int y]) 12 = Value.int y := n_v_new1 hl
  have nf0 : fc_1 PRD (24, [6, 11], []) ws (vs ++ [n_v vs 6, Value.int y]) := by
    refine ⟨nf_inA hl rfl, sgq_5 ?_⟩
    · show n_v (vs ++ [n_v vs 6, Value.int y]) 6 = n_v (vs ++ [n_v vs 6, Value.int y]) 11
      first | rfl | simp only [e_6, e_11]
  have nf1 : fc_1 PRD (23, [12, 7], [0, 1, -1]) ws (vs ++ [n_v vs 6, Value.int y]) := by
    refine ⟨nf_inA hl rfl, sgq_7 ?_⟩
    · show 1 * v_iv (n_v (vs ++ [n_v vs 6, Value.int y]) 12) + ((-1) * v_iv (n_v (vs ++ [n_v vs 6, Value.int y]) 7) + 0) ≤ 0
      simp only [e_7, e_12]
      exact vc_Pl_lay_11_1 (v_iv (n_v vs 7)) (v_iv (Value.int y)) k7 ey2
  have nf2 : fc_1 PRD (23, [12, 7], [0, -1, 1]) ws (vs ++ [n_v vs 6, Value.int y]) := by
    refine ⟨nf_inA hl rfl, sgq_22 ?_⟩
    · show (-1) * v_iv (n_v (vs ++ [n_v vs 6, Value.int y]) 12) + (1 * v_iv (n_v (vs ++ [n_v vs 6, Value.int y]) 7) + 0) ≤ 0
      simp only [e_7, e_12]
      exact vc_Pl_lay_11_2 (v_iv (n_v vs 7)) (v_iv (Value.int y)) k7 ey2
  have nf3 : fc_1 PRD (20, [11, 12], [62, 2000000]) ws (vs ++ [n_v vs 6, Value.int y]) := by
    refine ⟨nf_inA hl rfl, sgq_173 ?_⟩
    · show HY ws (n_v (vs ++ [n_v vs 6, Value.int y]) 11) (v_iv (n_v (vs ++ [n_v vs 6, Value.int y]) 12) + (((2000000 : Nat) : Int) - 2000000))
      simp only [e_11, e_12]
      exact hy_le f6 (by omega)
  have rf2 : tv_ok ta (0, 0, 200, []) (n_v vs 2) := tv_in t2 (by first | omega | grind) (by first | omega | grind)
  exact ⟨List.forall_mem_cons.mpr ⟨rf2, (fun _ h => (by cases h))⟩, [n_v vs 6, Value.int y], ag_two t6 hy, List.forall_mem_cons.mpr ⟨⟨show (24 : Nat) < 100 from by decide, nf0⟩, List.forall_mem_cons.mpr ⟨⟨show (23 : Nat) < 100 from by decide, nf1⟩, List.forall_mem_cons.mpr ⟨⟨show (23 : Nat) < 100 from by decide, nf2⟩, List.forall_mem_cons.mpr ⟨⟨show (20 : Nat) < 100 from by decide, nf3⟩, (fun _ h => (by cases h))⟩⟩⟩⟩, (fun _ h => (by cases h))⟩
def o_Pl_lay_12 : or_T := (177, 14, [(1, (0, 6, 6, [])), (2, (0, 0, 200, [])), (3, (2, 0, 0, [3])), (4, (2, 0, 0, [2])), (5, (2, 0, 0, [0])), (6, (2, 0, 0, [12])), (7, (0, 0, 3072, [])), (8, (0, 3, 3, [])), (9, (0, 4, 4, [])), (10, (0, 6, 6, [])), (11, (2, 0, 0, [12])), (12, (0, 0, 3072, []))], [(24, [6, 11], []), (23, [12, 7], [0, 1, -1]), (23, [12, 7], [0, -1, 1]), (20, [2, 1], [50, 0, 0, 2, 6, 0, 2, 0, 0, 1, 0, 2, 6, 0, 2, 1, 0, 0, 200, 1, 2, 1, 1, 0, 6]), (20, [3, 4], [60, 1, 2, 671, 0, 14, 1004]), (20, [3, 4], [60, 2, 1, 672, 0, 1001, 1004]), (20, [11, 12], [62, 2000000]), (20, [5], [60, 0, 1, 641, 4]), (102, [12], [65536]), (23, [12, 7], [0, 1, -1]), (23, [12, 7], [0, -1, 1]), (102, [12], [4753689750855860255612637069312]), (23, [12, 7], [0, 1, -1]), (23, [12, 7], [0, -1, 1]), (7, [1, 10], [1]), (7, [1, 9], [1]), (7, [1, 8], [1])], [], [], [(20, [6, 7], [62, 2000000])], [], [])
theorem oo_Pl_lay_12 {kA : Nat → ClassId} : or_ok PRD kA GG o_Pl_lay_12 := by
  refine or_mk fun A ta ws vs hD hth hl => ?_
  intro t1 k1 t2 k2 t3 r3 t4 r4 t5 r5 t6 r6 t7 k7 t8 k8 t9 k9 t10 k10 t11 r11 t12 k12 f0 f1 f2 f3 f4 f5 f6 f7 ta1 w1 le1 s1 f9 f10 ta2 w2 le2 s2 f12 f13 f14 f15 f16
  replace f0 := shm_5 f0
  replace f1 := shm_7 f1
  replace f2 := shm_22 f2
  replace f3 := shm_2059 f3
  replace f4 := shm_432 f4
  replace f5 := shm_1148 f5
  replace f6 := shm_173 f6
  replace f7 := shm_780 f7
  replace f9 := shm_7 f9
  replace f10 := shm_22 f10
  replace f12 := shm_7 f12
  replace f13 := shm_22 f13
  replace f14 := shm_40 f14
  replace f15 := shm_40 f15
  replace f16 := shm_40 f16
  have q11 : n_v vs 11 = n_v vs 6 := f0.symm
  simp only [q11] at f6
  have cr_3_14 := fdq_79 hD hth r3
  have cr_4_4 := fdq_91 hD hth r4
  have cr_5_4 := fdq_1 hD hth r5
  have hK_3_14 := elq_24 hD hth cr_3_14
  have hK_4_4 := elq_28 hD hth cr_4_4
  have hK_5_4 := elq_0 hD hth cr_5_4
  have kz_3_0 := fdq_23 hD hth r3
  have kz_4_1 := fdq_270 hD hth r4
  have nf0 : fc_1 PRD (20, [6, 7], [62, 2000000]) ws (vs) := by
    refine ⟨nf_in hl rfl, sgq_173 ?_⟩
    · show HY ws (n_v vs 6) (v_iv (n_v vs 7) + (((2000000 : Nat) : Int) - 2000000))
      exact hy_le f6 (by omega)
  refine ⟨(fun _ h => (by cases h)), [], trivial, ?_, (fun _ h => (by cases h))⟩
  rw [List.append_nil]
  exact List.forall_mem_cons.mpr ⟨⟨show (20 : Nat) < 100 from by decide, nf0⟩, (fun _ h => (by cases h))⟩
set_option maxHeartbeats 4000000 in
theorem vc_Pl_lay_13_1 (x7 : Int) (gy : Int) (k7 : 0 ≤ x7 ∧ x7 ≤ 3072) (ey2 : gy = x7) : 1 * gy + ((-1) * x7 + 0) ≤ 0 := by
  first
    | omega
  
set_option maxHeartbeats 4000000 in
theorem vc_Pl_lay_13_2 (x7 : Int) (gy : Int) (k7 : 0 ≤ x7 ∧ x7 ≤ 3072) (ey2 : gy = x7) : (-1) * gy + (1 * x7 + 0) ≤ 0 := by
  first
    | omega
  
def o_Pl_lay_13 : or_T := (166, 12, [(3, (2, 0, 0, [3])), (4, (2, 0, 0, [2])), (6, (2, 0, 0, [12])), (7, (0, 0, 3072, []))], [(20, [3, 4], [60, 1, 2, 671, 0, 14, 1004]), (20, [3, 4], [60, 2, 1, 672, 0, 1001, 1004]), (20, [6, 7], [62, 2000000])], [], [(2, 0, 0, [12]), (0, 0, 3072, [])], [(24, [6, 12], []), (23, [13, 7], [0, 1, -1]), (23, [13, 7], [0, -1, 1]), (20, [12, 13], [62, 2000000])], [], [])
theorem oo_Pl_lay_13 {kA : Nat → ClassId} : or_ok PRD kA GG o_Pl_lay_13 := by
  refine or_mk fun A ta ws vs hD hth hl => ?_
  intro t3 r3 t4 r4 t6 r6 t7 k7 f0 f1 f2
  replace f0 := shm_432 f0
  replace f1 := shm_1148 f1
  replace f2 := shm_173 f2
  have cr_3_14 := fdq_79 hD hth r3
  have cr_4_4 := fdq_91 hD hth r4
  have hK_3_14 := elq_24 hD hth cr_3_14
  have hK_4_4 := elq_28 hD hth cr_4_4
  have kz_3_0 := fdq_23 hD hth r3
  have kz_4_1 := fdq_270 hD hth r4
  obtain ⟨y, ey, hy⟩ := iv_ex (ta := ta) (lo := 0) (hi := 3072) (z := v_iv (n_v vs 7)) (by omega) (by omega) (by omega) (by omega)
  have ey2 : v_iv (Value.int y) = v_iv (n_v vs 7) := ey
  have ey3 : 0 ≤ v_iv (Value.int y) ∧ v_iv (Value.int y) ≤ 3072 := tv_rng hy
  have e_6 : n_v (vs ++ [n_v vs 6, Value.int y]) 6 = n_v vs 6 := n_v_old (by rw [hl]; decide)
  have e_7 : n_v (vs ++ [n_v vs 6, Value.int y]) 7 = n_v vs 7 := n_v_old (by rw [hl]; decide)
  have e_12 : n_v (vs ++ [n_v vs 6, Value.int y]) 12 = n_v vs 6 := n_v_new0 hl
  have e_13 : n_v (vs ++ [n_v vs 6, Value.int y]) 13 = Value.int y := n_v_new1 hl
  have nf0 : fc_1 PRD (24, [6, 12], []) ws (vs ++ [n_v vs 6, Value.int y]) := by
    refine ⟨nf_inA hl rfl, sgq_5 ?_⟩
    · show n_v (vs ++ [n_v vs 6, Value.int y]) 6 = n_v (vs ++ [n_v vs 6, Value.int y]) 12
      first | rfl | simp only [e_6, e_12]
  have nf1 : fc_1 PRD (23, [13, 7], [0, 1, -1]) ws (vs ++ [n_v vs 6, Value.int y]) := by
    refine ⟨nf_inA hl rfl, sgq_7 ?_⟩
    · show 1 * v_iv (n_v (vs ++ [n_v vs 6, Value.int y]) 13) + ((-1) * v_iv (n_v (vs ++ [n_v vs 6, Value.int y]) 7) + 0) ≤ 0
      simp only [e_7, e_13]
      exact vc_Pl_lay_13_1 (v_iv (n_v vs 7)) (v_iv (Value.int y)) k7 ey2
  have nf2 : fc_1 PRD (23, [13, 7], [0, -1, 1]) ws (vs ++ [n_v vs 6, Value.int y]) := by
    refine ⟨nf_inA hl rfl, sgq_22 ?_⟩
    · show (-1) * v_iv (n_v (vs ++ [n_v vs 6, Value.int y]) 13) + (1 * v_iv (n_v (vs ++ [n_v vs 6, Value.int y]) 7) + 0) ≤ 0
      simp only [e_7, e_13]
      exact vc_Pl_lay_13_2 (v_iv (n_v vs 7)) (v_iv (Value.int y)) k7 ey2
  have nf3 : fc_1 PRD (20, [12, 13], [62, 2000000]) ws (vs ++ [n_v vs 6, Value.int y]) := by
    refine ⟨nf_inA hl rfl, sgq_173 ?_⟩
    · show HY ws (n_v (vs ++ [n_v vs 6, Value.int y]) 12) (v_iv (n_v (vs ++ [n_v vs 6, Value.int y]) 13) + (((2000000 : Nat) : Int) - 2000000))
      simp only [e_12, e_13]
      exact hy_le f2 (by omega)
  exact ⟨(fun _ h => (by cases h)), [n_v vs 6, Value.int y], ag_two t6 hy, List.forall_mem_cons.mpr ⟨⟨show (24 : Nat) < 100 from by decide, nf0⟩, List.forall_mem_cons.mpr ⟨⟨show (23 : Nat) < 100 from by decide, nf1⟩, List.forall_mem_cons.mpr ⟨⟨show (23 : Nat) < 100 from by decide, nf2⟩, List.forall_mem_cons.mpr ⟨⟨show (20 : Nat) < 100 from by decide, nf3⟩, (fun _ h => (by cases h))⟩⟩⟩⟩, (fun _ h => (by cases h))⟩
def o_Pl_lay_14 : or_T := (177, 15, [(3, (2, 0, 0, [3])), (4, (2, 0, 0, [2])), (5, (2, 0, 0, [0])), (6, (2, 0, 0, [12])), (7, (0, 0, 3072, [])), (12, (2, 0, 0, [12])), (13, (0, 0, 3072, []))], [(24, [6, 12], []), (23, [13, 7], [0, 1, -1]), (23, [13, 7], [0, -1, 1]), (20, [3, 4], [60, 1, 2, 671, 0, 14, 1004]), (20, [3, 4], [60, 2, 1, 672, 0, 1001, 1004]), (20, [12, 13], [62, 2000000]), (20, [5], [60, 0, 1, 641, 4]), (102, [13], [65536]), (23, [13, 7], [0, 1, -1]), (23, [13, 7], [0, -1, 1]), (102, [13], [618970019642690137449611264, 9]), (23, [13, 7], [0, 1, -1]), (23, [13, 7], [0, -1, 1])], [], [], [(20, [6, 7], [62, 2000000])], [], [])
theorem oo_Pl_lay_14 {kA : Nat → ClassId} : or_ok PRD kA GG o_Pl_lay_14 := by
  refine or_mk fun A ta ws vs hD hth hl => ?_
  intro t3 r3 t4 r4 t5 r5 t6 r6 t7 k7 t12 r12 t13 k13 f0 f1 f2 f3 f4 f5 f6 ta1 w1 le1 s1 f8 f9 ta2 w2 le2 s2 f11 f12
  replace f0 := shm_5 f0
  replace f1 := shm_7 f1
  replace f2 := shm_22 f2
  replace f3 := shm_432 f3
  replace f4 := shm_1148 f4
  replace f5 := shm_173 f5
  replace f6 := shm_780 f6
  replace f8 := shm_7 f8
  replace f9 := shm_22 f9
  replace f11 := shm_7 f11
  replace f12 := shm_22 f12
  have q12 : n_v vs 12 = n_v vs 6 := f0.symm
  simp only [q12] at f5
  have cr_3_14 := fdq_79 hD hth r3
  have cr_4_4 := fdq_91 hD hth r4
  have cr_5_4 := fdq_1 hD hth r5
  have hK_3_14 := elq_24 hD hth cr_3_14
  have hK_4_4 := elq_28 hD hth cr_4_4
  have hK_5_4 := elq_0 hD hth cr_5_4
  have kz_3_0 := fdq_23 hD hth r3
  have kz_4_1 := fdq_270 hD hth r4
  have nf0 : fc_1 PRD (20, [6, 7], [62, 2000000]) ws (vs) := by
    refine ⟨nf_in hl rfl, sgq_173 ?_⟩
    · show HY ws (n_v vs 6) (v_iv (n_v vs 7) + (((2000000 : Nat) : Int) - 2000000))
      exact hy_le f5 (by omega)
  refine ⟨(fun _ h => (by cases h)), [], trivial, ?_, (fun _ h => (by cases h))⟩
  rw [List.append_nil]
  exact List.forall_mem_cons.mpr ⟨⟨show (20 : Nat) < 100 from by decide, nf0⟩, (fun _ h => (by cases h))⟩
set_option maxHeartbeats 4000000 in
theorem vc_Pl_lay_15_0 (x1 : Int) (x2 : Int) (k1 : 6 ≤ x1 ∧ x1 ≤ 3) (k2 : 0 ≤ x2 ∧ x2 ≤ 200) : ((-1) ≤ x2) ∧ ((x2 ≤ 23) ∧ (x1 = 3)) := by
  first
    | omega
  
def o_Pl_lay_15 : or_T := (132, 12, [(1, (0, 6, 3, [])), (2, (0, 0, 200, []))], [], [], [], [(20, [2, 1], [50, 0, 0, 2, 6, 0, 2, 0, -1, 1, 0, 2, 6, 0, 2, 1, 0, 0, 23, 1, 2, 1, 1, 0, 3])], [], [])
theorem oo_Pl_lay_15 {kA : Nat → ClassId} : or_ok PRD kA GG o_Pl_lay_15 := by
  refine or_mk fun A ta ws vs hD hth hl => ?_
  intro t1 k1 t2 k2
  have nf0 : fc_1 PRD (20, [2, 1], [50, 0, 0, 2, 6, 0, 2, 0, -1, 1, 0, 2, 6, 0, 2, 1, 0, 0, 23, 1, 2, 1, 1, 0, 3]) ws (vs) := ⟨nf_in hl rfl, sgq_2057 (vc_Pl_lay_15_0 (v_iv (n_v vs 1)) (v_iv (n_v vs 2)) k1 k2)⟩
  refine ⟨(fun _ h => (by cases h)), [], trivial, ?_, (fun _ h => (by cases h))⟩
  rw [List.append_nil]
  exact List.forall_mem_cons.mpr ⟨⟨show (20 : Nat) < 100 from by decide, nf0⟩, (fun _ h => (by cases h))⟩
set_option maxHeartbeats 4000000 in
theorem vc_Pl_lay_16_r0 (x1 : Int) (x2 : Int) (k1 : 6 ≤ x1 ∧ x1 ≤ 3) (k2 : 0 ≤ x2 ∧ x2 ≤ 200) : 0 ≤ x2 ∧ x2 ≤ 23 := by
  first
    | omega
  
set_option maxHeartbeats 4000000 in
theorem vc_Pl_lay_16_1 (x1 : Int) (x7 : Int) (gy : Int) (k1 : 6 ≤ x1 ∧ x1 ≤ 3) (k7 : 0 ≤ x7 ∧ x7 ≤ 3072) : 1 * gy + ((-1) * x7 + 0) ≤ 0 := by
  first
    | omega
  
set_option maxHeartbeats 4000000 in
theorem vc_Pl_lay_16_2 (x1 : Int) (x7 : Int) (gy : Int) (k1 : 6 ≤ x1 ∧ x1 ≤ 3) (k7 : 0 ≤ x7 ∧ x7 ≤ 3072) : (-1) * gy + (1 * x7 + 0) ≤ 0 := by
  first
    | omega
  
set_option maxHeartbeats 4000000 in
theorem vc_Pl_lay_16_3 (near_0o3 : Int → Int) (part_0o4 : Int → Int) (nodes_0o3 : Int) (f6 : PNC (nodes_0o3) (near_0o3) (part_0o4)) (kz_3_0 : 0 ≤ nodes_0o3 ∧ nodes_0o3 ≤ 24) : PNC (nodes_0o3) (near_0o3) (part_0o4) := by
  first | assumption
set_option maxHeartbeats 4000000 in
theorem vc_Pl_lay_16_4 (part_0o4 : Int → Int) (nodes_0o3 : Int) (parts_0o4 : Int) (f7 : FPA (nodes_0o3) (parts_0o4) (part_0o4)) (kz_3_0 : 0 ≤ nodes_0o3 ∧ nodes_0o3 ≤ 24) (kz_4_1 : 0 ≤ parts_0o4 ∧ parts_0o4 ≤ 24) : FPA (nodes_0o3) (parts_0o4) (part_0o4) := by
  first | assumption
set_option maxHeartbeats 4000000 in
theorem vc_Pl_lay_16_5 (x1 : Int) (x2 : Int) (nodes_0o3 : Int) (k1 : 6 ≤ x1 ∧ x1 ≤ 3) (k2 : 0 ≤ x2 ∧ x2 ≤ 200) (kz_3_0 : 0 ≤ nodes_0o3 ∧ nodes_0o3 ≤ 24) : ((-1) ≤ x2) ∧ ((x2 + 1) ≤ nodes_0o3) := by
  first
    | omega
  
def o_Pl_lay_16 : or_T := (136, 12, [(1, (0, 6, 3, [])), (2, (0, 0, 200, [])), (3, (2, 0, 0, [3])), (4, (2, 0, 0, [2])), (6, (2, 0, 0, [12])), (7, (0, 0, 3072, [])), (8, (0, 3, 3, [])), (9, (0, 4, 4, [])), (10, (0, 6, 6, [])), (11, (0, 200, 200, []))], [(20, [2, 1], [50, 0, 0, 2, 6, 0, 2, 0, -1, 1, 0, 2, 6, 0, 2, 1, 0, 0, 23, 1, 2, 1, 1, 0, 3]), (7, [2, 11], [5]), (8, [2], [3]), (7, [1, 10], [0]), (7, [1, 9], [1]), (7, [1, 8], [1]), (20, [3, 4], [60, 1, 2, 671, 0, 14, 1004]), (20, [3, 4], [60, 2, 1, 672, 0, 1001, 1004]), (20, [6, 7], [62, 2000000])], [(2, (0, 0, 23, []))], [(2, 0, 0, [12]), (0, 0, 3072, [])], [(24, [6, 12], []), (23, [13, 7], [0, 1, -1]), (23, [13, 7], [0, -1, 1]), (20, [3, 4], [60, 1, 2, 671, 0, 14, 1004]), (20, [3, 4], [60, 2, 1, 672, 0, 1001, 1004]), (20, [2, 3], [50, 1, 0, 1000, 2, 6, 0, 2, 0, -1, 1, 0, 0, 6, 4, 2, 1, 0, 0, 1, 2, 1, 0]), (20, [12, 13], [62, 2000000])], [], [])
theorem oo_Pl_lay_16 {kA : Nat → ClassId} : or_ok PRD kA GG o_Pl_lay_16 := by
  refine or_mk fun A ta ws vs hD hth hl => ?_
  intro t1 k1 t2 k2 t3 r3 t4 r4 t6 r6 t7 k7 t8 k8 t9 k9 t10 k10 t11 k11 f0 f1 f2 f3 f4 f5 f6 f7 f8
  replace f0 := shm_2057 f0
  replace f1 := shm_24 f1
  replace f2 := shm_32 f2
  replace f3 := shm_37 f3
  replace f4 := shm_40 f4
  replace f5 := shm_40 f5
  replace f6 := shm_432 f6
  replace f7 := shm_1148 f7
  replace f8 := shm_173 f8
  have cr_3_14 := fdq_79 hD hth r3
  have cr_4_4 := fdq_91 hD hth r4
  have hK_3_14 := elq_24 hD hth cr_3_14
  have hK_4_4 := elq_28 hD hth cr_4_4
  have kz_3_0 := fdq_23 hD hth r3
  have kz_4_1 := fdq_270 hD hth r4
  obtain ⟨y, ey, hy⟩ := iv_ex (ta := ta) (lo := 0) (hi := 3072) (z := v_iv (n_v vs 7)) (by omega) (by omega) (by omega) (by omega)
  have ey2 : v_iv (Value.int y) = v_iv (n_v vs 7) := ey
  have ey3 : 0 ≤ v_iv (Value.int y) ∧ v_iv (Value.int y) ≤ 3072 := tv_rng hy
  have hrf0 : 0 ≤ v_iv (n_v vs 2) ∧ v_iv (n_v vs 2) ≤ 23 := vc_Pl_lay_16_r0 (v_iv (n_v vs 1)) (v_iv (n_v vs 2)) k1 k2
  have e_2 : n_v (vs ++ [n_v vs 6, Value.int y]) 2 = n_v vs 2 := n_v_old (by rw [hl]; decide)
  have e_3 : n_v (vs ++ [n_v vs 6, Value.int y]) 3 = n_v vs 3 := n_v_old (by rw [hl]; decide)
  have e_4 : n_v (vs ++ [n_v vs 6, Value.int y]) 4 = n_v vs 4 := n_v_old (by rw [hl]; decide)
  have e_6 : n_v (vs ++ [n_v vs 6, Value.int y]) 6 = n_v vs 6 := n_v_old (by rw [hl]; decide)
  have e_7 : n_v (vs ++ [n_v vs 6, Value.int y]) 7 = n_v vs 7 := n_v_old (by rw [hl]; decide)
  have e_12 : n_v (vs ++ [n_v vs 6, Value.int y]) 12 = n_v vs 6 := n_v_new0 hl
  have e_13 : n_v (vs ++ [n_v vs 6, Value.int y]) 13 = Value.int y := n_v_new1 hl
  have nf0 : fc_1 PRD (24, [6, 12], []) ws (vs ++ [n_v vs 6, Value.int y]) := by
    refine ⟨nf_inA hl rfl, sgq_5 ?_⟩
    · show n_v (vs ++ [n_v vs 6, Value.int y]) 6 = n_v (vs ++ [n_v vs 6, Value.int y]) 12
      first | rfl | simp only [e_6, e_12]
  have nf1 : fc_1 PRD (23, [13, 7], [0, 1, -1]) ws (vs ++ [n_v vs 6, Value.int y]) := by
    refine ⟨nf_inA hl rfl, sgq_7 ?_⟩
    · show 1 * v_iv (n_v (vs ++ [n_v vs 6, Value.int y]) 13) + ((-1) * v_iv (n_v (vs ++ [n_v vs 6, Value.int y]) 7) + 0) ≤ 0
      simp only [e_7, e_13]
      exact vc_Pl_lay_16_1 (v_iv (n_v vs 1)) (v_iv (n_v vs 7)) (v_iv (Value.int y)) k1 k7
  have nf2 : fc_1 PRD (23, [13, 7], [0, -1, 1]) ws (vs ++ [n_v vs 6, Value.int y]) := by
    refine ⟨nf_inA hl rfl, sgq_22 ?_⟩
    · show (-1) * v_iv (n_v (vs ++ [n_v vs 6, Value.int y]) 13) + (1 * v_iv (n_v (vs ++ [n_v vs 6, Value.int y]) 7) + 0) ≤ 0
      simp only [e_7, e_13]
      exact vc_Pl_lay_16_2 (v_iv (n_v vs 1)) (v_iv (n_v vs 7)) (v_iv (Value.int y)) k1 k7
  have nf3 : fc_1 PRD (20, [3, 4], [60, 1, 2, 671, 0, 14, 1004]) ws (vs ++ [n_v vs 6, Value.int y]) := by
    refine ⟨nf_inA hl rfl, sgq_432 ?_⟩
    · show PNC (w_fi ws (n_v (vs ++ [n_v vs 6, Value.int y]) 3) 0) (w_ei ws (w_ar ws (n_v (vs ++ [n_v vs 6, Value.int y]) 3) 14)) (w_ei ws (w_ar ws (n_v (vs ++ [n_v vs 6, Value.int y]) 4) 4))
      simp only [e_3, e_4]
      exact vc_Pl_lay_16_3 (w_ei ws (w_ar ws (n_v vs 3) 14)) (w_ei ws (w_ar ws (n_v vs 4) 4)) (w_fi ws (n_v vs 3) 0) f6 kz_3_0
  have nf4 : fc_1 PRD (20, [3, 4], [60, 2, 1, 672, 0, 1001, 1004]) ws (vs ++ [n_v vs 6, Value.int y]) := by
    refine ⟨nf_inA hl rfl, sgq_1148 ?_⟩
    · show FPA (w_fi ws (n_v (vs ++ [n_v vs 6, Value.int y]) 3) 0) (w_fi ws (n_v (vs ++ [n_v vs 6, Value.int y]) 4) 1) (w_ei ws (w_ar ws (n_v (vs ++ [n_v vs 6, Value.int y]) 4) 4))
      simp only [e_3, e_4]
      exact vc_Pl_lay_16_4 (w_ei ws (w_ar ws (n_v vs 4) 4)) (w_fi ws (n_v vs 3) 0) (w_fi ws (n_v vs 4) 1) f7 kz_3_0 kz_4_1
  have nf5 : fc_1 PRD (20, [2, 3], [50, 1, 0, 1000, 2, 6, 0, 2, 0, -1, 1, 0, 0, 6, 4, 2, 1, 0, 0, 1, 2, 1, 0]) ws (vs ++ [n_v vs 6, Value.int y]) := by
    refine ⟨nf_inA hl rfl, sgq_1699 ?_⟩
    · show ((-1) ≤ v_iv (n_v (vs ++ [n_v vs 6, Value.int y]) 2)) ∧ ((v_iv (n_v (vs ++ [n_v vs 6, Value.int y]) 2) + 1) ≤ w_fi ws (n_v (vs ++ [n_v vs 6, Value.int y]) 3) 0)
      simp only [e_2, e_3]
      exact vc_Pl_lay_16_5 (v_iv (n_v vs 1)) (v_iv (n_v vs 2)) (w_fi ws (n_v vs 3) 0) k1 k2 kz_3_0
  have nf6 : fc_1 PRD (20, [12, 13], [62, 2000000]) ws (vs ++ [n_v vs 6, Value.int y]) := by
    refine ⟨nf_inA hl rfl, sgq_173 ?_⟩
    · show HY ws (n_v (vs ++ [n_v vs 6, Value.int y]) 12) (v_iv (n_v (vs ++ [n_v vs 6, Value.int y]) 13) + (((2000000 : Nat) : Int) - 2000000))
      simp only [e_12, e_13]
      exact hy_le f8 (by omega)
  have rf2 : tv_ok ta (0, 0, 23, []) (n_v vs 2) := tv_in t2 (by first | omega | grind) (by first | omega | grind)
  exact ⟨List.forall_mem_cons.mpr ⟨rf2, (fun _ h => (by cases h))⟩, [n_v vs 6, Value.int y], ag_two t6 hy, List.forall_mem_cons.mpr ⟨⟨show (24 : Nat) < 100 from by decide, nf0⟩, List.forall_mem_cons.mpr ⟨⟨show (23 : Nat) < 100 from by decide, nf1⟩, List.forall_mem_cons.mpr ⟨⟨show (23 : Nat) < 100 from by decide, nf2⟩, List.forall_mem_cons.mpr ⟨⟨show (20 : Nat) < 100 from by decide, nf3⟩, List.forall_mem_cons.mpr ⟨⟨show (20 : Nat) < 100 from by decide, nf4⟩, List.forall_mem_cons.mpr ⟨⟨show (20 : Nat) < 100 from by decide, nf5⟩, List.forall_mem_cons.mpr ⟨⟨show (20 : Nat) < 100 from by decide, nf6⟩, (fun _ h => (by cases h))⟩⟩⟩⟩⟩⟩⟩, (fun _ h => (by cases h))⟩
def o_Pl_lay_17 : or_T := (177, 15, [(1, (0, 6, 3, [])), (2, (0, 0, 23, [])), (3, (2, 0, 0, [3])), (4, (2, 0, 0, [2])), (5, (2, 0, 0, [0])), (6, (2, 0, 0, [12])), (7, (0, 0, 3072, [])), (8, (0, 3, 3, [])), (9, (0, 4, 4, [])), (10, (0, 6, 6, [])), (11, (0, 200, 200, [])), (12, (2, 0, 0, [12])), (13, (0, 0, 3072, []))], [(24, [6, 12], []), (23, [13, 7], [0, 1, -1]), (23, [13, 7], [0, -1, 1]), (20, [3, 4], [60, 1, 2, 671, 0, 14, 1004]), (20, [3, 4], [60, 2, 1, 672, 0, 1001, 1004]), (20, [2, 3], [50, 1, 0, 1000, 2, 6, 0, 2, 0, -1, 1, 0, 0, 6, 4, 2, 1, 0, 0, 1, 2, 1, 0]), (20, [2, 1], [50, 0, 0, 2, 6, 0, 2, 0, -1, 1, 0, 2, 6, 0, 2, 1, 0, 0, 23, 1, 2, 1, 1, 0, 3]), (20, [3, 4], [60, 1, 2, 671, 0, 14, 1004]), (20, [3, 4], [60, 2, 1, 672, 0, 1001, 1004]), (20, [12, 13], [62, 2000000]), (20, [5], [60, 0, 1, 641, 4]), (102, [13], [65536]), (23, [13, 7], [0, 1, -1]), (23, [13, 7], [0, -1, 1]), (102, [13], [37757171198204098384423337984]), (23, [13, 7], [0, 1, -1]), (23, [13, 7], [0, -1, 1]), (7, [2, 11], [5]), (8, [2], [3]), (7, [1, 10], [0]), (7, [1, 9], [1]), (7, [1, 8], [1])], [], [], [(20, [6, 7], [62, 2000000])], [], [])
theorem oo_Pl_lay_17 {kA : Nat → ClassId} : or_ok PRD kA GG o_Pl_lay_17 := by
  refine or_mk fun A ta ws vs hD hth hl => ?_
  intro t1 k1 t2 k2 t3 r3 t4 r4 t5 r5 t6 r6 t7 k7 t8 k8 t9 k9 t10 k10 t11 k11 t12 r12 t13 k13 f0 f1 f2 f3 f4 f5 f6 f7 f8 f9 f10 ta1 w1 le1 s1 f12 f13 ta2 w2 le2 s2 f15 f16 f17 f18 f19 f20 f21
  replace f0 := shm_5 f0
  replace f1 := shm_7 f1
  replace f2 := shm_22 f2
  replace f3 := shm_432 f3
  replace f4 := shm_1148 f4
  replace f5 := shm_1699 f5
  replace f6 := shm_2057 f6
  replace f7 := shm_432 f7
  replace f8 := shm_1148 f8
  replace f9 := shm_173 f9
  replace f10 := shm_780 f10
  replace f12 := shm_7 f12
  replace f13 := shm_22 f13
  replace f15 := shm_7 f15
  replace f16 := shm_22 f16
  replace f17 := shm_24 f17
  replace f18 := shm_32 f18
  replace f19 := shm_37 f19
  replace f20 := shm_40 f20
  replace f21 := shm_40 f21
  have q12 : n_v vs 12 = n_v vs 6 := f0.symm
  simp only [q12] at f9
  have cr_3_14 := fdq_79 hD hth r3
  have cr_4_4 := fdq_91 hD hth r4
  have cr_5_4 := fdq_1 hD hth r5
  have hK_3_14 := elq_24 hD hth cr_3_14
  have hK_4_4 := elq_28 hD hth cr_4_4
  have hK_5_4 := elq_0 hD hth cr_5_4
  have kz_3_0 := fdq_23 hD hth r3
  have kz_4_1 := fdq_270 hD hth r4
  have nf0 : fc_1 PRD (20, [6, 7], [62, 2000000]) ws (vs) := by
    refine ⟨nf_in hl rfl, sgq_173 ?_⟩
    · show HY ws (n_v vs 6) (v_iv (n_v vs 7) + (((2000000 : Nat) : Int) - 2000000))
      exact hy_le f9 (by omega)
  refine ⟨(fun _ h => (by cases h)), [], trivial, ?_, (fun _ h => (by cases h))⟩
  rw [List.append_nil]
  exact List.forall_mem_cons.mpr ⟨⟨show (20 : Nat) < 100 from by decide, nf0⟩, (fun _ h => (by cases h))⟩
set_option maxHeartbeats 4000000 in
theorem vc_Pl_lay_18_0 (x1 : Int) (x2 : Int) (k1 : 6 ≤ x1 ∧ x1 ≤ 4) (k2 : 0 ≤ x2 ∧ x2 ≤ 200) : (8 ≤ x2) ∧ ((x2 ≤ 512) ∧ (x1 = 4)) := by
  first
    | omega
  
def o_Pl_lay_18 : or_T := (142, 12, [(1, (0, 6, 4, [])), (2, (0, 0, 200, []))], [], [], [], [(20, [2, 1], [50, 0, 0, 2, 6, 0, 2, 0, 8, 1, 0, 2, 6, 0, 2, 1, 0, 0, 512, 1, 2, 1, 1, 0, 4])], [], [])
theorem oo_Pl_lay_18 {kA : Nat → ClassId} : or_ok PRD kA GG o_Pl_lay_18 := by
  refine or_mk fun A ta ws vs hD hth hl => ?_
  intro t1 k1 t2 k2
  have nf0 : fc_1 PRD (20, [2, 1], [50, 0, 0, 2, 6, 0, 2, 0, 8, 1, 0, 2, 6, 0, 2, 1, 0, 0, 512, 1, 2, 1, 1, 0, 4]) ws (vs) := ⟨nf_in hl rfl, sgq_2058 (vc_Pl_lay_18_0 (v_iv (n_v vs 1)) (v_iv (n_v vs 2)) k1 k2)⟩
  refine ⟨(fun _ h => (by cases h)), [], trivial, ?_, (fun _ h => (by cases h))⟩
  rw [List.append_nil]
  exact List.forall_mem_cons.mpr ⟨⟨show (20 : Nat) < 100 from by decide, nf0⟩, (fun _ h => (by cases h))⟩
set_option maxHeartbeats 4000000 in
theorem vc_Pl_lay_19_r0 (x1 : Int) (x2 : Int) (k1 : 6 ≤ x1 ∧ x1 ≤ 4) (k2 : 0 ≤ x2 ∧ x2 ≤ 200) : 8 ≤ x2 ∧ x2 ≤ 200 := by
  first
    | omega
  
set_option maxHeartbeats 4000000 in
theorem vc_Pl_lay_19_1 (x1 : Int) (x7 : Int) (gy : Int) (k1 : 6 ≤ x1 ∧ x1 ≤ 4) (k7 : 0 ≤ x7 ∧ x7 ≤ 3072) : 1 * gy + ((-1) * x7 + 0) ≤ 0 := by
  first
    | omega
  
set_option maxHeartbeats 4000000 in
theorem vc_Pl_lay_19_2 (x1 : Int) (x7 : Int) (gy : Int) (k1 : 6 ≤ x1 ∧ x1 ≤ 4) (k7 : 0 ≤ x7 ∧ x7 ≤ 3072) : (-1) * gy + (1 * x7 + 0) ≤ 0 := by
  first
    | omega
  
def o_Pl_lay_19 : or_T := (144, 12, [(1, (0, 6, 4, [])), (2, (0, 0, 200, [])), (3, (2, 0, 0, [3])), (4, (2, 0, 0, [2])), (6, (2, 0, 0, [12])), (7, (0, 0, 3072, [])), (8, (0, 3, 3, [])), (9, (0, 4, 4, [])), (10, (0, 6, 6, [])), (11, (0, 200, 200, []))], [(20, [2, 1], [50, 0, 0, 2, 6, 0, 2, 0, 8, 1, 0, 2, 6, 0, 2, 1, 0, 0, 512, 1, 2, 1, 1, 0, 4]), (7, [2, 11], [5]), (8, [2], [3]), (7, [1, 10], [0]), (7, [1, 9], [1]), (7, [1, 8], [1]), (20, [3, 4], [60, 1, 2, 671, 0, 14, 1004]), (20, [3, 4], [60, 2, 1, 672, 0, 1001, 1004]), (20, [6, 7], [62, 2000000])], [(2, (0, 8, 200, []))], [(2, 0, 0, [12]), (0, 0, 3072, [])], [(24, [6, 12], []), (23, [13, 7], [0, 1, -1]), (23, [13, 7], [0, -1, 1]), (20, [12, 13], [62, 2000000])], [], [])
theorem oo_Pl_lay_19 {kA : Nat → ClassId} : or_ok PRD kA GG o_Pl_lay_19 := by
  refine or_mk fun A ta ws vs hD hth hl => ?_
  intro t1 k1 t2 k2 t3 r3 t4 r4 t6 r6 t7 k7 t8 k8 t9 k9 t10 k10 t11 k11 f0 f1 f2 f3 f4 f5 f6 f7 f8
  replace f0 := shm_2058 f0
  replace f1 := shm_24 f1
  replace f2 := shm_32 f2
  replace f3 := shm_37 f3
  replace f4 := shm_40 f4
  replace f5 := shm_40 f5
  replace f6 := shm_432 f6
  replace f7 := shm_1148 f7
  replace f8 := shm_173 f8
  have cr_3_14 := fdq_79 hD hth r3
  have cr_4_4 := fdq_91 hD hth r4
  have hK_3_14 := elq_24 hD hth cr_3_14
  have hK_4_4 := elq_28 hD hth cr_4_4
  have kz_3_0 := fdq_23 hD hth r3
  have kz_4_1 := fdq_270 hD hth r4
  obtain ⟨y, ey, hy⟩ := iv_ex (ta := ta) (lo := 0) (hi := 3072) (z := v_iv (n_v vs 7)) (by omega) (by omega) (by omega) (by omega)
  have ey2 : v_iv (Value.int y) = v_iv (n_v vs 7) := ey
  have ey3 : 0 ≤ v_iv (Value.int y) ∧ v_iv (Value.int y) ≤ 3072 := tv_rng hy
  have hrf0 : 8 ≤ v_iv (n_v vs 2) ∧ v_iv (n_v vs 2) ≤ 200 := vc_Pl_lay_19_r0 (v_iv (n_v vs 1)) (v_iv (n_v vs 2)) k1 k2
  have e_6 : n_v (vs ++ [n_v vs 6, Value.int y]) 6 = n_v vs 6 := n_v_old (by rw [hl]; decide)
  have e_7 : n_v (vs ++ [n_v vs 6, Value.int y]) 7 = n_v vs 7 := n_v_old (by rw [hl]; decide)
  have e_12 : n_v (vs ++ [n_v vs 6, Value.int y]) 12 = n_v vs 6 := n_v_new0 hl
  have e_13 : n_v (vs ++ [n_v vs 6, Value.int y]) 13 = Value.int y := n_v_new1 hl
  have nf0 : fc_1 PRD (24, [6, 12], []) ws (vs ++ [n_v vs 6, Value.int y]) := by
    refine ⟨nf_inA hl rfl, sgq_5 ?_⟩
    · show n_v (vs ++ [n_v vs 6, Value.int y]) 6 = n_v (vs ++ [n_v vs 6, Value.int y]) 12
      first | rfl | simp only [e_6, e_12]
  have nf1 : fc_1 PRD (23, [13, 7], [0, 1, -1]) ws (vs ++ [n_v vs 6, Value.int y]) := by
    refine ⟨nf_inA hl rfl, sgq_7 ?_⟩
    · show 1 * v_iv (n_v (vs ++ [n_v vs 6, Value.int y]) 13) + ((-1) * v_iv (n_v (vs ++ [n_v vs 6, Value.int y]) 7) + 0) ≤ 0
      simp only [e_7, e_13]
      exact vc_Pl_lay_19_1 (v_iv (n_v vs 1)) (v_iv (n_v vs 7)) (v_iv (Value.int y)) k1 k7
  have nf2 : fc_1 PRD (23, [13, 7], [0, -1, 1]) ws (vs ++ [n_v vs 6, Value.int y]) := by
    refine ⟨nf_inA hl rfl, sgq_22 ?_⟩
    · show (-1) * v_iv (n_v (vs ++ [n_v vs 6, Value.int y]) 13) + (1 * v_iv (n_v (vs ++ [n_v vs 6, Value.int y]) 7) + 0) ≤ 0
      simp only [e_7, e_13]
      exact vc_Pl_lay_19_2 (v_iv (n_v vs 1)) (v_iv (n_v vs 7)) (v_iv (Value.int y)) k1 k7
  have nf3 : fc_1 PRD (20, [12, 13], [62, 2000000]) ws (vs ++ [n_v vs 6, Value.int y]) := by
    refine ⟨nf_inA hl rfl, sgq_173 ?_⟩
    · show HY ws (n_v (vs ++ [n_v vs 6, Value.int y]) 12) (v_iv (n_v (vs ++ [n_v vs 6, Value.int y]) 13) + (((2000000 : Nat) : Int) - 2000000))
      simp only [e_12, e_13]
      exact hy_le f8 (by omega)
  have rf2 : tv_ok ta (0, 8, 200, []) (n_v vs 2) := tv_in t2 (by first | omega | grind) (by first | omega | grind)
  exact ⟨List.forall_mem_cons.mpr ⟨rf2, (fun _ h => (by cases h))⟩, [n_v vs 6, Value.int y], ag_two t6 hy, List.forall_mem_cons.mpr ⟨⟨show (24 : Nat) < 100 from by decide, nf0⟩, List.forall_mem_cons.mpr ⟨⟨show (23 : Nat) < 100 from by decide, nf1⟩, List.forall_mem_cons.mpr ⟨⟨show (23 : Nat) < 100 from by decide, nf2⟩, List.forall_mem_cons.mpr ⟨⟨show (20 : Nat) < 100 from by decide, nf3⟩, (fun _ h => (by cases h))⟩⟩⟩⟩, (fun _ h => (by cases h))⟩
def o_Pl_lay_20 : or_T := (177, 15, [(1, (0, 6, 4, [])), (2, (0, 8, 200, [])), (3, (2, 0, 0, [3])), (4, (2, 0, 0, [2])), (5, (2, 0, 0, [0])), (6, (2, 0, 0, [12])), (7, (0, 0, 3072, [])), (8, (0, 3, 3, [])), (9, (0, 4, 4, [])), (10, (0, 6, 6, [])), (11, (0, 200, 200, [])), (12, (2, 0, 0, [12])), (13, (0, 0, 3072, []))], [(24, [6, 12], []), (23, [13, 7], [0, 1, -1]), (23, [13, 7], [0, -1, 1]), (20, [2, 1], [50, 0, 0, 2, 6, 0, 2, 0, 8, 1, 0, 2, 6, 0, 2, 1, 0, 0, 512, 1, 2, 1, 1, 0, 4]), (20, [3, 4], [60, 1, 2, 671, 0, 14, 1004]), (20, [3, 4], [60, 2, 1, 672, 0, 1001, 1004]), (20, [12, 13], [62, 2000000]), (20, [5], [60, 0, 1, 641, 4]), (102, [13], [65536]), (23, [13, 7], [0, 1, -1]), (23, [13, 7], [0, -1, 1]), (102, [13], [277298568799925181577408069632, 6011, 6013, 6014]), (23, [13, 7], [0, 1, -1]), (23, [13, 7], [0, -1, 1]), (7, [2, 11], [5]), (8, [2], [3]), (7, [1, 10], [0]), (7, [1, 9], [1]), (7, [1, 8], [1])], [], [], [(20, [6, 7], [62, 2000000])], [], [])
theorem oo_Pl_lay_20 {kA : Nat → ClassId} : or_ok PRD kA GG o_Pl_lay_20 := by
  refine or_mk fun A ta ws vs hD hth hl => ?_
  intro t1 k1 t2 k2 t3 r3 t4 r4 t5 r5 t6 r6 t7 k7 t8 k8 t9 k9 t10 k10 t11 k11 t12 r12 t13 k13 f0 f1 f2 f3 f4 f5 f6 f7 ta1 w1 le1 s1 f9 f10 ta2 w2 le2 s2 f12 f13 f14 f15 f16 f17 f18
  replace f0 := shm_5 f0
  replace f1 := shm_7 f1
  replace f2 := shm_22 f2
  replace f3 := shm_2058 f3
  replace f4 := shm_432 f4
  replace f5 := shm_1148 f5
  replace f6 := shm_173 f6
  replace f7 := shm_780 f7
  replace f9 := shm_7 f9
  replace f10 := shm_22 f10
  replace f12 := shm_7 f12
  replace f13 := shm_22 f13
  replace f14 := shm_24 f14
  replace f15 := shm_32 f15
  replace f16 := shm_37 f16
  replace f17 := shm_40 f17
  replace f18 := shm_40 f18
  have q12 : n_v vs 12 = n_v vs 6 := f0.symm
  simp only [q12] at f6
  have cr_3_14 := fdq_79 hD hth r3
  have cr_4_4 := fdq_91 hD hth r4
  have cr_5_4 := fdq_1 hD hth r5
  have hK_3_14 := elq_24 hD hth cr_3_14
  have hK_4_4 := elq_28 hD hth cr_4_4
  have hK_5_4 := elq_0 hD hth cr_5_4
  have kz_3_0 := fdq_23 hD hth r3
  have kz_4_1 := fdq_270 hD hth r4
  have nf0 : fc_1 PRD (20, [6, 7], [62, 2000000]) ws (vs) := by
    refine ⟨nf_in hl rfl, sgq_173 ?_⟩
    · show HY ws (n_v vs 6) (v_iv (n_v vs 7) + (((2000000 : Nat) : Int) - 2000000))
      exact hy_le f6 (by omega)
  refine ⟨(fun _ h => (by cases h)), [], trivial, ?_, (fun _ h => (by cases h))⟩
  rw [List.append_nil]
  exact List.forall_mem_cons.mpr ⟨⟨show (20 : Nat) < 100 from by decide, nf0⟩, (fun _ h => (by cases h))⟩
set_option maxHeartbeats 4000000 in
theorem vc_Pl_lay_21_1 (x7 : Int) (gy : Int) (k7 : 0 ≤ x7 ∧ x7 ≤ 3072) (ey2 : gy = x7) : 1 * gy + ((-1) * x7 + 0) ≤ 0 := by
  first
    | omega
  
set_option maxHeartbeats 4000000 in
theorem vc_Pl_lay_21_2 (x7 : Int) (gy : Int) (k7 : 0 ≤ x7 ∧ x7 ≤ 3072) (ey2 : gy = x7) : (-1) * gy + (1 * x7 + 0) ≤ 0 := by
  first
    | omega
  
def o_Pl_lay_21 : or_T := (151, 12, [(3, (2, 0, 0, [3])), (4, (2, 0, 0, [2])), (6, (2, 0, 0, [12])), (7, (0, 0, 3072, []))], [(20, [3, 4], [60, 1, 2, 671, 0, 14, 1004]), (20, [3, 4], [60, 2, 1, 672, 0, 1001, 1004]), (20, [6, 7], [62, 2000000])], [], [(2, 0, 0, [12]), (0, 0, 3072, [])], [(24, [6, 12], []), (23, [13, 7], [0, 1, -1]), (23, [13, 7], [0, -1, 1]), (20, [12, 13], [62, 2000000])], [], [])
theorem oo_Pl_lay_21 {kA : Nat → ClassId} : or_ok PRD kA GG o_Pl_lay_21 := by
  refine or_mk fun A ta ws vs hD hth hl => ?_
  intro t3 r3 t4 r4 t6 r6 t7 k7 f0 f1 f2
  replace f0 := shm_432 f0
  replace f1 := shm_1148 f1
  replace f2 := shm_173 f2
  have cr_3_14 := fdq_79 hD hth r3
  have cr_4_4 := fdq_91 hD hth r4
  have hK_3_14 := elq_24 hD hth cr_3_14
  have hK_4_4 := elq_28 hD hth cr_4_4
  have kz_3_0 := fdq_23 hD hth r3
  have kz_4_1 := fdq_270 hD hth r4
  obtain ⟨y, ey, hy⟩ := iv_ex (ta := ta) (lo := 0) (hi := 3072) (z := v_iv (n_v vs 7)) (by omega) (by omega) (by omega) (by omega)
  have ey2 : v_iv (Value.int y) = v_iv (n_v vs 7) := ey
  have ey3 : 0 ≤ v_iv (Value.int y) ∧ v_iv (Value.int y) ≤ 3072 := tv_rng hy
  have e_6 : n_v (vs ++ [n_v vs 6, Value.int y]) 6 = n_v vs 6 := n_v_old (by rw [hl]; decide)
  have e_7 : n_v (vs ++ [n_v vs 6, Value.int y]) 7 = n_v vs 7 := n_v_old (by rw [hl]; decide)
  have e_12 : n_v (vs ++ [n_v vs 6, Value.int y]) 12 = n_v vs 6 := n_v_new0 hl
  have e_13 : n_v (vs ++ [n_v vs 6, Value.int y]) 13 = Value.int y := n_v_new1 hl
  have nf0 : fc_1 PRD (24, [6, 12], []) ws (vs ++ [n_v vs 6, Value.int y]) := by
    refine ⟨nf_inA hl rfl, sgq_5 ?_⟩
    · show n_v (vs ++ [n_v vs 6, Value.int y]) 6 = n_v (vs ++ [n_v vs 6, Value.int y]) 12
      first | rfl | simp only [e_6, e_12]
  have nf1 : fc_1 PRD (23, [13, 7], [0, 1, -1]) ws (vs ++ [n_v vs 6, Value.int y]) := by
    refine ⟨nf_inA hl rfl, sgq_7 ?_⟩
    · show 1 * v_iv (n_v (vs ++ [n_v vs 6, Value.int y]) 13) + ((-1) * v_iv (n_v (vs ++ [n_v vs 6, Value.int y]) 7) + 0) ≤ 0
      simp only [e_7, e_13]
      exact vc_Pl_lay_21_1 (v_iv (n_v vs 7)) (v_iv (Value.int y)) k7 ey2
  have nf2 : fc_1 PRD (23, [13, 7], [0, -1, 1]) ws (vs ++ [n_v vs 6, Value.int y]) := by
    refine ⟨nf_inA hl rfl, sgq_22 ?_⟩
    · show (-1) * v_iv (n_v (vs ++ [n_v vs 6, Value.int y]) 13) + (1 * v_iv (n_v (vs ++ [n_v vs 6, Value.int y]) 7) + 0) ≤ 0
      simp only [e_7, e_13]
      exact vc_Pl_lay_21_2 (v_iv (n_v vs 7)) (v_iv (Value.int y)) k7 ey2
  have nf3 : fc_1 PRD (20, [12, 13], [62, 2000000]) ws (vs ++ [n_v vs 6, Value.int y]) := by
    refine ⟨nf_inA hl rfl, sgq_173 ?_⟩
    · show HY ws (n_v (vs ++ [n_v vs 6, Value.int y]) 12) (v_iv (n_v (vs ++ [n_v vs 6, Value.int y]) 13) + (((2000000 : Nat) : Int) - 2000000))
      simp only [e_12, e_13]
      exact hy_le f2 (by omega)
  exact ⟨(fun _ h => (by cases h)), [n_v vs 6, Value.int y], ag_two t6 hy, List.forall_mem_cons.mpr ⟨⟨show (24 : Nat) < 100 from by decide, nf0⟩, List.forall_mem_cons.mpr ⟨⟨show (23 : Nat) < 100 from by decide, nf1⟩, List.forall_mem_cons.mpr ⟨⟨show (23 : Nat) < 100 from by decide, nf2⟩, List.forall_mem_cons.mpr ⟨⟨show (20 : Nat) < 100 from by decide, nf3⟩, (fun _ h => (by cases h))⟩⟩⟩⟩, (fun _ h => (by cases h))⟩
def o_Pl_lay_22 : or_T := (177, 15, [(3, (2, 0, 0, [3])), (4, (2, 0, 0, [2])), (5, (2, 0, 0, [0])), (6, (2, 0, 0, [12])), (7, (0, 0, 3072, [])), (12, (2, 0, 0, [12])), (13, (0, 0, 3072, []))], [(24, [6, 12], []), (23, [13, 7], [0, 1, -1]), (23, [13, 7], [0, -1, 1]), (20, [3, 4], [60, 1, 2, 671, 0, 14, 1004]), (20, [3, 4], [60, 2, 1, 672, 0, 1001, 1004]), (20, [12, 13], [62, 2000000]), (20, [5], [60, 0, 1, 641, 4]), (102, [13], [65536]), (23, [13, 7], [0, 1, -1]), (23, [13, 7], [0, -1, 1]), (102, [13], [1856910058928070412348735488, 7, 6008]), (23, [13, 7], [0, 1, -1]), (23, [13, 7], [0, -1, 1])], [], [], [(20, [6, 7], [62, 2000000])], [], [])
theorem oo_Pl_lay_22 {kA : Nat → ClassId} : or_ok PRD kA GG o_Pl_lay_22 := by
  refine or_mk fun A ta ws vs hD hth hl => ?_
  intro t3 r3 t4 r4 t5 r5 t6 r6 t7 k7 t12 r12 t13 k13 f0 f1 f2 f3 f4 f5 f6 ta1 w1 le1 s1 f8 f9 ta2 w2 le2 s2 f11 f12
  replace f0 := shm_5 f0
  replace f1 := shm_7 f1
  replace f2 := shm_22 f2
  replace f3 := shm_432 f3
  replace f4 := shm_1148 f4
  replace f5 := shm_173 f5
  replace f6 := shm_780 f6
  replace f8 := shm_7 f8
  replace f9 := shm_22 f9
  replace f11 := shm_7 f11
  replace f12 := shm_22 f12
  have q12 : n_v vs 12 = n_v vs 6 := f0.symm
  simp only [q12] at f5
  have cr_3_14 := fdq_79 hD hth r3
  have cr_4_4 := fdq_91 hD hth r4
  have cr_5_4 := fdq_1 hD hth r5
  have hK_3_14 := elq_24 hD hth cr_3_14
  have hK_4_4 := elq_28 hD hth cr_4_4
  have hK_5_4 := elq_0 hD hth cr_5_4
  have kz_3_0 := fdq_23 hD hth r3
  have kz_4_1 := fdq_270 hD hth r4
  have nf0 : fc_1 PRD (20, [6, 7], [62, 2000000]) ws (vs) := by
    refine ⟨nf_in hl rfl, sgq_173 ?_⟩
    · show HY ws (n_v vs 6) (v_iv (n_v vs 7) + (((2000000 : Nat) : Int) - 2000000))
      exact hy_le f5 (by omega)
  refine ⟨(fun _ h => (by cases h)), [], trivial, ?_, (fun _ h => (by cases h))⟩
  rw [List.append_nil]
  exact List.forall_mem_cons.mpr ⟨⟨show (20 : Nat) < 100 from by decide, nf0⟩, (fun _ h => (by cases h))⟩
set_option maxHeartbeats 4000000 in
theorem vc_Pl_lay_23_0 (x1 : Int) (x2 : Int) (k1 : 6 ≤ x1 ∧ x1 ≤ 6) (k2 : 0 ≤ x2 ∧ x2 ≤ 200) : (0 ≤ x2) ∧ ((x2 ≤ 200) ∧ (x1 = 6)) := by
  first
    | omega
  
def o_Pl_lay_23 : or_T := (157, 12, [(1, (0, 6, 6, [])), (2, (0, 0, 200, []))], [], [], [], [(20, [2, 1], [50, 0, 0, 2, 6, 0, 2, 0, 0, 1, 0, 2, 6, 0, 2, 1, 0, 0, 200, 1, 2, 1, 1, 0, 6])], [], [])
theorem oo_Pl_lay_23 {kA : Nat → ClassId} : or_ok PRD kA GG o_Pl_lay_23 := by
  refine or_mk fun A ta ws vs hD hth hl => ?_
  intro t1 k1 t2 k2
  have nf0 : fc_1 PRD (20, [2, 1], [50, 0, 0, 2, 6, 0, 2, 0, 0, 1, 0, 2, 6, 0, 2, 1, 0, 0, 200, 1, 2, 1, 1, 0, 6]) ws (vs) := ⟨nf_in hl rfl, sgq_2059 (vc_Pl_lay_23_0 (v_iv (n_v vs 1)) (v_iv (n_v vs 2)) k1 k2)⟩
  refine ⟨(fun _ h => (by cases h)), [], trivial, ?_, (fun _ h => (by cases h))⟩
  rw [List.append_nil]
  exact List.forall_mem_cons.mpr ⟨⟨show (20 : Nat) < 100 from by decide, nf0⟩, (fun _ h => (by cases h))⟩
set_option maxHeartbeats 4000000 in
theorem vc_Pl_lay_24_1 (x7 : Int) (gy : Int) (k7 : 0 ≤ x7 ∧ x7 ≤ 3072) (ey2 : gy = x7) : 1 * gy + ((-1) * x7 + 0) ≤ 0 := by
  first
    | omega
  
set_option maxHeartbeats 4000000 in
theorem vc_Pl_lay_24_2 (x7 : Int) (gy : Int) (k7 : 0 ≤ x7 ∧ x7 ≤ 3072) (ey2 : gy = x7) : (-1) * gy + (1 * x7 + 0) ≤ 0 := by
  first
    | omega
  
def o_Pl_lay_24 : or_T := (159, 12, [(1, (0, 6, 6, [])), (2, (0, 0, 200, [])), (3, (2, 0, 0, [3])), (4, (2, 0, 0, [2])), (6, (2, 0, 0, [12])), (7, (0, 0, 3072, [])), (8, (0, 3, 3, [])), (9, (0, 4, 4, [])), (10, (0, 6, 6, [])), (11, (0, 200, 200, []))], [(20, [2, 1], [50, 0, 0, 2, 6, 0, 2, 0, 0, 1, 0, 2, 6, 0, 2, 1, 0, 0, 200, 1, 2, 1, 1, 0, 6]), (7, [2, 11], [5]), (8, [2], [3]), (7, [1, 10], [0]), (7, [1, 9], [1]), (7, [1, 8], [1]), (20, [3, 4], [60, 1, 2, 671, 0, 14, 1004]), (20, [3, 4], [60, 2, 1, 672, 0, 1001, 1004]), (20, [6, 7], [62, 2000000])], [], [(2, 0, 0, [12]), (0, 0, 3072, [])], [(24, [6, 12], []), (23, [13, 7], [0, 1, -1]), (23, [13, 7], [0, -1, 1]), (20, [12, 13], [62, 2000000])], [], [])
theorem oo_Pl_lay_24 {kA : Nat → ClassId} : or_ok PRD kA GG o_Pl_lay_24 := by
  refine or_mk fun A ta ws vs hD hth hl => ?_
  intro t1 k1 t2 k2 t3 r3 t4 r4 t6 r6 t7 k7 t8 k8 t9 k9 t10 k10 t11 k11 f0 f1 f2 f3 f4 f5 f6 f7 f8
  replace f0 := shm_2059 f0
  replace f1 := shm_24 f1
  replace f2 := shm_32 f2
  replace f3 := shm_37 f3
  replace f4 := shm_40 f4
  replace f5 := shm_40 f5
  replace f6 := shm_432 f6
  replace f7 := shm_1148 f7
  replace f8 := shm_173 f8
  have cr_3_14 := fdq_79 hD hth r3
  have cr_4_4 := fdq_91 hD hth r4
  have hK_3_14 := elq_24 hD hth cr_3_14
  have hK_4_4 := elq_28 hD hth cr_4_4
  have kz_3_0 := fdq_23 hD hth r3
  have kz_4_1 := fdq_270 hD hth r4
  obtain ⟨y, ey, hy⟩ := iv_ex (ta := ta) (lo := 0) (hi := 3072) (z := v_iv (n_v vs 7)) (by omega) (by omega) (by omega) (by omega)
  have ey2 : v_iv (Value.int y) = v_iv (n_v vs 7) := ey
  have ey3 : 0 ≤ v_iv (Value.int y) ∧ v_iv (Value.int y) ≤ 3072 := tv_rng hy
  have e_6 : n_v (vs ++ [n_v vs 6, Value.int y]) 6 = n_v vs 6 := n_v_old (by rw [hl]; decide)
  have e_7 : n_v (vs ++ [n_v vs 6, Value.int y]) 7 = n_v vs 7 := n_v_old (by rw [hl]; decide)
  have e_12 : n_v (vs ++ [n_v vs 6, Value.int y]) 12 = n_v vs 6 := n_v_new0 hl
  have e_13 : n_v (vs ++ [n_v vs 6, Value.int y]) 13 = Value.int y := n_v_new1 hl
  have nf0 : fc_1 PRD (24, [6, 12], []) ws (vs ++ [n_v vs 6, Value.int y]) := by
    refine ⟨nf_inA hl rfl, sgq_5 ?_⟩
    · show n_v (vs ++ [n_v vs 6, Value.int y]) 6 = n_v (vs ++ [n_v vs 6, Value.int y]) 12
      first | rfl | simp only [e_6, e_12]
  have nf1 : fc_1 PRD (23, [13, 7], [0, 1, -1]) ws (vs ++ [n_v vs 6, Value.int y]) := by
    refine ⟨nf_inA hl rfl, sgq_7 ?_⟩
    · show 1 * v_iv (n_v (vs ++ [n_v vs 6, Value.int y]) 13) + ((-1) * v_iv (n_v (vs ++ [n_v vs 6, Value.int y]) 7) + 0) ≤ 0
      simp only [e_7, e_13]
      exact vc_Pl_lay_24_1 (v_iv (n_v vs 7)) (v_iv (Value.int y)) k7 ey2
  have nf2 : fc_1 PRD (23, [13, 7], [0, -1, 1]) ws (vs ++ [n_v vs 6, Value.int y]) := by
    refine ⟨nf_inA hl rfl, sgq_22 ?_⟩
    · show (-1) * v_iv (n_v (vs ++ [n_v vs 6, Value.int y]) 13) + (1 * v_iv (n_v (vs ++ [n_v vs 6, Value.int y]) 7) + 0) ≤ 0
      simp only [e_7, e_13]
      exact vc_Pl_lay_24_2 (v_iv (n_v vs 7)) (v_iv (Value.int y)) k7 ey2
  have nf3 : fc_1 PRD (20, [12, 13], [62, 2000000]) ws (vs ++ [n_v vs 6, Value.int y]) := by
    refine ⟨nf_inA hl rfl, sgq_173 ?_⟩
    · show HY ws (n_v (vs ++ [n_v vs 6, Value.int y]) 12) (v_iv (n_v (vs ++ [n_v vs 6, Value.int y]) 13) + (((2000000 : Nat) : Int) - 2000000))
      simp only [e_12, e_13]
      exact hy_le f8 (by omega)
  exact ⟨(fun _ h => (by cases h)), [n_v vs 6, Value.int y], ag_two t6 hy, List.forall_mem_cons.mpr ⟨⟨show (24 : Nat) < 100 from by decide, nf0⟩, List.forall_mem_cons.mpr ⟨⟨show (23 : Nat) < 100 from by decide, nf1⟩, List.forall_mem_cons.mpr ⟨⟨show (23 : Nat) < 100 from by decide, nf2⟩, List.forall_mem_cons.mpr ⟨⟨show (20 : Nat) < 100 from by decide, nf3⟩, (fun _ h => (by cases h))⟩⟩⟩⟩, (fun _ h => (by cases h))⟩
def o_Pl_lay_25 : or_T := (177, 15, [(1, (0, 6, 6, [])), (2, (0, 0, 200, [])), (3, (2, 0, 0, [3])), (4, (2, 0, 0, [2])), (5, (2, 0, 0, [0])), (6, (2, 0, 0, [12])), (7, (0, 0, 3072, [])), (8, (0, 3, 3, [])), (9, (0, 4, 4, [])), (10, (0, 6, 6, [])), (11, (0, 200, 200, [])), (12, (2, 0, 0, [12])), (13, (0, 0, 3072, []))], [(24, [6, 12], []), (23, [13, 7], [0, 1, -1]), (23, [13, 7], [0, -1, 1]), (20, [2, 1], [50, 0, 0, 2, 6, 0, 2, 0, 0, 1, 0, 2, 6, 0, 2, 1, 0, 0, 200, 1, 2, 1, 1, 0, 6]), (20, [3, 4], [60, 1, 2, 671, 0, 14, 1004]), (20, [3, 4], [60, 2, 1, 672, 0, 1001, 1004]), (20, [12, 13], [62, 2000000]), (20, [5], [60, 0, 1, 641, 4]), (102, [13], [65536]), (23, [13, 7], [0, 1, -1]), (23, [13, 7], [0, -1, 1]), (102, [13], [4753689750855860255612637069312]), (23, [13, 7], [0, 1, -1]), (23, [13, 7], [0, -1, 1]), (7, [2, 11], [5]), (8, [2], [3]), (7, [1, 10], [0]), (7, [1, 9], [1]), (7, [1, 8], [1])], [], [], [(20, [6, 7], [62, 2000000])], [], [])
theorem oo_Pl_lay_25 {kA : Nat → ClassId} : or_ok PRD kA GG o_Pl_lay_25 := by
  refine or_mk fun A ta ws vs hD hth hl => ?_
  intro t1 k1 t2 k2 t3 r3 t4 r4 t5 r5 t6 r6 t7 k7 t8 k8 t9 k9 t10 k10 t11 k11 t12 r12 t13 k13 f0 f1 f2 f3 f4 f5 f6 f7 ta1 w1 le1 s1 f9 f10 ta2 w2 le2 s2 f12 f13 f14 f15 f16 f17 f18
  replace f0 := shm_5 f0
  replace f1 := shm_7 f1
  replace f2 := shm_22 f2
  replace f3 := shm_2059 f3
  replace f4 := shm_432 f4
  replace f5 := shm_1148 f5
  replace f6 := shm_173 f6
  replace f7 := shm_780 f7
  replace f9 := shm_7 f9
  replace f10 := shm_22 f10
  replace f12 := shm_7 f12
  replace f13 := shm_22 f13
  replace f14 := shm_24 f14
  replace f15 := shm_32 f15
  replace f16 := shm_37 f16
  replace f17 := shm_40 f17
  replace f18 := shm_40 f18
  have q12 : n_v vs 12 = n_v vs 6 := f0.symm
  simp only [q12] at f6
  have cr_3_14 := fdq_79 hD hth r3
  have cr_4_4 := fdq_91 hD hth r4
  have cr_5_4 := fdq_1 hD hth r5
  have hK_3_14 := elq_24 hD hth cr_3_14
  have hK_4_4 := elq_28 hD hth cr_4_4
  have hK_5_4 := elq_0 hD hth cr_5_4
  have kz_3_0 := fdq_23 hD hth r3
  have kz_4_1 := fdq_270 hD hth r4
  have nf0 : fc_1 PRD (20, [6, 7], [62, 2000000]) ws (vs) := by
    refine ⟨nf_in hl rfl, sgq_173 ?_⟩
    · show HY ws (n_v vs 6) (v_iv (n_v vs 7) + (((2000000 : Nat) : Int) - 2000000))
      exact hy_le f6 (by omega)
  refine ⟨(fun _ h => (by cases h)), [], trivial, ?_, (fun _ h => (by cases h))⟩
  rw [List.append_nil]
  exact List.forall_mem_cons.mpr ⟨⟨show (20 : Nat) < 100 from by decide, nf0⟩, (fun _ h => (by cases h))⟩
set_option maxHeartbeats 4000000 in
theorem vc_Pl_lay_26_1 (x7 : Int) (gy : Int) (k7 : 0 ≤ x7 ∧ x7 ≤ 3072) (ey2 : gy = x7) : 1 * gy + ((-1) * x7 + 0) ≤ 0 := by
  first
    | omega
  
set_option maxHeartbeats 4000000 in
theorem vc_Pl_lay_26_2 (x7 : Int) (gy : Int) (k7 : 0 ≤ x7 ∧ x7 ≤ 3072) (ey2 : gy = x7) : (-1) * gy + (1 * x7 + 0) ≤ 0 := by
  first
    | omega
  
def o_Pl_lay_26 : or_T := (166, 13, [(3, (2, 0, 0, [3])), (4, (2, 0, 0, [2])), (6, (2, 0, 0, [12])), (7, (0, 0, 3072, []))], [(20, [3, 4], [60, 1, 2, 671, 0, 14, 1004]), (20, [3, 4], [60, 2, 1, 672, 0, 1001, 1004]), (20, [6, 7], [62, 2000000])], [], [(2, 0, 0, [12]), (0, 0, 3072, [])], [(24, [6, 13], []), (23, [14, 7], [0, 1, -1]), (23, [14, 7], [0, -1, 1]), (20, [13, 14], [62, 2000000])], [], [])
theorem oo_Pl_lay_26 {kA : Nat → ClassId} : or_ok PRD kA GG o_Pl_lay_26 := by
  refine or_mk fun A ta ws vs hD hth hl => ?_
  intro t3 r3 t4 r4 t6 r6 t7 k7 f0 f1 f2
  replace f0 := shm_432 f0
  replace f1 := shm_1148 f1
  replace f2 := shm_173 f2
  have cr_3_14 := fdq_79 hD hth r3
  have cr_4_4 := fdq_91 hD hth r4
  have hK_3_14 := elq_24 hD hth cr_3_14
  have hK_4_4 := elq_28 hD hth cr_4_4
  have kz_3_0 := fdq_23 hD hth r3
  have kz_4_1 := fdq_270 hD hth r4
  obtain ⟨y, ey, hy⟩ := iv_ex (ta := ta) (lo := 0) (hi := 3072) (z := v_iv (n_v vs 7)) (by omega) (by omega) (by omega) (by omega)
  have ey2 : v_iv (Value.int y) = v_iv (n_v vs 7) := ey
  have ey3 : 0 ≤ v_iv (Value.int y) ∧ v_iv (Value.int y) ≤ 3072 := tv_rng hy
  have e_6 : n_v (vs ++ [n_v vs 6, Value.int y]) 6 = n_v vs 6 := n_v_old (by rw [hl]; decide)
  have e_7 : n_v (vs ++ [n_v vs 6, Value.int y]) 7 = n_v vs 7 := n_v_old (by rw [hl]; decide)
  have e_13 : n_v (vs ++ [n_v vs 6, Value.int y]) 13 = n_v vs 6 := n_v_new0 hl
  have e_14 : n_v (vs ++ [n_v vs 6, Value.int y]) 14 = Value.int y := n_v_new1 hl
  have nf0 : fc_1 PRD (24, [6, 13], []) ws (vs ++ [n_v vs 6, Value.int y]) := by
    refine ⟨nf_inA hl rfl, sgq_5 ?_⟩
    · show n_v (vs ++ [n_v vs 6, Value.int y]) 6 = n_v (vs ++ [n_v vs 6, Value.int y]) 13
      first | rfl | simp only [e_6, e_13]
  have nf1 : fc_1 PRD (23, [14, 7], [0, 1, -1]) ws (vs ++ [n_v vs 6, Value.int y]) := by
    refine ⟨nf_inA hl rfl, sgq_7 ?_⟩
    · show 1 * v_iv (n_v (vs ++ [n_v vs 6, Value.int y]) 14) + ((-1) * v_iv (n_v (vs ++ [n_v vs 6, Value.int y]) 7) + 0) ≤ 0
      simp only [e_7, e_14]
      exact vc_Pl_lay_26_1 (v_iv (n_v vs 7)) (v_iv (Value.int y)) k7 ey2
  have nf2 : fc_1 PRD (23, [14, 7], [0, -1, 1]) ws (vs ++ [n_v vs 6, Value.int y]) := by
    refine ⟨nf_inA hl rfl, sgq_22 ?_⟩
    · show (-1) * v_iv (n_v (vs ++ [n_v vs 6, Value.int y]) 14) + (1 * v_iv (n_v (vs ++ [n_v vs 6, Value.int y]) 7) + 0) ≤ 0
      simp only [e_7, e_14]
      exact vc_Pl_lay_26_2 (v_iv (n_v vs 7)) (v_iv (Value.int y)) k7 ey2
  have nf3 : fc_1 PRD (20, [13, 14], [62, 2000000]) ws (vs ++ [n_v vs 6, Value.int y]) := by
    refine ⟨nf_inA hl rfl, sgq_173 ?_⟩
    · show HY ws (n_v (vs ++ [n_v vs 6, Value.int y]) 13) (v_iv (n_v (vs ++ [n_v vs 6, Value.int y]) 14) + (((2000000 : Nat) : Int) - 2000000))
      simp only [e_13, e_14]
      exact hy_le f2 (by omega)
  exact ⟨(fun _ h => (by cases h)), [n_v vs 6, Value.int y], ag_two t6 hy, List.forall_mem_cons.mpr ⟨⟨show (24 : Nat) < 100 from by decide, nf0⟩, List.forall_mem_cons.mpr ⟨⟨show (23 : Nat) < 100 from by decide, nf1⟩, List.forall_mem_cons.mpr ⟨⟨show (23 : Nat) < 100 from by decide, nf2⟩, List.forall_mem_cons.mpr ⟨⟨show (20 : Nat) < 100 from by decide, nf3⟩, (fun _ h => (by cases h))⟩⟩⟩⟩, (fun _ h => (by cases h))⟩
def o_Pl_lay_27 : or_T := (177, 16, [(3, (2, 0, 0, [3])), (4, (2, 0, 0, [2])), (5, (2, 0, 0, [0])), (6, (2, 0, 0, [12])), (7, (0, 0, 3072, [])), (13, (2, 0, 0, [12])), (14, (0, 0, 3072, []))], [(24, [6, 13], []), (23, [14, 7], [0, 1, -1]), (23, [14, 7], [0, -1, 1]), (20, [3, 4], [60, 1, 2, 671, 0, 14, 1004]), (20, [3, 4], [60, 2, 1, 672, 0, 1001, 1004]), (20, [13, 14], [62, 2000000]), (20, [5], [60, 0, 1, 641, 4]), (102, [14], [65536]), (23, [14, 7], [0, 1, -1]), (23, [14, 7], [0, -1, 1]), (102, [14], [618970019642690137449611264, 9]), (23, [14, 7], [0, 1, -1]), (23, [14, 7], [0, -1, 1])], [], [], [(20, [6, 7], [62, 2000000])], [], [])
theorem oo_Pl_lay_27 {kA : Nat → ClassId} : or_ok PRD kA GG o_Pl_lay_27 := by
  refine or_mk fun A ta ws vs hD hth hl => ?_
  intro t3 r3 t4 r4 t5 r5 t6 r6 t7 k7 t13 r13 t14 k14 f0 f1 f2 f3 f4 f5 f6 ta1 w1 le1 s1 f8 f9 ta2 w2 le2 s2 f11 f12
  replace f0 := shm_5 f0
  replace f1 := shm_7 f1
  replace f2 := shm_22 f2
  replace f3 := shm_432 f3
  replace f4 := shm_1148 f4
  replace f5 := shm_173 f5
  replace f6 := shm_780 f6
  replace f8 := shm_7 f8
  replace f9 := shm_22 f9
  replace f11 := shm_7 f11
  replace f12 := shm_22 f12
  have q13 : n_v vs 13 = n_v vs 6 := f0.symm
  simp only [q13] at f5
  have cr_3_14 := fdq_79 hD hth r3
  have cr_4_4 := fdq_91 hD hth r4
  have cr_5_4 := fdq_1 hD hth r5
  have hK_3_14 := elq_24 hD hth cr_3_14
  have hK_4_4 := elq_28 hD hth cr_4_4
  have hK_5_4 := elq_0 hD hth cr_5_4
  have kz_3_0 := fdq_23 hD hth r3
  have kz_4_1 := fdq_270 hD hth r4
  have nf0 : fc_1 PRD (20, [6, 7], [62, 2000000]) ws (vs) := by
    refine ⟨nf_in hl rfl, sgq_173 ?_⟩
    · show HY ws (n_v vs 6) (v_iv (n_v vs 7) + (((2000000 : Nat) : Int) - 2000000))
      exact hy_le f5 (by omega)
  refine ⟨(fun _ h => (by cases h)), [], trivial, ?_, (fun _ h => (by cases h))⟩
  rw [List.append_nil]
  exact List.forall_mem_cons.mpr ⟨⟨show (20 : Nat) < 100 from by decide, nf0⟩, (fun _ h => (by cases h))⟩
set_option maxHeartbeats 4000000 in
theorem vc_Pl_lay_28_0 (x1 : Int) (x2 : Int) (k1 : 4 ≤ x1 ∧ x1 ≤ 3) (k2 : 8 ≤ x2 ∧ x2 ≤ 512) : ((-1) ≤ x2) ∧ ((x2 ≤ 23) ∧ (x1 = 3)) := by
  first
    | omega
  
def o_Pl_lay_28 : or_T := (132, 13, [(1, (0, 4, 3, [])), (2, (0, 8, 512, []))], [], [], [], [(20, [2, 1], [50, 0, 0, 2, 6, 0, 2, 0, -1, 1, 0, 2, 6, 0, 2, 1, 0, 0, 23, 1, 2, 1, 1, 0, 3])], [], [])
theorem oo_Pl_lay_28 {kA : Nat → ClassId} : or_ok PRD kA GG o_Pl_lay_28 := by
  refine or_mk fun A ta ws vs hD hth hl => ?_
  intro t1 k1 t2 k2
  have nf0 : fc_1 PRD (20, [2, 1], [50, 0, 0, 2, 6, 0, 2, 0, -1, 1, 0, 2, 6, 0, 2, 1, 0, 0, 23, 1, 2, 1, 1, 0, 3]) ws (vs) := ⟨nf_in hl rfl, sgq_2057 (vc_Pl_lay_28_0 (v_iv (n_v vs 1)) (v_iv (n_v vs 2)) k1 k2)⟩
  refine ⟨(fun _ h => (by cases h)), [], trivial, ?_, (fun _ h => (by cases h))⟩
  rw [List.append_nil]
  exact List.forall_mem_cons.mpr ⟨⟨show (20 : Nat) < 100 from by decide, nf0⟩, (fun _ h => (by cases h))⟩
set_option maxHeartbeats 4000000 in
theorem vc_Pl_lay_29_r0 (x1 : Int) (x2 : Int) (k1 : 4 ≤ x1 ∧ x1 ≤ 3) (k2 : 8 ≤ x2 ∧ x2 ≤ 512) : 8 ≤ x2 ∧ x2 ≤ 23 := by
  first
    | omega
  
set_option maxHeartbeats 4000000 in
theorem vc_Pl_lay_29_1 (x1 : Int) (x7 : Int) (gy : Int) (k1 : 4 ≤ x1 ∧ x1 ≤ 3) (k7 : 0 ≤ x7 ∧ x7 ≤ 3072) : 1 * gy + ((-1) * x7 + 0) ≤ 0 := by
  first
    | omega
  
set_option maxHeartbeats 4000000 in
theorem vc_Pl_lay_29_2 (x1 : Int) (x7 : Int) (gy : Int) (k1 : 4 ≤ x1 ∧ x1 ≤ 3) (k7 : 0 ≤ x7 ∧ x7 ≤ 3072) : (-1) * gy + (1 * x7 + 0) ≤ 0 := by
  first
    | omega
  
set_option maxHeartbeats 4000000 in
theorem vc_Pl_lay_29_3 (near_0o3 : Int → Int) (part_0o4 : Int → Int) (nodes_0o3 : Int) (f6 : PNC (nodes_0o3) (near_0o3) (part_0o4)) (kz_3_0 : 0 ≤ nodes_0o3 ∧ nodes_0o3 ≤ 24) : PNC (nodes_0o3) (near_0o3) (part_0o4) := by
  first | assumption
set_option maxHeartbeats 4000000 in
theorem vc_Pl_lay_29_4 (part_0o4 : Int → Int) (nodes_0o3 : Int) (parts_0o4 : Int) (f7 : FPA (nodes_0o3) (parts_0o4) (part_0o4)) (kz_3_0 : 0 ≤ nodes_0o3 ∧ nodes_0o3 ≤ 24) (kz_4_1 : 0 ≤ parts_0o4 ∧ parts_0o4 ≤ 24) : FPA (nodes_0o3) (parts_0o4) (part_0o4) := by
  first | assumption
set_option maxHeartbeats 4000000 in
theorem vc_Pl_lay_29_5 (x1 : Int) (x2 : Int) (nodes_0o3 : Int) (k1 : 4 ≤ x1 ∧ x1 ≤ 3) (k2 : 8 ≤ x2 ∧ x2 ≤ 512) (kz_3_0 : 0 ≤ nodes_0o3 ∧ nodes_0o3 ≤ 24) : ((-1) ≤ x2) ∧ ((x2 + 1) ≤ nodes_0o3) := by
  first
    | omega
  
def o_Pl_lay_29 : or_T := (136, 13, [(1, (0, 4, 3, [])), (2, (0, 8, 512, [])), (3, (2, 0, 0, [3])), (4, (2, 0, 0, [2])), (6, (2, 0, 0, [12])), (7, (0, 0, 3072, [])), (8, (0, 3, 3, [])), (9, (0, 4, 4, [])), (10, (0, 8, 8, [])), (11, (0, 512, 512, [])), (12, (0, 6, 6, []))], [(20, [2, 1], [50, 0, 0, 2, 6, 0, 2, 0, -1, 1, 0, 2, 6, 0, 2, 1, 0, 0, 23, 1, 2, 1, 1, 0, 3]), (7, [1, 12], [1]), (7, [2, 11], [5]), (7, [2, 10], [3]), (7, [1, 9], [0]), (7, [1, 8], [1]), (20, [3, 4], [60, 1, 2, 671, 0, 14, 1004]), (20, [3, 4], [60, 2, 1, 672, 0, 1001, 1004]), (20, [6, 7], [62, 2000000])], [(2, (0, 8, 23, []))], [(2, 0, 0, [12]), (0, 0, 3072, [])], [(24, [6, 13], []), (23, [14, 7], [0, 1, -1]), (23, [14, 7], [0, -1, 1]), (20, [3, 4], [60, 1, 2, 671, 0, 14, 1004]), (20, [3, 4], [60, 2, 1, 672, 0, 1001, 1004]), (20, [2, 3], [50, 1, 0, 1000, 2, 6, 0, 2, 0, -1, 1, 0, 0, 6, 4, 2, 1, 0, 0, 1, 2, 1, 0]), (20, [13, 14], [62, 2000000])], [], [])
theorem oo_Pl_lay_29 {kA : Nat → ClassId} : or_ok PRD kA GG o_Pl_lay_29 := by
  refine or_mk fun A ta ws vs hD hth hl => ?_
  intro t1 k1 t2 k2 t3 r3 t4 r4 t6 r6 t7 k7 t8 k8 t9 k9 t10 k10 t11 k11 t12 k12 f0 f1 f2 f3 f4 f5 f6 f7 f8
  replace f0 := shm_2057 f0
  replace f1 := shm_40 f1
  replace f2 := shm_24 f2
  replace f3 := shm_2 f3
  replace f4 := shm_37 f4
  replace f5 := shm_40 f5
  replace f6 := shm_432 f6
  replace f7 := shm_1148 f7
  replace f8 := shm_173 f8
  have cr_3_14 := fdq_79 hD hth r3
  have cr_4_4 := fdq_91 hD hth r4
  have hK_3_14 := elq_24 hD hth cr_3_14
  have hK_4_4 := elq_28 hD hth cr_4_4
  have kz_3_0 := fdq_23 hD hth r3
  have kz_4_1 := fdq_270 hD hth r4
  obtain ⟨y, ey, hy⟩ := iv_ex (ta := ta) (lo := 0) (hi := 3072) (z := v_iv (n_v vs 7)) (by omega) (by omega) (by omega) (by omega)
  have ey2 : v_iv (Value.int y) = v_iv (n_v vs 7) := ey
  have ey3 : 0 ≤ v_iv (Value.int y) ∧ v_iv (Value.int y) ≤ 3072 := tv_rng hy
  have hrf0 : 8 ≤ v_iv (n_v vs 2) ∧ v_iv (n_v vs 2) ≤ 23 := vc_Pl_lay_29_r0 (v_iv (n_v vs 1)) (v_iv (n_v vs 2)) k1 k2
  have e_2 : n_v (vs ++ [n_v vs 6, Value.int y]) 2 = n_v vs 2 := n_v_old (by rw [hl]; decide)
  have e_3 : n_v (vs ++ [n_v vs 6, Value.int y]) 3 = n_v vs 3 := n_v_old (by rw [hl]; decide)
  have e_4 : n_v (vs ++ [n_v vs 6, Value.int y]) 4 = n_v vs 4 := n_v_old (by rw [hl]; decide)
  have e_6 : n_v (vs ++ [n_v vs 6, Value.int y]) 6 = n_v vs 6 := n_v_old (by rw [hl]; decide)
  have e_7 : n_v (vs ++ [n_v vs 6, Value.int y]) 7 = n_v vs 7 := n_v_old (by rw [hl]; decide)
  have e_13 : n_v (vs ++ [n_v vs 6, Value.int y]) 13 = n_v vs 6 := n_v_new0 hl
  have e_14 : n_v (vs ++ [n_v vs 6, Value.int y]) 14 = Value.int y := n_v_new1 hl
  have nf0 : fc_1 PRD (24, [6, 13], []) ws (vs ++ [n_v vs 6, Value.int y]) := by
    refine ⟨nf_inA hl rfl, sgq_5 ?_⟩
    · show n_v (vs ++ [n_v vs 6, Value.int y]) 6 = n_v (vs ++ [n_v vs 6, Value.int y]) 13
      first | rfl | simp only [e_6, e_13]
  have nf1 : fc_1 PRD (23, [14, 7], [0, 1, -1]) ws (vs ++ [n_v vs 6, Value.int y]) := by
    refine ⟨nf_inA hl rfl, sgq_7 ?_⟩
    · show 1 * v_iv (n_v (vs ++ [n_v vs 6, Value.int y]) 14) + ((-1) * v_iv (n_v (vs ++ [n_v vs 6, Value.int y]) 7) + 0) ≤ 0
      simp only [e_7, e_14]
      exact vc_Pl_lay_29_1 (v_iv (n_v vs 1)) (v_iv (n_v vs 7)) (v_iv (Value.int y)) k1 k7
  have nf2 : fc_1 PRD (23, [14, 7], [0, -1, 1]) ws (vs ++ [n_v vs 6, Value.int y]) := by
    refine ⟨nf_inA hl rfl, sgq_22 ?_⟩
    · show (-1) * v_iv (n_v (vs ++ [n_v vs 6, Value.int y]) 14) + (1 * v_iv (n_v (vs ++ [n_v vs 6, Value.int y]) 7) + 0) ≤ 0
      simp only [e_7, e_14]
      exact vc_Pl_lay_29_2 (v_iv (n_v vs 1)) (v_iv (n_v vs 7)) (v_iv (Value.int y)) k1 k7
  have nf3 : fc_1 PRD (20, [3, 4], [60, 1, 2, 671, 0, 14, 1004]) ws (vs ++ [n_v vs 6, Value.int y]) := by
    refine ⟨nf_inA hl rfl, sgq_432 ?_⟩
    · show PNC (w_fi ws (n_v (vs ++ [n_v vs 6, Value.int y]) 3) 0) (w_ei ws (w_ar ws (n_v (vs ++ [n_v vs 6, Value.int y]) 3) 14)) (w_ei ws (w_ar ws (n_v (vs ++ [n_v vs 6, Value.int y]) 4) 4))
      simp only [e_3, e_4]
      exact vc_Pl_lay_29_3 (w_ei ws (w_ar ws (n_v vs 3) 14)) (w_ei ws (w_ar ws (n_v vs 4) 4)) (w_fi ws (n_v vs 3) 0) f6 kz_3_0
  have nf4 : fc_1 PRD (20, [3, 4], [60, 2, 1, 672, 0, 1001, 1004]) ws (vs ++ [n_v vs 6, Value.int y]) := by
    refine ⟨nf_inA hl rfl, sgq_1148 ?_⟩
    · show FPA (w_fi ws (n_v (vs ++ [n_v vs 6, Value.int y]) 3) 0) (w_fi ws (n_v (vs ++ [n_v vs 6, Value.int y]) 4) 1) (w_ei ws (w_ar ws (n_v (vs ++ [n_v vs 6, Value.int y]) 4) 4))
      simp only [e_3, e_4]
      exact vc_Pl_lay_29_4 (w_ei ws (w_ar ws (n_v vs 4) 4)) (w_fi ws (n_v vs 3) 0) (w_fi ws (n_v vs 4) 1) f7 kz_3_0 kz_4_1
  have nf5 : fc_1 PRD (20, [2, 3], [50, 1, 0, 1000, 2, 6, 0, 2, 0, -1, 1, 0, 0, 6, 4, 2, 1, 0, 0, 1, 2, 1, 0]) ws (vs ++ [n_v vs 6, Value.int y]) := by
    refine ⟨nf_inA hl rfl, sgq_1699 ?_⟩
    · show ((-1) ≤ v_iv (n_v (vs ++ [n_v vs 6, Value.int y]) 2)) ∧ ((v_iv (n_v (vs ++ [n_v vs 6, Value.int y]) 2) + 1) ≤ w_fi ws (n_v (vs ++ [n_v vs 6, Value.int y]) 3) 0)
      simp only [e_2, e_3]
      exact vc_Pl_lay_29_5 (v_iv (n_v vs 1)) (v_iv (n_v vs 2)) (w_fi ws (n_v vs 3) 0) k1 k2 kz_3_0
  have nf6 : fc_1 PRD (20, [13, 14], [62, 2000000]) ws (vs ++ [n_v vs 6, Value.int y]) := by
    refine ⟨nf_inA hl rfl, sgq_173 ?_⟩
    · show HY ws (n_v (vs ++ [n_v vs 6, Value.int y]) 13) (v_iv (n_v (vs ++ [n_v vs 6, Value.int y]) 14) + (((2000000 : Nat) : Int) - 2000000))
      simp only [e_13, e_14]
      exact hy_le f8 (by omega)
  have rf2 : tv_ok ta (0, 8, 23, []) (n_v vs 2) := tv_in t2 (by first | omega | grind) (by first | omega | grind)
  exact ⟨List.forall_mem_cons.mpr ⟨rf2, (fun _ h => (by cases h))⟩, [n_v vs 6, Value.int y], ag_two t6 hy, List.forall_mem_cons.mpr ⟨⟨show (24 : Nat) < 100 from by decide, nf0⟩, List.forall_mem_cons.mpr ⟨⟨show (23 : Nat) < 100 from by decide, nf1⟩, List.forall_mem_cons.mpr ⟨⟨show (23 : Nat) < 100 from by decide, nf2⟩, List.forall_mem_cons.mpr ⟨⟨show (20 : Nat) < 100 from by decide, nf3⟩, List.forall_mem_cons.mpr ⟨⟨show (20 : Nat) < 100 from by decide, nf4⟩, List.forall_mem_cons.mpr ⟨⟨show (20 : Nat) < 100 from by decide, nf5⟩, List.forall_mem_cons.mpr ⟨⟨show (20 : Nat) < 100 from by decide, nf6⟩, (fun _ h => (by cases h))⟩⟩⟩⟩⟩⟩⟩, (fun _ h => (by cases h))⟩
def o_Pl_lay_30 : or_T := (177, 16, [(1, (0, 4, 3, [])), (2, (0, 8, 23, [])), (3, (2, 0, 0, [3])), (4, (2, 0, 0, [2])), (5, (2, 0, 0, [0])), (6, (2, 0, 0, [12])), (7, (0, 0, 3072, [])), (8, (0, 3, 3, [])), (9, (0, 4, 4, [])), (10, (0, 8, 8, [])), (11, (0, 512, 512, [])), (12, (0, 6, 6, [])), (13, (2, 0, 0, [12])), (14, (0, 0, 3072, []))], [(24, [6, 13], []), (23, [14, 7], [0, 1, -1]), (23, [14, 7], [0, -1, 1]), (20, [3, 4], [60, 1, 2, 671, 0, 14, 1004]), (20, [3, 4], [60, 2, 1, 672, 0, 1001, 1004]), (20, [2, 3], [50, 1, 0, 1000, 2, 6, 0, 2, 0, -1, 1, 0, 0, 6, 4, 2, 1, 0, 0, 1, 2, 1, 0]), (20, [2, 1], [50, 0, 0, 2, 6, 0, 2, 0, -1, 1, 0, 2, 6, 0, 2, 1, 0, 0, 23, 1, 2, 1, 1, 0, 3]), (20, [3, 4], [60, 1, 2, 671, 0, 14, 1004]), (20, [3, 4], [60, 2, 1, 672, 0, 1001, 1004]), (20, [13, 14], [62, 2000000]), (20, [5], [60, 0, 1, 641, 4]), (102, [14], [65536]), (23, [14, 7], [0, 1, -1]), (23, [14, 7], [0, -1, 1]), (102, [14], [37757171198204098384423337984]), (23, [14, 7], [0, 1, -1]), (23, [14, 7], [0, -1, 1]), (7, [1, 12], [1]), (7, [2, 11], [5]), (7, [2, 10], [3]), (7, [1, 9], [0]), (7, [1, 8], [1])], [], [], [(20, [6, 7], [62, 2000000])], [], [])
theorem oo_Pl_lay_30 {kA : Nat → ClassId} : or_ok PRD kA GG o_Pl_lay_30 := by
  refine or_mk fun A ta ws vs hD hth hl => ?_
  intro t1 k1 t2 k2 t3 r3 t4 r4 t5 r5 t6 r6 t7 k7 t8 k8 t9 k9 t10 k10 t11 k11 t12 k12 t13 r13 t14 k14 f0 f1 f2 f3 f4 f5 f6 f7 f8 f9 f10 ta1 w1 le1 s1 f12 f13 ta2 w2 le2 s2 f15 f16 f17 f18 f19 f20 f21
  replace f0 := shm_5 f0
  replace f1 := shm_7 f1
  replace f2 := shm_22 f2
  replace f3 := shm_432 f3
  replace f4 := shm_1148 f4
  replace f5 := shm_1699 f5
  replace f6 := shm_2057 f6
  replace f7 := shm_432 f7
  replace f8 := shm_1148 f8
  replace f9 := shm_173 f9
  replace f10 := shm_780 f10
  replace f12 := shm_7 f12
  replace f13 := shm_22 f13
  replace f15 := shm_7 f15
  replace f16 := shm_22 f16
  replace f17 := shm_40 f17
  replace f18 := shm_24 f18
  replace f19 := shm_2 f19
  replace f20 := shm_37 f20
  replace f21 := shm_40 f21
  have q13 : n_v vs 13 = n_v vs 6 := f0.symm
  simp only [q13] at f9
  have cr_3_14 := fdq_79 hD hth r3
  have cr_4_4 := fdq_91 hD hth r4
  have cr_5_4 := fdq_1 hD hth r5
  have hK_3_14 := elq_24 hD hth cr_3_14
  have hK_4_4 := elq_28 hD hth cr_4_4
  have hK_5_4 := elq_0 hD hth cr_5_4
  have kz_3_0 := fdq_23 hD hth r3
  have kz_4_1 := fdq_270 hD hth r4
  have nf0 : fc_1 PRD (20, [6, 7], [62, 2000000]) ws (vs) := by
    refine ⟨nf_in hl rfl, sgq_173 ?_⟩
    · show HY ws (n_v vs 6) (v_iv (n_v vs 7) + (((2000000 : Nat) : Int) - 2000000))
      exact hy_le f9 (by omega)
  refine ⟨(fun _ h => (by cases h)), [], trivial, ?_, (fun _ h => (by cases h))⟩
  rw [List.append_nil]
  exact List.forall_mem_cons.mpr ⟨⟨show (20 : Nat) < 100 from by decide, nf0⟩, (fun _ h => (by cases h))⟩
set_option maxHeartbeats 4000000 in
theorem vc_Pl_lay_31_0 (x1 : Int) (x2 : Int) (k1 : 4 ≤ x1 ∧ x1 ≤ 4) (k2 : 8 ≤ x2 ∧ x2 ≤ 512) : (8 ≤ x2) ∧ ((x2 ≤ 512) ∧ (x1 = 4)) := by
  first
    | omega
  
def o_Pl_lay_31 : or_T := (142, 13, [(1, (0, 4, 4, [])), (2, (0, 8, 512, []))], [], [], [], [(20, [2, 1], [50, 0, 0, 2, 6, 0, 2, 0, 8, 1, 0, 2, 6, 0, 2, 1, 0, 0, 512, 1, 2, 1, 1, 0, 4])], [], [])
theorem oo_Pl_lay_31 {kA : Nat → ClassId} : or_ok PRD kA GG o_Pl_lay_31 := by
  refine or_mk fun A ta ws vs hD hth hl => ?_
  intro t1 k1 t2 k2
  have nf0 : fc_1 PRD (20, [2, 1], [50, 0, 0, 2, 6, 0, 2, 0, 8, 1, 0, 2, 6, 0, 2, 1, 0, 0, 512, 1, 2, 1, 1, 0, 4]) ws (vs) := ⟨nf_in hl rfl, sgq_2058 (vc_Pl_lay_31_0 (v_iv (n_v vs 1)) (v_iv (n_v vs 2)) k1 k2)⟩
  refine ⟨(fun _ h => (by cases h)), [], trivial, ?_, (fun _ h => (by cases h))⟩
  rw [List.append_nil]
  exact List.forall_mem_cons.mpr ⟨⟨show (20 : Nat) < 100 from by decide, nf0⟩, (fun _ h => (by cases h))⟩
set_option maxHeartbeats 4000000 in
theorem vc_Pl_lay_32_1 (x7 : Int) (gy : Int) (k7 : 0 ≤ x7 ∧ x7 ≤ 3072) (ey2 : gy = x7) : 1 * gy + ((-1) * x7 + 0) ≤ 0 := by
  first
    | omega
  
set_option maxHeartbeats 4000000 in
theorem vc_Pl_lay_32_2 (x7 : Int) (gy : Int) (k7 : 0 ≤ x7 ∧ x7 ≤ 3072) (ey2 : gy = x7) : (-1) * gy + (1 * x7 + 0) ≤ 0 := by
  first
    | omega
  
def o_Pl_lay_32 : or_T := (144, 13, [(1, (0, 4, 4, [])), (2, (0, 8, 512, [])), (3, (2, 0, 0, [3])), (4, (2, 0, 0, [2])), (6, (2, 0, 0, [12])), (7, (0, 0, 3072, [])), (8, (0, 3, 3, [])), (9, (0, 4, 4, [])), (10, (0, 8, 8, [])), (11, (0, 512, 512, [])), (12, (0, 6, 6, []))], [(20, [2, 1], [50, 0, 0, 2, 6, 0, 2, 0, 8, 1, 0, 2, 6, 0, 2, 1, 0, 0, 512, 1, 2, 1, 1, 0, 4]), (7, [1, 12], [1]), (7, [2, 11], [5]), (7, [2, 10], [3]), (7, [1, 9], [0]), (7, [1, 8], [1]), (20, [3, 4], [60, 1, 2, 671, 0, 14, 1004]), (20, [3, 4], [60, 2, 1, 672, 0, 1001, 1004]), (20, [6, 7], [62, 2000000])], [], [(2, 0, 0, [12]), (0, 0, 3072, [])], [(24, [6, 13], []), (23, [14, 7], [0, 1, -1]), (23, [14, 7], [0, -1, 1]), (20, [13, 14], [62, 2000000])], [], [])
theorem oo_Pl_lay_32 {kA : Nat → ClassId} : or_ok PRD kA GG o_Pl_lay_32 := by
  refine or_mk fun A ta ws vs hD hth hl => ?_
  intro t1 k1 t2 k2 t3 r3 t4 r4 t6 r6 t7 k7 t8 k8 t9 k9 t10 k10 t11 k11 t12 k12 f0 f1 f2 f3 f4 f5 f6 f7 f8
  replace f0 := shm_2058 f0
  replace f1 := shm_40 f1
  replace f2 := shm_24 f2
  replace f3 := shm_2 f3
  replace f4 := shm_37 f4
  replace f5 := shm_40 f5
  replace f6 := shm_432 f6
  replace f7 := shm_1148 f7
  replace f8 := shm_173 f8
  have cr_3_14 := fdq_79 hD hth r3
  have cr_4_4 := fdq_91 hD hth r4
  have hK_3_14 := elq_24 hD hth cr_3_14
  have hK_4_4 := elq_28 hD hth cr_4_4
  have kz_3_0 := fdq_23 hD hth r3
  have kz_4_1 := fdq_270 hD hth r4
  obtain ⟨y, ey, hy⟩ := iv_ex (ta := ta) (lo := 0) (hi := 3072) (z := v_iv (n_v vs 7)) (by omega) (by omega) (by omega) (by omega)
  have ey2 : v_iv (Value.int y) = v_iv (n_v vs 7) := ey
  have ey3 : 0 ≤ v_iv (Value.int y) ∧ v_iv (Value.int y) ≤ 3072 := tv_rng hy
  have e_6 : n_v (vs ++ [n_v vs 6, Value.int y]) 6 = n_v vs 6 := n_v_old (by rw [hl]; decide)
  have e_7 : n_v (vs ++ [n_v vs 6, Value.int y]) 7 = n_v vs 7 := n_v_old (by rw [hl]; decide)
  have e_13 : n_v (vs ++ [n_v vs 6, Value.int y]) 13 = n_v vs 6 := n_v_new0 hl
  have e_14 : n_v (vs ++ [n_v vs 6, Value.int y]) 14 = Value.int y := n_v_new1 hl
  have nf0 : fc_1 PRD (24, [6, 13], []) ws (vs ++ [n_v vs 6, Value.int y]) := by
    refine ⟨nf_inA hl rfl, sgq_5 ?_⟩
    · show n_v (vs ++ [n_v vs 6, Value.int y]) 6 = n_v (vs ++ [n_v vs 6, Value.int y]) 13
      first | rfl | simp only [e_6, e_13]
  have nf1 : fc_1 PRD (23, [14, 7], [0, 1, -1]) ws (vs ++ [n_v vs 6, Value.int y]) := by
    refine ⟨nf_inA hl rfl, sgq_7 ?_⟩
    · show 1 * v_iv (n_v (vs ++ [n_v vs 6, Value.int y]) 14) + ((-1) * v_iv (n_v (vs ++ [n_v vs 6, Value.int y]) 7) + 0) ≤ 0
      simp only [e_7, e_14]
      exact vc_Pl_lay_32_1 (v_iv (n_v vs 7)) (v_iv (Value.int y)) k7 ey2
  have nf2 : fc_1 PRD (23, [14, 7], [0, -1, 1]) ws (vs ++ [n_v vs 6, Value.int y]) := by
    refine ⟨nf_inA hl rfl, sgq_22 ?_⟩
    · show (-1) * v_iv (n_v (vs ++ [n_v vs 6, Value.int y]) 14) + (1 * v_iv (n_v (vs ++ [n_v vs 6, Value.int y]) 7) + 0) ≤ 0
      simp only [e_7, e_14]
      exact vc_Pl_lay_32_2 (v_iv (n_v vs 7)) (v_iv (Value.int y)) k7 ey2
  have nf3 : fc_1 PRD (20, [13, 14], [62, 2000000]) ws (vs ++ [n_v vs 6, Value.int y]) := by
    refine ⟨nf_inA hl rfl, sgq_173 ?_⟩
    · show HY ws (n_v (vs ++ [n_v vs 6, Value.int y]) 13) (v_iv (n_v (vs ++ [n_v vs 6, Value.int y]) 14) + (((2000000 : Nat) : Int) - 2000000))
      simp only [e_13, e_14]
      exact hy_le f8 (by omega)
  exact ⟨(fun _ h => (by cases h)), [n_v vs 6, Value.int y], ag_two t6 hy, List.forall_mem_cons.mpr ⟨⟨show (24 : Nat) < 100 from by decide, nf0⟩, List.forall_mem_cons.mpr ⟨⟨show (23 : Nat) < 100 from by decide, nf1⟩, List.forall_mem_cons.mpr ⟨⟨show (23 : Nat) < 100 from by decide, nf2⟩, List.forall_mem_cons.mpr ⟨⟨show (20 : Nat) < 100 from by decide, nf3⟩, (fun _ h => (by cases h))⟩⟩⟩⟩, (fun _ h => (by cases h))⟩
def o_Pl_lay_33 : or_T := (177, 16, [(1, (0, 4, 4, [])), (2, (0, 8, 512, [])), (3, (2, 0, 0, [3])), (4, (2, 0, 0, [2])), (5, (2, 0, 0, [0])), (6, (2, 0, 0, [12])), (7, (0, 0, 3072, [])), (8, (0, 3, 3, [])), (9, (0, 4, 4, [])), (10, (0, 8, 8, [])), (11, (0, 512, 512, [])), (12, (0, 6, 6, [])), (13, (2, 0, 0, [12])), (14, (0, 0, 3072, []))], [(24, [6, 13], []), (23, [14, 7], [0, 1, -1]), (23, [14, 7], [0, -1, 1]), (20, [2, 1], [50, 0, 0, 2, 6, 0, 2, 0, 8, 1, 0, 2, 6, 0, 2, 1, 0, 0, 512, 1, 2, 1, 1, 0, 4]), (20, [3, 4], [60, 1, 2, 671, 0, 14, 1004]), (20, [3, 4], [60, 2, 1, 672, 0, 1001, 1004]), (20, [13, 14], [62, 2000000]), (20, [5], [60, 0, 1, 641, 4]), (102, [14], [65536]), (23, [14, 7], [0, 1, -1]), (23, [14, 7], [0, -1, 1]), (102, [14], [277298568799925181577408069632, 6011, 6013, 6014]), (23, [14, 7], [0, 1, -1]), (23, [14, 7], [0, -1, 1]), (7, [1, 12], [1]), (7, [2, 11], [5]), (7, [2, 10], [3]), (7, [1, 9], [0]), (7, [1, 8], [1])], [], [], [(20, [6, 7], [62, 2000000])], [], [])
theorem oo_Pl_lay_33 {kA : Nat → ClassId} : or_ok PRD kA GG o_Pl_lay_33 := by
  refine or_mk fun A ta ws vs hD hth hl => ?_
  intro t1 k1 t2 k2 t3 r3 t4 r4 t5 r5 t6 r6 t7 k7 t8 k8 t9 k9 t10 k10 t11 k11 t12 k12 t13 r13 t14 k14 f0 f1 f2 f3 f4 f5 f6 f7 ta1 w1 le1 s1 f9 f10 ta2 w2 le2 s2 f12 f13 f14 f15 f16 f17 f18
  replace f0 := shm_5 f0
  replace f1 := shm_7 f1
  replace f2 := shm_22 f2
  replace f3 := shm_2058 f3
  replace f4 := shm_432 f4
  replace f5 := shm_1148 f5
  replace f6 := shm_173 f6
  replace f7 := shm_780 f7
  replace f9 := shm_7 f9
  replace f10 := shm_22 f10
  replace f12 := shm_7 f12
  replace f13 := shm_22 f13
  replace f14 := shm_40 f14
  replace f15 := shm_24 f15
  replace f16 := shm_2 f16
  replace f17 := shm_37 f17
  replace f18 := shm_40 f18
  have q13 : n_v vs 13 = n_v vs 6 := f0.symm
  simp only [q13] at f6
  have cr_3_14 := fdq_79 hD hth r3
  have cr_4_4 := fdq_91 hD hth r4
  have cr_5_4 := fdq_1 hD hth r5
  have hK_3_14 := elq_24 hD hth cr_3_14
  have hK_4_4 := elq_28 hD hth cr_4_4
  have hK_5_4 := elq_0 hD hth cr_5_4
  have kz_3_0 := fdq_23 hD hth r3
  have kz_4_1 := fdq_270 hD hth r4
  have nf0 : fc_1 PRD (20, [6, 7], [62, 2000000]) ws (vs) := by
    refine ⟨nf_in hl rfl, sgq_173 ?_⟩
    · show HY ws (n_v vs 6) (v_iv (n_v vs 7) + (((2000000 : Nat) : Int) - 2000000))
      exact hy_le f6 (by omega)
  refine ⟨(fun _ h => (by cases h)), [], trivial, ?_, (fun _ h => (by cases h))⟩
  rw [List.append_nil]
  exact List.forall_mem_cons.mpr ⟨⟨show (20 : Nat) < 100 from by decide, nf0⟩, (fun _ h => (by cases h))⟩
set_option maxHeartbeats 4000000 in
theorem vc_Pl_lay_34_1 (x7 : Int) (gy : Int) (k7 : 0 ≤ x7 ∧ x7 ≤ 3072) (ey2 : gy = x7) : 1 * gy + ((-1) * x7 + 0) ≤ 0 := by
  first
    | omega
  
set_option maxHeartbeats 4000000 in
theorem vc_Pl_lay_34_2 (x7 : Int) (gy : Int) (k7 : 0 ≤ x7 ∧ x7 ≤ 3072) (ey2 : gy = x7) : (-1) * gy + (1 * x7 + 0) ≤ 0 := by
  first
    | omega
  
def o_Pl_lay_34 : or_T := (151, 13, [(3, (2, 0, 0, [3])), (4, (2, 0, 0, [2])), (6, (2, 0, 0, [12])), (7, (0, 0, 3072, []))], [(20, [3, 4], [60, 1, 2, 671, 0, 14, 1004]), (20, [3, 4], [60, 2, 1, 672, 0, 1001, 1004]), (20, [6, 7], [62, 2000000])], [], [(2, 0, 0, [12]), (0, 0, 3072, [])], [(24, [6, 13], []), (23, [14, 7], [0, 1, -1]), (23, [14, 7], [0, -1, 1]), (20, [13, 14], [62, 2000000])], [], [])
theorem oo_Pl_lay_34 {kA : Nat → ClassId} : or_ok PRD kA GG o_Pl_lay_34 := by
  refine or_mk fun A ta ws vs hD hth hl => ?_
  intro t3 r3 t4 r4 t6 r6 t7 k7 f0 f1 f2
  replace f0 := shm_432 f0
  replace f1 := shm_1148 f1
  replace f2 := shm_173 f2
  have cr_3_14 := fdq_79 hD hth r3
  have cr_4_4 := fdq_91 hD hth r4
  have hK_3_14 := elq_24 hD hth cr_3_14
  have hK_4_4 := elq_28 hD hth cr_4_4
  have kz_3_0 := fdq_23 hD hth r3
  have kz_4_1 := fdq_270 hD hth r4
  obtain ⟨y, ey, hy⟩ := iv_ex (ta := ta) (lo := 0) (hi := 3072) (z := v_iv (n_v vs 7)) (by omega) (by omega) (by omega) (by omega)
  have ey2 : v_iv (Value.int y) = v_iv (n_v vs 7) := ey
  have ey3 : 0 ≤ v_iv (Value.int y) ∧ v_iv (Value.int y) ≤ 3072 := tv_rng hy
  have e_6 : n_v (vs ++ [n_v vs 6, Value.int y]) 6 = n_v vs 6 := n_v_old (by rw [hl]; decide)
  have e_7 : n_v (vs ++ [n_v vs 6, Value.int y]) 7 = n_v vs 7 := n_v_old (by rw [hl]; decide)
  have e_13 : n_v (vs ++ [n_v vs 6, Value.int y]) 13 = n_v vs 6 := n_v_new0 hl
  have e_14 : n_v (vs ++ [n_v vs 6, Value.int y]) 14 = Value.int y := n_v_new1 hl
  have nf0 : fc_1 PRD (24, [6, 13], []) ws (vs ++ [n_v vs 6, Value.int y]) := by
    refine ⟨nf_inA hl rfl, sgq_5 ?_⟩
    · show n_v (vs ++ [n_v vs 6, Value.int y]) 6 = n_v (vs ++ [n_v vs 6, Value.int y]) 13
      first | rfl | simp only [e_6, e_13]
  have nf1 : fc_1 PRD (23, [14, 7], [0, 1, -1]) ws (vs ++ [n_v vs 6, Value.int y]) := by
    refine ⟨nf_inA hl rfl, sgq_7 ?_⟩
    · show 1 * v_iv (n_v (vs ++ [n_v vs 6, Value.int y]) 14) + ((-1) * v_iv (n_v (vs ++ [n_v vs 6, Value.int y]) 7) + 0) ≤ 0
      simp only [e_7, e_14]
      exact vc_Pl_lay_34_1 (v_iv (n_v vs 7)) (v_iv (Value.int y)) k7 ey2
  have nf2 : fc_1 PRD (23, [14, 7], [0, -1, 1]) ws (vs ++ [n_v vs 6, Value.int y]) := by
    refine ⟨nf_inA hl rfl, sgq_22 ?_⟩
    · show (-1) * v_iv (n_v (vs ++ [n_v vs 6, Value.int y]) 14) + (1 * v_iv (n_v (vs ++ [n_v vs 6, Value.int y]) 7) + 0) ≤ 0
      simp only [e_7, e_14]
      exact vc_Pl_lay_34_2 (v_iv (n_v vs 7)) (v_iv (Value.int y)) k7 ey2
  have nf3 : fc_1 PRD (20, [13, 14], [62, 2000000]) ws (vs ++ [n_v vs 6, Value.int y]) := by
    refine ⟨nf_inA hl rfl, sgq_173 ?_⟩
    · show HY ws (n_v (vs ++ [n_v vs 6, Value.int y]) 13) (v_iv (n_v (vs ++ [n_v vs 6, Value.int y]) 14) + (((2000000 : Nat) : Int) - 2000000))
      simp only [e_13, e_14]
      exact hy_le f2 (by omega)
  exact ⟨(fun _ h => (by cases h)), [n_v vs 6, Value.int y], ag_two t6 hy, List.forall_mem_cons.mpr ⟨⟨show (24 : Nat) < 100 from by decide, nf0⟩, List.forall_mem_cons.mpr ⟨⟨show (23 : Nat) < 100 from by decide, nf1⟩, List.forall_mem_cons.mpr ⟨⟨show (23 : Nat) < 100 from by decide, nf2⟩, List.forall_mem_cons.mpr ⟨⟨show (20 : Nat) < 100 from by decide, nf3⟩, (fun _ h => (by cases h))⟩⟩⟩⟩, (fun _ h => (by cases h))⟩
def o_Pl_lay_35 : or_T := (177, 16, [(3, (2, 0, 0, [3])), (4, (2, 0, 0, [2])), (5, (2, 0, 0, [0])), (6, (2, 0, 0, [12])), (7, (0, 0, 3072, [])), (13, (2, 0, 0, [12])), (14, (0, 0, 3072, []))], [(24, [6, 13], []), (23, [14, 7], [0, 1, -1]), (23, [14, 7], [0, -1, 1]), (20, [3, 4], [60, 1, 2, 671, 0, 14, 1004]), (20, [3, 4], [60, 2, 1, 672, 0, 1001, 1004]), (20, [13, 14], [62, 2000000]), (20, [5], [60, 0, 1, 641, 4]), (102, [14], [65536]), (23, [14, 7], [0, 1, -1]), (23, [14, 7], [0, -1, 1]), (102, [14], [1856910058928070412348735488, 7, 6008]), (23, [14, 7], [0, 1, -1]), (23, [14, 7], [0, -1, 1])], [], [], [(20, [6, 7], [62, 2000000])], [], [])
theorem oo_Pl_lay_35 {kA : Nat → ClassId} : or_ok PRD kA GG o_Pl_lay_35 := by
  refine or_mk fun A ta ws vs hD hth hl => ?_
  intro t3 r3 t4 r4 t5 r5 t6 r6 t7 k7 t13 r13 t14 k14 f0 f1 f2 f3 f4 f5 f6 ta1 w1 le1 s1 f8 f9 ta2 w2 le2 s2 f11 f12
  replace f0 := shm_5 f0
  replace f1 := shm_7 f1
  replace f2 := shm_22 f2
  replace f3 := shm_432 f3
  replace f4 := shm_1148 f4
  replace f5 := shm_173 f5
  replace f6 := shm_780 f6
  replace f8 := shm_7 f8
  replace f9 := shm_22 f9
  replace f11 := shm_7 f11
  replace f12 := shm_22 f12
  have q13 : n_v vs 13 = n_v vs 6 := f0.symm
  simp only [q13] at f5
  have cr_3_14 := fdq_79 hD hth r3
  have cr_4_4 := fdq_91 hD hth r4
  have cr_5_4 := fdq_1 hD hth r5
  have hK_3_14 := elq_24 hD hth cr_3_14
  have hK_4_4 := elq_28 hD hth cr_4_4
  have hK_5_4 := elq_0 hD hth cr_5_4
  have kz_3_0 := fdq_23 hD hth r3
  have kz_4_1 := fdq_270 hD hth r4
  have nf0 : fc_1 PRD (20, [6, 7], [62, 2000000]) ws (vs) := by
    refine ⟨nf_in hl rfl, sgq_173 ?_⟩
    · show HY ws (n_v vs 6) (v_iv (n_v vs 7) + (((2000000 : Nat) : Int) - 2000000))
      exact hy_le f5 (by omega)
  refine ⟨(fun _ h => (by cases h)), [], trivial, ?_, (fun _ h => (by cases h))⟩
  rw [List.append_nil]
  exact List.forall_mem_cons.mpr ⟨⟨show (20 : Nat) < 100 from by decide, nf0⟩, (fun _ h => (by cases h))⟩
set_option maxHeartbeats 4000000 in
theorem vc_Pl_lay_36_0 (x1 : Int) (x2 : Int) (k1 : 6 ≤ x1 ∧ x1 ≤ 4) (k2 : 8 ≤ x2 ∧ x2 ≤ 512) : (0 ≤ x2) ∧ ((x2 ≤ 200) ∧ (x1 = 6)) := by
  first
    | omega
  
def o_Pl_lay_36 : or_T := (157, 13, [(1, (0, 6, 4, [])), (2, (0, 8, 512, []))], [], [], [], [(20, [2, 1], [50, 0, 0, 2, 6, 0, 2, 0, 0, 1, 0, 2, 6, 0, 2, 1, 0, 0, 200, 1, 2, 1, 1, 0, 6])], [], [])
theorem oo_Pl_lay_36 {kA : Nat → ClassId} : or_ok PRD kA GG o_Pl_lay_36 := by
  refine or_mk fun A ta ws vs hD hth hl => ?_
  intro t1 k1 t2 k2
  have nf0 : fc_1 PRD (20, [2, 1], [50, 0, 0, 2, 6, 0, 2, 0, 0, 1, 0, 2, 6, 0, 2, 1, 0, 0, 200, 1, 2, 1, 1, 0, 6]) ws (vs) := ⟨nf_in hl rfl, sgq_2059 (vc_Pl_lay_36_0 (v_iv (n_v vs 1)) (v_iv (n_v vs 2)) k1 k2)⟩
  refine ⟨(fun _ h => (by cases h)), [], trivial, ?_, (fun _ h => (by cases h))⟩
  rw [List.append_nil]
  exact List.forall_mem_cons.mpr ⟨⟨show (20 : Nat) < 100 from by decide, nf0⟩, (fun _ h => (by cases h))⟩
set_option maxHeartbeats 4000000 in
theorem vc_Pl_lay_37_r0 (x1 : Int) (x2 : Int) (k1 : 6 ≤ x1 ∧ x1 ≤ 4) (k2 : 8 ≤ x2 ∧ x2 ≤ 512) : 8 ≤ x2 ∧ x2 ≤ 200 := by
  first
    | omega
  
set_option maxHeartbeats 4000000 in
theorem vc_Pl_lay_37_1 (x1 : Int) (x7 : Int) (gy : Int) (k1 : 6 ≤ x1 ∧ x1 ≤ 4) (k7 : 0 ≤ x7 ∧ x7 ≤ 3072) : 1 * gy + ((-1) * x7 + 0) ≤ 0 := by
  first
    | omega
  
set_option maxHeartbeats 4000000 in
theorem vc_Pl_lay_37_2 (x1 : Int) (x7 : Int) (gy : Int) (k1 : 6 ≤ x1 ∧ x1 ≤ 4) (k7 : 0 ≤ x7 ∧ x7 ≤ 3072) : (-1) * gy + (1 * x7 + 0) ≤ 0 := by
  first
    | omega
  
def o_Pl_lay_37 : or_T := (159, 13, [(1, (0, 6, 4, [])), (2, (0, 8, 512, [])), (3, (2, 0, 0, [3])), (4, (2, 0, 0, [2])), (6, (2, 0, 0, [12])), (7, (0, 0, 3072, [])), (8, (0, 3, 3, [])), (9, (0, 4, 4, [])), (10, (0, 8, 8, [])), (11, (0, 512, 512, [])), (12, (0, 6, 6, []))], [(20, [2, 1], [50, 0, 0, 2, 6, 0, 2, 0, 0, 1, 0, 2, 6, 0, 2, 1, 0, 0, 200, 1, 2, 1, 1, 0, 6]), (7, [1, 12], [1]), (7, [2, 11], [5]), (7, [2, 10], [3]), (7, [1, 9], [0]), (7, [1, 8], [1]), (20, [3, 4], [60, 1, 2, 671, 0, 14, 1004]), (20, [3, 4], [60, 2, 1, 672, 0, 1001, 1004]), (20, [6, 7], [62, 2000000])], [(2, (0, 8, 200, []))], [(2, 0, 0, [12]), (0, 0, 3072, [])], [(24, [6, 13], []), (23, [14, 7], [0, 1, -1]), (23, [14, 7], [0, -1, 1]), (20, [13, 14], [62, 2000000])], [], [])
theorem oo_Pl_lay_37 {kA : Nat → ClassId} : or_ok PRD kA GG o_Pl_lay_37 := by
  refine or_mk fun A ta ws vs hD hth hl => ?_
  intro t1 k1 t2 k2 t3 r3 t4 r4 t6 r6 t7 k7 t8 k8 t9 k9 t10 k10 t11 k11 t12 k12 f0 f1 f2 f3 f4 f5 f6 f7 f8
  replace f0 := shm_2059 f0
  replace f1 := shm_40 f1
  replace f2 := shm_24 f2
  replace f3 := shm_2 f3
  replace f4 := shm_37 f4
  replace f5 := shm_40 f5
  replace f6 := shm_432 f6
  replace f7 := shm_1148 f7
  replace f8 := shm_173 f8
  have cr_3_14 := fdq_79 hD hth r3
  have cr_4_4 := fdq_91 hD hth r4
  have hK_3_14 := elq_24 hD hth cr_3_14
  have hK_4_4 := elq_28 hD hth cr_4_4
  have kz_3_0 := fdq_23 hD hth r3
  have kz_4_1 := fdq_270 hD hth r4
  obtain ⟨y, ey, hy⟩ := iv_ex (ta := ta) (lo := 0) (hi := 3072) (z := v_iv (n_v vs 7)) (by omega) (by omega) (by omega) (by omega)
  have ey2 : v_iv (Value.int y) = v_iv (n_v vs 7) := ey
  have ey3 : 0 ≤ v_iv (Value.int y) ∧ v_iv (Value.int y) ≤ 3072 := tv_rng hy
  have hrf0 : 8 ≤ v_iv (n_v vs 2) ∧ v_iv (n_v vs 2) ≤ 200 := vc_Pl_lay_37_r0 (v_iv (n_v vs 1)) (v_iv (n_v vs 2)) k1 k2
  have e_6 : n_v (vs ++ [n_v vs 6, Value.int y]) 6 = n_v vs 6 := n_v_old (by rw [hl]; decide)
  have e_7 : n_v (vs ++ [n_v vs 6, Value.int y]) 7 = n_v vs 7 := n_v_old (by rw [hl]; decide)
  have e_13 : n_v (vs ++ [n_v vs 6, Value.int y]) 13 = n_v vs 6 := n_v_new0 hl
  have e_14 : n_v (vs ++ [n_v vs 6, Value.int y]) 14 = Value.int y := n_v_new1 hl
  have nf0 : fc_1 PRD (24, [6, 13], []) ws (vs ++ [n_v vs 6, Value.int y]) := by
    refine ⟨nf_inA hl rfl, sgq_5 ?_⟩
    · show n_v (vs ++ [n_v vs 6, Value.int y]) 6 = n_v (vs ++ [n_v vs 6, Value.int y]) 13
      first | rfl | simp only [e_6, e_13]
  have nf1 : fc_1 PRD (23, [14, 7], [0, 1, -1]) ws (vs ++ [n_v vs 6, Value.int y]) := by
    refine ⟨nf_inA hl rfl, sgq_7 ?_⟩
    · show 1 * v_iv (n_v (vs ++ [n_v vs 6, Value.int y]) 14) + ((-1) * v_iv (n_v (vs ++ [n_v vs 6, Value.int y]) 7) + 0) ≤ 0
      simp only [e_7, e_14]
      exact vc_Pl_lay_37_1 (v_iv (n_v vs 1)) (v_iv (n_v vs 7)) (v_iv (Value.int y)) k1 k7
  have nf2 : fc_1 PRD (23, [14, 7], [0, -1, 1]) ws (vs ++ [n_v vs 6, Value.int y]) := by
    refine ⟨nf_inA hl rfl, sgq_22 ?_⟩
    · show (-1) * v_iv (n_v (vs ++ [n_v vs 6, Value.int y]) 14) + (1 * v_iv (n_v (vs ++ [n_v vs 6, Value.int y]) 7) + 0) ≤ 0
      simp only [e_7, e_14]
      exact vc_Pl_lay_37_2 (v_iv (n_v vs 1)) (v_iv (n_v vs 7)) (v_iv (Value.int y)) k1 k7
  have nf3 : fc_1 PRD (20, [13, 14], [62, 2000000]) ws (vs ++ [n_v vs 6, Value.int y]) := by
    refine ⟨nf_inA hl rfl, sgq_173 ?_⟩
    · show HY ws (n_v (vs ++ [n_v vs 6, Value.int y]) 13) (v_iv (n_v (vs ++ [n_v vs 6, Value.int y]) 14) + (((2000000 : Nat) : Int) - 2000000))
      simp only [e_13, e_14]
      exact hy_le f8 (by omega)
  have rf2 : tv_ok ta (0, 8, 200, []) (n_v vs 2) := tv_in t2 (by first | omega | grind) (by first | omega | grind)
  exact ⟨List.forall_mem_cons.mpr ⟨rf2, (fun _ h => (by cases h))⟩, [n_v vs 6, Value.int y], ag_two t6 hy, List.forall_mem_cons.mpr ⟨⟨show (24 : Nat) < 100 from by decide, nf0⟩, List.forall_mem_cons.mpr ⟨⟨show (23 : Nat) < 100 from by decide, nf1⟩, List.forall_mem_cons.mpr ⟨⟨show (23 : Nat) < 100 from by decide, nf2⟩, List.forall_mem_cons.mpr ⟨⟨show (20 : Nat) < 100 from by decide, nf3⟩, (fun _ h => (by cases h))⟩⟩⟩⟩, (fun _ h => (by cases h))⟩
def o_Pl_lay_38 : or_T := (177, 16, [(1, (0, 6, 4, [])), (2, (0, 8, 200, [])), (3, (2, 0, 0, [3])), (4, (2, 0, 0, [2])), (5, (2, 0, 0, [0])), (6, (2, 0, 0, [12])), (7, (0, 0, 3072, [])), (8, (0, 3, 3, [])), (9, (0, 4, 4, [])), (10, (0, 8, 8, [])), (11, (0, 512, 512, [])), (12, (0, 6, 6, [])), (13, (2, 0, 0, [12])), (14, (0, 0, 3072, []))], [(24, [6, 13], []), (23, [14, 7], [0, 1, -1]), (23, [14, 7], [0, -1, 1]), (20, [2, 1], [50, 0, 0, 2, 6, 0, 2, 0, 0, 1, 0, 2, 6, 0, 2, 1, 0, 0, 200, 1, 2, 1, 1, 0, 6]), (20, [3, 4], [60, 1, 2, 671, 0, 14, 1004]), (20, [3, 4], [60, 2, 1, 672, 0, 1001, 1004]), (20, [13, 14], [62, 2000000]), (20, [5], [60, 0, 1, 641, 4]), (102, [14], [65536]), (23, [14, 7], [0, 1, -1]), (23, [14, 7], [0, -1, 1]), (102, [14], [4753689750855860255612637069312]), (23, [14, 7], [0, 1, -1]), (23, [14, 7], [0, -1, 1]), (7, [1, 12], [1]), (7, [2, 11], [5]), (7, [2, 10], [3]), (7, [1, 9], [0]), (7, [1, 8], [1])], [], [], [(20, [6, 7], [62, 2000000])], [], [])
theorem oo_Pl_lay_38 {kA : Nat → ClassId} : or_ok PRD kA GG o_Pl_lay_38 := by
  refine or_mk fun A ta ws vs hD hth hl => ?_
  intro t1 k1 t2 k2 t3 r3 t4 r4 t5 r5 t6 r6 t7 k7 t8 k8 t9 k9 t10 k10 t11 k11 t12 k12 t13 r13 t14 k14 f0 f1 f2 f3 f4 f5 f6 f7 ta1 w1 le1 s1 f9 f10 ta2 w2 le2 s2 f12 f13 f14 f15 f16 f17 f18
  replace f0 := shm_5 f0
  replace f1 := shm_7 f1
  replace f2 := shm_22 f2
  replace f3 := shm_2059 f3
  replace f4 := shm_432 f4
  replace f5 := shm_1148 f5
  replace f6 := shm_173 f6
  replace f7 := shm_780 f7
  replace f9 := shm_7 f9
  replace f10 := shm_22 f10
  replace f12 := shm_7 f12
  replace f13 := shm_22 f13
  replace f14 := shm_40 f14
  replace f15 := shm_24 f15
  replace f16 := shm_2 f16
  replace f17 := shm_37 f17
  replace f18 := shm_40 f18
  have q13 : n_v vs 13 = n_v vs 6 := f0.symm
  simp only [q13] at f6
  have cr_3_14 := fdq_79 hD hth r3
  have cr_4_4 := fdq_91 hD hth r4
  have cr_5_4 := fdq_1 hD hth r5
  have hK_3_14 := elq_24 hD hth cr_3_14
  have hK_4_4 := elq_28 hD hth cr_4_4
  have hK_5_4 := elq_0 hD hth cr_5_4
  have kz_3_0 := fdq_23 hD hth r3
  have kz_4_1 := fdq_270 hD hth r4
  have nf0 : fc_1 PRD (20, [6, 7], [62, 2000000]) ws (vs) := by
    refine ⟨nf_in hl rfl, sgq_173 ?_⟩
    · show HY ws (n_v vs 6) (v_iv (n_v vs 7) + (((2000000 : Nat) : Int) - 2000000))
      exact hy_le f6 (by omega)
  refine ⟨(fun _ h => (by cases h)), [], trivial, ?_, (fun _ h => (by cases h))⟩
  rw [List.append_nil]
  exact List.forall_mem_cons.mpr ⟨⟨show (20 : Nat) < 100 from by decide, nf0⟩, (fun _ h => (by cases h))⟩
set_option maxHeartbeats 4000000 in
theorem vc_Pl_lay_39_1 (x7 : Int) (gy : Int) (k7 : 0 ≤ x7 ∧ x7 ≤ 3072) (ey2 : gy = x7) : 1 * gy + ((-1) * x7 + 0) ≤ 0 := by
  first
    | omega
  
set_option maxHeartbeats 4000000 in
theorem vc_Pl_lay_39_2 (x7 : Int) (gy : Int) (k7 : 0 ≤ x7 ∧ x7 ≤ 3072) (ey2 : gy = x7) : (-1) * gy + (1 * x7 + 0) ≤ 0 := by
  first
    | omega
  
def o_Pl_lay_39 : or_T := (166, 16, [(2, (0, -1, 23, [])), (3, (2, 0, 0, [3])), (4, (2, 0, 0, [2])), (6, (2, 0, 0, [12])), (7, (0, 0, 3072, [])), (9, (0, -1, -1, [])), (10, (0, 0, 24, [])), (11, (0, 0, 24, [])), (12, (0, 0, 24, [])), (13, (0, 0, 24, []))], [(7, [11, 13], [0]), (2, [13, 10, 12], []), (9, [12, 4], [1]), (9, [10, 3], [0]), (9, [11, 3], [1]), (7, [2, 10], [2]), (7, [2, 9], [3]), (20, [3, 4], [60, 1, 2, 671, 0, 14, 1004]), (20, [3, 4], [60, 2, 1, 672, 0, 1001, 1004]), (20, [6, 7], [62, 2000000])], [], [(2, 0, 0, [12]), (0, 0, 3072, [])], [(24, [6, 16], []), (23, [17, 7], [0, 1, -1]), (23, [17, 7], [0, -1, 1]), (20, [16, 17], [62, 2000000])], [], [(11, 13, 0, 0), (13, 10, -24, 0), (2, 10, -4294967296, -1)])
theorem oo_Pl_lay_39 {kA : Nat → ClassId} : or_ok PRD kA GG o_Pl_lay_39 := by
  refine or_mk fun A ta ws vs hD hth hl => ?_
  intro t2 k2 t3 r3 t4 r4 t6 r6 t7 k7 t9 k9 t10 k10 t11 k11 t12 k12 t13 k13 d0 d1 d2 f0 f1 f2 f3 f4 f5 f6 f7 f8 f9
  replace f0 := shm_37 f0
  replace f1 := shm_14 f1
  replace f2 := shm_127 f2
  replace f3 := shm_175 f3
  replace f4 := shm_127 f4
  replace f5 := shm_6 f5
  replace f6 := shm_2 f6
  replace f7 := shm_432 f7
  replace f8 := shm_1148 f8
  replace f9 := shm_173 f9
  have cr_3_14 := fdq_79 hD hth r3
  have cr_4_4 := fdq_91 hD hth r4
  have g2 : v_iv (n_v vs 12) = w_fi ws (n_v vs 4) 1 := congrArg v_iv f2
  have g3 : v_iv (n_v vs 10) = w_fi ws (n_v vs 3) 0 := congrArg v_iv f3
  have g4 : v_iv (n_v vs 11) = w_fi ws (n_v vs 3) 1 := congrArg v_iv f4
  have hK_3_14 := elq_24 hD hth cr_3_14
  have hK_4_4 := elq_28 hD hth cr_4_4
  have kz_3_0 := fdq_23 hD hth r3
  have kz_3_1 := fdq_38 hD hth r3
  have kz_4_1 := fdq_270 hD hth r4
  obtain ⟨y, ey, hy⟩ := iv_ex (ta := ta) (lo := 0) (hi := 3072) (z := v_iv (n_v vs 7)) (by omega) (by omega) (by omega) (by omega)
  have ey2 : v_iv (Value.int y) = v_iv (n_v vs 7) := ey
  have ey3 : 0 ≤ v_iv (Value.int y) ∧ v_iv (Value.int y) ≤ 3072 := tv_rng hy
  have e_6 : n_v (vs ++ [n_v vs 6, Value.int y]) 6 = n_v vs 6 := n_v_old (by rw [hl]; decide)
  have e_7 : n_v (vs ++ [n_v vs 6, Value.int y]) 7 = n_v vs 7 := n_v_old (by rw [hl]; decide)
  have e_16 : n_v (vs ++ [n_v vs 6, Value.int y]) 16 = n_v vs 6 := n_v_new0 hl
  have e_17 : n_v (vs ++ [n_v vs 6, Value.int y]) 17 = Value.int y := n_v_new1 hl
  have nf0 : fc_1 PRD (24, [6, 16], []) ws (vs ++ [n_v vs 6, Value.int y]) := by
    refine ⟨nf_inA hl rfl, sgq_5 ?_⟩
    · show n_v (vs ++ [n_v vs 6, Value.int y]) 6 = n_v (vs ++ [n_v vs 6, Value.int y]) 16
      first | rfl | simp only [e_6, e_16]
  have nf1 : fc_1 PRD (23, [17, 7], [0, 1, -1]) ws (vs ++ [n_v vs 6, Value.int y]) := by
    refine ⟨nf_inA hl rfl, sgq_7 ?_⟩
    · show 1 * v_iv (n_v (vs ++ [n_v vs 6, Value.int y]) 17) + ((-1) * v_iv (n_v (vs ++ [n_v vs 6, Value.int y]) 7) + 0) ≤ 0
      simp only [e_7, e_17]
      exact vc_Pl_lay_39_1 (v_iv (n_v vs 7)) (v_iv (Value.int y)) k7 ey2
  have nf2 : fc_1 PRD (23, [17, 7], [0, -1, 1]) ws (vs ++ [n_v vs 6, Value.int y]) := by
    refine ⟨nf_inA hl rfl, sgq_22 ?_⟩
    · show (-1) * v_iv (n_v (vs ++ [n_v vs 6, Value.int y]) 17) + (1 * v_iv (n_v (vs ++ [n_v vs 6, Value.int y]) 7) + 0) ≤ 0
      simp only [e_7, e_17]
      exact vc_Pl_lay_39_2 (v_iv (n_v vs 7)) (v_iv (Value.int y)) k7 ey2
  have nf3 : fc_1 PRD (20, [16, 17], [62, 2000000]) ws (vs ++ [n_v vs 6, Value.int y]) := by
    refine ⟨nf_inA hl rfl, sgq_173 ?_⟩
    · show HY ws (n_v (vs ++ [n_v vs 6, Value.int y]) 16) (v_iv (n_v (vs ++ [n_v vs 6, Value.int y]) 17) + (((2000000 : Nat) : Int) - 2000000))
      simp only [e_16, e_17]
      exact hy_le f9 (by omega)
  exact ⟨(fun _ h => (by cases h)), [n_v vs 6, Value.int y], ag_two t6 hy, List.forall_mem_cons.mpr ⟨⟨show (24 : Nat) < 100 from by decide, nf0⟩, List.forall_mem_cons.mpr ⟨⟨show (23 : Nat) < 100 from by decide, nf1⟩, List.forall_mem_cons.mpr ⟨⟨show (23 : Nat) < 100 from by decide, nf2⟩, List.forall_mem_cons.mpr ⟨⟨show (20 : Nat) < 100 from by decide, nf3⟩, (fun _ h => (by cases h))⟩⟩⟩⟩, (fun _ h => (by cases h))⟩
def o_Pl_lay_40 : or_T := (177, 19, [(2, (0, -1, 23, [])), (3, (2, 0, 0, [3])), (4, (2, 0, 0, [2])), (5, (2, 0, 0, [0])), (6, (2, 0, 0, [12])), (7, (0, 0, 3072, [])), (9, (0, -1, -1, [])), (10, (0, 0, 24, [])), (11, (0, 0, 24, [])), (12, (0, 0, 24, [])), (13, (0, 0, 24, [])), (16, (2, 0, 0, [12])), (17, (0, 0, 3072, []))], [(9, [12, 4], [1]), (9, [11, 3], [1]), (9, [10, 3], [0]), (24, [6, 16], []), (23, [17, 7], [0, 1, -1]), (23, [17, 7], [0, -1, 1]), (20, [3, 4], [60, 1, 2, 671, 0, 14, 1004]), (20, [3, 4], [60, 2, 1, 672, 0, 1001, 1004]), (20, [16, 17], [62, 2000000]), (20, [5], [60, 0, 1, 641, 4]), (102, [17], [65536]), (23, [17, 7], [0, 1, -1]), (23, [17, 7], [0, -1, 1]), (102, [17], [618970019642690137449611264, 9]), (23, [17, 7], [0, 1, -1]), (23, [17, 7], [0, -1, 1]), (7, [11, 13], [0]), (2, [13, 10, 12], []), (7, [2, 10], [2]), (7, [2, 9], [3])], [], [], [(20, [6, 7], [62, 2000000])], [], [(11, 13, 0, 0), (13, 10, -24, 0), (2, 10, -4294967296, -1)])
theorem oo_Pl_lay_40 {kA : Nat → ClassId} : or_ok PRD kA GG o_Pl_lay_40 := by
  refine or_mk fun A ta ws vs hD hth hl => ?_
  intro t2 k2 t3 r3 t4 r4 t5 r5 t6 r6 t7 k7 t9 k9 t10 k10 t11 k11 t12 k12 t13 k13 t16 r16 t17 k17 d0 d1 d2 f0 f1 f2 f3 f4 f5 f6 f7 f8 f9 ta1 w1 le1 s1 f11 f12 ta2 w2 le2 s2 f14 f15 f16 f17 f18 f19
  replace f0 := shm_127 f0
  replace f1 := shm_127 f1
  replace f2 := shm_175 f2
  replace f3 := shm_5 f3
  replace f4 := shm_7 f4
  replace f5 := shm_22 f5
  replace f6 := shm_432 f6
  replace f7 := shm_1148 f7
  replace f8 := shm_173 f8
  replace f9 := shm_780 f9
  replace f11 := shm_7 f11
  replace f12 := shm_22 f12
  replace f14 := shm_7 f14
  replace f15 := shm_22 f15
  replace f16 := shm_37 f16
  replace f17 := shm_14 f17
  replace f18 := shm_6 f18
  replace f19 := shm_2 f19
  have q16 : n_v vs 16 = n_v vs 6 := f3.symm
  simp only [q16] at f8
  have cr_3_14 := fdq_79 hD hth r3
  have cr_4_4 := fdq_91 hD hth r4
  have cr_5_4 := fdq_1 hD hth r5
  have g0 : v_iv (n_v vs 12) = w_fi ws (n_v vs 4) 1 := congrArg v_iv f0
  have g1 : v_iv (n_v vs 11) = w_fi ws (n_v vs 3) 1 := congrArg v_iv f1
  have g2 : v_iv (n_v vs 10) = w_fi ws (n_v vs 3) 0 := congrArg v_iv f2
  have hK_3_14 := elq_24 hD hth cr_3_14
  have hK_4_4 := elq_28 hD hth cr_4_4
  have hK_5_4 := elq_0 hD hth cr_5_4
  have kz_3_0 := fdq_23 hD hth r3
  have kz_3_1 := fdq_38 hD hth r3
  have kz_4_1 := fdq_270 hD hth r4
  have nf0 : fc_1 PRD (20, [6, 7], [62, 2000000]) ws (vs) := by
    refine ⟨nf_in hl rfl, sgq_173 ?_⟩
    · show HY ws (n_v vs 6) (v_iv (n_v vs 7) + (((2000000 : Nat) : Int) - 2000000))
      exact hy_le f8 (by omega)
  refine ⟨(fun _ h => (by cases h)), [], trivial, ?_, (fun _ h => (by cases h))⟩
  rw [List.append_nil]
  exact List.forall_mem_cons.mpr ⟨⟨show (20 : Nat) < 100 from by decide, nf0⟩, (fun _ h => (by cases h))⟩
set_option maxHeartbeats 4000000 in
theorem vc_Pl_lay_41_0 (x1 : Int) (x2 : Int) (k1 : 3 ≤ x1 ∧ x1 ≤ 3) (k2 : (-1) ≤ x2 ∧ x2 ≤ 23) : ((-1) ≤ x2) ∧ ((x2 ≤ 23) ∧ (x1 = 3)) := by
  first
    | omega
  
def o_Pl_lay_41 : or_T := (132, 16, [(1, (0, 3, 3, [])), (2, (0, -1, 23, []))], [], [], [], [(20, [2, 1], [50, 0, 0, 2, 6, 0, 2, 0, -1, 1, 0, 2, 6, 0, 2, 1, 0, 0, 23, 1, 2, 1, 1, 0, 3])], [], [])
theorem oo_Pl_lay_41 {kA : Nat → ClassId} : or_ok PRD kA GG o_Pl_lay_41 := by
  refine or_mk fun A ta ws vs hD hth hl => ?_
  intro t1 k1 t2 k2
  have nf0 : fc_1 PRD (20, [2, 1], [50, 0, 0, 2, 6, 0, 2, 0, -1, 1, 0, 2, 6, 0, 2, 1, 0, 0, 23, 1, 2, 1, 1, 0, 3]) ws (vs) := ⟨nf_in hl rfl, sgq_2057 (vc_Pl_lay_41_0 (v_iv (n_v vs 1)) (v_iv (n_v vs 2)) k1 k2)⟩
  refine ⟨(fun _ h => (by cases h)), [], trivial, ?_, (fun _ h => (by cases h))⟩
  rw [List.append_nil]
  exact List.forall_mem_cons.mpr ⟨⟨show (20 : Nat) < 100 from by decide, nf0⟩, (fun _ h => (by cases h))⟩

set_option maxHeartbeats 4000000 in
theorem vc_Pl_lay_42_1 (x7 : Int) (gy : Int) (k7 : 0 ≤ x7 ∧ x7 ≤ 3072) (ey2 : gy = x7) : 1 * gy + ((-1) * x7 + 0) ≤ 0 := by
  first
    | omega
  
set_option maxHeartbeats 4000000 in
theorem vc_Pl_lay_42_2 (x7 : Int) (gy : Int) (k7 : 0 ≤ x7 ∧ x7 ≤ 3072) (ey2 : gy = x7) : (-1) * gy + (1 * x7 + 0) ≤ 0 := by
  first
    | omega
  
set_option maxHeartbeats 4000000 in
theorem vc_Pl_lay_42_3 (nodes_0o3 : Int) (near_0o3 : Int → Int) (part_0o4 : Int → Int) (f11 : PNC (nodes_0o3) (near_0o3) (part_0o4)) (kz_3_0 : 0 ≤ nodes_0o3 ∧ nodes_0o3 ≤ 24) : PNC (nodes_0o3) (near_0o3) (part_0o4) := by
  first | assumption
set_option maxHeartbeats 4000000 in
theorem vc_Pl_lay_42_4 (parts_0o4 : Int) (nodes_0o3 : Int) (part_0o4 : Int → Int) (f12 : FPA (nodes_0o3) (parts_0o4) (part_0o4)) (kz_3_0 : 0 ≤ nodes_0o3 ∧ nodes_0o3 ≤ 24) (kz_4_1 : 0 ≤ parts_0o4 ∧ parts_0o4 ≤ 24) : FPA (nodes_0o3) (parts_0o4) (part_0o4) := by
  first | assumption
set_option maxHeartbeats 4000000 in
theorem vc_Pl_lay_42_5 (x2 : Int) (x10 : Int) (x12 : Int) (x13 : Int) (parts_0o4 : Int) (nodes_0o3 : Int) (k2 : (-1) ≤ x2 ∧ x2 ≤ 23) (k10 : 0 ≤ x10 ∧ x10 ≤ 24) (k12 : 0 ≤ x12 ∧ x12 ≤ 24) (k13 : 0 ≤ x13 ∧ x13 ≤ 24) (d2 : x10 + (-4294967296) ≤ x2 ∧ x2 ≤ x10 + (-1)) (f4 : x13 = x10 - x12) (g5 : x12 = parts_0o4) (g6 : x10 = nodes_0o3) (kz_3_0 : 0 ≤ nodes_0o3 ∧ nodes_0o3 ≤ 24) (kz_4_1 : 0 ≤ parts_0o4 ∧ parts_0o4 ≤ 24) : ((-1) ≤ x2) ∧ ((x2 + 1) ≤ nodes_0o3) := by
  first
    | omega
  
def o_Pl_lay_42 : or_T := (136, 16, [(1, (0, 3, 3, [])), (2, (0, -1, 23, [])), (3, (2, 0, 0, [3])), (4, (2, 0, 0, [2])), (6, (2, 0, 0, [12])), (7, (0, 0, 3072, [])), (8, (0, 3, 3, [])), (9, (0, -1, -1, [])), (10, (0, 0, 24, [])), (11, (0, 0, 24, [])), (12, (0, 0, 24, [])), (13, (0, 0, 24, [])), (14, (0, 4, 4, [])), (15, (0, 6, 6, []))], [(20, [2, 1], [50, 0, 0, 2, 6, 0, 2, 0, -1, 1, 0, 2, 6, 0, 2, 1, 0, 0, 23, 1, 2, 1, 1, 0, 3]), (7, [1, 15], [1]), (7, [1, 14], [1]), (7, [11, 13], [0]), (2, [13, 10, 12], []), (9, [12, 4], [1]), (9, [10, 3], [0]), (9, [11, 3], [1]), (7, [2, 10], [2]), (7, [2, 9], [3]), (7, [1, 8], [0]), (20, [3, 4], [60, 1, 2, 671, 0, 14, 1004]), (20, [3, 4], [60, 2, 1, 672, 0, 1001, 1004]), (20, [6, 7], [62, 2000000])], [], [(2, 0, 0, [12]), (0, 0, 3072, [])], [(24, [6, 16], []), (23, [17, 7], [0, 1, -1]), (23, [17, 7], [0, -1, 1]), (20, [3, 4], [60, 1, 2, 671, 0, 14, 1004]), (20, [3, 4], [60, 2, 1, 672, 0, 1001, 1004]), (20, [2, 3], [50, 1, 0, 1000, 2, 6, 0, 2, 0, -1, 1, 0, 0, 6, 4, 2, 1, 0, 0, 1, 2, 1, 0]), (20, [16, 17], [62, 2000000])], [], [(11, 13, 0, 0), (13, 10, -24, 0), (2, 10, -4294967296, -1)])
theorem oo_Pl_lay_42 {kA : Nat → ClassId} : or_ok PRD kA GG o_Pl_lay_42 := by
  refine or_mk fun A ta ws vs hD hth hl => ?_
  intro t1 k1 t2 k2 t3 r3 t4 r4 t6 r6 t7 k7 t8 k8 t9 k9 t10 k10 t11 k11 t12 k12 t13 k13 t14 k14 t15 k15 d0 d1 d2 f0 f1 f2 f3 f4 f5 f6 f7 f8 f9 f10 f11 f12 f13
  replace f0 := shm_2057 f0
  replace f1 := shm_40 f1
  replace f2 := shm_40 f2
  replace f3 := shm_37 f3
  replace f4 := shm_14 f4
  replace f5 := shm_127 f5
  replace f6 := shm_175 f6
  replace f7 := shm_127 f7
  replace f8 := shm_6 f8
  replace f9 := shm_2 f9
  replace f10 := shm_37 f10
  replace f11 := shm_432 f11
  replace f12 := shm_1148 f12
  replace f13 := shm_173 f13
  have cr_3_14 := fdq_79 hD hth r3
  have cr_4_4 := fdq_91 hD hth r4
  have g5 : v_iv (n_v vs 12) = w_fi ws (n_v vs 4) 1 := congrArg v_iv f5
  have g6 : v_iv (n_v vs 10) = w_fi ws (n_v vs 3) 0 := congrArg v_iv f6
  have g7 : v_iv (n_v vs 11) = w_fi ws (n_v vs 3) 1 := congrArg v_iv f7
  have hK_3_14 := elq_24 hD hth cr_3_14
  have hK_4_4 := elq_28 hD hth cr_4_4
  have kz_3_0 := fdq_23 hD hth r3
  have kz_3_1 := fdq_38 hD hth r3
  have kz_4_1 := fdq_270 hD hth r4
  obtain ⟨y, ey, hy⟩ := iv_ex (ta := ta) (lo := 0) (hi := 3072) (z := v_iv (n_v vs 7)) (by omega) (by omega) (by omega) (by omega)
  have ey2 : v_iv (Value.int y) = v_iv (n_v vs 7) := ey
  have ey3 : 0 ≤ v_iv (Value.int y) ∧ v_iv (Value.int y) ≤ 3072 := tv_rng hy
  have e_2 : n_v (vs ++ [n_v vs 6, Value.int y]) 2 = n_v vs 2 := n_v_old (by rw [hl]; decide)
  have e_3 : n_v (vs ++ [n_v vs 6, Value.int y]) 3 = n_v vs 3 := n_v_old (by rw [hl]; decide)
  have e_4 : n_v (vs ++ [n_v vs 6, Value.int y]) 4 = n_v vs 4 := n_v_old (by rw [hl]; decide)
  have e_6 : n_v (vs ++ [n_v vs 6, Value.int y]) 6 = n_v vs 6 := n_v_old (by rw [hl]; decide)
  have e_7 : n_v (vs ++ [n_v vs 6, Value.int y]) 7 = n_v vs 7 := n_v_old (by rw [hl]; decide)
  have e_16 : n_v (vs ++ [n_v vs 6, Value.int y]) 16 = n_v vs 6 := n_v_new0 hl
  have e_17 : n_v (vs ++ [n_v vs 6, Value.int y]) 17 = Value.int y := n_v_new1 hl
  have nf0 : fc_1 PRD (24, [6, 16], []) ws (vs ++ [n_v vs 6, Value.int y]) := by
    refine ⟨nf_inA hl rfl, sgq_5 ?_⟩
    · show n_v (vs ++ [n_v vs 6, Value.int y]) 6 = n_v (vs ++ [n_v vs 6, Value.int y]) 16
      first | rfl | simp only [e_6, e_16]
  have nf1 : fc_1 PRD (23, [17, 7], [0, 1, -1]) ws (vs ++ [n_v vs 6, Value.int y]) := by
    refine ⟨nf_inA hl rfl, sgq_7 ?_⟩
    · show 1 * v_iv (n_v (vs ++ [n_v vs 6, Value.int y]) 17) + ((-1) * v_iv (n_v (vs ++ [n_v vs 6, Value.int y]) 7) + 0) ≤ 0
      simp only [e_7, e_17]
      exact vc_Pl_lay_42_1 (v_iv (n_v vs 7)) (v_iv (Value.int y)) k7 ey2
  have nf2 : fc_1 PRD (23, [17, 7], [0, -1, 1]) ws (vs ++ [n_v vs 6, Value.int y]) := by
    refine ⟨nf_inA hl rfl, sgq_22 ?_⟩
    · show (-1) * v_iv (n_v (vs ++ [n_v vs 6, Value.int y]) 17) + (1 * v_iv (n_v (vs ++ [n_v vs 6, Value.int y]) 7) + 0) ≤ 0
      simp only [e_7, e_17]
      exact vc_Pl_lay_42_2 (v_iv (n_v vs 7)) (v_iv (Value.int y)) k7 ey2
  have nf3 : fc_1 PRD (20, [3, 4], [60, 1, 2, 671, 0, 14, 1004]) ws (vs ++ [n_v vs 6, Value.int y]) := by
    refine ⟨nf_inA hl rfl, sgq_432 ?_⟩
    · show PNC (w_fi ws (n_v (vs ++ [n_v vs 6, Value.int y]) 3) 0) (w_ei ws (w_ar ws (n_v (vs ++ [n_v vs 6, Value.int y]) 3) 14)) (w_ei ws (w_ar ws (n_v (vs ++ [n_v vs 6, Value.int y]) 4) 4))
      simp only [e_3, e_4]
      exact vc_Pl_lay_42_3 (w_fi ws (n_v vs 3) 0) (w_ei ws (w_ar ws (n_v vs 3) 14)) (w_ei ws (w_ar ws (n_v vs 4) 4)) f11 kz_3_0
  have nf4 : fc_1 PRD (20, [3, 4], [60, 2, 1, 672, 0, 1001, 1004]) ws (vs ++ [n_v vs 6, Value.int y]) := by
    refine ⟨nf_inA hl rfl, sgq_1148 ?_⟩
    · show FPA (w_fi ws (n_v (vs ++ [n_v vs 6, Value.int y]) 3) 0) (w_fi ws (n_v (vs ++ [n_v vs 6, Value.int y]) 4) 1) (w_ei ws (w_ar ws (n_v (vs ++ [n_v vs 6, Value.int y]) 4) 4))
      simp only [e_3, e_4]
      exact vc_Pl_lay_42_4 (w_fi ws (n_v vs 4) 1) (w_fi ws (n_v vs 3) 0) (w_ei ws (w_ar ws (n_v vs 4) 4)) f12 kz_3_0 kz_4_1
  have nf5 : fc_1 PRD (20, [2, 3], [50, 1, 0, 1000, 2, 6, 0, 2, 0, -1, 1, 0, 0, 6, 4, 2, 1, 0, 0, 1, 2, 1, 0]) ws (vs ++ [n_v vs 6, Value.int y]) := by
    refine ⟨nf_inA hl rfl, sgq_1699 ?_⟩
    · show ((-1) ≤ v_iv (n_v (vs ++ [n_v vs 6, Value.int y]) 2)) ∧ ((v_iv (n_v (vs ++ [n_v vs 6, Value.int y]) 2) + 1) ≤ w_fi ws (n_v (vs ++ [n_v vs 6, Value.int y]) 3) 0)
      simp only [e_2, e_3]
      exact vc_Pl_lay_42_5 (v_iv (n_v vs 2)) (v_iv (n_v vs 10)) (v_iv (n_v vs 12)) (v_iv (n_v vs 13)) (w_fi ws (n_v vs 4) 1) (w_fi ws (n_v vs 3) 0) k2 k10 k12 k13 d2 f4 g5 g6 kz_3_0 kz_4_1
  have nf6 : fc_1 PRD (20, [16, 17], [62, 2000000]) ws (vs ++ [n_v vs 6, Value.int y]) := by
    refine ⟨nf_inA hl rfl, sgq_173 ?_⟩
    · show HY ws (n_v (vs ++ [n_v vs 6, Value.int y]) 16) (v_iv (n_v (vs ++ [n_v vs 6, Value.int y]) 17) + (((2000000 : Nat) : Int) - 2000000))
      simp only [e_16, e_17]
      exact hy_le f13 (by omega)
  exact ⟨(fun _ h => (by cases h)), [n_v vs 6, Value.int y], ag_two t6 hy, List.forall_mem_cons.mpr ⟨⟨show (24 : Nat) < 100 from by decide, nf0⟩, List.forall_mem_cons.mpr ⟨⟨show (23 : Nat) < 100 from by decide, nf1⟩, List.forall_mem_cons.mpr ⟨⟨show (23 : Nat) < 100 from by decide, nf2⟩, List.forall_mem_cons.mpr ⟨⟨show (20 : Nat) < 100 from by decide, nf3⟩, List.forall_mem_cons.mpr ⟨⟨show (20 : Nat) < 100 from by decide, nf4⟩, List.forall_mem_cons.mpr ⟨⟨show (20 : Nat) < 100 from by decide, nf5⟩, List.forall_mem_cons.mpr ⟨⟨show (20 : Nat) < 100 from by decide, nf6⟩, (fun _ h => (by cases h))⟩⟩⟩⟩⟩⟩⟩, (fun _ h => (by cases h))⟩
def o_Pl_lay_43 : or_T := (177, 19, [(1, (0, 3, 3, [])), (2, (0, -1, 23, [])), (3, (2, 0, 0, [3])), (4, (2, 0, 0, [2])), (5, (2, 0, 0, [0])), (6, (2, 0, 0, [12])), (7, (0, 0, 3072, [])), (8, (0, 3, 3, [])), (9, (0, -1, -1, [])), (10, (0, 0, 24, [])), (11, (0, 0, 24, [])), (12, (0, 0, 24, [])), (13, (0, 0, 24, [])), (14, (0, 4, 4, [])), (15, (0, 6, 6, [])), (16, (2, 0, 0, [12])), (17, (0, 0, 3072, []))], [(9, [12, 4], [1]), (9, [11, 3], [1]), (9, [10, 3], [0]), (24, [6, 16], []), (23, [17, 7], [0, 1, -1]), (23, [17, 7], [0, -1, 1]), (20, [3, 4], [60, 1, 2, 671, 0, 14, 1004]), (20, [3, 4], [60, 2, 1, 672, 0, 1001, 1004]), (20, [2, 3], [50, 1, 0, 1000, 2, 6, 0, 2, 0, -1, 1, 0, 0, 6, 4, 2, 1, 0, 0, 1, 2, 1, 0]), (20, [2, 1], [50, 0, 0, 2, 6, 0, 2, 0, -1, 1, 0, 2, 6, 0, 2, 1, 0, 0, 23, 1, 2, 1, 1, 0, 3]), (20, [3, 4], [60, 1, 2, 671, 0, 14, 1004]), (20, [3, 4], [60, 2, 1, 672, 0, 1001, 1004]), (20, [16, 17], [62, 2000000]), (20, [5], [60, 0, 1, 641, 4]), (102, [17], [65536]), (23, [17, 7], [0, 1, -1]), (23, [17, 7], [0, -1, 1]), (102, [17], [37757171198204098384423337984]), (23, [17, 7], [0, 1, -1]), (23, [17, 7], [0, -1, 1]), (7, [1, 15], [1]), (7, [1, 14], [1]), (7, [11, 13], [0]), (2, [13, 10, 12], []), (7, [2, 10], [2]), (7, [2, 9], [3]), (7, [1, 8], [0])], [], [], [(20, [6, 7], [62, 2000000])], [], [(11, 13, 0, 0), (13, 10, -24, 0), (2, 10, -4294967296, -1)])
theorem oo_Pl_lay_43 {kA : Nat → ClassId} : or_ok PRD kA GG o_Pl_lay_43 := by
  refine or_mk fun A ta ws vs hD hth hl => ?_
  intro t1 k1 t2 k2 t3 r3 t4 r4 t5 r5 t6 r6 t7 k7 t8 k8 t9 k9 t10 k10 t11 k11 t12 k12 t13 k13 t14 k14 t15 k15 t16 r16 t17 k17 d0 d1 d2 f0 f1 f2 f3 f4 f5 f6 f7 f8 f9 f10 f11 f12 f13 ta1 w1 le1 s1 f15 f16 ta2 w2 le2 s2 f18 f19 f20 f21 f22 f23 f24 f25 f26
  replace f0 := shm_127 f0
  replace f1 := shm_127 f1
  replace f2 := shm_175 f2
  replace f3 := shm_5 f3
  replace f4 := shm_7 f4
  replace f5 := shm_22 f5
  replace f6 := shm_432 f6
  replace f7 := shm_1148 f7
  replace f8 := shm_1699 f8
  replace f9 := shm_2057 f9
  replace f10 := shm_432 f10
  replace f11 := shm_1148 f11
  replace f12 := shm_173 f12
  replace f13 := shm_780 f13
  replace f15 := shm_7 f15
  replace f16 := shm_22 f16
  replace f18 := shm_7 f18
  replace f19 := shm_22 f19
  replace f20 := shm_40 f20
  replace f21 := shm_40 f21
  replace f22 := shm_37 f22
  replace f23 := shm_14 f23
  replace f24 := shm_6 f24
  replace f25 := shm_2 f25
  replace f26 := shm_37 f26
  have q16 : n_v vs 16 = n_v vs 6 := f3.symm
  simp only [q16] at f12
  have cr_3_14 := fdq_79 hD hth r3
  have cr_4_4 := fdq_91 hD hth r4
  have cr_5_4 := fdq_1 hD hth r5
  have g0 : v_iv (n_v vs 12) = w_fi ws (n_v vs 4) 1 := congrArg v_iv f0
  have g1 : v_iv (n_v vs 11) = w_fi ws (n_v vs 3) 1 := congrArg v_iv f1
  have g2 : v_iv (n_v vs 10) = w_fi ws (n_v vs 3) 0 := congrArg v_iv f2
  have hK_3_14 := elq_24 hD hth cr_3_14
  have hK_4_4 := elq_28 hD hth cr_4_4
  have hK_5_4 := elq_0 hD hth cr_5_4
  have kz_3_0 := fdq_23 hD hth r3
  have kz_3_1 := fdq_38 hD hth r3
  have kz_4_1 := fdq_270 hD hth r4
  have nf0 : fc_1 PRD (20, [6, 7], [62, 2000000]) ws (vs) := by
    refine ⟨nf_in hl rfl, sgq_173 ?_⟩
    · show HY ws (n_v vs 6) (v_iv (n_v vs 7) + (((2000000 : Nat) : Int) - 2000000))
      exact hy_le f12 (by omega)
  refine ⟨(fun _ h => (by cases h)), [], trivial, ?_, (fun _ h => (by cases h))⟩
  rw [List.append_nil]
  exact List.forall_mem_cons.mpr ⟨⟨show (20 : Nat) < 100 from by decide, nf0⟩, (fun _ h => (by cases h))⟩
set_option maxHeartbeats 4000000 in
theorem vc_Pl_lay_44_0 (x1 : Int) (x2 : Int) (k1 : 4 ≤ x1 ∧ x1 ≤ 3) (k2 : (-1) ≤ x2 ∧ x2 ≤ 23) : (8 ≤ x2) ∧ ((x2 ≤ 512) ∧ (x1 = 4)) := by
  first
    | omega
  
def o_Pl_lay_44 : or_T := (142, 16, [(1, (0, 4, 3, [])), (2, (0, -1, 23, []))], [], [], [], [(20, [2, 1], [50, 0, 0, 2, 6, 0, 2, 0, 8, 1, 0, 2, 6, 0, 2, 1, 0, 0, 512, 1, 2, 1, 1, 0, 4])], [], [])
theorem oo_Pl_lay_44 {kA : Nat → ClassId} : or_ok PRD kA GG o_Pl_lay_44 := by
  refine or_mk fun A ta ws vs hD hth hl => ?_
  intro t1 k1 t2 k2
  have nf0 : fc_1 PRD (20, [2, 1], [50, 0, 0, 2, 6, 0, 2, 0, 8, 1, 0, 2, 6, 0, 2, 1, 0, 0, 512, 1, 2, 1, 1, 0, 4]) ws (vs) := ⟨nf_in hl rfl, sgq_2058 (vc_Pl_lay_44_0 (v_iv (n_v vs 1)) (v_iv (n_v vs 2)) k1 k2)⟩
  refine ⟨(fun _ h => (by cases h)), [], trivial, ?_, (fun _ h => (by cases h))⟩
  rw [List.append_nil]
  exact List.forall_mem_cons.mpr ⟨⟨show (20 : Nat) < 100 from by decide, nf0⟩, (fun _ h => (by cases h))⟩
set_option maxHeartbeats 4000000 in
theorem vc_Pl_lay_45_r0 (x1 : Int) (x2 : Int) (k1 : 4 ≤ x1 ∧ x1 ≤ 3) (k2 : (-1) ≤ x2 ∧ x2 ≤ 23) : 8 ≤ x2 ∧ x2 ≤ 23 := by
  first
    | omega
  
set_option maxHeartbeats 4000000 in
theorem vc_Pl_lay_45_1 (x1 : Int) (x7 : Int) (gy : Int) (k1 : 4 ≤ x1 ∧ x1 ≤ 3) (k7 : 0 ≤ x7 ∧ x7 ≤ 3072) : 1 * gy + ((-1) * x7 + 0) ≤ 0 := by
  first
    | omega
  
set_option maxHeartbeats 4000000 in
theorem vc_Pl_lay_45_2 (x1 : Int) (x7 : Int) (gy : Int) (k1 : 4 ≤ x1 ∧ x1 ≤ 3) (k7 : 0 ≤ x7 ∧ x7 ≤ 3072) : (-1) * gy + (1 * x7 + 0) ≤ 0 := by
  first
    | omega
  
def o_Pl_lay_45 : or_T := (144, 16, [(1, (0, 4, 3, [])), (2, (0, -1, 23, [])), (3, (2, 0, 0, [3])), (4, (2, 0, 0, [2])), (6, (2, 0, 0, [12])), (7, (0, 0, 3072, [])), (8, (0, 3, 3, [])), (9, (0, -1, -1, [])), (10, (0, 0, 24, [])), (11, (0, 0, 24, [])), (12, (0, 0, 24, [])), (13, (0, 0, 24, [])), (14, (0, 4, 4, [])), (15, (0, 6, 6, []))], [(20, [2, 1], [50, 0, 0, 2, 6, 0, 2, 0, 8, 1, 0, 2, 6, 0, 2, 1, 0, 0, 512, 1, 2, 1, 1, 0, 4]), (7, [1, 15], [1]), (7, [1, 14], [1]), (7, [11, 13], [0]), (2, [13, 10, 12], []), (9, [12, 4], [1]), (9, [10, 3], [0]), (9, [11, 3], [1]), (7, [2, 10], [2]), (7, [2, 9], [3]), (7, [1, 8], [0]), (20, [3, 4], [60, 1, 2, 671, 0, 14, 1004]), (20, [3, 4], [60, 2, 1, 672, 0, 1001, 1004]), (20, [6, 7], [62, 2000000])], [(2, (0, 8, 23, []))], [(2, 0, 0, [12]), (0, 0, 3072, [])], [(24, [6, 16], []), (23, [17, 7], [0, 1, -1]), (23, [17, 7], [0, -1, 1]), (20, [16, 17], [62, 2000000])], [], [(11, 13, 0, 0), (13, 10, -24, 0), (2, 10, -4294967296, -1)])
theorem oo_Pl_lay_45 {kA : Nat → ClassId} : or_ok PRD kA GG o_Pl_lay_45 := by
  refine or_mk fun A ta ws vs hD hth hl => ?_
  intro t1 k1 t2 k2 t3 r3 t4 r4 t6 r6 t7 k7 t8 k8 t9 k9 t10 k10 t11 k11 t12 k12 t13 k13 t14 k14 t15 k15 d0 d1 d2 f0 f1 f2 f3 f4 f5 f6 f7 f8 f9 f10 f11 f12 f13
  replace f0 := shm_2058 f0
  replace f1 := shm_40 f1
  replace f2 := shm_40 f2
  replace f3 := shm_37 f3
  replace f4 := shm_14 f4
  replace f5 := shm_127 f5
  replace f6 := shm_175 f6
  replace f7 := shm_127 f7
  replace f8 := shm_6 f8
  replace f9 := shm_2 f9
  replace f10 := shm_37 f10
  replace f11 := shm_432 f11
  replace f12 := shm_1148 f12
  replace f13 := shm_173 f13
  have cr_3_14 := fdq_79 hD hth r3
  have cr_4_4 := fdq_91 hD hth r4
  have g5 : v_iv (n_v vs 12) = w_fi ws (n_v vs 4) 1 := congrArg v_iv f5
  have g6 : v_iv (n_v vs 10) = w_fi ws (n_v vs 3) 0 := congrArg v_iv f6
  have g7 : v_iv (n_v vs 11) = w_fi ws (n_v vs 3) 1 := congrArg v_iv f7
  have hK_3_14 := elq_24 hD hth cr_3_14
  have hK_4_4 := elq_28 hD hth cr_4_4
  have kz_3_0 := fdq_23 hD hth r3
  have kz_3_1 := fdq_38 hD hth r3
  have kz_4_1 := fdq_270 hD hth r4
  obtain ⟨y, ey, hy⟩ := iv_ex (ta := ta) (lo := 0) (hi := 3072) (z := v_iv (n_v vs 7)) (by omega) (by omega) (by omega) (by omega)
  have ey2 : v_iv (Value.int y) = v_iv (n_v vs 7) := ey
  have ey3 : 0 ≤ v_iv (Value.int y) ∧ v_iv (Value.int y) ≤ 3072 := tv_rng hy
  have hrf0 : 8 ≤ v_iv (n_v vs 2) ∧ v_iv (n_v vs 2) ≤ 23 := vc_Pl_lay_45_r0 (v_iv (n_v vs 1)) (v_iv (n_v vs 2)) k1 k2
  have e_6 : n_v (vs ++ [n_v vs 6, Value.int y]) 6 = n_v vs 6 := n_v_old (by rw [hl]; decide)
  have e_7 : n_v (vs ++ [n_v vs 6, Value.int y]) 7 = n_v vs 7 := n_v_old (by rw [hl]; decide)
  have e_16 : n_v (vs ++ [n_v vs 6, Value.int y]) 16 = n_v vs 6 := n_v_new0 hl
  have e_17 : n_v (vs ++ [n_v vs 6, Value.int y]) 17 = Value.int y := n_v_new1 hl
  have nf0 : fc_1 PRD (24, [6, 16], []) ws (vs ++ [n_v vs 6, Value.int y]) := by
    refine ⟨nf_inA hl rfl, sgq_5 ?_⟩
    · show n_v (vs ++ [n_v vs 6, Value.int y]) 6 = n_v (vs ++ [n_v vs 6, Value.int y]) 16
      first | rfl | simp only [e_6, e_16]
  have nf1 : fc_1 PRD (23, [17, 7], [0, 1, -1]) ws (vs ++ [n_v vs 6, Value.int y]) := by
    refine ⟨nf_inA hl rfl, sgq_7 ?_⟩
    · show 1 * v_iv (n_v (vs ++ [n_v vs 6, Value.int y]) 17) + ((-1) * v_iv (n_v (vs ++ [n_v vs 6, Value.int y]) 7) + 0) ≤ 0
      simp only [e_7, e_17]
      exact vc_Pl_lay_45_1 (v_iv (n_v vs 1)) (v_iv (n_v vs 7)) (v_iv (Value.int y)) k1 k7
  have nf2 : fc_1 PRD (23, [17, 7], [0, -1, 1]) ws (vs ++ [n_v vs 6, Value.int y]) := by
    refine ⟨nf_inA hl rfl, sgq_22 ?_⟩
    · show (-1) * v_iv (n_v (vs ++ [n_v vs 6, Value.int y]) 17) + (1 * v_iv (n_v (vs ++ [n_v vs 6, Value.int y]) 7) + 0) ≤ 0
      simp only [e_7, e_17]
      exact vc_Pl_lay_45_2 (v_iv (n_v vs 1)) (v_iv (n_v vs 7)) (v_iv (Value.int y)) k1 k7
  have nf3 : fc_1 PRD (20, [16, 17], [62, 2000000]) ws (vs ++ [n_v vs 6, Value.int y]) := by
    refine ⟨nf_inA hl rfl, sgq_173 ?_⟩
    · show HY ws (n_v (vs ++ [n_v vs 6, Value.int y]) 16) (v_iv (n_v (vs ++ [n_v vs 6, Value.int y]) 17) + (((2000000 : Nat) : Int) - 2000000))
      simp only [e_16, e_17]
      exact hy_le f13 (by omega)
  have rf2 : tv_ok ta (0, 8, 23, []) (n_v vs 2) := tv_in t2 (by first | omega | grind) (by first | omega | grind)
  exact ⟨List.forall_mem_cons.mpr ⟨rf2, (fun _ h => (by cases h))⟩, [n_v vs 6, Value.int y], ag_two t6 hy, List.forall_mem_cons.mpr ⟨⟨show (24 : Nat) < 100 from by decide, nf0⟩, List.forall_mem_cons.mpr ⟨⟨show (23 : Nat) < 100 from by decide, nf1⟩, List.forall_mem_cons.mpr ⟨⟨show (23 : Nat) < 100 from by decide, nf2⟩, List.forall_mem_cons.mpr ⟨⟨show (20 : Nat) < 100 from by decide, nf3⟩, (fun _ h => (by cases h))⟩⟩⟩⟩, (fun _ h => (by cases h))⟩
def o_Pl_lay_46 : or_T := (177, 19, [(1, (0, 4, 3, [])), (2, (0, 8, 23, [])), (3, (2, 0, 0, [3])), (4, (2, 0, 0, [2])), (5, (2, 0, 0, [0])), (6, (2, 0, 0, [12])), (7, (0, 0, 3072, [])), (8, (0, 3, 3, [])), (9, (0, -1, -1, [])), (10, (0, 0, 24, [])), (11, (0, 0, 24, [])), (12, (0, 0, 24, [])), (13, (0, 0, 24, [])), (14, (0, 4, 4, [])), (15, (0, 6, 6, [])), (16, (2, 0, 0, [12])), (17, (0, 0, 3072, []))], [(9, [12, 4], [1]), (9, [11, 3], [1]), (9, [10, 3], [0]), (24, [6, 16], []), (23, [17, 7], [0, 1, -1]), (23, [17, 7], [0, -1, 1]), (20, [2, 1], [50, 0, 0, 2, 6, 0, 2, 0, 8, 1, 0, 2, 6, 0, 2, 1, 0, 0, 512, 1, 2, 1, 1, 0, 4]), (20, [3, 4], [60, 1, 2, 671, 0, 14, 1004]), (20, [3, 4], [60, 2, 1, 672, 0, 1001, 1004]), (20, [16, 17], [62, 2000000]), (20, [5], [60, 0, 1, 641, 4]), (102, [17], [65536]), (23, [17, 7], [0, 1, -1]), (23, [17, 7], [0, -1, 1]), (102, [17], [277298568799925181577408069632, 6011, 6013, 6014]), (23, [17, 7], [0, 1, -1]), (23, [17, 7], [0, -1, 1]), (7, [1, 15], [1]), (7, [1, 14], [1]), (7, [11, 13], [0]), (2, [13, 10, 12], []), (7, [2, 10], [2]), (7, [2, 9], [3]), (7, [1, 8], [0])], [], [], [(20, [6, 7], [62, 2000000])], [], [(11, 13, 0, 0), (13, 10, -24, 0), (2, 10, -4294967296, -1)])
theorem oo_Pl_lay_46 {kA : Nat → ClassId} : or_ok PRD kA GG o_Pl_lay_46 := by
  refine or_mk fun A ta ws vs hD hth hl => ?_
  intro t1 k1 t2 k2 t3 r3 t4 r4 t5 r5 t6 r6 t7 k7 t8 k8 t9 k9 t10 k10 t11 k11 t12 k12 t13 k13 t14 k14 t15 k15 t16 r16 t17 k17 d0 d1 d2 f0 f1 f2 f3 f4 f5 f6 f7 f8 f9 f10 ta1 w1 le1 s1 f12 f13 ta2 w2 le2 s2 f15 f16 f17 f18 f19 f20 f21 f22 f23
  replace f0 := shm_127 f0
  replace f1 := shm_127 f1
  replace f2 := shm_175 f2
  replace f3 := shm_5 f3
  replace f4 := shm_7 f4
  replace f5 := shm_22 f5
  replace f6 := shm_2058 f6
  replace f7 := shm_432 f7
  replace f8 := shm_1148 f8
  replace f9 := shm_173 f9
  replace f10 := shm_780 f10
  replace f12 := shm_7 f12
  replace f13 := shm_22 f13
  replace f15 := shm_7 f15
  replace f16 := shm_22 f16
  replace f17 := shm_40 f17
  replace f18 := shm_40 f18
  replace f19 := shm_37 f19
  replace f20 := shm_14 f20
  replace f21 := shm_6 f21
  replace f22 := shm_2 f22
  replace f23 := shm_37 f23
  have q16 : n_v vs 16 = n_v vs 6 := f3.symm
  simp only [q16] at f9
  have cr_3_14 := fdq_79 hD hth r3
  have cr_4_4 := fdq_91 hD hth r4
  have cr_5_4 := fdq_1 hD hth r5
  have g0 : v_iv (n_v vs 12) = w_fi ws (n_v vs 4) 1 := congrArg v_iv f0
  have g1 : v_iv (n_v vs 11) = w_fi ws (n_v vs 3) 1 := congrArg v_iv f1
  have g2 : v_iv (n_v vs 10) = w_fi ws (n_v vs 3) 0 := congrArg v_iv f2
  have hK_3_14 := elq_24 hD hth cr_3_14
  have hK_4_4 := elq_28 hD hth cr_4_4
  have hK_5_4 := elq_0 hD hth cr_5_4
  have kz_3_0 := fdq_23 hD hth r3
  have kz_3_1 := fdq_38 hD hth r3
  have kz_4_1 := fdq_270 hD hth r4
  have nf0 : fc_1 PRD (20, [6, 7], [62, 2000000]) ws (vs) := by
    refine ⟨nf_in hl rfl, sgq_173 ?_⟩
    · show HY ws (n_v vs 6) (v_iv (n_v vs 7) + (((2000000 : Nat) : Int) - 2000000))
      exact hy_le f9 (by omega)
  refine ⟨(fun _ h => (by cases h)), [], trivial, ?_, (fun _ h => (by cases h))⟩
  rw [List.append_nil]
  exact List.forall_mem_cons.mpr ⟨⟨show (20 : Nat) < 100 from by decide, nf0⟩, (fun _ h => (by cases h))⟩
set_option maxHeartbeats 4000000 in
theorem vc_Pl_lay_47_1 (x7 : Int) (gy : Int) (k7 : 0 ≤ x7 ∧ x7 ≤ 3072) (ey2 : gy = x7) : 1 * gy + ((-1) * x7 + 0) ≤ 0 := by
  first
    | omega
  
set_option maxHeartbeats 4000000 in
theorem vc_Pl_lay_47_2 (x7 : Int) (gy : Int) (k7 : 0 ≤ x7 ∧ x7 ≤ 3072) (ey2 : gy = x7) : (-1) * gy + (1 * x7 + 0) ≤ 0 := by
  first
    | omega
  
def o_Pl_lay_47 : or_T := (151, 16, [(2, (0, -1, 23, [])), (3, (2, 0, 0, [3])), (4, (2, 0, 0, [2])), (6, (2, 0, 0, [12])), (7, (0, 0, 3072, [])), (9, (0, -1, -1, [])), (10, (0, 0, 24, [])), (11, (0, 0, 24, [])), (12, (0, 0, 24, [])), (13, (0, 0, 24, []))], [(7, [11, 13], [0]), (2, [13, 10, 12], []), (9, [12, 4], [1]), (9, [10, 3], [0]), (9, [11, 3], [1]), (7, [2, 10], [2]), (7, [2, 9], [3]), (20, [3, 4], [60, 1, 2, 671, 0, 14, 1004]), (20, [3, 4], [60, 2, 1, 672, 0, 1001, 1004]), (20, [6, 7], [62, 2000000])], [], [(2, 0, 0, [12]), (0, 0, 3072, [])], [(24, [6, 16], []), (23, [17, 7], [0, 1, -1]), (23, [17, 7], [0, -1, 1]), (20, [16, 17], [62, 2000000])], [], [(11, 13, 0, 0), (13, 10, -24, 0), (2, 10, -4294967296, -1)])
theorem oo_Pl_lay_47 {kA : Nat → ClassId} : or_ok PRD kA GG o_Pl_lay_47 := by
  refine or_mk fun A ta ws vs hD hth hl => ?_
  intro t2 k2 t3 r3 t4 r4 t6 r6 t7 k7 t9 k9 t10 k10 t11 k11 t12 k12 t13 k13 d0 d1 d2 f0 f1 f2 f3 f4 f5 f6 f7 f8 f9
  replace f0 := shm_37 f0
  replace f1 := shm_14 f1
  replace f2 := shm_127 f2
  replace f3 := shm_175 f3
  replace f4 := shm_127 f4
  replace f5 := shm_6 f5
  replace f6 := shm_2 f6
  replace f7 := shm_432 f7
  replace f8 := shm_1148 f8
  replace f9 := shm_173 f9
  have cr_3_14 := fdq_79 hD hth r3
  have cr_4_4 := fdq_91 hD hth r4
  have g2 : v_iv (n_v vs 12) = w_fi ws (n_v vs 4) 1 := congrArg v_iv f2
  have g3 : v_iv (n_v vs 10) = w_fi ws (n_v vs 3) 0 := congrArg v_iv f3
  have g4 : v_iv (n_v vs 11) = w_fi ws (n_v vs 3) 1 := congrArg v_iv f4
  have hK_3_14 := elq_24 hD hth cr_3_14
  have hK_4_4 := elq_28 hD hth cr_4_4
  have kz_3_0 := fdq_23 hD hth r3
  have kz_3_1 := fdq_38 hD hth r3
  have kz_4_1 := fdq_270 hD hth r4
  obtain ⟨y, ey, hy⟩ := iv_ex (ta := ta) (lo := 0) (hi := 3072) (z := v_iv (n_v vs 7)) (by omega) (by omega) (by omega) (by omega)
  have ey2 : v_iv (Value.int y) = v_iv (n_v vs 7) := ey
  have ey3 : 0 ≤ v_iv (Value.int y) ∧ v_iv (Value.int y) ≤ 3072 := tv_rng hy
  have e_6 : n_v (vs ++ [n_v vs 6, Value.int y]) 6 = n_v vs 6 := n_v_old (by rw [hl]; decide)
  have e_7 : n_v (vs ++ [n_v vs 6, Value.int y]) 7 = n_v vs 7 := n_v_old (by rw [hl]; decide)
  have e_16 : n_v (vs ++ [n_v vs 6, Value.int y]) 16 = n_v vs 6 := n_v_new0 hl
  have e_17 : n_v (vs ++ [n_v vs 6, Value.int y]) 17 = Value.int y := n_v_new1 hl
  have nf0 : fc_1 PRD (24, [6, 16], []) ws (vs ++ [n_v vs 6, Value.int y]) := by
    refine ⟨nf_inA hl rfl, sgq_5 ?_⟩
    · show n_v (vs ++ [n_v vs 6, Value.int y]) 6 = n_v (vs ++ [n_v vs 6, Value.int y]) 16
      first | rfl | simp only [e_6, e_16]
  have nf1 : fc_1 PRD (23, [17, 7], [0, 1, -1]) ws (vs ++ [n_v vs 6, Value.int y]) := by
    refine ⟨nf_inA hl rfl, sgq_7 ?_⟩
    · show 1 * v_iv (n_v (vs ++ [n_v vs 6, Value.int y]) 17) + ((-1) * v_iv (n_v (vs ++ [n_v vs 6, Value.int y]) 7) + 0) ≤ 0
      simp only [e_7, e_17]
      exact vc_Pl_lay_47_1 (v_iv (n_v vs 7)) (v_iv (Value.int y)) k7 ey2
  have nf2 : fc_1 PRD (23, [17, 7], [0, -1, 1]) ws (vs ++ [n_v vs 6, Value.int y]) := by
    refine ⟨nf_inA hl rfl, sgq_22 ?_⟩
    · show (-1) * v_iv (n_v (vs ++ [n_v vs 6, Value.int y]) 17) + (1 * v_iv (n_v (vs ++ [n_v vs 6, Value.int y]) 7) + 0) ≤ 0
      simp only [e_7, e_17]
      exact vc_Pl_lay_47_2 (v_iv (n_v vs 7)) (v_iv (Value.int y)) k7 ey2
  have nf3 : fc_1 PRD (20, [16, 17], [62, 2000000]) ws (vs ++ [n_v vs 6, Value.int y]) := by
    refine ⟨nf_inA hl rfl, sgq_173 ?_⟩
    · show HY ws (n_v (vs ++ [n_v vs 6, Value.int y]) 16) (v_iv (n_v (vs ++ [n_v vs 6, Value.int y]) 17) + (((2000000 : Nat) : Int) - 2000000))
      simp only [e_16, e_17]
      exact hy_le f9 (by omega)
  exact ⟨(fun _ h => (by cases h)), [n_v vs 6, Value.int y], ag_two t6 hy, List.forall_mem_cons.mpr ⟨⟨show (24 : Nat) < 100 from by decide, nf0⟩, List.forall_mem_cons.mpr ⟨⟨show (23 : Nat) < 100 from by decide, nf1⟩, List.forall_mem_cons.mpr ⟨⟨show (23 : Nat) < 100 from by decide, nf2⟩, List.forall_mem_cons.mpr ⟨⟨show (20 : Nat) < 100 from by decide, nf3⟩, (fun _ h => (by cases h))⟩⟩⟩⟩, (fun _ h => (by cases h))⟩
def o_Pl_lay_48 : or_T := (177, 19, [(2, (0, -1, 23, [])), (3, (2, 0, 0, [3])), (4, (2, 0, 0, [2])), (5, (2, 0, 0, [0])), (6, (2, 0, 0, [12])), (7, (0, 0, 3072, [])), (9, (0, -1, -1, [])), (10, (0, 0, 24, [])), (11, (0, 0, 24, [])), (12, (0, 0, 24, [])), (13, (0, 0, 24, [])), (16, (2, 0, 0, [12])), (17, (0, 0, 3072, []))], [(9, [12, 4], [1]), (9, [11, 3], [1]), (9, [10, 3], [0]), (24, [6, 16], []), (23, [17, 7], [0, 1, -1]), (23, [17, 7], [0, -1, 1]), (20, [3, 4], [60, 1, 2, 671, 0, 14, 1004]), (20, [3, 4], [60, 2, 1, 672, 0, 1001, 1004]), (20, [16, 17], [62, 2000000]), (20, [5], [60, 0, 1, 641, 4]), (102, [17], [65536]), (23, [17, 7], [0, 1, -1]), (23, [17, 7], [0, -1, 1]), (102, [17], [1856910058928070412348735488, 7, 6008]), (23, [17, 7], [0, 1, -1]), (23, [17, 7], [0, -1, 1]), (7, [11, 13], [0]), (2, [13, 10, 12], []), (7, [2, 10], [2]), (7, [2, 9], [3])], [], [], [(20, [6, 7], [62, 2000000])], [], [(11, 13, 0, 0), (13, 10, -24, 0), (2, 10, -4294967296, -1)])
theorem oo_Pl_lay_48 {kA : Nat → ClassId} : or_ok PRD kA GG o_Pl_lay_48 := by
  refine or_mk fun A ta ws vs hD hth hl => ?_
  intro t2 k2 t3 r3 t4 r4 t5 r5 t6 r6 t7 k7 t9 k9 t10 k10 t11 k11 t12 k12 t13 k13 t16 r16 t17 k17 d0 d1 d2 f0 f1 f2 f3 f4 f5 f6 f7 f8 f9 ta1 w1 le1 s1 f11 f12 ta2 w2 le2 s2 f14 f15 f16 f17 f18 f19
  replace f0 := shm_127 f0
  replace f1 := shm_127 f1
  replace f2 := shm_175 f2
  replace f3 := shm_5 f3
  replace f4 := shm_7 f4
  replace f5 := shm_22 f5
  replace f6 := shm_432 f6
  replace f7 := shm_1148 f7
  replace f8 := shm_173 f8
  replace f9 := shm_780 f9
  replace f11 := shm_7 f11
  replace f12 := shm_22 f12
  replace f14 := shm_7 f14
  replace f15 := shm_22 f15
  replace f16 := shm_37 f16
  replace f17 := shm_14 f17
  replace f18 := shm_6 f18
  replace f19 := shm_2 f19
  have q16 : n_v vs 16 = n_v vs 6 := f3.symm
  simp only [q16] at f8
  have cr_3_14 := fdq_79 hD hth r3
  have cr_4_4 := fdq_91 hD hth r4
  have cr_5_4 := fdq_1 hD hth r5
  have g0 : v_iv (n_v vs 12) = w_fi ws (n_v vs 4) 1 := congrArg v_iv f0
  have g1 : v_iv (n_v vs 11) = w_fi ws (n_v vs 3) 1 := congrArg v_iv f1
  have g2 : v_iv (n_v vs 10) = w_fi ws (n_v vs 3) 0 := congrArg v_iv f2
  have hK_3_14 := elq_24 hD hth cr_3_14
  have hK_4_4 := elq_28 hD hth cr_4_4
  have hK_5_4 := elq_0 hD hth cr_5_4
  have kz_3_0 := fdq_23 hD hth r3
  have kz_3_1 := fdq_38 hD hth r3
  have kz_4_1 := fdq_270 hD hth r4
  have nf0 : fc_1 PRD (20, [6, 7], [62, 2000000]) ws (vs) := by
    refine ⟨nf_in hl rfl, sgq_173 ?_⟩
    · show HY ws (n_v vs 6) (v_iv (n_v vs 7) + (((2000000 : Nat) : Int) - 2000000))
      exact hy_le f8 (by omega)
  refine ⟨(fun _ h => (by cases h)), [], trivial, ?_, (fun _ h => (by cases h))⟩
  rw [List.append_nil]
  exact List.forall_mem_cons.mpr ⟨⟨show (20 : Nat) < 100 from by decide, nf0⟩, (fun _ h => (by cases h))⟩
set_option maxHeartbeats 4000000 in
theorem vc_Pl_lay_49_0 (x1 : Int) (x2 : Int) (k1 : 6 ≤ x1 ∧ x1 ≤ 3) (k2 : (-1) ≤ x2 ∧ x2 ≤ 23) : (0 ≤ x2) ∧ ((x2 ≤ 200) ∧ (x1 = 6)) := by
  first
    | omega
  
def o_Pl_lay_49 : or_T := (157, 16, [(1, (0, 6, 3, [])), (2, (0, -1, 23, []))], [], [], [], [(20, [2, 1], [50, 0, 0, 2, 6, 0, 2, 0, 0, 1, 0, 2, 6, 0, 2, 1, 0, 0, 200, 1, 2, 1, 1, 0, 6])], [], [])
theorem oo_Pl_lay_49 {kA : Nat → ClassId} : or_ok PRD kA GG o_Pl_lay_49 := by
  refine or_mk fun A ta ws vs hD hth hl => ?_
  intro t1 k1 t2 k2
  have nf0 : fc_1 PRD (20, [2, 1], [50, 0, 0, 2, 6, 0, 2, 0, 0, 1, 0, 2, 6, 0, 2, 1, 0, 0, 200, 1, 2, 1, 1, 0, 6]) ws (vs) := ⟨nf_in hl rfl, sgq_2059 (vc_Pl_lay_49_0 (v_iv (n_v vs 1)) (v_iv (n_v vs 2)) k1 k2)⟩
  refine ⟨(fun _ h => (by cases h)), [], trivial, ?_, (fun _ h => (by cases h))⟩
  rw [List.append_nil]
  exact List.forall_mem_cons.mpr ⟨⟨show (20 : Nat) < 100 from by decide, nf0⟩, (fun _ h => (by cases h))⟩
set_option maxHeartbeats 4000000 in
theorem vc_Pl_lay_50_r0 (x1 : Int) (x2 : Int) (k1 : 6 ≤ x1 ∧ x1 ≤ 3) (k2 : (-1) ≤ x2 ∧ x2 ≤ 23) : 0 ≤ x2 ∧ x2 ≤ 23 := by
  first
    | omega
  
set_option maxHeartbeats 4000000 in
theorem vc_Pl_lay_50_1 (x1 : Int) (x7 : Int) (gy : Int) (k1 : 6 ≤ x1 ∧ x1 ≤ 3) (k7 : 0 ≤ x7 ∧ x7 ≤ 3072) : 1 * gy + ((-1) * x7 + 0) ≤ 0 := by
  first
    | omega
  
set_option maxHeartbeats 4000000 in
theorem vc_Pl_lay_50_2 (x1 : Int) (x7 : Int) (gy : Int) (k1 : 6 ≤ x1 ∧ x1 ≤ 3) (k7 : 0 ≤ x7 ∧ x7 ≤ 3072) : (-1) * gy + (1 * x7 + 0) ≤ 0 := by
  first
    | omega
  
def o_Pl_lay_50 : or_T := (159, 16, [(1, (0, 6, 3, [])), (2, (0, -1, 23, [])), (3, (2, 0, 0, [3])), (4, (2, 0, 0, [2])), (6, (2, 0, 0, [12])), (7, (0, 0, 3072, [])), (8, (0, 3, 3, [])), (9, (0, -1, -1, [])), (10, (0, 0, 24, [])), (11, (0, 0, 24, [])), (12, (0, 0, 24, [])), (13, (0, 0, 24, [])), (14, (0, 4, 4, [])), (15, (0, 6, 6, []))], [(20, [2, 1], [50, 0, 0, 2, 6, 0, 2, 0, 0, 1, 0, 2, 6, 0, 2, 1, 0, 0, 200, 1, 2, 1, 1, 0, 6]), (7, [1, 15], [1]), (7, [1, 14], [1]), (7, [11, 13], [0]), (2, [13, 10, 12], []), (9, [12, 4], [1]), (9, [10, 3], [0]), (9, [11, 3], [1]), (7, [2, 10], [2]), (7, [2, 9], [3]), (7, [1, 8], [0]), (20, [3, 4], [60, 1, 2, 671, 0, 14, 1004]), (20, [3, 4], [60, 2, 1, 672, 0, 1001, 1004]), (20, [6, 7], [62, 2000000])], [(2, (0, 0, 23, []))], [(2, 0, 0, [12]), (0, 0, 3072, [])], [(24, [6, 16], []), (23, [17, 7], [0, 1, -1]), (23, [17, 7], [0, -1, 1]), (20, [16, 17], [62, 2000000])], [], [(11, 13, 0, 0), (13, 10, -24, 0), (2, 10, -4294967296, -1)])
theorem oo_Pl_lay_50 {kA : Nat → ClassId} : or_ok PRD kA GG o_Pl_lay_50 := by
  refine or_mk fun A ta ws vs hD hth hl => ?_
  intro t1 k1 t2 k2 t3 r3 t4 r4 t6 r6 t7 k7 t8 k8 t9 k9 t10 k10 t11 k11 t12 k12 t13 k13 t14 k14 t15 k15 d0 d1 d2 f0 f1 f2 f3 f4 f5 f6 f7 f8 f9 f10 f11 f12 f13
  replace f0 := shm_2059 f0
  replace f1 := shm_40 f1
  replace f2 := shm_40 f2
  replace f3 := shm_37 f3
  replace f4 := shm_14 f4
  replace f5 := shm_127 f5
  replace f6 := shm_175 f6
  replace f7 := shm_127 f7
  replace f8 := shm_6 f8
  replace f9 := shm_2 f9
  replace f10 := shm_37 f10
  replace f11 := shm_432 f11
  replace f12 := shm_1148 f12
  replace f13 := shm_173 f13
  have cr_3_14 := fdq_79 hD hth r3
  have cr_4_4 := fdq_91 hD hth r4
  have g5 : v_iv (n_v vs 12) = w_fi ws (n_v vs 4) 1 := congrArg v_iv f5
  have g6 : v_iv (n_v vs 10) = w_fi ws (n_v vs 3) 0 := congrArg v_iv f6
  have g7 : v_iv (n_v vs 11) = w_fi ws (n_v vs 3) 1 := congrArg v_iv f7
  have hK_3_14 := elq_24 hD hth cr_3_14
  have hK_4_4 := elq_28 hD hth cr_4_4
  have kz_3_0 := fdq_23 hD hth r3
  have kz_3_1 := fdq_38 hD hth r3
  have kz_4_1 := fdq_270 hD hth r4
  obtain ⟨y, ey, hy⟩ := iv_ex (ta := ta) (lo := 0) (hi := 3072) (z := v_iv (n_v vs 7)) (by omega) (by omega) (by omega) (by omega)
  have ey2 : v_iv (Value.int y) = v_iv (n_v vs 7) := ey
  have ey3 : 0 ≤ v_iv (Value.int y) ∧ v_iv (Value.int y) ≤ 3072 := tv_rng hy
  have hrf0 : 0 ≤ v_iv (n_v vs 2) ∧ v_iv (n_v vs 2) ≤ 23 := vc_Pl_lay_50_r0 (v_iv (n_v vs 1)) (v_iv (n_v vs 2)) k1 k2
  have e_6 : n_v (vs ++ [n_v vs 6, Value.int y]) 6 = n_v vs 6 := n_v_old (by rw [hl]; decide)
  have e_7 : n_v (vs ++ [n_v vs 6, Value.int y]) 7 = n_v vs 7 := n_v_old (by rw [hl]; decide)
  have e_16 : n_v (vs ++ [n_v vs 6, Value.int y]) 16 = n_v vs 6 := n_v_new0 hl
  have e_17 : n_v (vs ++ [n_v vs 6, Value.int y]) 17 = Value.int y := n_v_new1 hl
  have nf0 : fc_1 PRD (24, [6, 16], []) ws (vs ++ [n_v vs 6, Value.int y]) := by
    refine ⟨nf_inA hl rfl, sgq_5 ?_⟩
    · show n_v (vs ++ [n_v vs 6, Value.int y]) 6 = n_v (vs ++ [n_v vs 6, Value.int y]) 16
      first | rfl | simp only [e_6, e_16]
  have nf1 : fc_1 PRD (23, [17, 7], [0, 1, -1]) ws (vs ++ [n_v vs 6, Value.int y]) := by
    refine ⟨nf_inA hl rfl, sgq_7 ?_⟩
    · show 1 * v_iv (n_v (vs ++ [n_v vs 6, Value.int y]) 17) + ((-1) * v_iv (n_v (vs ++ [n_v vs 6, Value.int y]) 7) + 0) ≤ 0
      simp only [e_7, e_17]
      exact vc_Pl_lay_50_1 (v_iv (n_v vs 1)) (v_iv (n_v vs 7)) (v_iv (Value.int y)) k1 k7
  have nf2 : fc_1 PRD (23, [17, 7], [0, -1, 1]) ws (vs ++ [n_v vs 6, Value.int y]) := by
    refine ⟨nf_inA hl rfl, sgq_22 ?_⟩
    · show (-1) * v_iv (n_v (vs ++ [n_v vs 6, Value.int y]) 17) + (1 * v_iv (n_v (vs ++ [n_v vs 6, Value.int y]) 7) + 0) ≤ 0
      simp only [e_7, e_17]
      exact vc_Pl_lay_50_2 (v_iv (n_v vs 1)) (v_iv (n_v vs 7)) (v_iv (Value.int y)) k1 k7
  have nf3 : fc_1 PRD (20, [16, 17], [62, 2000000]) ws (vs ++ [n_v vs 6, Value.int y]) := by
    refine ⟨nf_inA hl rfl, sgq_173 ?_⟩
    · show HY ws (n_v (vs ++ [n_v vs 6, Value.int y]) 16) (v_iv (n_v (vs ++ [n_v vs 6, Value.int y]) 17) + (((2000000 : Nat) : Int) - 2000000))
      simp only [e_16, e_17]
      exact hy_le f13 (by omega)
  have rf2 : tv_ok ta (0, 0, 23, []) (n_v vs 2) := tv_in t2 (by first | omega | grind) (by first | omega | grind)
  exact ⟨List.forall_mem_cons.mpr ⟨rf2, (fun _ h => (by cases h))⟩, [n_v vs 6, Value.int y], ag_two t6 hy, List.forall_mem_cons.mpr ⟨⟨show (24 : Nat) < 100 from by decide, nf0⟩, List.forall_mem_cons.mpr ⟨⟨show (23 : Nat) < 100 from by decide, nf1⟩, List.forall_mem_cons.mpr ⟨⟨show (23 : Nat) < 100 from by decide, nf2⟩, List.forall_mem_cons.mpr ⟨⟨show (20 : Nat) < 100 from by decide, nf3⟩, (fun _ h => (by cases h))⟩⟩⟩⟩, (fun _ h => (by cases h))⟩
def o_Pl_lay_51 : or_T := (177, 19, [(1, (0, 6, 3, [])), (2, (0, 0, 23, [])), (3, (2, 0, 0, [3])), (4, (2, 0, 0, [2])), (5, (2, 0, 0, [0])), (6, (2, 0, 0, [12])), (7, (0, 0, 3072, [])), (8, (0, 3, 3, [])), (9, (0, -1, -1, [])), (10, (0, 0, 24, [])), (11, (0, 0, 24, [])), (12, (0, 0, 24, [])), (13, (0, 0, 24, [])), (14, (0, 4, 4, [])), (15, (0, 6, 6, [])), (16, (2, 0, 0, [12])), (17, (0, 0, 3072, []))], [(9, [12, 4], [1]), (9, [11, 3], [1]), (9, [10, 3], [0]), (24, [6, 16], []), (23, [17, 7], [0, 1, -1]), (23, [17, 7], [0, -1, 1]), (20, [2, 1], [50, 0, 0, 2, 6, 0, 2, 0, 0, 1, 0, 2, 6, 0, 2, 1, 0, 0, 200, 1, 2, 1, 1, 0, 6]), (20, [3, 4], [60, 1, 2, 671, 0, 14, 1004]), (20, [3, 4], [60, 2, 1, 672, 0, 1001, 1004]), (20, [16, 17], [62, 2000000]), (20, [5], [60, 0, 1, 641, 4]), (102, [17], [65536]), (23, [17, 7], [0, 1, -1]), (23, [17, 7], [0, -1, 1]), (102, [17], [4753689750855860255612637069312]), (23, [17, 7], [0, 1, -1]), (23, [17, 7], [0, -1, 1]), (7, [1, 15], [1]), (7, [1, 14], [1]), (7, [11, 13], [0]), (2, [13, 10, 12], []), (7, [2, 10], [2]), (7, [2, 9], [3]), (7, [1, 8], [0])], [], [], [(20, [6, 7], [62, 2000000])], [], [(11, 13, 0, 0), (13, 10, -24, 0), (2, 10, -4294967296, -1)])
theorem oo_Pl_lay_51 {kA : Nat → ClassId} : or_ok PRD kA GG o_Pl_lay_51 := by
  refine or_mk fun A ta ws vs hD hth hl => ?_
  intro t1 k1 t2 k2 t3 r3 t4 r4 t5 r5 t6 r6 t7 k7 t8 k8 t9 k9 t10 k10 t11 k11 t12 k12 t13 k13 t14 k14 t15 k15 t16 r16 t17 k17 d0 d1 d2 f0 f1 f2 f3 f4 f5 f6 f7 f8 f9 f10 ta1 w1 le1 s1 f12 f13 ta2 w2 le2 s2 f15 f16 f17 f18 f19 f20 f21 f22 f23
  replace f0 := shm_127 f0
  replace f1 := shm_127 f1
  replace f2 := shm_175 f2
  replace f3 := shm_5 f3
  replace f4 := shm_7 f4
  replace f5 := shm_22 f5
  replace f6 := shm_2059 f6
  replace f7 := shm_432 f7
  replace f8 := shm_1148 f8
  replace f9 := shm_173 f9
  replace f10 := shm_780 f10
  replace f12 := shm_7 f12
  replace f13 := shm_22 f13
  replace f15 := shm_7 f15
  replace f16 := shm_22 f16
  replace f17 := shm_40 f17
  replace f18 := shm_40 f18
  replace f19 := shm_37 f19
  replace f20 := shm_14 f20
  replace f21 := shm_6 f21
  replace f22 := shm_2 f22
  replace f23 := shm_37 f23
  have q16 : n_v vs 16 = n_v vs 6 := f3.symm
  simp only [q16] at f9
  have cr_3_14 := fdq_79 hD hth r3
  have cr_4_4 := fdq_91 hD hth r4
  have cr_5_4 := fdq_1 hD hth r5
  have g0 : v_iv (n_v vs 12) = w_fi ws (n_v vs 4) 1 := congrArg v_iv f0
  have g1 : v_iv (n_v vs 11) = w_fi ws (n_v vs 3) 1 := congrArg v_iv f1
  have g2 : v_iv (n_v vs 10) = w_fi ws (n_v vs 3) 0 := congrArg v_iv f2
  have hK_3_14 := elq_24 hD hth cr_3_14
  have hK_4_4 := elq_28 hD hth cr_4_4
  have hK_5_4 := elq_0 hD hth cr_5_4
  have kz_3_0 := fdq_23 hD hth r3
  have kz_3_1 := fdq_38 hD hth r3
  have kz_4_1 := fdq_270 hD hth r4
  have nf0 : fc_1 PRD (20, [6, 7], [62, 2000000]) ws (vs) := by
    refine ⟨nf_in hl rfl, sgq_173 ?_⟩
    · show HY ws (n_v vs 6) (v_iv (n_v vs 7) + (((2000000 : Nat) : Int) - 2000000))
      exact hy_le f9 (by omega)
  refine ⟨(fun _ h => (by cases h)), [], trivial, ?_, (fun _ h => (by cases h))⟩
  rw [List.append_nil]
  exact List.forall_mem_cons.mpr ⟨⟨show (20 : Nat) < 100 from by decide, nf0⟩, (fun _ h => (by cases h))⟩
def n_Pl_lay_an : List an_T := []
def t_Pl_lay_ct : ct_L := [(1, 87, e_Pl_layTree), (1, 91, e_Pl_layAreas), (1, 95, e_Pl_layRing), (1, 98, e_Pl_layForces), (1, 101, e_Pl_layMatrix), (1, 104, e_Dr_dropBends)]
set_option maxRecDepth 100000 in
theorem c_Pl_lay {l : Launch} {D : va_G} {kA : Nat → ClassId} (h_Dr_dropBends : ct_ok PRD l D kA GG y_Dr_dropBends z_Dr_dropBends e_Dr_dropBends) (h_Pl_layAreas : ct_ok PRD l D kA GG y_Pl_layAreas z_Pl_layAreas e_Pl_layAreas) (h_Pl_layForces : ct_ok PRD l D kA GG y_Pl_layForces z_Pl_layForces e_Pl_layForces) (h_Pl_layMatrix : ct_ok PRD l D kA GG y_Pl_layMatrix z_Pl_layMatrix e_Pl_layMatrix) (h_Pl_layRing : ct_ok PRD l D kA GG y_Pl_layRing z_Pl_layRing e_Pl_layRing) (h_Pl_layTree : ct_ok PRD l D kA GG y_Pl_layTree z_Pl_layTree e_Pl_layTree) : ct_ok PRD l D kA GG y_Pl_lay z_Pl_lay e_Pl_lay := chk_all_ok (FT := [(9, 6, 0), (15, 6, 1), (74, 3, 0), (79, 3, 1), (82, 2, 1)]) (PT := [(9, 6, 0, .object "DrawingHouse$Graph"), (15, 6, 1, .object "DrawingHouse$Drawing")]) (CT := t_Pl_lay_ct) (KT := []) (NT := []) (AN := n_Pl_lay_an) (OT := [o_Pl_lay_0, o_Pl_lay_1, o_Pl_lay_2, o_Pl_lay_3, o_Pl_lay_4, o_Pl_lay_5, o_Pl_lay_6, o_Pl_lay_7, o_Pl_lay_8, o_Pl_lay_9, o_Pl_lay_10, o_Pl_lay_11, o_Pl_lay_12, o_Pl_lay_13, o_Pl_lay_14, o_Pl_lay_15, o_Pl_lay_16, o_Pl_lay_17, o_Pl_lay_18, o_Pl_lay_19, o_Pl_lay_20, o_Pl_lay_21, o_Pl_lay_22, o_Pl_lay_23, o_Pl_lay_24, o_Pl_lay_25, o_Pl_lay_26, o_Pl_lay_27, o_Pl_lay_28, o_Pl_lay_29, o_Pl_lay_30, o_Pl_lay_31, o_Pl_lay_32, o_Pl_lay_33, o_Pl_lay_34, o_Pl_lay_35, o_Pl_lay_36, o_Pl_lay_37, o_Pl_lay_38, o_Pl_lay_39, o_Pl_lay_40, o_Pl_lay_41, o_Pl_lay_42, o_Pl_lay_43, o_Pl_lay_44, o_Pl_lay_45, o_Pl_lay_46, o_Pl_lay_47, o_Pl_lay_48, o_Pl_lay_49, o_Pl_lay_50, o_Pl_lay_51]) 0 988 (List.forall_mem_cons.mpr ⟨oo_Pl_lay_0, List.forall_mem_cons.mpr ⟨oo_Pl_lay_1, List.forall_mem_cons.mpr ⟨oo_Pl_lay_2, List.forall_mem_cons.mpr ⟨oo_Pl_lay_3, List.forall_mem_cons.mpr ⟨oo_Pl_lay_4, List.forall_mem_cons.mpr ⟨oo_Pl_lay_5, List.forall_mem_cons.mpr ⟨oo_Pl_lay_6, List.forall_mem_cons.mpr ⟨oo_Pl_lay_7, List.forall_mem_cons.mpr ⟨oo_Pl_lay_8, List.forall_mem_cons.mpr ⟨oo_Pl_lay_9, List.forall_mem_cons.mpr ⟨oo_Pl_lay_10, List.forall_mem_cons.mpr ⟨oo_Pl_lay_11, List.forall_mem_cons.mpr ⟨oo_Pl_lay_12, List.forall_mem_cons.mpr ⟨oo_Pl_lay_13, List.forall_mem_cons.mpr ⟨oo_Pl_lay_14, List.forall_mem_cons.mpr ⟨oo_Pl_lay_15, List.forall_mem_cons.mpr ⟨oo_Pl_lay_16, List.forall_mem_cons.mpr ⟨oo_Pl_lay_17, List.forall_mem_cons.mpr ⟨oo_Pl_lay_18, List.forall_mem_cons.mpr ⟨oo_Pl_lay_19, List.forall_mem_cons.mpr ⟨oo_Pl_lay_20, List.forall_mem_cons.mpr ⟨oo_Pl_lay_21, List.forall_mem_cons.mpr ⟨oo_Pl_lay_22, List.forall_mem_cons.mpr ⟨oo_Pl_lay_23, List.forall_mem_cons.mpr ⟨oo_Pl_lay_24, List.forall_mem_cons.mpr ⟨oo_Pl_lay_25, List.forall_mem_cons.mpr ⟨oo_Pl_lay_26, List.forall_mem_cons.mpr ⟨oo_Pl_lay_27, List.forall_mem_cons.mpr ⟨oo_Pl_lay_28, List.forall_mem_cons.mpr ⟨oo_Pl_lay_29, List.forall_mem_cons.mpr ⟨oo_Pl_lay_30, List.forall_mem_cons.mpr ⟨oo_Pl_lay_31, List.forall_mem_cons.mpr ⟨oo_Pl_lay_32, List.forall_mem_cons.mpr ⟨oo_Pl_lay_33, List.forall_mem_cons.mpr ⟨oo_Pl_lay_34, List.forall_mem_cons.mpr ⟨oo_Pl_lay_35, List.forall_mem_cons.mpr ⟨oo_Pl_lay_36, List.forall_mem_cons.mpr ⟨oo_Pl_lay_37, List.forall_mem_cons.mpr ⟨oo_Pl_lay_38, List.forall_mem_cons.mpr ⟨oo_Pl_lay_39, List.forall_mem_cons.mpr ⟨oo_Pl_lay_40, List.forall_mem_cons.mpr ⟨oo_Pl_lay_41, List.forall_mem_cons.mpr ⟨oo_Pl_lay_42, List.forall_mem_cons.mpr ⟨oo_Pl_lay_43, List.forall_mem_cons.mpr ⟨oo_Pl_lay_44, List.forall_mem_cons.mpr ⟨oo_Pl_lay_45, List.forall_mem_cons.mpr ⟨oo_Pl_lay_46, List.forall_mem_cons.mpr ⟨oo_Pl_lay_47, List.forall_mem_cons.mpr ⟨oo_Pl_lay_48, List.forall_mem_cons.mpr ⟨oo_Pl_lay_49, List.forall_mem_cons.mpr ⟨oo_Pl_lay_50, List.forall_mem_cons.mpr ⟨oo_Pl_lay_51, List.forall_mem_nil _⟩⟩⟩⟩⟩⟩⟩⟩⟩⟩⟩⟩⟩⟩⟩⟩⟩⟩⟩⟩⟩⟩⟩⟩⟩⟩⟩⟩⟩⟩⟩⟩⟩⟩⟩⟩⟩⟩⟩⟩⟩⟩⟩⟩⟩⟩⟩⟩⟩⟩⟩⟩) (by decide +kernel) ⟨List.forall_mem_cons.mpr ⟨gf_Pl_9, List.forall_mem_cons.mpr ⟨gf_Pl_15, List.forall_mem_cons.mpr ⟨gf_Pl_74, List.forall_mem_cons.mpr ⟨gf_Pl_79, List.forall_mem_cons.mpr ⟨gf_Pl_82, List.forall_mem_nil _⟩⟩⟩⟩⟩, List.forall_mem_cons.mpr ⟨pf_Pl_9, List.forall_mem_cons.mpr ⟨pf_Pl_15, List.forall_mem_nil _⟩⟩, List.forall_mem_cons.mpr ⟨cl_virtual (y := y_Pl_layTree) (ci := 6) rfl rfl ⟨_, _, rfl⟩ (by decide +kernel) h_Pl_layTree wm_1691 wm_21 wm_1688 wm_1690 wv_7_6 ⟨by decide, by decide, by decide +kernel⟩ (by decide), List.forall_mem_cons.mpr ⟨cl_virtual (y := y_Pl_layAreas) (ci := 6) rfl rfl ⟨_, _, rfl⟩ (by decide +kernel) h_Pl_layAreas wm_1720 wm_21 wm_1717 wm_1719 wv_7_12 ⟨by decide, by decide, by decide +kernel⟩ (by decide), List.forall_mem_cons.mpr ⟨cl_virtual (y := y_Pl_layRing) (ci := 6) rfl rfl ⟨_, _, rfl⟩ (by decide +kernel) h_Pl_layRing wm_1761 wm_21 wm_1758 wm_1760 wv_8_4 ⟨by decide, by decide, by decide +kernel⟩ (by decide), List.forall_mem_cons.mpr ⟨cl_virtual (y := y_Pl_layForces) (ci := 6) rfl rfl ⟨_, _, rfl⟩ (by decide +kernel) h_Pl_layForces wm_1783 wm_21 wm_1780 wm_1782 wv_8_9 ⟨by decide, by decide, by decide +kernel⟩ (by decide), List.forall_mem_cons.mpr ⟨cl_virtual (y := y_Pl_layMatrix) (ci := 6) rfl rfl ⟨_, _, rfl⟩ (by decide +kernel) h_Pl_layMatrix wm_1804 wm_21 wm_1801 wm_1803 wv_8_11 ⟨by decide, by decide, by decide +kernel⟩ (by decide), List.forall_mem_cons.mpr ⟨cl_virtual (y := y_Dr_dropBends) (ci := 0) rfl rfl ⟨_, _, rfl⟩ (by decide +kernel) h_Dr_dropBends wm_1460 wm_8 wm_1812 wm_1458 wm_1459 ⟨by decide, by decide, by decide +kernel⟩ (by decide), List.forall_mem_nil _⟩⟩⟩⟩⟩⟩, List.forall_mem_nil _, List.forall_mem_nil _, GG_pl⟩ (by decide +kernel)
def o_Ho_planar_0 : or_T := (67, 8, [(0, (2, 0, 0, [12])), (1, (0, 0, 3, [])), (4, (2, 0, 0, [5])), (6, (2, 0, 0, [131])), (7, (2, 0, 0, [3]))], [(14, [7, 6, 1], []), (9, [6, 0], [0]), (20, [0], [62, 0]), (20, [4], [50, 1, 0, 0, 0, 2, 0, 0, 2, 0, 0])], [], [], [(20, [0, 1, 7], [62, 71])], [], [])
theorem oo_Ho_planar_0 {kA : Nat → ClassId} : or_ok PRD kA GG o_Ho_planar_0 := by
  refine or_mk fun A ta ws vs hD hth hl => ?_
  intro t0 r0 t1 k1 t4 r4 t6 r6 t7 r7 f0 f1 f2 f3
  replace f0 := shm_779 f0
  replace f1 := shm_175 f1
  replace f2 := shm_1145 f2
  replace f3 := shm_1553 f3
  have cr_0_0 := fdq_303 hD hth r0
  have ad_6 : v_ad (n_v vs 6) = w_ar ws (n_v vs 0) 0 := congrArg v_ad f1
  have kz_4_0 := fdq_82 hD hth r4
  have nf0 : fc_1 PRD (20, [0, 1, 7], [62, 71]) ws (vs) := by
    refine ⟨nf_in hl rfl, sgq_1734 ?_⟩
    · show WQF 71 [n_v vs 0, n_v vs 1, n_v vs 7] ws
      have zw := f2
      exact wq_in (zw) (by omega) (by omega) ⟨rfl, rfl⟩ ⟨Or.inr (pO_of f1 f0), trivial⟩
  refine ⟨(fun _ h => (by cases h)), [], trivial, ?_, (fun _ h => (by cases h))⟩
  rw [List.append_nil]
  exact List.forall_mem_cons.mpr ⟨⟨show (20 : Nat) < 100 from by decide, nf0⟩, (fun _ h => (by cases h))⟩
def o_Ho_planar_1 : or_T := (68, 8, [], [(20, [0, 1, 7], [62, 71]), (14, [7, 6, 1], []), (9, [6, 0], [0])], [], [], [(20, [7], [60, 2, 2, 596, 0, 1, 7, 8])], [], [])
theorem oo_Ho_planar_1 {kA : Nat → ClassId} : or_ok PRD kA GG o_Ho_planar_1 := by
  refine or_mk fun A ta ws vs hD hth hl => ?_
  intro f0 f1 f2
  replace f0 := shm_1734 f0
  replace f1 := shm_779 f1
  replace f2 := shm_175 f2
  have nf0 : fc_1 PRD (20, [7], [60, 2, 2, 596, 0, 1, 7, 8]) ws (vs) := by
    refine ⟨nf_in hl rfl, sgq_401 ?_⟩
    · show GKE (w_fi ws (n_v vs 7) 0) (w_fi ws (n_v vs 7) 1) (w_ei ws (w_ar ws (n_v vs 7) 7)) (w_ei ws (w_ar ws (n_v vs 7) 8))
      exact hg_gke (wq_hg f0 (by decide) (pO_of f2 f1))
  refine ⟨(fun _ h => (by cases h)), [], trivial, ?_, (fun _ h => (by cases h))⟩
  rw [List.append_nil]
  exact List.forall_mem_cons.mpr ⟨⟨show (20 : Nat) < 100 from by decide, nf0⟩, (fun _ h => (by cases h))⟩
def n_Ho_planar_an : List an_T := []
def t_Ho_planar_ct : ct_L := [(0, 115, e_Ho_isPlace), (1, 261, e_Ho_embedded), (1, 268, e_Em_outer)]
set_option maxRecDepth 100000 in
theorem c_Ho_planar {l : Launch} {D : va_G} {kA : Nat → ClassId} (h_Em_outer : ct_ok PRD l D kA GG y_Em_outer z_Em_outer e_Em_outer) (h_Ho_embedded : ct_ok PRD l D kA GG y_Ho_embedded z_Ho_embedded e_Ho_embedded) (h_Ho_isPlace : ct_ok PRD l D kA GG y_Ho_isPlace z_Ho_isPlace e_Ho_isPlace) : ct_ok PRD l D kA GG y_Ho_planar z_Ho_planar e_Ho_planar := chk_all_ok (FT := [(13, 12, 0), (45, 12, 5), (265, 5, 0), (272, 5, 13), (275, 5, 2), (278, 5, 3)]) (PT := []) (CT := t_Ho_planar_ct) (KT := []) (NT := []) (AN := n_Ho_planar_an) (OT := [o_Ho_planar_0, o_Ho_planar_1]) 0 236 (List.forall_mem_cons.mpr ⟨oo_Ho_planar_0, List.forall_mem_cons.mpr ⟨oo_Ho_planar_1, List.forall_mem_nil _⟩⟩) (by decide +kernel) ⟨List.forall_mem_cons.mpr ⟨gf_Ho_13, List.forall_mem_cons.mpr ⟨gf_Ho_45, List.forall_mem_cons.mpr ⟨gf_Ho_265, List.forall_mem_cons.mpr ⟨gf_Ho_272, List.forall_mem_cons.mpr ⟨gf_Ho_275, List.forall_mem_cons.mpr ⟨gf_Ho_278, List.forall_mem_nil _⟩⟩⟩⟩⟩⟩, List.forall_mem_nil _, List.forall_mem_cons.mpr ⟨cl_static (y := y_Ho_isPlace) h_Ho_isPlace wm_633 wm_1 wm_631 wm_632 ⟨by decide, by decide, by decide +kernel⟩ (by decide), List.forall_mem_cons.mpr ⟨cl_virtual (y := y_Ho_embedded) (ci := 12) rfl rfl ⟨_, _, rfl⟩ (by decide +kernel) h_Ho_embedded wm_1052 wm_1 wm_1049 wm_1051 wv_3_6 ⟨by decide, by decide, by decide +kernel⟩ (by decide), List.forall_mem_cons.mpr ⟨cl_virtual (y := y_Em_outer) (ci := 1) rfl rfl ⟨_, _, rfl⟩ (by decide +kernel) h_Em_outer wm_1167 wm_5 wm_1164 wm_1165 wm_1166 ⟨by decide, by decide, by decide +kernel⟩ (by decide), List.forall_mem_nil _⟩⟩⟩, List.forall_mem_nil _, List.forall_mem_nil _, GG_pl⟩ (by decide +kernel)
set_option maxHeartbeats 4000000 in
theorem vc_Mo_both_at_f0_0_0 (x1 : Int) (x2 : Int) (x3 : Int) (tokenKind_0 : Int → Int) (cur_0 : Int) (tokens_0 : Int) (styleKind_0 : Int) (styleOne_0 : Int) (opened_0 : Int) (fault_0 : Int) (gx : Int) (gy : Int) (gu : Int) (k1 : 0 ≤ x1 ∧ x1 ≤ 2009) (k2 : 0 ≤ x2 ∧ x2 ≤ 5) (k3 : 0 ≤ x3 ∧ x3 ≤ 13) (f0 : ((cur_0 + 1) ≤ tokens_0) ∧ ((tokens_0 ≤ 2010) ∧ ((tokenKind_0 ((tokens_0 - 1)) = 0) ∨ (tokenKind_0 ((tokens_0 - 1)) = 4)))) (f1 : 1 * cur_0 + ((-1) * x1 + 0) ≤ 0) (f2 : (-1) * cur_0 + (1 * x1 + 0) ≤ 0) (f3 : (styleKind_0 = 0) → (styleOne_0 ≤ 23)) (f4 : 1 * opened_0 + 0 ≤ 0) (f5 : (-1) * opened_0 + 0 ≤ 0) (f6 : fault_0 = x2) (f7 : opened_0 = x3) (hK_0_160 : ∀ j : Int, 0 ≤ j → j < 2010 → 0 ≤ tokenKind_0 j ∧ tokenKind_0 j ≤ 4) (kz_0_8 : 0 ≤ fault_0 ∧ fault_0 ≤ 5) (kz_0_157 : 0 ≤ tokens_0 ∧ tokens_0 ≤ 2010) (kz_0_158 : 0 ≤ cur_0 ∧ cur_0 ≤ 2009) (kz_0_159 : 0 ≤ opened_0 ∧ opened_0 ≤ 13) (kz_0_164 : 0 ≤ styleKind_0 ∧ styleKind_0 ≤ 1) (kz_0_165 : (-1) ≤ styleOne_0 ∧ styleOne_0 ≤ 47) (ex2 : gx = cur_0) (ex3 : 0 ≤ gx ∧ gx ≤ 2009) (ey2 : gy = fault_0) (ey3 : 0 ≤ gy ∧ gy ≤ 5) (eu2 : gu = opened_0) (eu3 : 0 ≤ gu ∧ gu ≤ 13) : 1 * x3 + 0 ≤ 0 := by
  first | assumption | (clear f0 f3 hK_0_160; omega) | (clear hK_0_160; grind) | omega | grind
set_option maxHeartbeats 4000000 in
theorem vc_Mo_both_at_f0_0_1 (x1 : Int) (x2 : Int) (x3 : Int) (tokenKind_0 : Int → Int) (cur_0 : Int) (tokens_0 : Int) (styleKind_0 : Int) (styleOne_0 : Int) (opened_0 : Int) (fault_0 : Int) (gx : Int) (gy : Int) (gu : Int) (k1 : 0 ≤ x1 ∧ x1 ≤ 2009) (k2 : 0 ≤ x2 ∧ x2 ≤ 5) (k3 : 0 ≤ x3 ∧ x3 ≤ 13) (f0 : ((cur_0 + 1) ≤ tokens_0) ∧ ((tokens_0 ≤ 2010) ∧ ((tokenKind_0 ((tokens_0 - 1)) = 0) ∨ (tokenKind_0 ((tokens_0 - 1)) = 4)))) (f1 : 1 * cur_0 + ((-1) * x1 + 0) ≤ 0) (f2 : (-1) * cur_0 + (1 * x1 + 0) ≤ 0) (f3 : (styleKind_0 = 0) → (styleOne_0 ≤ 23)) (f4 : 1 * opened_0 + 0 ≤ 0) (f5 : (-1) * opened_0 + 0 ≤ 0) (f6 : fault_0 = x2) (f7 : opened_0 = x3) (hK_0_160 : ∀ j : Int, 0 ≤ j → j < 2010 → 0 ≤ tokenKind_0 j ∧ tokenKind_0 j ≤ 4) (kz_0_8 : 0 ≤ fault_0 ∧ fault_0 ≤ 5) (kz_0_157 : 0 ≤ tokens_0 ∧ tokens_0 ≤ 2010) (kz_0_158 : 0 ≤ cur_0 ∧ cur_0 ≤ 2009) (kz_0_159 : 0 ≤ opened_0 ∧ opened_0 ≤ 13) (kz_0_164 : 0 ≤ styleKind_0 ∧ styleKind_0 ≤ 1) (kz_0_165 : (-1) ≤ styleOne_0 ∧ styleOne_0 ≤ 47) (ex2 : gx = cur_0) (ex3 : 0 ≤ gx ∧ gx ≤ 2009) (ey2 : gy = fault_0) (ey3 : 0 ≤ gy ∧ gy ≤ 5) (eu2 : gu = opened_0) (eu3 : 0 ≤ gu ∧ gu ≤ 13) : (-1) * x3 + 0 ≤ 0 := by
  first | assumption | (clear f0 f3 hK_0_160; omega) | (clear hK_0_160; grind) | omega | grind
set_option maxHeartbeats 4000000 in
theorem vc_Mo_both_at_f0_0_2 (x1 : Int) (x2 : Int) (x3 : Int) (tokenKind_0 : Int → Int) (cur_0 : Int) (tokens_0 : Int) (styleKind_0 : Int) (styleOne_0 : Int) (opened_0 : Int) (fault_0 : Int) (gx : Int) (gy : Int) (gu : Int) (k1 : 0 ≤ x1 ∧ x1 ≤ 2009) (k2 : 0 ≤ x2 ∧ x2 ≤ 5) (k3 : 0 ≤ x3 ∧ x3 ≤ 13) (f0 : ((cur_0 + 1) ≤ tokens_0) ∧ ((tokens_0 ≤ 2010) ∧ ((tokenKind_0 ((tokens_0 - 1)) = 0) ∨ (tokenKind_0 ((tokens_0 - 1)) = 4)))) (f1 : 1 * cur_0 + ((-1) * x1 + 0) ≤ 0) (f2 : (-1) * cur_0 + (1 * x1 + 0) ≤ 0) (f3 : (styleKind_0 = 0) → (styleOne_0 ≤ 23)) (f4 : 1 * opened_0 + 0 ≤ 0) (f5 : (-1) * opened_0 + 0 ≤ 0) (f6 : fault_0 = x2) (f7 : opened_0 = x3) (hK_0_160 : ∀ j : Int, 0 ≤ j → j < 2010 → 0 ≤ tokenKind_0 j ∧ tokenKind_0 j ≤ 4) (kz_0_8 : 0 ≤ fault_0 ∧ fault_0 ≤ 5) (kz_0_157 : 0 ≤ tokens_0 ∧ tokens_0 ≤ 2010) (kz_0_158 : 0 ≤ cur_0 ∧ cur_0 ≤ 2009) (kz_0_159 : 0 ≤ opened_0 ∧ opened_0 ≤ 13) (kz_0_164 : 0 ≤ styleKind_0 ∧ styleKind_0 ≤ 1) (kz_0_165 : (-1) ≤ styleOne_0 ∧ styleOne_0 ≤ 47) (ex2 : gx = cur_0) (ex3 : 0 ≤ gx ∧ gx ≤ 2009) (ey2 : gy = fault_0) (ey3 : 0 ≤ gy ∧ gy ≤ 5) (eu2 : gu = opened_0) (eu3 : 0 ≤ gu ∧ gu ≤ 13) : ((cur_0 + 1) ≤ tokens_0) ∧ ((tokens_0 ≤ 2010) ∧ ((tokenKind_0 ((tokens_0 - 1)) = 0) ∨ (tokenKind_0 ((tokens_0 - 1)) = 4))) := by
  first | assumption | (clear f0 f3 hK_0_160; omega) | (clear hK_0_160; grind) | omega | grind
set_option maxHeartbeats 4000000 in
theorem vc_Mo_both_at_f0_0_3 (x1 : Int) (x2 : Int) (x3 : Int) (tokenKind_0 : Int → Int) (cur_0 : Int) (tokens_0 : Int) (styleKind_0 : Int) (styleOne_0 : Int) (opened_0 : Int) (fault_0 : Int) (gx : Int) (gy : Int) (gu : Int) (k1 : 0 ≤ x1 ∧ x1 ≤ 2009) (k2 : 0 ≤ x2 ∧ x2 ≤ 5) (k3 : 0 ≤ x3 ∧ x3 ≤ 13) (f0 : ((cur_0 + 1) ≤ tokens_0) ∧ ((tokens_0 ≤ 2010) ∧ ((tokenKind_0 ((tokens_0 - 1)) = 0) ∨ (tokenKind_0 ((tokens_0 - 1)) = 4)))) (f1 : 1 * cur_0 + ((-1) * x1 + 0) ≤ 0) (f2 : (-1) * cur_0 + (1 * x1 + 0) ≤ 0) (f3 : (styleKind_0 = 0) → (styleOne_0 ≤ 23)) (f4 : 1 * opened_0 + 0 ≤ 0) (f5 : (-1) * opened_0 + 0 ≤ 0) (f6 : fault_0 = x2) (f7 : opened_0 = x3) (hK_0_160 : ∀ j : Int, 0 ≤ j → j < 2010 → 0 ≤ tokenKind_0 j ∧ tokenKind_0 j ≤ 4) (kz_0_8 : 0 ≤ fault_0 ∧ fault_0 ≤ 5) (kz_0_157 : 0 ≤ tokens_0 ∧ tokens_0 ≤ 2010) (kz_0_158 : 0 ≤ cur_0 ∧ cur_0 ≤ 2009) (kz_0_159 : 0 ≤ opened_0 ∧ opened_0 ≤ 13) (kz_0_164 : 0 ≤ styleKind_0 ∧ styleKind_0 ≤ 1) (kz_0_165 : (-1) ≤ styleOne_0 ∧ styleOne_0 ≤ 47) (ex2 : gx = cur_0) (ex3 : 0 ≤ gx ∧ gx ≤ 2009) (ey2 : gy = fault_0) (ey3 : 0 ≤ gy ∧ gy ≤ 5) (eu2 : gu = opened_0) (eu3 : 0 ≤ gu ∧ gu ≤ 13) : 1 * cur_0 + ((-1) * gx + 0) ≤ 0 := by
  first | assumption | (clear f0 f3 hK_0_160; omega) | (clear hK_0_160; grind) | omega | grind
set_option maxHeartbeats 4000000 in
theorem vc_Mo_both_at_f0_0_4 (x1 : Int) (x2 : Int) (x3 : Int) (tokenKind_0 : Int → Int) (cur_0 : Int) (tokens_0 : Int) (styleKind_0 : Int) (styleOne_0 : Int) (opened_0 : Int) (fault_0 : Int) (gx : Int) (gy : Int) (gu : Int) (k1 : 0 ≤ x1 ∧ x1 ≤ 2009) (k2 : 0 ≤ x2 ∧ x2 ≤ 5) (k3 : 0 ≤ x3 ∧ x3 ≤ 13) (f0 : ((cur_0 + 1) ≤ tokens_0) ∧ ((tokens_0 ≤ 2010) ∧ ((tokenKind_0 ((tokens_0 - 1)) = 0) ∨ (tokenKind_0 ((tokens_0 - 1)) = 4)))) (f1 : 1 * cur_0 + ((-1) * x1 + 0) ≤ 0) (f2 : (-1) * cur_0 + (1 * x1 + 0) ≤ 0) (f3 : (styleKind_0 = 0) → (styleOne_0 ≤ 23)) (f4 : 1 * opened_0 + 0 ≤ 0) (f5 : (-1) * opened_0 + 0 ≤ 0) (f6 : fault_0 = x2) (f7 : opened_0 = x3) (hK_0_160 : ∀ j : Int, 0 ≤ j → j < 2010 → 0 ≤ tokenKind_0 j ∧ tokenKind_0 j ≤ 4) (kz_0_8 : 0 ≤ fault_0 ∧ fault_0 ≤ 5) (kz_0_157 : 0 ≤ tokens_0 ∧ tokens_0 ≤ 2010) (kz_0_158 : 0 ≤ cur_0 ∧ cur_0 ≤ 2009) (kz_0_159 : 0 ≤ opened_0 ∧ opened_0 ≤ 13) (kz_0_164 : 0 ≤ styleKind_0 ∧ styleKind_0 ≤ 1) (kz_0_165 : (-1) ≤ styleOne_0 ∧ styleOne_0 ≤ 47) (ex2 : gx = cur_0) (ex3 : 0 ≤ gx ∧ gx ≤ 2009) (ey2 : gy = fault_0) (ey3 : 0 ≤ gy ∧ gy ≤ 5) (eu2 : gu = opened_0) (eu3 : 0 ≤ gu ∧ gu ≤ 13) : (-1) * cur_0 + (1 * gx + 0) ≤ 0 := by
  first | assumption | (clear f0 f3 hK_0_160; omega) | (clear hK_0_160; grind) | omega | grind
set_option maxHeartbeats 4000000 in
theorem vc_Mo_both_at_f0_0_5 (x1 : Int) (x2 : Int) (x3 : Int) (tokenKind_0 : Int → Int) (cur_0 : Int) (tokens_0 : Int) (styleKind_0 : Int) (styleOne_0 : Int) (opened_0 : Int) (fault_0 : Int) (gx : Int) (gy : Int) (gu : Int) (k1 : 0 ≤ x1 ∧ x1 ≤ 2009) (k2 : 0 ≤ x2 ∧ x2 ≤ 5) (k3 : 0 ≤ x3 ∧ x3 ≤ 13) (f0 : ((cur_0 + 1) ≤ tokens_0) ∧ ((tokens_0 ≤ 2010) ∧ ((tokenKind_0 ((tokens_0 - 1)) = 0) ∨ (tokenKind_0 ((tokens_0 - 1)) = 4)))) (f1 : 1 * cur_0 + ((-1) * x1 + 0) ≤ 0) (f2 : (-1) * cur_0 + (1 * x1 + 0) ≤ 0) (f3 : (styleKind_0 = 0) → (styleOne_0 ≤ 23)) (f4 : 1 * opened_0 + 0 ≤ 0) (f5 : (-1) * opened_0 + 0 ≤ 0) (f6 : fault_0 = x2) (f7 : opened_0 = x3) (hK_0_160 : ∀ j : Int, 0 ≤ j → j < 2010 → 0 ≤ tokenKind_0 j ∧ tokenKind_0 j ≤ 4) (kz_0_8 : 0 ≤ fault_0 ∧ fault_0 ≤ 5) (kz_0_157 : 0 ≤ tokens_0 ∧ tokens_0 ≤ 2010) (kz_0_158 : 0 ≤ cur_0 ∧ cur_0 ≤ 2009) (kz_0_159 : 0 ≤ opened_0 ∧ opened_0 ≤ 13) (kz_0_164 : 0 ≤ styleKind_0 ∧ styleKind_0 ≤ 1) (kz_0_165 : (-1) ≤ styleOne_0 ∧ styleOne_0 ≤ 47) (ex2 : gx = cur_0) (ex3 : 0 ≤ gx ∧ gx ≤ 2009) (ey2 : gy = fault_0) (ey3 : 0 ≤ gy ∧ gy ≤ 5) (eu2 : gu = opened_0) (eu3 : 0 ≤ gu ∧ gu ≤ 13) : (styleKind_0 = 0) → (styleOne_0 ≤ 23) := by
  first | assumption | (clear f0 f3 hK_0_160; omega) | (clear hK_0_160; grind) | omega | grind
set_option maxHeartbeats 4000000 in
theorem vc_Mo_both_at_f0_0_6 (x1 : Int) (x2 : Int) (x3 : Int) (tokenKind_0 : Int → Int) (cur_0 : Int) (tokens_0 : Int) (styleKind_0 : Int) (styleOne_0 : Int) (opened_0 : Int) (fault_0 : Int) (gx : Int) (gy : Int) (gu : Int) (k1 : 0 ≤ x1 ∧ x1 ≤ 2009) (k2 : 0 ≤ x2 ∧ x2 ≤ 5) (k3 : 0 ≤ x3 ∧ x3 ≤ 13) (f0 : ((cur_0 + 1) ≤ tokens_0) ∧ ((tokens_0 ≤ 2010) ∧ ((tokenKind_0 ((tokens_0 - 1)) = 0) ∨ (tokenKind_0 ((tokens_0 - 1)) = 4)))) (f1 : 1 * cur_0 + ((-1) * x1 + 0) ≤ 0) (f2 : (-1) * cur_0 + (1 * x1 + 0) ≤ 0) (f3 : (styleKind_0 = 0) → (styleOne_0 ≤ 23)) (f4 : 1 * opened_0 + 0 ≤ 0) (f5 : (-1) * opened_0 + 0 ≤ 0) (f6 : fault_0 = x2) (f7 : opened_0 = x3) (hK_0_160 : ∀ j : Int, 0 ≤ j → j < 2010 → 0 ≤ tokenKind_0 j ∧ tokenKind_0 j ≤ 4) (kz_0_8 : 0 ≤ fault_0 ∧ fault_0 ≤ 5) (kz_0_157 : 0 ≤ tokens_0 ∧ tokens_0 ≤ 2010) (kz_0_158 : 0 ≤ cur_0 ∧ cur_0 ≤ 2009) (kz_0_159 : 0 ≤ opened_0 ∧ opened_0 ≤ 13) (kz_0_164 : 0 ≤ styleKind_0 ∧ styleKind_0 ≤ 1) (kz_0_165 : (-1) ≤ styleOne_0 ∧ styleOne_0 ≤ 47) (ex2 : gx = cur_0) (ex3 : 0 ≤ gx ∧ gx ≤ 2009) (ey2 : gy = fault_0) (ey3 : 0 ≤ gy ∧ gy ≤ 5) (eu2 : gu = opened_0) (eu3 : 0 ≤ gu ∧ gu ≤ 13) : 1 * opened_0 + 0 ≤ 0 := by
  first | assumption | (clear f0 f3 hK_0_160; omega) | (clear hK_0_160; grind) | omega | grind
set_option maxHeartbeats 4000000 in
theorem vc_Mo_both_at_f0_0_7 (x1 : Int) (x2 : Int) (x3 : Int) (tokenKind_0 : Int → Int) (cur_0 : Int) (tokens_0 : Int) (styleKind_0 : Int) (styleOne_0 : Int) (opened_0 : Int) (fault_0 : Int) (gx : Int) (gy : Int) (gu : Int) (k1 : 0 ≤ x1 ∧ x1 ≤ 2009) (k2 : 0 ≤ x2 ∧ x2 ≤ 5) (k3 : 0 ≤ x3 ∧ x3 ≤ 13) (f0 : ((cur_0 + 1) ≤ tokens_0) ∧ ((tokens_0 ≤ 2010) ∧ ((tokenKind_0 ((tokens_0 - 1)) = 0) ∨ (tokenKind_0 ((tokens_0 - 1)) = 4)))) (f1 : 1 * cur_0 + ((-1) * x1 + 0) ≤ 0) (f2 : (-1) * cur_0 + (1 * x1 + 0) ≤ 0) (f3 : (styleKind_0 = 0) → (styleOne_0 ≤ 23)) (f4 : 1 * opened_0 + 0 ≤ 0) (f5 : (-1) * opened_0 + 0 ≤ 0) (f6 : fault_0 = x2) (f7 : opened_0 = x3) (hK_0_160 : ∀ j : Int, 0 ≤ j → j < 2010 → 0 ≤ tokenKind_0 j ∧ tokenKind_0 j ≤ 4) (kz_0_8 : 0 ≤ fault_0 ∧ fault_0 ≤ 5) (kz_0_157 : 0 ≤ tokens_0 ∧ tokens_0 ≤ 2010) (kz_0_158 : 0 ≤ cur_0 ∧ cur_0 ≤ 2009) (kz_0_159 : 0 ≤ opened_0 ∧ opened_0 ≤ 13) (kz_0_164 : 0 ≤ styleKind_0 ∧ styleKind_0 ≤ 1) (kz_0_165 : (-1) ≤ styleOne_0 ∧ styleOne_0 ≤ 47) (ex2 : gx = cur_0) (ex3 : 0 ≤ gx ∧ gx ≤ 2009) (ey2 : gy = fault_0) (ey3 : 0 ≤ gy ∧ gy ≤ 5) (eu2 : gu = opened_0) (eu3 : 0 ≤ gu ∧ gu ≤ 13) : (-1) * opened_0 + 0 ≤ 0 := by
  first | assumption | (clear f0 f3 hK_0_160; omega) | (clear hK_0_160; grind) | omega | grind
set_option maxHeartbeats 4000000 in
theorem vc_Mo_both_at_f0_0_8 (x1 : Int) (x2 : Int) (x3 : Int) (tokenKind_0 : Int → Int) (cur_0 : Int) (tokens_0 : Int) (styleKind_0 : Int) (styleOne_0 : Int) (opened_0 : Int) (fault_0 : Int) (gx : Int) (gy : Int) (gu : Int) (k1 : 0 ≤ x1 ∧ x1 ≤ 2009) (k2 : 0 ≤ x2 ∧ x2 ≤ 5) (k3 : 0 ≤ x3 ∧ x3 ≤ 13) (f0 : ((cur_0 + 1) ≤ tokens_0) ∧ ((tokens_0 ≤ 2010) ∧ ((tokenKind_0 ((tokens_0 - 1)) = 0) ∨ (tokenKind_0 ((tokens_0 - 1)) = 4)))) (f1 : 1 * cur_0 + ((-1) * x1 + 0) ≤ 0) (f2 : (-1) * cur_0 + (1 * x1 + 0) ≤ 0) (f3 : (styleKind_0 = 0) → (styleOne_0 ≤ 23)) (f4 : 1 * opened_0 + 0 ≤ 0) (f5 : (-1) * opened_0 + 0 ≤ 0) (f6 : fault_0 = x2) (f7 : opened_0 = x3) (hK_0_160 : ∀ j : Int, 0 ≤ j → j < 2010 → 0 ≤ tokenKind_0 j ∧ tokenKind_0 j ≤ 4) (kz_0_8 : 0 ≤ fault_0 ∧ fault_0 ≤ 5) (kz_0_157 : 0 ≤ tokens_0 ∧ tokens_0 ≤ 2010) (kz_0_158 : 0 ≤ cur_0 ∧ cur_0 ≤ 2009) (kz_0_159 : 0 ≤ opened_0 ∧ opened_0 ≤ 13) (kz_0_164 : 0 ≤ styleKind_0 ∧ styleKind_0 ≤ 1) (kz_0_165 : (-1) ≤ styleOne_0 ∧ styleOne_0 ≤ 47) (ex2 : gx = cur_0) (ex3 : 0 ≤ gx ∧ gx ≤ 2009) (ey2 : gy = fault_0) (ey3 : 0 ≤ gy ∧ gy ≤ 5) (eu2 : gu = opened_0) (eu3 : 0 ≤ gu ∧ gu ≤ 13) : fault_0 = gy := by
  first | assumption | (clear f0 f3 hK_0_160; omega) | (clear hK_0_160; grind) | omega | grind
set_option maxHeartbeats 4000000 in
theorem vc_Mo_both_at_f0_0_9 (x1 : Int) (x2 : Int) (x3 : Int) (tokenKind_0 : Int → Int) (cur_0 : Int) (tokens_0 : Int) (styleKind_0 : Int) (styleOne_0 : Int) (opened_0 : Int) (fault_0 : Int) (gx : Int) (gy : Int) (gu : Int) (k1 : 0 ≤ x1 ∧ x1 ≤ 2009) (k2 : 0 ≤ x2 ∧ x2 ≤ 5) (k3 : 0 ≤ x3 ∧ x3 ≤ 13) (f0 : ((cur_0 + 1) ≤ tokens_0) ∧ ((tokens_0 ≤ 2010) ∧ ((tokenKind_0 ((tokens_0 - 1)) = 0) ∨ (tokenKind_0 ((tokens_0 - 1)) = 4)))) (f1 : 1 * cur_0 + ((-1) * x1 + 0) ≤ 0) (f2 : (-1) * cur_0 + (1 * x1 + 0) ≤ 0) (f3 : (styleKind_0 = 0) → (styleOne_0 ≤ 23)) (f4 : 1 * opened_0 + 0 ≤ 0) (f5 : (-1) * opened_0 + 0 ≤ 0) (f6 : fault_0 = x2) (f7 : opened_0 = x3) (hK_0_160 : ∀ j : Int, 0 ≤ j → j < 2010 → 0 ≤ tokenKind_0 j ∧ tokenKind_0 j ≤ 4) (kz_0_8 : 0 ≤ fault_0 ∧ fault_0 ≤ 5) (kz_0_157 : 0 ≤ tokens_0 ∧ tokens_0 ≤ 2010) (kz_0_158 : 0 ≤ cur_0 ∧ cur_0 ≤ 2009) (kz_0_159 : 0 ≤ opened_0 ∧ opened_0 ≤ 13) (kz_0_164 : 0 ≤ styleKind_0 ∧ styleKind_0 ≤ 1) (kz_0_165 : (-1) ≤ styleOne_0 ∧ styleOne_0 ≤ 47) (ex2 : gx = cur_0) (ex3 : 0 ≤ gx ∧ gx ≤ 2009) (ey2 : gy = fault_0) (ey3 : 0 ≤ gy ∧ gy ≤ 5) (eu2 : gu = opened_0) (eu3 : 0 ≤ gu ∧ gu ≤ 13) : opened_0 = gu := by
  first | assumption | (clear f0 f3 hK_0_160; omega) | (clear hK_0_160; grind) | omega | grind
set_option maxHeartbeats 4000000 in
theorem vc_Mo_both_at_f0_0_10 (x1 : Int) (x2 : Int) (x3 : Int) (tokenKind_0 : Int → Int) (cur_0 : Int) (tokens_0 : Int) (styleKind_0 : Int) (styleOne_0 : Int) (opened_0 : Int) (fault_0 : Int) (gx : Int) (gy : Int) (gu : Int) (k1 : 0 ≤ x1 ∧ x1 ≤ 2009) (k2 : 0 ≤ x2 ∧ x2 ≤ 5) (k3 : 0 ≤ x3 ∧ x3 ≤ 13) (f0 : ((cur_0 + 1) ≤ tokens_0) ∧ ((tokens_0 ≤ 2010) ∧ ((tokenKind_0 ((tokens_0 - 1)) = 0) ∨ (tokenKind_0 ((tokens_0 - 1)) = 4)))) (f1 : 1 * cur_0 + ((-1) * x1 + 0) ≤ 0) (f2 : (-1) * cur_0 + (1 * x1 + 0) ≤ 0) (f3 : (styleKind_0 = 0) → (styleOne_0 ≤ 23)) (f4 : 1 * opened_0 + 0 ≤ 0) (f5 : (-1) * opened_0 + 0 ≤ 0) (f6 : fault_0 = x2) (f7 : opened_0 = x3) (hK_0_160 : ∀ j : Int, 0 ≤ j → j < 2010 → 0 ≤ tokenKind_0 j ∧ tokenKind_0 j ≤ 4) (kz_0_8 : 0 ≤ fault_0 ∧ fault_0 ≤ 5) (kz_0_157 : 0 ≤ tokens_0 ∧ tokens_0 ≤ 2010) (kz_0_158 : 0 ≤ cur_0 ∧ cur_0 ≤ 2009) (kz_0_159 : 0 ≤ opened_0 ∧ opened_0 ≤ 13) (kz_0_164 : 0 ≤ styleKind_0 ∧ styleKind_0 ≤ 1) (kz_0_165 : (-1) ≤ styleOne_0 ∧ styleOne_0 ≤ 47) (ex2 : gx = cur_0) (ex3 : 0 ≤ gx ∧ gx ≤ 2009) (ey2 : gy = fault_0) (ey3 : 0 ≤ gy ∧ gy ≤ 5) (eu2 : gu = opened_0) (eu3 : 0 ≤ gu ∧ gu ≤ 13) : 1 * x1 + ((-1) * gx + 0) ≤ 0 := by
  first | assumption | (clear f0 f3 hK_0_160; omega) | (clear hK_0_160; grind) | omega | grind
set_option maxHeartbeats 4000000 in
theorem vc_Mo_both_at_f0_0_11 (x1 : Int) (x2 : Int) (x3 : Int) (tokenKind_0 : Int → Int) (cur_0 : Int) (tokens_0 : Int) (styleKind_0 : Int) (styleOne_0 : Int) (opened_0 : Int) (fault_0 : Int) (gx : Int) (gy : Int) (gu : Int) (k1 : 0 ≤ x1 ∧ x1 ≤ 2009) (k2 : 0 ≤ x2 ∧ x2 ≤ 5) (k3 : 0 ≤ x3 ∧ x3 ≤ 13) (f0 : ((cur_0 + 1) ≤ tokens_0) ∧ ((tokens_0 ≤ 2010) ∧ ((tokenKind_0 ((tokens_0 - 1)) = 0) ∨ (tokenKind_0 ((tokens_0 - 1)) = 4)))) (f1 : 1 * cur_0 + ((-1) * x1 + 0) ≤ 0) (f2 : (-1) * cur_0 + (1 * x1 + 0) ≤ 0) (f3 : (styleKind_0 = 0) → (styleOne_0 ≤ 23)) (f4 : 1 * opened_0 + 0 ≤ 0) (f5 : (-1) * opened_0 + 0 ≤ 0) (f6 : fault_0 = x2) (f7 : opened_0 = x3) (hK_0_160 : ∀ j : Int, 0 ≤ j → j < 2010 → 0 ≤ tokenKind_0 j ∧ tokenKind_0 j ≤ 4) (kz_0_8 : 0 ≤ fault_0 ∧ fault_0 ≤ 5) (kz_0_157 : 0 ≤ tokens_0 ∧ tokens_0 ≤ 2010) (kz_0_158 : 0 ≤ cur_0 ∧ cur_0 ≤ 2009) (kz_0_159 : 0 ≤ opened_0 ∧ opened_0 ≤ 13) (kz_0_164 : 0 ≤ styleKind_0 ∧ styleKind_0 ≤ 1) (kz_0_165 : (-1) ≤ styleOne_0 ∧ styleOne_0 ≤ 47) (ex2 : gx = cur_0) (ex3 : 0 ≤ gx ∧ gx ≤ 2009) (ey2 : gy = fault_0) (ey3 : 0 ≤ gy ∧ gy ≤ 5) (eu2 : gu = opened_0) (eu3 : 0 ≤ gu ∧ gu ≤ 13) : gx = x1 := by
  first | assumption | (clear f0 f3 hK_0_160; omega) | (clear hK_0_160; grind) | omega | grind
set_option maxHeartbeats 4000000 in
theorem vc_Mo_both_at_f0_0_12 (x1 : Int) (x2 : Int) (x3 : Int) (tokenKind_0 : Int → Int) (cur_0 : Int) (tokens_0 : Int) (styleKind_0 : Int) (styleOne_0 : Int) (opened_0 : Int) (fault_0 : Int) (gx : Int) (gy : Int) (gu : Int) (k1 : 0 ≤ x1 ∧ x1 ≤ 2009) (k2 : 0 ≤ x2 ∧ x2 ≤ 5) (k3 : 0 ≤ x3 ∧ x3 ≤ 13) (f0 : ((cur_0 + 1) ≤ tokens_0) ∧ ((tokens_0 ≤ 2010) ∧ ((tokenKind_0 ((tokens_0 - 1)) = 0) ∨ (tokenKind_0 ((tokens_0 - 1)) = 4)))) (f1 : 1 * cur_0 + ((-1) * x1 + 0) ≤ 0) (f2 : (-1) * cur_0 + (1 * x1 + 0) ≤ 0) (f3 : (styleKind_0 = 0) → (styleOne_0 ≤ 23)) (f4 : 1 * opened_0 + 0 ≤ 0) (f5 : (-1) * opened_0 + 0 ≤ 0) (f6 : fault_0 = x2) (f7 : opened_0 = x3) (hK_0_160 : ∀ j : Int, 0 ≤ j → j < 2010 → 0 ≤ tokenKind_0 j ∧ tokenKind_0 j ≤ 4) (kz_0_8 : 0 ≤ fault_0 ∧ fault_0 ≤ 5) (kz_0_157 : 0 ≤ tokens_0 ∧ tokens_0 ≤ 2010) (kz_0_158 : 0 ≤ cur_0 ∧ cur_0 ≤ 2009) (kz_0_159 : 0 ≤ opened_0 ∧ opened_0 ≤ 13) (kz_0_164 : 0 ≤ styleKind_0 ∧ styleKind_0 ≤ 1) (kz_0_165 : (-1) ≤ styleOne_0 ∧ styleOne_0 ≤ 47) (ex2 : gx = cur_0) (ex3 : 0 ≤ gx ∧ gx ≤ 2009) (ey2 : gy = fault_0) (ey3 : 0 ≤ gy ∧ gy ≤ 5) (eu2 : gu = opened_0) (eu3 : 0 ≤ gu ∧ gu ≤ 13) : gy = x2 := by
  first | assumption | (clear f0 f3 hK_0_160; omega) | (clear hK_0_160; grind) | omega | grind
set_option maxHeartbeats 4000000 in
theorem vc_Mo_both_at_f0_0_13 (x1 : Int) (x2 : Int) (x3 : Int) (tokenKind_0 : Int → Int) (cur_0 : Int) (tokens_0 : Int) (styleKind_0 : Int) (styleOne_0 : Int) (opened_0 : Int) (fault_0 : Int) (gx : Int) (gy : Int) (gu : Int) (k1 : 0 ≤ x1 ∧ x1 ≤ 2009) (k2 : 0 ≤ x2 ∧ x2 ≤ 5) (k3 : 0 ≤ x3 ∧ x3 ≤ 13) (f0 : ((cur_0 + 1) ≤ tokens_0) ∧ ((tokens_0 ≤ 2010) ∧ ((tokenKind_0 ((tokens_0 - 1)) = 0) ∨ (tokenKind_0 ((tokens_0 - 1)) = 4)))) (f1 : 1 * cur_0 + ((-1) * x1 + 0) ≤ 0) (f2 : (-1) * cur_0 + (1 * x1 + 0) ≤ 0) (f3 : (styleKind_0 = 0) → (styleOne_0 ≤ 23)) (f4 : 1 * opened_0 + 0 ≤ 0) (f5 : (-1) * opened_0 + 0 ≤ 0) (f6 : fault_0 = x2) (f7 : opened_0 = x3) (hK_0_160 : ∀ j : Int, 0 ≤ j → j < 2010 → 0 ≤ tokenKind_0 j ∧ tokenKind_0 j ≤ 4) (kz_0_8 : 0 ≤ fault_0 ∧ fault_0 ≤ 5) (kz_0_157 : 0 ≤ tokens_0 ∧ tokens_0 ≤ 2010) (kz_0_158 : 0 ≤ cur_0 ∧ cur_0 ≤ 2009) (kz_0_159 : 0 ≤ opened_0 ∧ opened_0 ≤ 13) (kz_0_164 : 0 ≤ styleKind_0 ∧ styleKind_0 ≤ 1) (kz_0_165 : (-1) ≤ styleOne_0 ∧ styleOne_0 ≤ 47) (ex2 : gx = cur_0) (ex3 : 0 ≤ gx ∧ gx ≤ 2009) (ey2 : gy = fault_0) (ey3 : 0 ≤ gy ∧ gy ≤ 5) (eu2 : gu = opened_0) (eu3 : 0 ≤ gu ∧ gu ≤ 13) : gu = x3 := by
  first | assumption | (clear f0 f3 hK_0_160; omega) | (clear hK_0_160; grind) | omega | grind
def o_Mo_both_at_f0_0 : or_T := (1, 4, [(0, (2, 0, 0, [165])), (1, (0, 0, 2009, [])), (2, (0, 0, 5, [])), (3, (0, 0, 13, []))], [(20, [0], [50, 2, 1, 158, 157, 160, 2, 12, 0, 7, 4, 3, 2, 0, 158, 0, 1, 2, 0, 157, 2, 7, 0, 3, 2, 0, 157, 0, 2010, 3, 14, 1, 10, 3, 0, 160, 5, 3, 2, 0, 157, 0, 1, 0, 0, 1, 10, 3, 0, 160, 5, 3, 2, 0, 157, 0, 1, 0, 4]), (20, [0, 1], [30, 0, 1, 1, 158, -1, 0, 0]), (20, [0, 1], [30, 0, -1, 1, 158, 1, 0, 0]), (20, [0], [50, 2, 0, 164, 165, 4, 7, 1, 3, 2, 0, 164, 0, 0, 0, 3, 2, 0, 165, 0, 23]), (20, [0], [30, 0, 1, 1, 159]), (20, [0], [30, 0, -1, 1, 159]), (20, [0, 2], [50, 1, 0, 8, 1, 3, 2, 0, 8, 1, 1]), (20, [0, 3], [50, 1, 0, 159, 1, 3, 2, 0, 159, 1, 1])], [], [(0, 0, 2009, []), (0, 0, 5, []), (0, 0, 13, [])], [(23, [3], [0, 1]), (23, [3], [0, -1]), (20, [0], [50, 2, 1, 158, 157, 160, 2, 12, 0, 7, 4, 3, 2, 0, 158, 0, 1, 2, 0, 157, 2, 7, 0, 3, 2, 0, 157, 0, 2010, 3, 14, 1, 10, 3, 0, 160, 5, 3, 2, 0, 157, 0, 1, 0, 0, 1, 10, 3, 0, 160, 5, 3, 2, 0, 157, 0, 1, 0, 4]), (20, [0, 4], [30, 0, 1, 1, 158, -1, 0, 0]), (20, [0, 4], [30, 0, -1, 1, 158, 1, 0, 0]), (20, [0], [50, 2, 0, 164, 165, 4, 7, 1, 3, 2, 0, 164, 0, 0, 0, 3, 2, 0, 165, 0, 23]), (20, [0], [30, 0, 1, 1, 159]), (20, [0], [30, 0, -1, 1, 159]), (20, [0, 5], [50, 1, 0, 8, 1, 3, 2, 0, 8, 1, 1]), (20, [0, 6], [50, 1, 0, 159, 1, 3, 2, 0, 159, 1, 1]), (23, [1, 4], [0, 1, -1]), (20, [4, 1], [50, 0, 0, 1, 2, 1, 0, 1, 1]), (20, [5, 2], [50, 0, 0, 1, 2, 1, 0, 1, 1]), (20, [6, 3], [50, 0, 0, 1, 2, 1, 0, 1, 1])], [], [])
theorem oo_Mo_both_at_f0_0 {kA : Nat → ClassId} : or_ok PRD kA GG o_Mo_both_at_f0_0 := by
  refine or_mk fun A ta ws vs hD hth hl => ?_
  intro t0 r0 t1 k1 t2 k2 t3 k3 f0 f1 f2 f3 f4 f5 f6 f7
  replace f0 := shm_296 f0
  replace f1 := shm_297 f1
  replace f2 := shm_298 f2
  replace f3 := shm_299 f3
  replace f4 := shm_999 f4
  replace f5 := shm_1000 f5
  replace f6 := shm_302 f6
  replace f7 := shm_303 f7
  have cr_0_160 := fdq_41 hD hth r0
  have hK_0_160 := elq_5 hD hth cr_0_160
  have kz_0_8 := fdq_14 hD hth r0
  have kz_0_157 := fdq_42 hD hth r0
  have kz_0_158 := fdq_43 hD hth r0
  have kz_0_159 := fdq_44 hD hth r0
  have kz_0_164 := fdq_45 hD hth r0
  have kz_0_165 := fdq_35 hD hth r0
  obtain ⟨x, ex, hx⟩ := iv_ex (ta := ta) (lo := 0) (hi := 2009) (z := w_fi ws (n_v vs 0) 158) (by omega) (by omega) (by omega) (by omega)
  have ex2 : v_iv (Value.int x) = w_fi ws (n_v vs 0) 158 := ex
  have ex3 : 0 ≤ v_iv (Value.int x) ∧ v_iv (Value.int x) ≤ 2009 := tv_rng hx
  obtain ⟨y, ey, hy⟩ := iv_ex (ta := ta) (lo := 0) (hi := 5) (z := w_fi ws (n_v vs 0) 8) (by omega) (by omega) (by omega) (by omega)
  have ey2 : v_iv (Value.int y) = w_fi ws (n_v vs 0) 8 := ey
  have ey3 : 0 ≤ v_iv (Value.int y) ∧ v_iv (Value.int y) ≤ 5 := tv_rng hy
  obtain ⟨u, eu, hu⟩ := iv_ex (ta := ta) (lo := 0) (hi := 13) (z := w_fi ws (n_v vs 0) 159) (by omega) (by omega) (by omega) (by omega)
  have eu2 : v_iv (Value.int u) = w_fi ws (n_v vs 0) 159 := eu
  have eu3 : 0 ≤ v_iv (Value.int u) ∧ v_iv (Value.int u) ≤ 13 := tv_rng hu
  have e_0 : n_v (vs ++ [Value.int x, Value.int y, Value.int u]) 0 = n_v vs 0 := n_v_old (by rw [hl]; decide)
  have e_1 : n_v (vs ++ [Value.int x, Value.int y, Value.int u]) 1 = n_v vs 1 := n_v_old (by rw [hl]; decide)
  have e_2 : n_v (vs ++ [Value.int x, Value.int y, Value.int u]) 2 = n_v vs 2 := n_v_old (by rw [hl]; decide)
  have e_3 : n_v (vs ++ [Value.int x, Value.int y, Value.int u]) 3 = n_v vs 3 := n_v_old (by rw [hl]; decide)
  have e_4 : n_v (vs ++ [Value.int x, Value.int y, Value.int u]) 4 = Value.int x := n_v_newk (k := 0) hl rfl
  have e_5 : n_v (vs ++ [Value.int x, Value.int y, Value.int u]) 5 = Value.int y := n_v_newk (k := 1) hl rfl
  have e_6 : n_v (vs ++ [Value.int x, Value.int y, Value.int u]) 6 = Value.int u := n_v_newk (k := 2) hl rfl
  have nf0 : fc_1 PRD (23, [3], [0, 1]) ws (vs ++ [Value.int x, Value.int y, Value.int u]) := by
    refine ⟨nf_inA hl rfl, sgq_1477 ?_⟩
    · show 1 * v_iv (n_v (vs ++ [Value.int x, Value.int y, Value.int u]) 3) + 0 ≤ 0
      rw [e_3]
      exact vc_Mo_both_at_f0_0_0 (v_iv (n_v vs 1)) (v_iv (n_v vs 2)) (v_iv (n_v vs 3)) (w_ei ws (w_ar ws (n_v vs 0) 160)) (w_fi ws (n_v vs 0) 158) (w_fi ws (n_v vs 0) 157) (w_fi ws (n_v vs 0) 164) (w_fi ws (n_v vs 0) 165) (w_fi ws (n_v vs 0) 159) (w_fi ws (n_v vs 0) 8) (v_iv (Value.int x)) (v_iv (Value.int y)) (v_iv (Value.int u)) k1 k2 k3 f0 f1 f2 f3 f4 f5 f6 f7 hK_0_160 kz_0_8 kz_0_157 kz_0_158 kz_0_159 kz_0_164 kz_0_165 ex2 ex3 ey2 ey3 eu2 eu3
  have nf1 : fc_1 PRD (23, [3], [0, -1]) ws (vs ++ [Value.int x, Value.int y, Value.int u]) := by
    refine ⟨nf_inA hl rfl, sgq_1013 ?_⟩
    · show (-1) * v_iv (n_v (vs ++ [Value.int x, Value.int y, Value.int u]) 3) + 0 ≤ 0
      rw [e_3]
      exact vc_Mo_both_at_f0_0_1 (v_iv (n_v vs 1)) (v_iv (n_v vs 2)) (v_iv (n_v vs 3)) (w_ei ws (w_ar ws (n_v vs 0) 160)) (w_fi ws (n_v vs 0) 158) (w_fi ws (n_v vs 0) 157) (w_fi ws (n_v vs 0) 164) (w_fi ws (n_v vs 0) 165) (w_fi ws (n_v vs 0) 159) (w_fi ws (n_v vs 0) 8) (v_iv (Value.int x)) (v_iv (Value.int y)) (v_iv (Value.int u)) k1 k2 k3 f0 f1 f2 f3 f4 f5 f6 f7 hK_0_160 kz_0_8 kz_0_157 kz_0_158 kz_0_159 kz_0_164 kz_0_165 ex2 ex3 ey2 ey3 eu2 eu3
  have nf2 : fc_1 PRD (20, [0], [50, 2, 1, 158, 157, 160, 2, 12, 0, 7, 4, 3, 2, 0, 158, 0, 1, 2, 0, 157, 2, 7, 0, 3, 2, 0, 157, 0, 2010, 3, 14, 1, 10, 3, 0, 160, 5, 3, 2, 0, 157, 0, 1, 0, 0, 1, 10, 3, 0, 160, 5, 3, 2, 0, 157, 0, 1, 0, 4]) ws (vs ++ [Value.int x, Value.int y, Value.int u]) := by
    refine ⟨nf_inA hl rfl, sgq_296 ?_⟩
    · show ((w_fi ws (n_v (vs ++ [Value.int x, Value.int y, Value.int u]) 0) 158 + 1) ≤ w_fi ws (n_v (vs ++ [Value.int x, Value.int y, Value.int u]) 0) 157) ∧ ((w_fi ws (n_v (vs ++ [Value.int x, Value.int y, Value.int u]) 0) 157 ≤ 2010) ∧ ((w_ei ws (w_ar ws (n_v (vs ++ [Value.int x, Value.int y, Value.int u]) 0) 160) ((w_fi ws (n_v (vs ++ [Value.int x, Value.int y, Value.int u]) 0) 157 - 1)) = 0) ∨ (w_ei ws (w_ar ws (n_v (vs ++ [Value.int x, Value.int y, Value.int u]) 0) 160) ((w_fi ws (n_v (vs ++ [Value.int x, Value.int y, Value.int u]) 0) 157 - 1)) = 4)))
      rw [e_0]
      exact vc_Mo_both_at_f0_0_2 (v_iv (n_v vs 1)) (v_iv (n_v vs 2)) (v_iv (n_v vs 3)) (w_ei ws (w_ar ws (n_v vs 0) 160)) (w_fi ws (n_v vs 0) 158) (w_fi ws (n_v vs 0) 157) (w_fi ws (n_v vs 0) 164) (w_fi ws (n_v vs 0) 165) (w_fi ws (n_v vs 0) 159) (w_fi ws (n_v vs 0) 8) (v_iv (Value.int x)) (v_iv (Value.int y)) (v_iv (Value.int u)) k1 k2 k3 f0 f1 f2 f3 f4 f5 f6 f7 hK_0_160 kz_0_8 kz_0_157 kz_0_158 kz_0_159 kz_0_164 kz_0_165 ex2 ex3 ey2 ey3 eu2 eu3
  have nf3 : fc_1 PRD (20, [0, 4], [30, 0, 1, 1, 158, -1, 0, 0]) ws (vs ++ [Value.int x, Value.int y, Value.int u]) := by
    refine ⟨nf_inA hl rfl, sgq_297 ?_⟩
    · show 1 * w_fi ws (n_v (vs ++ [Value.int x, Value.int y, Value.int u]) 0) 158 + ((-1) * v_iv (n_v (vs ++ [Value.int x, Value.int y, Value.int u]) 4) + 0) ≤ 0
      simp only [e_0, e_4]
      exact vc_Mo_both_at_f0_0_3 (v_iv (n_v vs 1)) (v_iv (n_v vs 2)) (v_iv (n_v vs 3)) (w_ei ws (w_ar ws (n_v vs 0) 160)) (w_fi ws (n_v vs 0) 158) (w_fi ws (n_v vs 0) 157) (w_fi ws (n_v vs 0) 164) (w_fi ws (n_v vs 0) 165) (w_fi ws (n_v vs 0) 159) (w_fi ws (n_v vs 0) 8) (v_iv (Value.int x)) (v_iv (Value.int y)) (v_iv (Value.int u)) k1 k2 k3 f0 f1 f2 f3 f4 f5 f6 f7 hK_0_160 kz_0_8 kz_0_157 kz_0_158 kz_0_159 kz_0_164 kz_0_165 ex2 ex3 ey2 ey3 eu2 eu3
  have nf4 : fc_1 PRD (20, [0, 4], [30, 0, -1, 1, 158, 1, 0, 0]) ws (vs ++ [Value.int x, Value.int y, Value.int u]) := by
    refine ⟨nf_inA hl rfl, sgq_298 ?_⟩
    · show (-1) * w_fi ws (n_v (vs ++ [Value.int x, Value.int y, Value.int u]) 0) 158 + (1 * v_iv (n_v (vs ++ [Value.int x, Value.int y, Value.int u]) 4) + 0) ≤ 0
      simp only [e_0, e_4]
      exact vc_Mo_both_at_f0_0_4 (v_iv (n_v vs 1)) (v_iv (n_v vs 2)) (v_iv (n_v vs 3)) (w_ei ws (w_ar ws (n_v vs 0) 160)) (w_fi ws (n_v vs 0) 158) (w_fi ws (n_v vs 0) 157) (w_fi ws (n_v vs 0) 164) (w_fi ws (n_v vs 0) 165) (w_fi ws (n_v vs 0) 159) (w_fi ws (n_v vs 0) 8) (v_iv (Value.int x)) (v_iv (Value.int y)) (v_iv (Value.int u)) k1 k2 k3 f0 f1 f2 f3 f4 f5 f6 f7 hK_0_160 kz_0_8 kz_0_157 kz_0_158 kz_0_159 kz_0_164 kz_0_165 ex2 ex3 ey2 ey3 eu2 eu3
  have nf5 : fc_1 PRD (20, [0], [50, 2, 0, 164, 165, 4, 7, 1, 3, 2, 0, 164, 0, 0, 0, 3, 2, 0, 165, 0, 23]) ws (vs ++ [Value.int x, Value.int y, Value.int u]) := by
    refine ⟨nf_inA hl rfl, sgq_299 ?_⟩
    · show (w_fi ws (n_v (vs ++ [Value.int x, Value.int y, Value.int u]) 0) 164 = 0) → (w_fi ws (n_v (vs ++ [Value.int x, Value.int y, Value.int u]) 0) 165 ≤ 23)
      rw [e_0]
      exact vc_Mo_both_at_f0_0_5 (v_iv (n_v vs 1)) (v_iv (n_v vs 2)) (v_iv (n_v vs 3)) (w_ei ws (w_ar ws (n_v vs 0) 160)) (w_fi ws (n_v vs 0) 158) (w_fi ws (n_v vs 0) 157) (w_fi ws (n_v vs 0) 164) (w_fi ws (n_v vs 0) 165) (w_fi ws (n_v vs 0) 159) (w_fi ws (n_v vs 0) 8) (v_iv (Value.int x)) (v_iv (Value.int y)) (v_iv (Value.int u)) k1 k2 k3 f0 f1 f2 f3 f4 f5 f6 f7 hK_0_160 kz_0_8 kz_0_157 kz_0_158 kz_0_159 kz_0_164 kz_0_165 ex2 ex3 ey2 ey3 eu2 eu3
  have nf6 : fc_1 PRD (20, [0], [30, 0, 1, 1, 159]) ws (vs ++ [Value.int x, Value.int y, Value.int u]) := by
    refine ⟨nf_inA hl rfl, sgq_999 ?_⟩
    · show 1 * w_fi ws (n_v (vs ++ [Value.int x, Value.int y, Value.int u]) 0) 159 + 0 ≤ 0
      rw [e_0]
      exact vc_Mo_both_at_f0_0_6 (v_iv (n_v vs 1)) (v_iv (n_v vs 2)) (v_iv (n_v vs 3)) (w_ei ws (w_ar ws (n_v vs 0) 160)) (w_fi ws (n_v vs 0) 158) (w_fi ws (n_v vs 0) 157) (w_fi ws (n_v vs 0) 164) (w_fi ws (n_v vs 0) 165) (w_fi ws (n_v vs 0) 159) (w_fi ws (n_v vs 0) 8) (v_iv (Value.int x)) (v_iv (Value.int y)) (v_iv (Value.int u)) k1 k2 k3 f0 f1 f2 f3 f4 f5 f6 f7 hK_0_160 kz_0_8 kz_0_157 kz_0_158 kz_0_159 kz_0_164 kz_0_165 ex2 ex3 ey2 ey3 eu2 eu3
  have nf7 : fc_1 PRD (20, [0], [30, 0, -1, 1, 159]) ws (vs ++ [Value.int x, Value.int y, Value.int u]) := by
    refine ⟨nf_inA hl rfl, sgq_1000 ?_⟩
    · show (-1) * w_fi ws (n_v (vs ++ [Value.int x, Value.int y, Value.int u]) 0) 159 + 0 ≤ 0
      rw [e_0]
      exact vc_Mo_both_at_f0_0_7 (v_iv (n_v vs 1)) (v_iv (n_v vs 2)) (v_iv (n_v vs 3)) (w_ei ws (w_ar ws (n_v vs 0) 160)) (w_fi ws (n_v vs 0) 158) (w_fi ws (n_v vs 0) 157) (w_fi ws (n_v vs 0) 164) (w_fi ws (n_v vs 0) 165) (w_fi ws (n_v vs 0) 159) (w_fi ws (n_v vs 0) 8) (v_iv (Value.int x)) (v_iv (Value.int y)) (v_iv (Value.int u)) k1 k2 k3 f0 f1 f2 f3 f4 f5 f6 f7 hK_0_160 kz_0_8 kz_0_157 kz_0_158 kz_0_159 kz_0_164 kz_0_165 ex2 ex3 ey2 ey3 eu2 eu3
  have nf8 : fc_1 PRD (20, [0, 5], [50, 1, 0, 8, 1, 3, 2, 0, 8, 1, 1]) ws (vs ++ [Value.int x, Value.int y, Value.int u]) := by
    refine ⟨nf_inA hl rfl, sgq_302 ?_⟩
    · show w_fi ws (n_v (vs ++ [Value.int x, Value.int y, Value.int u]) 0) 8 = v_iv (n_v (vs ++ [Value.int x, Value.int y, Value.int u]) 5)
      simp only [e_0, e_5]
      exact vc_Mo_both_at_f0_0_8 (v_iv (n_v vs 1)) (v_iv (n_v vs 2)) (v_iv (n_v vs 3)) (w_ei ws (w_ar ws (n_v vs 0) 160)) (w_fi ws (n_v vs 0) 158) (w_fi ws (n_v vs 0) 157) (w_fi ws (n_v vs 0) 164) (w_fi ws (n_v vs 0) 165) (w_fi ws (n_v vs 0) 159) (w_fi ws (n_v vs 0) 8) (v_iv (Value.int x)) (v_iv (Value.int y)) (v_iv (Value.int u)) k1 k2 k3 f0 f1 f2 f3 f4 f5 f6 f7 hK_0_160 kz_0_8 kz_0_157 kz_0_158 kz_0_159 kz_0_164 kz_0_165 ex2 ex3 ey2 ey3 eu2 eu3
  have nf9 : fc_1 PRD (20, [0, 6], [50, 1, 0, 159, 1, 3, 2, 0, 159, 1, 1]) ws (vs ++ [Value.int x, Value.int y, Value.int u]) := by
    refine ⟨nf_inA hl rfl, sgq_303 ?_⟩
    · show w_fi ws (n_v (vs ++ [Value.int x, Value.int y, Value.int u]) 0) 159 = v_iv (n_v (vs ++ [Value.int x, Value.int y, Value.int u]) 6)
      simp only [e_0, e_6]
      exact vc_Mo_both_at_f0_0_9 (v_iv (n_v vs 1)) (v_iv (n_v vs 2)) (v_iv (n_v vs 3)) (w_ei ws (w_ar ws (n_v vs 0) 160)) (w_fi ws (n_v vs 0) 158) (w_fi ws (n_v vs 0) 157) (w_fi ws (n_v vs 0) 164) (w_fi ws (n_v vs 0) 165) (w_fi ws (n_v vs 0) 159) (w_fi ws (n_v vs 0) 8) (v_iv (Value.int x)) (v_iv (Value.int y)) (v_iv (Value.int u)) k1 k2 k3 f0 f1 f2 f3 f4 f5 f6 f7 hK_0_160 kz_0_8 kz_0_157 kz_0_158 kz_0_159 kz_0_164 kz_0_165 ex2 ex3 ey2 ey3 eu2 eu3
  have nf10 : fc_1 PRD (23, [1, 4], [0, 1, -1]) ws (vs ++ [Value.int x, Value.int y, Value.int u]) := by
    refine ⟨nf_inA hl rfl, sgq_7 ?_⟩
    · show 1 * v_iv (n_v (vs ++ [Value.int x, Value.int y, Value.int u]) 1) + ((-1) * v_iv (n_v (vs ++ [Value.int x, Value.int y, Value.int u]) 4) + 0) ≤ 0
      simp only [e_1, e_4]
      exact vc_Mo_both_at_f0_0_10 (v_iv (n_v vs 1)) (v_iv (n_v vs 2)) (v_iv (n_v vs 3)) (w_ei ws (w_ar ws (n_v vs 0) 160)) (w_fi ws (n_v vs 0) 158) (w_fi ws (n_v vs 0) 157) (w_fi ws (n_v vs 0) 164) (w_fi ws (n_v vs 0) 165) (w_fi ws (n_v vs 0) 159) (w_fi ws (n_v vs 0) 8) (v_iv (Value.int x)) (v_iv (Value.int y)) (v_iv (Value.int u)) k1 k2 k3 f0 f1 f2 f3 f4 f5 f6 f7 hK_0_160 kz_0_8 kz_0_157 kz_0_158 kz_0_159 kz_0_164 kz_0_165 ex2 ex3 ey2 ey3 eu2 eu3
  have nf11 : fc_1 PRD (20, [4, 1], [50, 0, 0, 1, 2, 1, 0, 1, 1]) ws (vs ++ [Value.int x, Value.int y, Value.int u]) := by
    refine ⟨nf_inA hl rfl, sgq_48 ?_⟩
    · show v_iv (n_v (vs ++ [Value.int x, Value.int y, Value.int u]) 4) = v_iv (n_v (vs ++ [Value.int x, Value.int y, Value.int u]) 1)
      simp only [e_1, e_4]
      exact vc_Mo_both_at_f0_0_11 (v_iv (n_v vs 1)) (v_iv (n_v vs 2)) (v_iv (n_v vs 3)) (w_ei ws (w_ar ws (n_v vs 0) 160)) (w_fi ws (n_v vs 0) 158) (w_fi ws (n_v vs 0) 157) (w_fi ws (n_v vs 0) 164) (w_fi ws (n_v vs 0) 165) (w_fi ws (n_v vs 0) 159) (w_fi ws (n_v vs 0) 8) (v_iv (Value.int x)) (v_iv (Value.int y)) (v_iv (Value.int u)) k1 k2 k3 f0 f1 f2 f3 f4 f5 f6 f7 hK_0_160 kz_0_8 kz_0_157 kz_0_158 kz_0_159 kz_0_164 kz_0_165 ex2 ex3 ey2 ey3 eu2 eu3
  have nf12 : fc_1 PRD (20, [5, 2], [50, 0, 0, 1, 2, 1, 0, 1, 1]) ws (vs ++ [Value.int x, Value.int y, Value.int u]) := by
    refine ⟨nf_inA hl rfl, sgq_48 ?_⟩
    · show v_iv (n_v (vs ++ [Value.int x, Value.int y, Value.int u]) 5) = v_iv (n_v (vs ++ [Value.int x, Value.int y, Value.int u]) 2)
      simp only [e_2, e_5]
      exact vc_Mo_both_at_f0_0_12 (v_iv (n_v vs 1)) (v_iv (n_v vs 2)) (v_iv (n_v vs 3)) (w_ei ws (w_ar ws (n_v vs 0) 160)) (w_fi ws (n_v vs 0) 158) (w_fi ws (n_v vs 0) 157) (w_fi ws (n_v vs 0) 164) (w_fi ws (n_v vs 0) 165) (w_fi ws (n_v vs 0) 159) (w_fi ws (n_v vs 0) 8) (v_iv (Value.int x)) (v_iv (Value.int y)) (v_iv (Value.int u)) k1 k2 k3 f0 f1 f2 f3 f4 f5 f6 f7 hK_0_160 kz_0_8 kz_0_157 kz_0_158 kz_0_159 kz_0_164 kz_0_165 ex2 ex3 ey2 ey3 eu2 eu3
  have nf13 : fc_1 PRD (20, [6, 3], [50, 0, 0, 1, 2, 1, 0, 1, 1]) ws (vs ++ [Value.int x, Value.int y, Value.int u]) := by
    refine ⟨nf_inA hl rfl, sgq_48 ?_⟩
    · show v_iv (n_v (vs ++ [Value.int x, Value.int y, Value.int u]) 6) = v_iv (n_v (vs ++ [Value.int x, Value.int y, Value.int u]) 3)
      simp only [e_3, e_6]
      exact vc_Mo_both_at_f0_0_13 (v_iv (n_v vs 1)) (v_iv (n_v vs 2)) (v_iv (n_v vs 3)) (w_ei ws (w_ar ws (n_v vs 0) 160)) (w_fi ws (n_v vs 0) 158) (w_fi ws (n_v vs 0) 157) (w_fi ws (n_v vs 0) 164) (w_fi ws (n_v vs 0) 165) (w_fi ws (n_v vs 0) 159) (w_fi ws (n_v vs 0) 8) (v_iv (Value.int x)) (v_iv (Value.int y)) (v_iv (Value.int u)) k1 k2 k3 f0 f1 f2 f3 f4 f5 f6 f7 hK_0_160 kz_0_8 kz_0_157 kz_0_158 kz_0_159 kz_0_164 kz_0_165 ex2 ex3 ey2 ey3 eu2 eu3
  exact ⟨(fun _ h => (by cases h)), [Value.int x, Value.int y, Value.int u], ag_three hx hy hu, List.forall_mem_cons.mpr ⟨⟨show (23 : Nat) < 100 from by decide, nf0⟩, List.forall_mem_cons.mpr ⟨⟨show (23 : Nat) < 100 from by decide, nf1⟩, List.forall_mem_cons.mpr ⟨⟨show (20 : Nat) < 100 from by decide, nf2⟩, List.forall_mem_cons.mpr ⟨⟨show (20 : Nat) < 100 from by decide, nf3⟩, List.forall_mem_cons.mpr ⟨⟨show (20 : Nat) < 100 from by decide, nf4⟩, List.forall_mem_cons.mpr ⟨⟨show (20 : Nat) < 100 from by decide, nf5⟩, List.forall_mem_cons.mpr ⟨⟨show (20 : Nat) < 100 from by decide, nf6⟩, List.forall_mem_cons.mpr ⟨⟨show (20 : Nat) < 100 from by decide, nf7⟩, List.forall_mem_cons.mpr ⟨⟨show (20 : Nat) < 100 from by decide, nf8⟩, List.forall_mem_cons.mpr ⟨⟨show (20 : Nat) < 100 from by decide, nf9⟩, List.forall_mem_cons.mpr ⟨⟨show (23 : Nat) < 100 from by decide, nf10⟩, List.forall_mem_cons.mpr ⟨⟨show (20 : Nat) < 100 from by decide, nf11⟩, List.forall_mem_cons.mpr ⟨⟨show (20 : Nat) < 100 from by decide, nf12⟩, List.forall_mem_cons.mpr ⟨⟨show (20 : Nat) < 100 from by decide, nf13⟩, (fun _ h => (by cases h))⟩⟩⟩⟩⟩⟩⟩⟩⟩⟩⟩⟩⟩⟩, (fun _ h => (by cases h))⟩
set_option maxHeartbeats 4000000 in
theorem vc_Mo_both_at_f0_1_0 (x1 : Int) (x2 : Int) (x3 : Int) (x4 : Int) (x5 : Int) (x6 : Int) (styleKind_0 : Int) (styleOne_0 : Int) (tokenKind_0 : Int → Int) (cur_0 : Int) (tokens_0 : Int) (opened_0 : Int) (tokenValue_0 : Int → Int) (tokenPlace_0 : Int → Int) (tokenEnd_0 : Int → Int) (tape_0 : Int → Int) (fault_0 : Int) (limit_0 : Int) (gx : Int) (k1 : 0 ≤ x1 ∧ x1 ≤ 2009) (k2 : 0 ≤ x2 ∧ x2 ≤ 5) (k3 : 0 ≤ x3 ∧ x3 ≤ 13) (k4 : 0 ≤ x4 ∧ x4 ≤ 2009) (k5 : 0 ≤ x5 ∧ x5 ≤ 5) (k6 : 0 ≤ x6 ∧ x6 ≤ 13) (f0 : 1 * x3 + 0 ≤ 0) (f1 : (-1) * x3 + 0 ≤ 0) (f2 : (styleKind_0 = 0) → (styleOne_0 ≤ 23)) (f3 : 1 * x1 + ((-1) * x4 + 0) ≤ 0) (f4 : x4 = x1) (f5 : x5 = x2) (f6 : x6 = x3) (f7 : (styleKind_0 = 0) → (styleOne_0 ≤ 23)) (f8 : ((cur_0 + 1) ≤ tokens_0) ∧ ((tokens_0 ≤ 2010) ∧ ((tokenKind_0 ((tokens_0 - 1)) = 0) ∨ (tokenKind_0 ((tokens_0 - 1)) = 4)))) (f9 : 1 * x4 + ((-1) * cur_0 + 0) ≤ 0) (f10 : 1 * opened_0 + 0 ≤ 0) (f11 : (-1) * opened_0 + 0 ≤ 0) (f12 : SON (fault_0) (cur_0) (styleKind_0) (limit_0) (tokenKind_0) (tokenValue_0) (tokenPlace_0) (tokenEnd_0) (tape_0) (x4) (x5) (x6)) (f14 : 1 * x3 + 0 ≤ 0) (f15 : (-1) * x3 + 0 ≤ 0) (f16 : 1 * x1 + ((-1) * x4 + 0) ≤ 0) (hK_0_1 : ∀ j : Int, 0 ≤ j → j < 2000 → (-128) ≤ tape_0 j ∧ tape_0 j ≤ 127) (hK_0_160 : ∀ j : Int, 0 ≤ j → j < 2010 → 0 ≤ tokenKind_0 j ∧ tokenKind_0 j ≤ 4) (hK_0_162 : ∀ j : Int, 0 ≤ j → j < 2010 → 0 ≤ tokenPlace_0 j ∧ tokenPlace_0 j ≤ 2000) (hK_0_163 : ∀ j : Int, 0 ≤ j → j < 2010 → 0 ≤ tokenEnd_0 j ∧ tokenEnd_0 j ≤ 2000) (kz_0_8 : 0 ≤ fault_0 ∧ fault_0 ≤ 5) (kz_0_10 : 0 ≤ limit_0 ∧ limit_0 ≤ 2000) (kz_0_157 : 0 ≤ tokens_0 ∧ tokens_0 ≤ 2010) (kz_0_158 : 0 ≤ cur_0 ∧ cur_0 ≤ 2009) (kz_0_159 : 0 ≤ opened_0 ∧ opened_0 ≤ 13) (kz_0_164 : 0 ≤ styleKind_0 ∧ styleKind_0 ≤ 1) (kz_0_165 : (-1) ≤ styleOne_0 ∧ styleOne_0 ≤ 47) (ex2 : gx = 2010 + ((-1) * cur_0 + 0)) (ex3 : 0 ≤ gx ∧ gx ≤ 2010) : ((cur_0 + 1) ≤ tokens_0) ∧ ((tokens_0 ≤ 2010) ∧ ((tokenKind_0 ((tokens_0 - 1)) = 0) ∨ (tokenKind_0 ((tokens_0 - 1)) = 4))) := by
  first | assumption | (clear f2 f7 f8 hK_0_1 hK_0_160 hK_0_162 hK_0_163; omega) | (clear hK_0_1 hK_0_160 hK_0_162 hK_0_163; grind) | omega | grind
set_option maxHeartbeats 4000000 in
theorem vc_Mo_both_at_f0_1_1 (x1 : Int) (x2 : Int) (x3 : Int) (x4 : Int) (x5 : Int) (x6 : Int) (styleKind_0 : Int) (styleOne_0 : Int) (tokenKind_0 : Int → Int) (cur_0 : Int) (tokens_0 : Int) (opened_0 : Int) (tokenValue_0 : Int → Int) (tokenPlace_0 : Int → Int) (tokenEnd_0 : Int → Int) (tape_0 : Int → Int) (fault_0 : Int) (limit_0 : Int) (gx : Int) (k1 : 0 ≤ x1 ∧ x1 ≤ 2009) (k2 : 0 ≤ x2 ∧ x2 ≤ 5) (k3 : 0 ≤ x3 ∧ x3 ≤ 13) (k4 : 0 ≤ x4 ∧ x4 ≤ 2009) (k5 : 0 ≤ x5 ∧ x5 ≤ 5) (k6 : 0 ≤ x6 ∧ x6 ≤ 13) (f0 : 1 * x3 + 0 ≤ 0) (f1 : (-1) * x3 + 0 ≤ 0) (f2 : (styleKind_0 = 0) → (styleOne_0 ≤ 23)) (f3 : 1 * x1 + ((-1) * x4 + 0) ≤ 0) (f4 : x4 = x1) (f5 : x5 = x2) (f6 : x6 = x3) (f7 : (styleKind_0 = 0) → (styleOne_0 ≤ 23)) (f8 : ((cur_0 + 1) ≤ tokens_0) ∧ ((tokens_0 ≤ 2010) ∧ ((tokenKind_0 ((tokens_0 - 1)) = 0) ∨ (tokenKind_0 ((tokens_0 - 1)) = 4)))) (f9 : 1 * x4 + ((-1) * cur_0 + 0) ≤ 0) (f10 : 1 * opened_0 + 0 ≤ 0) (f11 : (-1) * opened_0 + 0 ≤ 0) (f12 : SON (fault_0) (cur_0) (styleKind_0) (limit_0) (tokenKind_0) (tokenValue_0) (tokenPlace_0) (tokenEnd_0) (tape_0) (x4) (x5) (x6)) (f14 : 1 * x3 + 0 ≤ 0) (f15 : (-1) * x3 + 0 ≤ 0) (f16 : 1 * x1 + ((-1) * x4 + 0) ≤ 0) (hK_0_1 : ∀ j : Int, 0 ≤ j → j < 2000 → (-128) ≤ tape_0 j ∧ tape_0 j ≤ 127) (hK_0_160 : ∀ j : Int, 0 ≤ j → j < 2010 → 0 ≤ tokenKind_0 j ∧ tokenKind_0 j ≤ 4) (hK_0_162 : ∀ j : Int, 0 ≤ j → j < 2010 → 0 ≤ tokenPlace_0 j ∧ tokenPlace_0 j ≤ 2000) (hK_0_163 : ∀ j : Int, 0 ≤ j → j < 2010 → 0 ≤ tokenEnd_0 j ∧ tokenEnd_0 j ≤ 2000) (kz_0_8 : 0 ≤ fault_0 ∧ fault_0 ≤ 5) (kz_0_10 : 0 ≤ limit_0 ∧ limit_0 ≤ 2000) (kz_0_157 : 0 ≤ tokens_0 ∧ tokens_0 ≤ 2010) (kz_0_158 : 0 ≤ cur_0 ∧ cur_0 ≤ 2009) (kz_0_159 : 0 ≤ opened_0 ∧ opened_0 ≤ 13) (kz_0_164 : 0 ≤ styleKind_0 ∧ styleKind_0 ≤ 1) (kz_0_165 : (-1) ≤ styleOne_0 ∧ styleOne_0 ≤ 47) (ex2 : gx = 2010 + ((-1) * cur_0 + 0)) (ex3 : 0 ≤ gx ∧ gx ≤ 2010) : 1 * x1 + ((-1) * cur_0 + 0) ≤ 0 := by
  first | assumption | (clear f2 f7 f8 hK_0_1 hK_0_160 hK_0_162 hK_0_163; omega) | (clear hK_0_1 hK_0_160 hK_0_162 hK_0_163; grind) | omega | grind
set_option maxHeartbeats 4000000 in
theorem vc_Mo_both_at_f0_1_2 (x1 : Int) (x2 : Int) (x3 : Int) (x4 : Int) (x5 : Int) (x6 : Int) (styleKind_0 : Int) (styleOne_0 : Int) (tokenKind_0 : Int → Int) (cur_0 : Int) (tokens_0 : Int) (opened_0 : Int) (tokenValue_0 : Int → Int) (tokenPlace_0 : Int → Int) (tokenEnd_0 : Int → Int) (tape_0 : Int → Int) (fault_0 : Int) (limit_0 : Int) (gx : Int) (k1 : 0 ≤ x1 ∧ x1 ≤ 2009) (k2 : 0 ≤ x2 ∧ x2 ≤ 5) (k3 : 0 ≤ x3 ∧ x3 ≤ 13) (k4 : 0 ≤ x4 ∧ x4 ≤ 2009) (k5 : 0 ≤ x5 ∧ x5 ≤ 5) (k6 : 0 ≤ x6 ∧ x6 ≤ 13) (f0 : 1 * x3 + 0 ≤ 0) (f1 : (-1) * x3 + 0 ≤ 0) (f2 : (styleKind_0 = 0) → (styleOne_0 ≤ 23)) (f3 : 1 * x1 + ((-1) * x4 + 0) ≤ 0) (f4 : x4 = x1) (f5 : x5 = x2) (f6 : x6 = x3) (f7 : (styleKind_0 = 0) → (styleOne_0 ≤ 23)) (f8 : ((cur_0 + 1) ≤ tokens_0) ∧ ((tokens_0 ≤ 2010) ∧ ((tokenKind_0 ((tokens_0 - 1)) = 0) ∨ (tokenKind_0 ((tokens_0 - 1)) = 4)))) (f9 : 1 * x4 + ((-1) * cur_0 + 0) ≤ 0) (f10 : 1 * opened_0 + 0 ≤ 0) (f11 : (-1) * opened_0 + 0 ≤ 0) (f12 : SON (fault_0) (cur_0) (styleKind_0) (limit_0) (tokenKind_0) (tokenValue_0) (tokenPlace_0) (tokenEnd_0) (tape_0) (x4) (x5) (x6)) (f14 : 1 * x3 + 0 ≤ 0) (f15 : (-1) * x3 + 0 ≤ 0) (f16 : 1 * x1 + ((-1) * x4 + 0) ≤ 0) (hK_0_1 : ∀ j : Int, 0 ≤ j → j < 2000 → (-128) ≤ tape_0 j ∧ tape_0 j ≤ 127) (hK_0_160 : ∀ j : Int, 0 ≤ j → j < 2010 → 0 ≤ tokenKind_0 j ∧ tokenKind_0 j ≤ 4) (hK_0_162 : ∀ j : Int, 0 ≤ j → j < 2010 → 0 ≤ tokenPlace_0 j ∧ tokenPlace_0 j ≤ 2000) (hK_0_163 : ∀ j : Int, 0 ≤ j → j < 2010 → 0 ≤ tokenEnd_0 j ∧ tokenEnd_0 j ≤ 2000) (kz_0_8 : 0 ≤ fault_0 ∧ fault_0 ≤ 5) (kz_0_10 : 0 ≤ limit_0 ∧ limit_0 ≤ 2000) (kz_0_157 : 0 ≤ tokens_0 ∧ tokens_0 ≤ 2010) (kz_0_158 : 0 ≤ cur_0 ∧ cur_0 ≤ 2009) (kz_0_159 : 0 ≤ opened_0 ∧ opened_0 ≤ 13) (kz_0_164 : 0 ≤ styleKind_0 ∧ styleKind_0 ≤ 1) (kz_0_165 : (-1) ≤ styleOne_0 ∧ styleOne_0 ≤ 47) (ex2 : gx = 2010 + ((-1) * cur_0 + 0)) (ex3 : 0 ≤ gx ∧ gx ≤ 2010) : (styleKind_0 = 0) → (styleOne_0 ≤ 23) := by
  first | assumption | (clear f2 f7 f8 hK_0_1 hK_0_160 hK_0_162 hK_0_163; omega) | (clear hK_0_1 hK_0_160 hK_0_162 hK_0_163; grind) | omega | grind
set_option maxHeartbeats 4000000 in
theorem vc_Mo_both_at_f0_1_3 (x1 : Int) (x2 : Int) (x3 : Int) (x4 : Int) (x5 : Int) (x6 : Int) (styleKind_0 : Int) (styleOne_0 : Int) (tokenKind_0 : Int → Int) (cur_0 : Int) (tokens_0 : Int) (opened_0 : Int) (tokenValue_0 : Int → Int) (tokenPlace_0 : Int → Int) (tokenEnd_0 : Int → Int) (tape_0 : Int → Int) (fault_0 : Int) (limit_0 : Int) (gx : Int) (k1 : 0 ≤ x1 ∧ x1 ≤ 2009) (k2 : 0 ≤ x2 ∧ x2 ≤ 5) (k3 : 0 ≤ x3 ∧ x3 ≤ 13) (k4 : 0 ≤ x4 ∧ x4 ≤ 2009) (k5 : 0 ≤ x5 ∧ x5 ≤ 5) (k6 : 0 ≤ x6 ∧ x6 ≤ 13) (f0 : 1 * x3 + 0 ≤ 0) (f1 : (-1) * x3 + 0 ≤ 0) (f2 : (styleKind_0 = 0) → (styleOne_0 ≤ 23)) (f3 : 1 * x1 + ((-1) * x4 + 0) ≤ 0) (f4 : x4 = x1) (f5 : x5 = x2) (f6 : x6 = x3) (f7 : (styleKind_0 = 0) → (styleOne_0 ≤ 23)) (f8 : ((cur_0 + 1) ≤ tokens_0) ∧ ((tokens_0 ≤ 2010) ∧ ((tokenKind_0 ((tokens_0 - 1)) = 0) ∨ (tokenKind_0 ((tokens_0 - 1)) = 4)))) (f9 : 1 * x4 + ((-1) * cur_0 + 0) ≤ 0) (f10 : 1 * opened_0 + 0 ≤ 0) (f11 : (-1) * opened_0 + 0 ≤ 0) (f12 : SON (fault_0) (cur_0) (styleKind_0) (limit_0) (tokenKind_0) (tokenValue_0) (tokenPlace_0) (tokenEnd_0) (tape_0) (x4) (x5) (x6)) (f14 : 1 * x3 + 0 ≤ 0) (f15 : (-1) * x3 + 0 ≤ 0) (f16 : 1 * x1 + ((-1) * x4 + 0) ≤ 0) (hK_0_1 : ∀ j : Int, 0 ≤ j → j < 2000 → (-128) ≤ tape_0 j ∧ tape_0 j ≤ 127) (hK_0_160 : ∀ j : Int, 0 ≤ j → j < 2010 → 0 ≤ tokenKind_0 j ∧ tokenKind_0 j ≤ 4) (hK_0_162 : ∀ j : Int, 0 ≤ j → j < 2010 → 0 ≤ tokenPlace_0 j ∧ tokenPlace_0 j ≤ 2000) (hK_0_163 : ∀ j : Int, 0 ≤ j → j < 2010 → 0 ≤ tokenEnd_0 j ∧ tokenEnd_0 j ≤ 2000) (kz_0_8 : 0 ≤ fault_0 ∧ fault_0 ≤ 5) (kz_0_10 : 0 ≤ limit_0 ∧ limit_0 ≤ 2000) (kz_0_157 : 0 ≤ tokens_0 ∧ tokens_0 ≤ 2010) (kz_0_158 : 0 ≤ cur_0 ∧ cur_0 ≤ 2009) (kz_0_159 : 0 ≤ opened_0 ∧ opened_0 ≤ 13) (kz_0_164 : 0 ≤ styleKind_0 ∧ styleKind_0 ≤ 1) (kz_0_165 : (-1) ≤ styleOne_0 ∧ styleOne_0 ≤ 47) (ex2 : gx = 2010 + ((-1) * cur_0 + 0)) (ex3 : 0 ≤ gx ∧ gx ≤ 2010) : 1 * opened_0 + 0 ≤ 0 := by
  first | assumption | (clear f2 f7 f8 hK_0_1 hK_0_160 hK_0_162 hK_0_163; omega) | (clear hK_0_1 hK_0_160 hK_0_162 hK_0_163; grind) | omega | grind
set_option maxHeartbeats 4000000 in
theorem vc_Mo_both_at_f0_1_4 (x1 : Int) (x2 : Int) (x3 : Int) (x4 : Int) (x5 : Int) (x6 : Int) (styleKind_0 : Int) (styleOne_0 : Int) (tokenKind_0 : Int → Int) (cur_0 : Int) (tokens_0 : Int) (opened_0 : Int) (tokenValue_0 : Int → Int) (tokenPlace_0 : Int → Int) (tokenEnd_0 : Int → Int) (tape_0 : Int → Int) (fault_0 : Int) (limit_0 : Int) (gx : Int) (k1 : 0 ≤ x1 ∧ x1 ≤ 2009) (k2 : 0 ≤ x2 ∧ x2 ≤ 5) (k3 : 0 ≤ x3 ∧ x3 ≤ 13) (k4 : 0 ≤ x4 ∧ x4 ≤ 2009) (k5 : 0 ≤ x5 ∧ x5 ≤ 5) (k6 : 0 ≤ x6 ∧ x6 ≤ 13) (f0 : 1 * x3 + 0 ≤ 0) (f1 : (-1) * x3 + 0 ≤ 0) (f2 : (styleKind_0 = 0) → (styleOne_0 ≤ 23)) (f3 : 1 * x1 + ((-1) * x4 + 0) ≤ 0) (f4 : x4 = x1) (f5 : x5 = x2) (f6 : x6 = x3) (f7 : (styleKind_0 = 0) → (styleOne_0 ≤ 23)) (f8 : ((cur_0 + 1) ≤ tokens_0) ∧ ((tokens_0 ≤ 2010) ∧ ((tokenKind_0 ((tokens_0 - 1)) = 0) ∨ (tokenKind_0 ((tokens_0 - 1)) = 4)))) (f9 : 1 * x4 + ((-1) * cur_0 + 0) ≤ 0) (f10 : 1 * opened_0 + 0 ≤ 0) (f11 : (-1) * opened_0 + 0 ≤ 0) (f12 : SON (fault_0) (cur_0) (styleKind_0) (limit_0) (tokenKind_0) (tokenValue_0) (tokenPlace_0) (tokenEnd_0) (tape_0) (x4) (x5) (x6)) (f14 : 1 * x3 + 0 ≤ 0) (f15 : (-1) * x3 + 0 ≤ 0) (f16 : 1 * x1 + ((-1) * x4 + 0) ≤ 0) (hK_0_1 : ∀ j : Int, 0 ≤ j → j < 2000 → (-128) ≤ tape_0 j ∧ tape_0 j ≤ 127) (hK_0_160 : ∀ j : Int, 0 ≤ j → j < 2010 → 0 ≤ tokenKind_0 j ∧ tokenKind_0 j ≤ 4) (hK_0_162 : ∀ j : Int, 0 ≤ j → j < 2010 → 0 ≤ tokenPlace_0 j ∧ tokenPlace_0 j ≤ 2000) (hK_0_163 : ∀ j : Int, 0 ≤ j → j < 2010 → 0 ≤ tokenEnd_0 j ∧ tokenEnd_0 j ≤ 2000) (kz_0_8 : 0 ≤ fault_0 ∧ fault_0 ≤ 5) (kz_0_10 : 0 ≤ limit_0 ∧ limit_0 ≤ 2000) (kz_0_157 : 0 ≤ tokens_0 ∧ tokens_0 ≤ 2010) (kz_0_158 : 0 ≤ cur_0 ∧ cur_0 ≤ 2009) (kz_0_159 : 0 ≤ opened_0 ∧ opened_0 ≤ 13) (kz_0_164 : 0 ≤ styleKind_0 ∧ styleKind_0 ≤ 1) (kz_0_165 : (-1) ≤ styleOne_0 ∧ styleOne_0 ≤ 47) (ex2 : gx = 2010 + ((-1) * cur_0 + 0)) (ex3 : 0 ≤ gx ∧ gx ≤ 2010) : (-1) * opened_0 + 0 ≤ 0 := by
  first | assumption | (clear f2 f7 f8 hK_0_1 hK_0_160 hK_0_162 hK_0_163; omega) | (clear hK_0_1 hK_0_160 hK_0_162 hK_0_163; grind) | omega | grind
set_option maxHeartbeats 4000000 in
theorem vc_Mo_both_at_f0_1_5 (x1 : Int) (x2 : Int) (x3 : Int) (x4 : Int) (x5 : Int) (x6 : Int) (styleKind_0 : Int) (styleOne_0 : Int) (tokenKind_0 : Int → Int) (cur_0 : Int) (tokens_0 : Int) (opened_0 : Int) (tokenValue_0 : Int → Int) (tokenPlace_0 : Int → Int) (tokenEnd_0 : Int → Int) (tape_0 : Int → Int) (fault_0 : Int) (limit_0 : Int) (gx : Int) (k1 : 0 ≤ x1 ∧ x1 ≤ 2009) (k2 : 0 ≤ x2 ∧ x2 ≤ 5) (k3 : 0 ≤ x3 ∧ x3 ≤ 13) (k4 : 0 ≤ x4 ∧ x4 ≤ 2009) (k5 : 0 ≤ x5 ∧ x5 ≤ 5) (k6 : 0 ≤ x6 ∧ x6 ≤ 13) (f0 : 1 * x3 + 0 ≤ 0) (f1 : (-1) * x3 + 0 ≤ 0) (f2 : (styleKind_0 = 0) → (styleOne_0 ≤ 23)) (f3 : 1 * x1 + ((-1) * x4 + 0) ≤ 0) (f4 : x4 = x1) (f5 : x5 = x2) (f6 : x6 = x3) (f7 : (styleKind_0 = 0) → (styleOne_0 ≤ 23)) (f8 : ((cur_0 + 1) ≤ tokens_0) ∧ ((tokens_0 ≤ 2010) ∧ ((tokenKind_0 ((tokens_0 - 1)) = 0) ∨ (tokenKind_0 ((tokens_0 - 1)) = 4)))) (f9 : 1 * x4 + ((-1) * cur_0 + 0) ≤ 0) (f10 : 1 * opened_0 + 0 ≤ 0) (f11 : (-1) * opened_0 + 0 ≤ 0) (f12 : SON (fault_0) (cur_0) (styleKind_0) (limit_0) (tokenKind_0) (tokenValue_0) (tokenPlace_0) (tokenEnd_0) (tape_0) (x4) (x5) (x6)) (f14 : 1 * x3 + 0 ≤ 0) (f15 : (-1) * x3 + 0 ≤ 0) (f16 : 1 * x1 + ((-1) * x4 + 0) ≤ 0) (hK_0_1 : ∀ j : Int, 0 ≤ j → j < 2000 → (-128) ≤ tape_0 j ∧ tape_0 j ≤ 127) (hK_0_160 : ∀ j : Int, 0 ≤ j → j < 2010 → 0 ≤ tokenKind_0 j ∧ tokenKind_0 j ≤ 4) (hK_0_162 : ∀ j : Int, 0 ≤ j → j < 2010 → 0 ≤ tokenPlace_0 j ∧ tokenPlace_0 j ≤ 2000) (hK_0_163 : ∀ j : Int, 0 ≤ j → j < 2010 → 0 ≤ tokenEnd_0 j ∧ tokenEnd_0 j ≤ 2000) (kz_0_8 : 0 ≤ fault_0 ∧ fault_0 ≤ 5) (kz_0_10 : 0 ≤ limit_0 ∧ limit_0 ≤ 2000) (kz_0_157 : 0 ≤ tokens_0 ∧ tokens_0 ≤ 2010) (kz_0_158 : 0 ≤ cur_0 ∧ cur_0 ≤ 2009) (kz_0_159 : 0 ≤ opened_0 ∧ opened_0 ≤ 13) (kz_0_164 : 0 ≤ styleKind_0 ∧ styleKind_0 ≤ 1) (kz_0_165 : (-1) ≤ styleOne_0 ∧ styleOne_0 ≤ 47) (ex2 : gx = 2010 + ((-1) * cur_0 + 0)) (ex3 : 0 ≤ gx ∧ gx ≤ 2010) : SBL (fault_0) (cur_0) (styleKind_0) (limit_0) (tokenKind_0) (tokenValue_0) (tokenPlace_0) (tokenEnd_0) (tape_0) (x1) (x2) (x3) := by
  first
    | exact sbl_start (‹SON _ _ _ _ _ _ _ _ _ _ _ _›) (by omega) (by omega) (by omega) (by omega)
    | exact sbl_go (‹GBL _ _ _ _ _ _ _ _ _ _ _ _›) (‹SON _ _ _ _ _ _ _ _ _ _ _ _›) (by omega) (by omega) (by omega)
    | assumption
  
set_option maxHeartbeats 4000000 in
theorem vc_Mo_both_at_f0_1_6 (x1 : Int) (x2 : Int) (x3 : Int) (x4 : Int) (x5 : Int) (x6 : Int) (styleKind_0 : Int) (styleOne_0 : Int) (tokenKind_0 : Int → Int) (cur_0 : Int) (tokens_0 : Int) (opened_0 : Int) (tokenValue_0 : Int → Int) (tokenPlace_0 : Int → Int) (tokenEnd_0 : Int → Int) (tape_0 : Int → Int) (fault_0 : Int) (limit_0 : Int) (gx : Int) (k1 : 0 ≤ x1 ∧ x1 ≤ 2009) (k2 : 0 ≤ x2 ∧ x2 ≤ 5) (k3 : 0 ≤ x3 ∧ x3 ≤ 13) (k4 : 0 ≤ x4 ∧ x4 ≤ 2009) (k5 : 0 ≤ x5 ∧ x5 ≤ 5) (k6 : 0 ≤ x6 ∧ x6 ≤ 13) (f0 : 1 * x3 + 0 ≤ 0) (f1 : (-1) * x3 + 0 ≤ 0) (f2 : (styleKind_0 = 0) → (styleOne_0 ≤ 23)) (f3 : 1 * x1 + ((-1) * x4 + 0) ≤ 0) (f4 : x4 = x1) (f5 : x5 = x2) (f6 : x6 = x3) (f7 : (styleKind_0 = 0) → (styleOne_0 ≤ 23)) (f8 : ((cur_0 + 1) ≤ tokens_0) ∧ ((tokens_0 ≤ 2010) ∧ ((tokenKind_0 ((tokens_0 - 1)) = 0) ∨ (tokenKind_0 ((tokens_0 - 1)) = 4)))) (f9 : 1 * x4 + ((-1) * cur_0 + 0) ≤ 0) (f10 : 1 * opened_0 + 0 ≤ 0) (f11 : (-1) * opened_0 + 0 ≤ 0) (f12 : SON (fault_0) (cur_0) (styleKind_0) (limit_0) (tokenKind_0) (tokenValue_0) (tokenPlace_0) (tokenEnd_0) (tape_0) (x4) (x5) (x6)) (f14 : 1 * x3 + 0 ≤ 0) (f15 : (-1) * x3 + 0 ≤ 0) (f16 : 1 * x1 + ((-1) * x4 + 0) ≤ 0) (hK_0_1 : ∀ j : Int, 0 ≤ j → j < 2000 → (-128) ≤ tape_0 j ∧ tape_0 j ≤ 127) (hK_0_160 : ∀ j : Int, 0 ≤ j → j < 2010 → 0 ≤ tokenKind_0 j ∧ tokenKind_0 j ≤ 4) (hK_0_162 : ∀ j : Int, 0 ≤ j → j < 2010 → 0 ≤ tokenPlace_0 j ∧ tokenPlace_0 j ≤ 2000) (hK_0_163 : ∀ j : Int, 0 ≤ j → j < 2010 → 0 ≤ tokenEnd_0 j ∧ tokenEnd_0 j ≤ 2000) (kz_0_8 : 0 ≤ fault_0 ∧ fault_0 ≤ 5) (kz_0_10 : 0 ≤ limit_0 ∧ limit_0 ≤ 2000) (kz_0_157 : 0 ≤ tokens_0 ∧ tokens_0 ≤ 2010) (kz_0_158 : 0 ≤ cur_0 ∧ cur_0 ≤ 2009) (kz_0_159 : 0 ≤ opened_0 ∧ opened_0 ≤ 13) (kz_0_164 : 0 ≤ styleKind_0 ∧ styleKind_0 ≤ 1) (kz_0_165 : (-1) ≤ styleOne_0 ∧ styleOne_0 ≤ 47) (ex2 : gx = 2010 + ((-1) * cur_0 + 0)) (ex3 : 0 ≤ gx ∧ gx ≤ 2010) : 1 * x3 + 0 ≤ 0 := by
  first | assumption | (clear f2 f7 f8 hK_0_1 hK_0_160 hK_0_162 hK_0_163; omega) | (clear hK_0_1 hK_0_160 hK_0_162 hK_0_163; grind) | omega | grind
set_option maxHeartbeats 4000000 in
theorem vc_Mo_both_at_f0_1_7 (x1 : Int) (x2 : Int) (x3 : Int) (x4 : Int) (x5 : Int) (x6 : Int) (styleKind_0 : Int) (styleOne_0 : Int) (tokenKind_0 : Int → Int) (cur_0 : Int) (tokens_0 : Int) (opened_0 : Int) (tokenValue_0 : Int → Int) (tokenPlace_0 : Int → Int) (tokenEnd_0 : Int → Int) (tape_0 : Int → Int) (fault_0 : Int) (limit_0 : Int) (gx : Int) (k1 : 0 ≤ x1 ∧ x1 ≤ 2009) (k2 : 0 ≤ x2 ∧ x2 ≤ 5) (k3 : 0 ≤ x3 ∧ x3 ≤ 13) (k4 : 0 ≤ x4 ∧ x4 ≤ 2009) (k5 : 0 ≤ x5 ∧ x5 ≤ 5) (k6 : 0 ≤ x6 ∧ x6 ≤ 13) (f0 : 1 * x3 + 0 ≤ 0) (f1 : (-1) * x3 + 0 ≤ 0) (f2 : (styleKind_0 = 0) → (styleOne_0 ≤ 23)) (f3 : 1 * x1 + ((-1) * x4 + 0) ≤ 0) (f4 : x4 = x1) (f5 : x5 = x2) (f6 : x6 = x3) (f7 : (styleKind_0 = 0) → (styleOne_0 ≤ 23)) (f8 : ((cur_0 + 1) ≤ tokens_0) ∧ ((tokens_0 ≤ 2010) ∧ ((tokenKind_0 ((tokens_0 - 1)) = 0) ∨ (tokenKind_0 ((tokens_0 - 1)) = 4)))) (f9 : 1 * x4 + ((-1) * cur_0 + 0) ≤ 0) (f10 : 1 * opened_0 + 0 ≤ 0) (f11 : (-1) * opened_0 + 0 ≤ 0) (f12 : SON (fault_0) (cur_0) (styleKind_0) (limit_0) (tokenKind_0) (tokenValue_0) (tokenPlace_0) (tokenEnd_0) (tape_0) (x4) (x5) (x6)) (f14 : 1 * x3 + 0 ≤ 0) (f15 : (-1) * x3 + 0 ≤ 0) (f16 : 1 * x1 + ((-1) * x4 + 0) ≤ 0) (hK_0_1 : ∀ j : Int, 0 ≤ j → j < 2000 → (-128) ≤ tape_0 j ∧ tape_0 j ≤ 127) (hK_0_160 : ∀ j : Int, 0 ≤ j → j < 2010 → 0 ≤ tokenKind_0 j ∧ tokenKind_0 j ≤ 4) (hK_0_162 : ∀ j : Int, 0 ≤ j → j < 2010 → 0 ≤ tokenPlace_0 j ∧ tokenPlace_0 j ≤ 2000) (hK_0_163 : ∀ j : Int, 0 ≤ j → j < 2010 → 0 ≤ tokenEnd_0 j ∧ tokenEnd_0 j ≤ 2000) (kz_0_8 : 0 ≤ fault_0 ∧ fault_0 ≤ 5) (kz_0_10 : 0 ≤ limit_0 ∧ limit_0 ≤ 2000) (kz_0_157 : 0 ≤ tokens_0 ∧ tokens_0 ≤ 2010) (kz_0_158 : 0 ≤ cur_0 ∧ cur_0 ≤ 2009) (kz_0_159 : 0 ≤ opened_0 ∧ opened_0 ≤ 13) (kz_0_164 : 0 ≤ styleKind_0 ∧ styleKind_0 ≤ 1) (kz_0_165 : (-1) ≤ styleOne_0 ∧ styleOne_0 ≤ 47) (ex2 : gx = 2010 + ((-1) * cur_0 + 0)) (ex3 : 0 ≤ gx ∧ gx ≤ 2010) : (-1) * x3 + 0 ≤ 0 := by
  first | assumption | (clear f2 f7 f8 hK_0_1 hK_0_160 hK_0_162 hK_0_163; omega) | (clear hK_0_1 hK_0_160 hK_0_162 hK_0_163; grind) | omega | grind
set_option maxHeartbeats 4000000 in
theorem vc_Mo_both_at_f0_1_9 (x1 : Int) (x2 : Int) (x3 : Int) (x4 : Int) (x5 : Int) (x6 : Int) (styleKind_0 : Int) (styleOne_0 : Int) (tokenKind_0 : Int → Int) (cur_0 : Int) (tokens_0 : Int) (opened_0 : Int) (tokenValue_0 : Int → Int) (tokenPlace_0 : Int → Int) (tokenEnd_0 : Int → Int) (tape_0 : Int → Int) (fault_0 : Int) (limit_0 : Int) (gx : Int) (k1 : 0 ≤ x1 ∧ x1 ≤ 2009) (k2 : 0 ≤ x2 ∧ x2 ≤ 5) (k3 : 0 ≤ x3 ∧ x3 ≤ 13) (k4 : 0 ≤ x4 ∧ x4 ≤ 2009) (k5 : 0 ≤ x5 ∧ x5 ≤ 5) (k6 : 0 ≤ x6 ∧ x6 ≤ 13) (f0 : 1 * x3 + 0 ≤ 0) (f1 : (-1) * x3 + 0 ≤ 0) (f2 : (styleKind_0 = 0) → (styleOne_0 ≤ 23)) (f3 : 1 * x1 + ((-1) * x4 + 0) ≤ 0) (f4 : x4 = x1) (f5 : x5 = x2) (f6 : x6 = x3) (f7 : (styleKind_0 = 0) → (styleOne_0 ≤ 23)) (f8 : ((cur_0 + 1) ≤ tokens_0) ∧ ((tokens_0 ≤ 2010) ∧ ((tokenKind_0 ((tokens_0 - 1)) = 0) ∨ (tokenKind_0 ((tokens_0 - 1)) = 4)))) (f9 : 1 * x4 + ((-1) * cur_0 + 0) ≤ 0) (f10 : 1 * opened_0 + 0 ≤ 0) (f11 : (-1) * opened_0 + 0 ≤ 0) (f12 : SON (fault_0) (cur_0) (styleKind_0) (limit_0) (tokenKind_0) (tokenValue_0) (tokenPlace_0) (tokenEnd_0) (tape_0) (x4) (x5) (x6)) (f14 : 1 * x3 + 0 ≤ 0) (f15 : (-1) * x3 + 0 ≤ 0) (f16 : 1 * x1 + ((-1) * x4 + 0) ≤ 0) (hK_0_1 : ∀ j : Int, 0 ≤ j → j < 2000 → (-128) ≤ tape_0 j ∧ tape_0 j ≤ 127) (hK_0_160 : ∀ j : Int, 0 ≤ j → j < 2010 → 0 ≤ tokenKind_0 j ∧ tokenKind_0 j ≤ 4) (hK_0_162 : ∀ j : Int, 0 ≤ j → j < 2010 → 0 ≤ tokenPlace_0 j ∧ tokenPlace_0 j ≤ 2000) (hK_0_163 : ∀ j : Int, 0 ≤ j → j < 2010 → 0 ≤ tokenEnd_0 j ∧ tokenEnd_0 j ≤ 2000) (kz_0_8 : 0 ≤ fault_0 ∧ fault_0 ≤ 5) (kz_0_10 : 0 ≤ limit_0 ∧ limit_0 ≤ 2000) (kz_0_157 : 0 ≤ tokens_0 ∧ tokens_0 ≤ 2010) (kz_0_158 : 0 ≤ cur_0 ∧ cur_0 ≤ 2009) (kz_0_159 : 0 ≤ opened_0 ∧ opened_0 ≤ 13) (kz_0_164 : 0 ≤ styleKind_0 ∧ styleKind_0 ≤ 1) (kz_0_165 : (-1) ≤ styleOne_0 ∧ styleOne_0 ≤ 47) (ex2 : gx = 2010 + ((-1) * cur_0 + 0)) (ex3 : 0 ≤ gx ∧ gx ≤ 2010) : 1 * gx + (1 * cur_0 + 0) ≤ 2010 := by
  first | assumption | (clear f2 f7 f8 hK_0_1 hK_0_160 hK_0_162 hK_0_163; omega) | (clear hK_0_1 hK_0_160 hK_0_162 hK_0_163; grind) | omega | grind
set_option maxHeartbeats 4000000 in
theorem vc_Mo_both_at_f0_1_10 (x1 : Int) (x2 : Int) (x3 : Int) (x4 : Int) (x5 : Int) (x6 : Int) (styleKind_0 : Int) (styleOne_0 : Int) (tokenKind_0 : Int → Int) (cur_0 : Int) (tokens_0 : Int) (opened_0 : Int) (tokenValue_0 : Int → Int) (tokenPlace_0 : Int → Int) (tokenEnd_0 : Int → Int) (tape_0 : Int → Int) (fault_0 : Int) (limit_0 : Int) (gx : Int) (k1 : 0 ≤ x1 ∧ x1 ≤ 2009) (k2 : 0 ≤ x2 ∧ x2 ≤ 5) (k3 : 0 ≤ x3 ∧ x3 ≤ 13) (k4 : 0 ≤ x4 ∧ x4 ≤ 2009) (k5 : 0 ≤ x5 ∧ x5 ≤ 5) (k6 : 0 ≤ x6 ∧ x6 ≤ 13) (f0 : 1 * x3 + 0 ≤ 0) (f1 : (-1) * x3 + 0 ≤ 0) (f2 : (styleKind_0 = 0) → (styleOne_0 ≤ 23)) (f3 : 1 * x1 + ((-1) * x4 + 0) ≤ 0) (f4 : x4 = x1) (f5 : x5 = x2) (f6 : x6 = x3) (f7 : (styleKind_0 = 0) → (styleOne_0 ≤ 23)) (f8 : ((cur_0 + 1) ≤ tokens_0) ∧ ((tokens_0 ≤ 2010) ∧ ((tokenKind_0 ((tokens_0 - 1)) = 0) ∨ (tokenKind_0 ((tokens_0 - 1)) = 4)))) (f9 : 1 * x4 + ((-1) * cur_0 + 0) ≤ 0) (f10 : 1 * opened_0 + 0 ≤ 0) (f11 : (-1) * opened_0 + 0 ≤ 0) (f12 : SON (fault_0) (cur_0) (styleKind_0) (limit_0) (tokenKind_0) (tokenValue_0) (tokenPlace_0) (tokenEnd_0) (tape_0) (x4) (x5) (x6)) (f14 : 1 * x3 + 0 ≤ 0) (f15 : (-1) * x3 + 0 ≤ 0) (f16 : 1 * x1 + ((-1) * x4 + 0) ≤ 0) (hK_0_1 : ∀ j : Int, 0 ≤ j → j < 2000 → (-128) ≤ tape_0 j ∧ tape_0 j ≤ 127) (hK_0_160 : ∀ j : Int, 0 ≤ j → j < 2010 → 0 ≤ tokenKind_0 j ∧ tokenKind_0 j ≤ 4) (hK_0_162 : ∀ j : Int, 0 ≤ j → j < 2010 → 0 ≤ tokenPlace_0 j ∧ tokenPlace_0 j ≤ 2000) (hK_0_163 : ∀ j : Int, 0 ≤ j → j < 2010 → 0 ≤ tokenEnd_0 j ∧ tokenEnd_0 j ≤ 2000) (kz_0_8 : 0 ≤ fault_0 ∧ fault_0 ≤ 5) (kz_0_10 : 0 ≤ limit_0 ∧ limit_0 ≤ 2000) (kz_0_157 : 0 ≤ tokens_0 ∧ tokens_0 ≤ 2010) (kz_0_158 : 0 ≤ cur_0 ∧ cur_0 ≤ 2009) (kz_0_159 : 0 ≤ opened_0 ∧ opened_0 ≤ 13) (kz_0_164 : 0 ≤ styleKind_0 ∧ styleKind_0 ≤ 1) (kz_0_165 : (-1) ≤ styleOne_0 ∧ styleOne_0 ≤ 47) (ex2 : gx = 2010 + ((-1) * cur_0 + 0)) (ex3 : 0 ≤ gx ∧ gx ≤ 2010) : (-1) * gx + ((-1) * cur_0 + 0) ≤ (-2010) := by
  first | assumption | (clear f2 f7 f8 hK_0_1 hK_0_160 hK_0_162 hK_0_163; omega) | (clear hK_0_1 hK_0_160 hK_0_162 hK_0_163; grind) | omega | grind
def o_Mo_both_at_f0_1 : or_T := (5, 8, [(0, (2, 0, 0, [165])), (1, (0, 0, 2009, [])), (2, (0, 0, 5, [])), (3, (0, 0, 13, [])), (4, (0, 0, 2009, [])), (5, (0, 0, 5, [])), (6, (0, 0, 13, []))], [(23, [3], [0, 1]), (23, [3], [0, -1]), (20, [0], [50, 2, 0, 164, 165, 4, 7, 1, 3, 2, 0, 164, 0, 0, 0, 3, 2, 0, 165, 0, 23]), (23, [1, 4], [0, 1, -1]), (20, [4, 1], [50, 0, 0, 1, 2, 1, 0, 1, 1]), (20, [5, 2], [50, 0, 0, 1, 2, 1, 0, 1, 1]), (20, [6, 3], [50, 0, 0, 1, 2, 1, 0, 1, 1]), (20, [0], [50, 2, 0, 164, 165, 4, 7, 1, 3, 2, 0, 164, 0, 0, 0, 3, 2, 0, 165, 0, 23]), (20, [0], [50, 2, 1, 158, 157, 160, 2, 12, 0, 7, 4, 3, 2, 0, 158, 0, 1, 2, 0, 157, 2, 7, 0, 3, 2, 0, 157, 0, 2010, 3, 14, 1, 10, 3, 0, 160, 5, 3, 2, 0, 157, 0, 1, 0, 0, 1, 10, 3, 0, 160, 5, 3, 2, 0, 157, 0, 1, 0, 4]), (20, [4, 0], [30, 0, 1, 0, 0, -1, 1, 158]), (20, [0], [30, 0, 1, 1, 159]), (20, [0], [30, 0, -1, 1, 159]), (20, [0, 4, 5, 6], [60, 4, 5, 3, 8, 158, 164, 10, 160, 161, 162, 163, 1]), (102, [6], [0, 165008, 165009, 165158, 165159]), (23, [3], [0, 1]), (23, [3], [0, -1]), (23, [1, 4], [0, 1, -1])], [], [(0, 0, 2010, [])], [(20, [0], [50, 2, 1, 158, 157, 160, 2, 12, 0, 7, 4, 3, 2, 0, 158, 0, 1, 2, 0, 157, 2, 7, 0, 3, 2, 0, 157, 0, 2010, 3, 14, 1, 10, 3, 0, 160, 5, 3, 2, 0, 157, 0, 1, 0, 0, 1, 10, 3, 0, 160, 5, 3, 2, 0, 157, 0, 1, 0, 4]), (20, [1, 0], [30, 0, 1, 0, 0, -1, 1, 158]), (20, [0], [50, 2, 0, 164, 165, 4, 7, 1, 3, 2, 0, 164, 0, 0, 0, 3, 2, 0, 165, 0, 23]), (20, [0], [30, 0, 1, 1, 159]), (20, [0], [30, 0, -1, 1, 159]), (20, [0, 1, 2, 3], [60, 4, 5, 8, 8, 158, 164, 10, 160, 161, 162, 163, 1]), (23, [3], [0, 1]), (23, [3], [0, -1]), (24, [0, 0], []), (20, [8, 0], [30, 2010, 1, 0, 0, 1, 1, 158]), (20, [8, 0], [30, -2010, -1, 0, 0, -1, 1, 158])], [], [])
theorem oo_Mo_both_at_f0_1 {kA : Nat → ClassId} : or_ok PRD kA GG o_Mo_both_at_f0_1 := by
  refine or_mk fun A ta ws vs hD hth hl => ?_
  intro t0 r0 t1 k1 t2 k2 t3 k3 t4 k4 t5 k5 t6 k6 f0 f1 f2 f3 f4 f5 f6 f7 f8 f9 f10 f11 f12 ta1 w1 le1 s1 f14 f15 f16
  replace f0 := shm_1477 f0
  replace f1 := shm_1013 f1
  replace f2 := shm_299 f2
  replace f3 := shm_7 f3
  replace f4 := shm_48 f4
  replace f5 := shm_48 f5
  replace f6 := shm_48 f6
  replace f7 := shm_299 f7
  replace f8 := shm_296 f8
  replace f9 := shm_306 f9
  replace f10 := shm_999 f10
  replace f11 := shm_1000 f11
  replace f12 := shm_307 f12
  replace f14 := shm_1477 f14
  replace f15 := shm_1013 f15
  replace f16 := shm_7 f16
  have cr_0_1 := fdq_46 hD hth r0
  have cr_0_160 := fdq_41 hD hth r0
  have cr_0_162 := fdq_48 hD hth r0
  have cr_0_163 := fdq_49 hD hth r0
  have hK_0_1 := elq_6 hD hth cr_0_1
  have hK_0_160 := elq_5 hD hth cr_0_160
  have hK_0_162 := elq_7 hD hth cr_0_162
  have hK_0_163 := elq_8 hD hth cr_0_163
  have kz_0_8 := fdq_14 hD hth r0
  have kz_0_10 := fdq_50 hD hth r0
  have kz_0_157 := fdq_42 hD hth r0
  have kz_0_158 := fdq_43 hD hth r0
  have kz_0_159 := fdq_44 hD hth r0
  have kz_0_164 := fdq_45 hD hth r0
  have kz_0_165 := fdq_35 hD hth r0
  obtain ⟨x, ex, hx⟩ := iv_ex (ta := ta) (lo := 0) (hi := 2010) (z := 2010 + ((-1) * w_fi ws (n_v vs 0) 158 + 0)) (by omega) (by omega) (by omega) (by omega)
  have ex2 : v_iv (Value.int x) = 2010 + ((-1) * w_fi ws (n_v vs 0) 158 + 0) := ex
  have ex3 : 0 ≤ v_iv (Value.int x) ∧ v_iv (Value.int x) ≤ 2010 := tv_rng hx
  have e_0 : n_v (vs ++ [Value.int x]) 0 = n_v vs 0 := n_v_old (by rw [hl]; decide)
  have e_1 : n_v (vs ++ [Value.int x]) 1 = n_v vs 1 := n_v_old (by rw [hl]; decide)
  have e_2 : n_v (vs ++ [Value.int x]) 2 = n_v vs 2 := n_v_old (by rw [hl]; decide)
  have e_3 : n_v (vs ++ [Value.int x]) 3 = n_v vs 3 := n_v_old (by rw [hl]; decide)
  have e_8 : n_v (vs ++ [Value.int x]) 8 = Value.int x := n_v_new hl
  have nf0 : fc_1 PRD (20, [0], [50, 2, 1, 158, 157, 160, 2, 12, 0, 7, 4, 3, 2, 0, 158, 0, 1, 2, 0, 157, 2, 7, 0, 3, 2, 0, 157, 0, 2010, 3, 14, 1, 10, 3, 0, 160, 5, 3, 2, 0, 157, 0, 1, 0, 0, 1, 10, 3, 0, 160, 5, 3, 2, 0, 157, 0, 1, 0, 4]) ws (vs ++ [Value.int x]) := by
    refine ⟨nf_inA hl rfl, sgq_296 ?_⟩
    · show ((w_fi ws (n_v (vs ++ [Value.int x]) 0) 158 + 1) ≤ w_fi ws (n_v (vs ++ [Value.int x]) 0) 157) ∧ ((w_fi ws (n_v (vs ++ [Value.int x]) 0) 157 ≤ 2010) ∧ ((w_ei ws (w_ar ws (n_v (vs ++ [Value.int x]) 0) 160) ((w_fi ws (n_v (vs ++ [Value.int x]) 0) 157 - 1)) = 0) ∨ (w_ei ws (w_ar ws (n_v (vs ++ [Value.int x]) 0) 160) ((w_fi ws (n_v (vs ++ [Value.int x]) 0) 157 - 1)) = 4)))
      rw [e_0]
      exact vc_Mo_both_at_f0_1_0 (v_iv (n_v vs 1)) (v_iv (n_v vs 2)) (v_iv (n_v vs 3)) (v_iv (n_v vs 4)) (v_iv (n_v vs 5)) (v_iv (n_v vs 6)) (w_fi ws (n_v vs 0) 164) (w_fi ws (n_v vs 0) 165) (w_ei ws (w_ar ws (n_v vs 0) 160)) (w_fi ws (n_v vs 0) 158) (w_fi ws (n_v vs 0) 157) (w_fi ws (n_v vs 0) 159) (w_ei ws (w_ar ws (n_v vs 0) 161)) (w_ei ws (w_ar ws (n_v vs 0) 162)) (w_ei ws (w_ar ws (n_v vs 0) 163)) (w_ei ws (w_ar ws (n_v vs 0) 1)) (w_fi ws (n_v vs 0) 8) (w_fi ws (n_v vs 0) 10) (v_iv (Value.int x)) k1 k2 k3 k4 k5 k6 f0 f1 f2 f3 f4 f5 f6 f7 f8 f9 f10 f11 f12 f14 f15 f16 hK_0_1 hK_0_160 hK_0_162 hK_0_163 kz_0_8 kz_0_10 kz_0_157 kz_0_158 kz_0_159 kz_0_164 kz_0_165 ex2 ex3
  have nf1 : fc_1 PRD (20, [1, 0], [30, 0, 1, 0, 0, -1, 1, 158]) ws (vs ++ [Value.int x]) := by
    refine ⟨nf_inA hl rfl, sgq_306 ?_⟩
    · show 1 * v_iv (n_v (vs ++ [Value.int x]) 1) + ((-1) * w_fi ws (n_v (vs ++ [Value.int x]) 0) 158 + 0) ≤ 0
      simp only [e_0, e_1]
      exact vc_Mo_both_at_f0_1_1 (v_iv (n_v vs 1)) (v_iv (n_v vs 2)) (v_iv (n_v vs 3)) (v_iv (n_v vs 4)) (v_iv (n_v vs 5)) (v_iv (n_v vs 6)) (w_fi ws (n_v vs 0) 164) (w_fi ws (n_v vs 0) 165) (w_ei ws (w_ar ws (n_v vs 0) 160)) (w_fi ws (n_v vs 0) 158) (w_fi ws (n_v vs 0) 157) (w_fi ws (n_v vs 0) 159) (w_ei ws (w_ar ws (n_v vs 0) 161)) (w_ei ws (w_ar ws (n_v vs 0) 162)) (w_ei ws (w_ar ws (n_v vs 0) 163)) (w_ei ws (w_ar ws (n_v vs 0) 1)) (w_fi ws (n_v vs 0) 8) (w_fi ws (n_v vs 0) 10) (v_iv (Value.int x)) k1 k2 k3 k4 k5 k6 f0 f1 f2 f3 f4 f5 f6 f7 f8 f9 f10 f11 f12 f14 f15 f16 hK_0_1 hK_0_160 hK_0_162 hK_0_163 kz_0_8 kz_0_10 kz_0_157 kz_0_158 kz_0_159 kz_0_164 kz_0_165 ex2 ex3
  have nf2 : fc_1 PRD (20, [0], [50, 2, 0, 164, 165, 4, 7, 1, 3, 2, 0, 164, 0, 0, 0, 3, 2, 0, 165, 0, 23]) ws (vs ++ [Value.int x]) := by
    refine ⟨nf_inA hl rfl, sgq_299 ?_⟩
    · show (w_fi ws (n_v (vs ++ [Value.int x]) 0) 164 = 0) → (w_fi ws (n_v (vs ++ [Value.int x]) 0) 165 ≤ 23)
      rw [e_0]
      exact vc_Mo_both_at_f0_1_2 (v_iv (n_v vs 1)) (v_iv (n_v vs 2)) (v_iv (n_v vs 3)) (v_iv (n_v vs 4)) (v_iv (n_v vs 5)) (v_iv (n_v vs 6)) (w_fi ws (n_v vs 0) 164) (w_fi ws (n_v vs 0) 165) (w_ei ws (w_ar ws (n_v vs 0) 160)) (w_fi ws (n_v vs 0) 158) (w_fi ws (n_v vs 0) 157) (w_fi ws (n_v vs 0) 159) (w_ei ws (w_ar ws (n_v vs 0) 161)) (w_ei ws (w_ar ws (n_v vs 0) 162)) (w_ei ws (w_ar ws (n_v vs 0) 163)) (w_ei ws (w_ar ws (n_v vs 0) 1)) (w_fi ws (n_v vs 0) 8) (w_fi ws (n_v vs 0) 10) (v_iv (Value.int x)) k1 k2 k3 k4 k5 k6 f0 f1 f2 f3 f4 f5 f6 f7 f8 f9 f10 f11 f12 f14 f15 f16 hK_0_1 hK_0_160 hK_0_162 hK_0_163 kz_0_8 kz_0_10 kz_0_157 kz_0_158 kz_0_159 kz_0_164 kz_0_165 ex2 ex3
  have nf3 : fc_1 PRD (20, [0], [30, 0, 1, 1, 159]) ws (vs ++ [Value.int x]) := by
    refine ⟨nf_inA hl rfl, sgq_999 ?_⟩
    · show 1 * w_fi ws (n_v (vs ++ [Value.int x]) 0) 159 + 0 ≤ 0
      rw [e_0]
      exact vc_Mo_both_at_f0_1_3 (v_iv (n_v vs 1)) (v_iv (n_v vs 2)) (v_iv (n_v vs 3)) (v_iv (n_v vs 4)) (v_iv (n_v vs 5)) (v_iv (n_v vs 6)) (w_fi ws (n_v vs 0) 164) (w_fi ws (n_v vs 0) 165) (w_ei ws (w_ar ws (n_v vs 0) 160)) (w_fi ws (n_v vs 0) 158) (w_fi ws (n_v vs 0) 157) (w_fi ws (n_v vs 0) 159) (w_ei ws (w_ar ws (n_v vs 0) 161)) (w_ei ws (w_ar ws (n_v vs 0) 162)) (w_ei ws (w_ar ws (n_v vs 0) 163)) (w_ei ws (w_ar ws (n_v vs 0) 1)) (w_fi ws (n_v vs 0) 8) (w_fi ws (n_v vs 0) 10) (v_iv (Value.int x)) k1 k2 k3 k4 k5 k6 f0 f1 f2 f3 f4 f5 f6 f7 f8 f9 f10 f11 f12 f14 f15 f16 hK_0_1 hK_0_160 hK_0_162 hK_0_163 kz_0_8 kz_0_10 kz_0_157 kz_0_158 kz_0_159 kz_0_164 kz_0_165 ex2 ex3
  have nf4 : fc_1 PRD (20, [0], [30, 0, -1, 1, 159]) ws (vs ++ [Value.int x]) := by
    refine ⟨nf_inA hl rfl, sgq_1000 ?_⟩
    · show (-1) * w_fi ws (n_v (vs ++ [Value.int x]) 0) 159 + 0 ≤ 0
      rw [e_0]
      exact vc_Mo_both_at_f0_1_4 (v_iv (n_v vs 1)) (v_iv (n_v vs 2)) (v_iv (n_v vs 3)) (v_iv (n_v vs 4)) (v_iv (n_v vs 5)) (v_iv (n_v vs 6)) (w_fi ws (n_v vs 0) 164) (w_fi ws (n_v vs 0) 165) (w_ei ws (w_ar ws (n_v vs 0) 160)) (w_fi ws (n_v vs 0) 158) (w_fi ws (n_v vs 0) 157) (w_fi ws (n_v vs 0) 159) (w_ei ws (w_ar ws (n_v vs 0) 161)) (w_ei ws (w_ar ws (n_v vs 0) 162)) (w_ei ws (w_ar ws (n_v vs 0) 163)) (w_ei ws (w_ar ws (n_v vs 0) 1)) (w_fi ws (n_v vs 0) 8) (w_fi ws (n_v vs 0) 10) (v_iv (Value.int x)) k1 k2 k3 k4 k5 k6 f0 f1 f2 f3 f4 f5 f6 f7 f8 f9 f10 f11 f12 f14 f15 f16 hK_0_1 hK_0_160 hK_0_162 hK_0_163 kz_0_8 kz_0_10 kz_0_157 kz_0_158 kz_0_159 kz_0_164 kz_0_165 ex2 ex3
  have nf5 : fc_1 PRD (20, [0, 1, 2, 3], [60, 4, 5, 8, 8, 158, 164, 10, 160, 161, 162, 163, 1]) ws (vs ++ [Value.int x]) := by
    refine ⟨nf_inA hl rfl, sgq_308 ?_⟩
    · show SBL (w_fi ws (n_v (vs ++ [Value.int x]) 0) 8) (w_fi ws (n_v (vs ++ [Value.int x]) 0) 158) (w_fi ws (n_v (vs ++ [Value.int x]) 0) 164) (w_fi ws (n_v (vs ++ [Value.int x]) 0) 10) (w_ei ws (w_ar ws (n_v (vs ++ [Value.int x]) 0) 160)) (w_ei ws (w_ar ws (n_v (vs ++ [Value.int x]) 0) 161)) (w_ei ws (w_ar ws (n_v (vs ++ [Value.int x]) 0) 162)) (w_ei ws (w_ar ws (n_v (vs ++ [Value.int x]) 0) 163)) (w_ei ws (w_ar ws (n_v (vs ++ [Value.int x]) 0) 1)) (v_iv (n_v (vs ++ [Value.int x]) 1)) (v_iv (n_v (vs ++ [Value.int x]) 2)) (v_iv (n_v (vs ++ [Value.int x]) 3))
      simp only [e_0, e_1, e_2, e_3]
      exact vc_Mo_both_at_f0_1_5 (v_iv (n_v vs 1)) (v_iv (n_v vs 2)) (v_iv (n_v vs 3)) (v_iv (n_v vs 4)) (v_iv (n_v vs 5)) (v_iv (n_v vs 6)) (w_fi ws (n_v vs 0) 164) (w_fi ws (n_v vs 0) 165) (w_ei ws (w_ar ws (n_v vs 0) 160)) (w_fi ws (n_v vs 0) 158) (w_fi ws (n_v vs 0) 157) (w_fi ws (n_v vs 0) 159) (w_ei ws (w_ar ws (n_v vs 0) 161)) (w_ei ws (w_ar ws (n_v vs 0) 162)) (w_ei ws (w_ar ws (n_v vs 0) 163)) (w_ei ws (w_ar ws (n_v vs 0) 1)) (w_fi ws (n_v vs 0) 8) (w_fi ws (n_v vs 0) 10) (v_iv (Value.int x)) k1 k2 k3 k4 k5 k6 f0 f1 f2 f3 f4 f5 f6 f7 f8 f9 f10 f11 f12 f14 f15 f16 hK_0_1 hK_0_160 hK_0_162 hK_0_163 kz_0_8 kz_0_10 kz_0_157 kz_0_158 kz_0_159 kz_0_164 kz_0_165 ex2 ex3
  have nf6 : fc_1 PRD (23, [3], [0, 1]) ws (vs ++ [Value.int x]) := by
    refine ⟨nf_inA hl rfl, sgq_1477 ?_⟩
    · show 1 * v_iv (n_v (vs ++ [Value.int x]) 3) + 0 ≤ 0
      rw [e_3]
      exact vc_Mo_both_at_f0_1_6 (v_iv (n_v vs 1)) (v_iv (n_v vs 2)) (v_iv (n_v vs 3)) (v_iv (n_v vs 4)) (v_iv (n_v vs 5)) (v_iv (n_v vs 6)) (w_fi ws (n_v vs 0) 164) (w_fi ws (n_v vs 0) 165) (w_ei ws (w_ar ws (n_v vs 0) 160)) (w_fi ws (n_v vs 0) 158) (w_fi ws (n_v vs 0) 157) (w_fi ws (n_v vs 0) 159) (w_ei ws (w_ar ws (n_v vs 0) 161)) (w_ei ws (w_ar ws (n_v vs 0) 162)) (w_ei ws (w_ar ws (n_v vs 0) 163)) (w_ei ws (w_ar ws (n_v vs 0) 1)) (w_fi ws (n_v vs 0) 8) (w_fi ws (n_v vs 0) 10) (v_iv (Value.int x)) k1 k2 k3 k4 k5 k6 f0 f1 f2 f3 f4 f5 f6 f7 f8 f9 f10 f11 f12 f14 f15 f16 hK_0_1 hK_0_160 hK_0_162 hK_0_163 kz_0_8 kz_0_10 kz_0_157 kz_0_158 kz_0_159 kz_0_164 kz_0_165 ex2 ex3
  have nf7 : fc_1 PRD (23, [3], [0, -1]) ws (vs ++ [Value.int x]) := by
    refine ⟨nf_inA hl rfl, sgq_1013 ?_⟩
    · show (-1) * v_iv (n_v (vs ++ [Value.int x]) 3) + 0 ≤ 0
      rw [e_3]
      exact vc_Mo_both_at_f0_1_7 (v_iv (n_v vs 1)) (v_iv (n_v vs 2)) (v_iv (n_v vs 3)) (v_iv (n_v vs 4)) (v_iv (n_v vs 5)) (v_iv (n_v vs 6)) (w_fi ws (n_v vs 0) 164) (w_fi ws (n_v vs 0) 165) (w_ei ws (w_ar ws (n_v vs 0) 160)) (w_fi ws (n_v vs 0) 158) (w_fi ws (n_v vs 0) 157) (w_fi ws (n_v vs 0) 159) (w_ei ws (w_ar ws (n_v vs 0) 161)) (w_ei ws (w_ar ws (n_v vs 0) 162)) (w_ei ws (w_ar ws (n_v vs 0) 163)) (w_ei ws (w_ar ws (n_v vs 0) 1)) (w_fi ws (n_v vs 0) 8) (w_fi ws (n_v vs 0) 10) (v_iv (Value.int x)) k1 k2 k3 k4 k5 k6 f0 f1 f2 f3 f4 f5 f6 f7 f8 f9 f10 f11 f12 f14 f15 f16 hK_0_1 hK_0_160 hK_0_162 hK_0_163 kz_0_8 kz_0_10 kz_0_157 kz_0_158 kz_0_159 kz_0_164 kz_0_165 ex2 ex3
  have nf8 : fc_1 PRD (24, [0, 0], []) ws (vs ++ [Value.int x]) := by
    refine ⟨nf_inA hl rfl, sgq_1 ?_⟩
    · show n_v (vs ++ [Value.int x]) 0 = n_v (vs ++ [Value.int x]) 0
      first | rfl | simp only [e_0]
  have nf9 : fc_1 PRD (20, [8, 0], [30, 2010, 1, 0, 0, 1, 1, 158]) ws (vs ++ [Value.int x]) := by
    refine ⟨nf_inA hl rfl, sgq_309 ?_⟩
    · show 1 * v_iv (n_v (vs ++ [Value.int x]) 8) + (1 * w_fi ws (n_v (vs ++ [Value.int x]) 0) 158 + 0) ≤ 2010
      simp only [e_0, e_8]
      exact vc_Mo_both_at_f0_1_9 (v_iv (n_v vs 1)) (v_iv (n_v vs 2)) (v_iv (n_v vs 3)) (v_iv (n_v vs 4)) (v_iv (n_v vs 5)) (v_iv (n_v vs 6)) (w_fi ws (n_v vs 0) 164) (w_fi ws (n_v vs 0) 165) (w_ei ws (w_ar ws (n_v vs 0) 160)) (w_fi ws (n_v vs 0) 158) (w_fi ws (n_v vs 0) 157) (w_fi ws (n_v vs 0) 159) (w_ei ws (w_ar ws (n_v vs 0) 161)) (w_ei ws (w_ar ws (n_v vs 0) 162)) (w_ei ws (w_ar ws (n_v vs 0) 163)) (w_ei ws (w_ar ws (n_v vs 0) 1)) (w_fi ws (n_v vs 0) 8) (w_fi ws (n_v vs 0) 10) (v_iv (Value.int x)) k1 k2 k3 k4 k5 k6 f0 f1 f2 f3 f4 f5 f6 f7 f8 f9 f10 f11 f12 f14 f15 f16 hK_0_1 hK_0_160 hK_0_162 hK_0_163 kz_0_8 kz_0_10 kz_0_157 kz_0_158 kz_0_159 kz_0_164 kz_0_165 ex2 ex3
  have nf10 : fc_1 PRD (20, [8, 0], [30, -2010, -1, 0, 0, -1, 1, 158]) ws (vs ++ [Value.int x]) := by
    refine ⟨nf_inA hl rfl, sgq_310 ?_⟩
    · show (-1) * v_iv (n_v (vs ++ [Value.int x]) 8) + ((-1) * w_fi ws (n_v (vs ++ [Value.int x]) 0) 158 + 0) ≤ (-2010)
      simp only [e_0, e_8]
      exact vc_Mo_both_at_f0_1_10 (v_iv (n_v vs 1)) (v_iv (n_v vs 2)) (v_iv (n_v vs 3)) (v_iv (n_v vs 4)) (v_iv (n_v vs 5)) (v_iv (n_v vs 6)) (w_fi ws (n_v vs 0) 164) (w_fi ws (n_v vs 0) 165) (w_ei ws (w_ar ws (n_v vs 0) 160)) (w_fi ws (n_v vs 0) 158) (w_fi ws (n_v vs 0) 157) (w_fi ws (n_v vs 0) 159) (w_ei ws (w_ar ws (n_v vs 0) 161)) (w_ei ws (w_ar ws (n_v vs 0) 162)) (w_ei ws (w_ar ws (n_v vs 0) 163)) (w_ei ws (w_ar ws (n_v vs 0) 1)) (w_fi ws (n_v vs 0) 8) (w_fi ws (n_v vs 0) 10) (v_iv (Value.int x)) k1 k2 k3 k4 k5 k6 f0 f1 f2 f3 f4 f5 f6 f7 f8 f9 f10 f11 f12 f14 f15 f16 hK_0_1 hK_0_160 hK_0_162 hK_0_163 kz_0_8 kz_0_10 kz_0_157 kz_0_158 kz_0_159 kz_0_164 kz_0_165 ex2 ex3
  exact ⟨(fun _ h => (by cases h)), [Value.int x], ag_one hx, List.forall_mem_cons.mpr ⟨⟨show (20 : Nat) < 100 from by decide, nf0⟩, List.forall_mem_cons.mpr ⟨⟨show (20 : Nat) < 100 from by decide, nf1⟩, List.forall_mem_cons.mpr ⟨⟨show (20 : Nat) < 100 from by decide, nf2⟩, List.forall_mem_cons.mpr ⟨⟨show (20 : Nat) < 100 from by decide, nf3⟩, List.forall_mem_cons.mpr ⟨⟨show (20 : Nat) < 100 from by decide, nf4⟩, List.forall_mem_cons.mpr ⟨⟨show (20 : Nat) < 100 from by decide, nf5⟩, List.forall_mem_cons.mpr ⟨⟨show (23 : Nat) < 100 from by decide, nf6⟩, List.forall_mem_cons.mpr ⟨⟨show (23 : Nat) < 100 from by decide, nf7⟩, List.forall_mem_cons.mpr ⟨⟨show (24 : Nat) < 100 from by decide, nf8⟩, List.forall_mem_cons.mpr ⟨⟨show (20 : Nat) < 100 from by decide, nf9⟩, List.forall_mem_cons.mpr ⟨⟨show (20 : Nat) < 100 from by decide, nf10⟩, (fun _ h => (by cases h))⟩⟩⟩⟩⟩⟩⟩⟩⟩⟩⟩, (fun _ h => (by cases h))⟩
set_option maxHeartbeats 4000000 in
theorem vc_Mo_both_at_f0_2_0 (x1 : Int) (x2 : Int) (x3 : Int) (x6 : Int) (x7 : Int) (x9 : Int) (cur_0 : Int) (tokenKind_0 : Int → Int) (tokens_0 : Int) (styleKind_0 : Int) (styleOne_0 : Int) (opened_0 : Int) (tokenValue_0 : Int → Int) (tokenPlace_0 : Int → Int) (tokenEnd_0 : Int → Int) (tape_0 : Int → Int) (fault_0 : Int) (limit_0 : Int) (k1 : 0 ≤ x1 ∧ x1 ≤ 2009) (k2 : 0 ≤ x2 ∧ x2 ≤ 5) (k3 : 0 ≤ x3 ∧ x3 ≤ 13) (k6 : 0 ≤ x6 ∧ x6 ≤ 2009) (k7 : 0 ≤ x7 ∧ x7 ≤ 2010) (k9 : 0 ≤ x9 ∧ x9 ≤ 0) (g0 : x6 = cur_0) (f1 : x9 = 0) (f2 : ((cur_0 + 1) ≤ tokens_0) ∧ ((tokens_0 ≤ 2010) ∧ ((tokenKind_0 ((tokens_0 - 1)) = 0) ∨ (tokenKind_0 ((tokens_0 - 1)) = 4)))) (f3 : 1 * x1 + ((-1) * cur_0 + 0) ≤ 0) (f4 : (styleKind_0 = 0) → (styleOne_0 ≤ 23)) (f5 : 1 * opened_0 + 0 ≤ 0) (f6 : (-1) * opened_0 + 0 ≤ 0) (f7 : SBL (fault_0) (cur_0) (styleKind_0) (limit_0) (tokenKind_0) (tokenValue_0) (tokenPlace_0) (tokenEnd_0) (tape_0) (x1) (x2) (x3)) (f8 : 1 * x3 + 0 ≤ 0) (f9 : (-1) * x3 + 0 ≤ 0) (f11 : 1 * x7 + (1 * cur_0 + 0) ≤ 2010) (f12 : (-1) * x7 + ((-1) * cur_0 + 0) ≤ (-2010)) (f13 : (x9 = 1) → (tokenKind_0 (cur_0) = 1)) (f14 : Wqand (fault_0) (cur_0) (limit_0) (tokenKind_0) (tokenPlace_0) (tokenEnd_0) (tape_0) (x9)) (f16 : 1 * x3 + 0 ≤ 0) (f17 : (-1) * x3 + 0 ≤ 0) (hK_0_1 : ∀ j : Int, 0 ≤ j → j < 2000 → (-128) ≤ tape_0 j ∧ tape_0 j ≤ 127) (hK_0_160 : ∀ j : Int, 0 ≤ j → j < 2010 → 0 ≤ tokenKind_0 j ∧ tokenKind_0 j ≤ 4) (hK_0_162 : ∀ j : Int, 0 ≤ j → j < 2010 → 0 ≤ tokenPlace_0 j ∧ tokenPlace_0 j ≤ 2000) (hK_0_163 : ∀ j : Int, 0 ≤ j → j < 2010 → 0 ≤ tokenEnd_0 j ∧ tokenEnd_0 j ≤ 2000) (kz_0_8 : 0 ≤ fault_0 ∧ fault_0 ≤ 5) (kz_0_10 : 0 ≤ limit_0 ∧ limit_0 ≤ 2000) (kz_0_157 : 0 ≤ tokens_0 ∧ tokens_0 ≤ 2010) (kz_0_158 : 0 ≤ cur_0 ∧ cur_0 ≤ 2009) (kz_0_159 : 0 ≤ opened_0 ∧ opened_0 ≤ 13) (kz_0_164 : 0 ≤ styleKind_0 ∧ styleKind_0 ≤ 1) (kz_0_165 : (-1) ≤ styleOne_0 ∧ styleOne_0 ≤ 47) : ((cur_0 + 1) ≤ tokens_0) ∧ ((tokens_0 ≤ 2010) ∧ ((tokenKind_0 ((tokens_0 - 1)) = 0) ∨ (tokenKind_0 ((tokens_0 - 1)) = 4))) := by
  first | assumption | (clear f2 f4 f13 hK_0_1 hK_0_160 hK_0_162 hK_0_163; omega) | (clear hK_0_1 hK_0_160 hK_0_162 hK_0_163; grind) | omega | grind
set_option maxHeartbeats 4000000 in
theorem vc_Mo_both_at_f0_2_1 (x1 : Int) (x2 : Int) (x3 : Int) (x6 : Int) (x7 : Int) (x9 : Int) (cur_0 : Int) (tokenKind_0 : Int → Int) (tokens_0 : Int) (styleKind_0 : Int) (styleOne_0 : Int) (opened_0 : Int) (tokenValue_0 : Int → Int) (tokenPlace_0 : Int → Int) (tokenEnd_0 : Int → Int) (tape_0 : Int → Int) (fault_0 : Int) (limit_0 : Int) (k1 : 0 ≤ x1 ∧ x1 ≤ 2009) (k2 : 0 ≤ x2 ∧ x2 ≤ 5) (k3 : 0 ≤ x3 ∧ x3 ≤ 13) (k6 : 0 ≤ x6 ∧ x6 ≤ 2009) (k7 : 0 ≤ x7 ∧ x7 ≤ 2010) (k9 : 0 ≤ x9 ∧ x9 ≤ 0) (g0 : x6 = cur_0) (f1 : x9 = 0) (f2 : ((cur_0 + 1) ≤ tokens_0) ∧ ((tokens_0 ≤ 2010) ∧ ((tokenKind_0 ((tokens_0 - 1)) = 0) ∨ (tokenKind_0 ((tokens_0 - 1)) = 4)))) (f3 : 1 * x1 + ((-1) * cur_0 + 0) ≤ 0) (f4 : (styleKind_0 = 0) → (styleOne_0 ≤ 23)) (f5 : 1 * opened_0 + 0 ≤ 0) (f6 : (-1) * opened_0 + 0 ≤ 0) (f7 : SBL (fault_0) (cur_0) (styleKind_0) (limit_0) (tokenKind_0) (tokenValue_0) (tokenPlace_0) (tokenEnd_0) (tape_0) (x1) (x2) (x3)) (f8 : 1 * x3 + 0 ≤ 0) (f9 : (-1) * x3 + 0 ≤ 0) (f11 : 1 * x7 + (1 * cur_0 + 0) ≤ 2010) (f12 : (-1) * x7 + ((-1) * cur_0 + 0) ≤ (-2010)) (f13 : (x9 = 1) → (tokenKind_0 (cur_0) = 1)) (f14 : Wqand (fault_0) (cur_0) (limit_0) (tokenKind_0) (tokenPlace_0) (tokenEnd_0) (tape_0) (x9)) (f16 : 1 * x3 + 0 ≤ 0) (f17 : (-1) * x3 + 0 ≤ 0) (hK_0_1 : ∀ j : Int, 0 ≤ j → j < 2000 → (-128) ≤ tape_0 j ∧ tape_0 j ≤ 127) (hK_0_160 : ∀ j : Int, 0 ≤ j → j < 2010 → 0 ≤ tokenKind_0 j ∧ tokenKind_0 j ≤ 4) (hK_0_162 : ∀ j : Int, 0 ≤ j → j < 2010 → 0 ≤ tokenPlace_0 j ∧ tokenPlace_0 j ≤ 2000) (hK_0_163 : ∀ j : Int, 0 ≤ j → j < 2010 → 0 ≤ tokenEnd_0 j ∧ tokenEnd_0 j ≤ 2000) (kz_0_8 : 0 ≤ fault_0 ∧ fault_0 ≤ 5) (kz_0_10 : 0 ≤ limit_0 ∧ limit_0 ≤ 2000) (kz_0_157 : 0 ≤ tokens_0 ∧ tokens_0 ≤ 2010) (kz_0_158 : 0 ≤ cur_0 ∧ cur_0 ≤ 2009) (kz_0_159 : 0 ≤ opened_0 ∧ opened_0 ≤ 13) (kz_0_164 : 0 ≤ styleKind_0 ∧ styleKind_0 ≤ 1) (kz_0_165 : (-1) ≤ styleOne_0 ∧ styleOne_0 ≤ 47) : 1 * x1 + ((-1) * cur_0 + 0) ≤ 0 := by
  first | assumption | (clear f2 f4 f13 hK_0_1 hK_0_160 hK_0_162 hK_0_163; omega) | (clear hK_0_1 hK_0_160 hK_0_162 hK_0_163; grind) | omega | grind
set_option maxHeartbeats 4000000 in
theorem vc_Mo_both_at_f0_2_2 (x1 : Int) (x2 : Int) (x3 : Int) (x6 : Int) (x7 : Int) (x9 : Int) (cur_0 : Int) (tokenKind_0 : Int → Int) (tokens_0 : Int) (styleKind_0 : Int) (styleOne_0 : Int) (opened_0 : Int) (tokenValue_0 : Int → Int) (tokenPlace_0 : Int → Int) (tokenEnd_0 : Int → Int) (tape_0 : Int → Int) (fault_0 : Int) (limit_0 : Int) (k1 : 0 ≤ x1 ∧ x1 ≤ 2009) (k2 : 0 ≤ x2 ∧ x2 ≤ 5) (k3 : 0 ≤ x3 ∧ x3 ≤ 13) (k6 : 0 ≤ x6 ∧ x6 ≤ 2009) (k7 : 0 ≤ x7 ∧ x7 ≤ 2010) (k9 : 0 ≤ x9 ∧ x9 ≤ 0) (g0 : x6 = cur_0) (f1 : x9 = 0) (f2 : ((cur_0 + 1) ≤ tokens_0) ∧ ((tokens_0 ≤ 2010) ∧ ((tokenKind_0 ((tokens_0 - 1)) = 0) ∨ (tokenKind_0 ((tokens_0 - 1)) = 4)))) (f3 : 1 * x1 + ((-1) * cur_0 + 0) ≤ 0) (f4 : (styleKind_0 = 0) → (styleOne_0 ≤ 23)) (f5 : 1 * opened_0 + 0 ≤ 0) (f6 : (-1) * opened_0 + 0 ≤ 0) (f7 : SBL (fault_0) (cur_0) (styleKind_0) (limit_0) (tokenKind_0) (tokenValue_0) (tokenPlace_0) (tokenEnd_0) (tape_0) (x1) (x2) (x3)) (f8 : 1 * x3 + 0 ≤ 0) (f9 : (-1) * x3 + 0 ≤ 0) (f11 : 1 * x7 + (1 * cur_0 + 0) ≤ 2010) (f12 : (-1) * x7 + ((-1) * cur_0 + 0) ≤ (-2010)) (f13 : (x9 = 1) → (tokenKind_0 (cur_0) = 1)) (f14 : Wqand (fault_0) (cur_0) (limit_0) (tokenKind_0) (tokenPlace_0) (tokenEnd_0) (tape_0) (x9)) (f16 : 1 * x3 + 0 ≤ 0) (f17 : (-1) * x3 + 0 ≤ 0) (hK_0_1 : ∀ j : Int, 0 ≤ j → j < 2000 → (-128) ≤ tape_0 j ∧ tape_0 j ≤ 127) (hK_0_160 : ∀ j : Int, 0 ≤ j → j < 2010 → 0 ≤ tokenKind_0 j ∧ tokenKind_0 j ≤ 4) (hK_0_162 : ∀ j : Int, 0 ≤ j → j < 2010 → 0 ≤ tokenPlace_0 j ∧ tokenPlace_0 j ≤ 2000) (hK_0_163 : ∀ j : Int, 0 ≤ j → j < 2010 → 0 ≤ tokenEnd_0 j ∧ tokenEnd_0 j ≤ 2000) (kz_0_8 : 0 ≤ fault_0 ∧ fault_0 ≤ 5) (kz_0_10 : 0 ≤ limit_0 ∧ limit_0 ≤ 2000) (kz_0_157 : 0 ≤ tokens_0 ∧ tokens_0 ≤ 2010) (kz_0_158 : 0 ≤ cur_0 ∧ cur_0 ≤ 2009) (kz_0_159 : 0 ≤ opened_0 ∧ opened_0 ≤ 13) (kz_0_164 : 0 ≤ styleKind_0 ∧ styleKind_0 ≤ 1) (kz_0_165 : (-1) ≤ styleOne_0 ∧ styleOne_0 ≤ 47) : 1 * opened_0 + 0 ≤ 0 := by
  first | assumption | (clear f2 f4 f13 hK_0_1 hK_0_160 hK_0_162 hK_0_163; omega) | (clear hK_0_1 hK_0_160 hK_0_162 hK_0_163; grind) | omega | grind
set_option maxHeartbeats 4000000 in
theorem vc_Mo_both_at_f0_2_3 (x1 : Int) (x2 : Int) (x3 : Int) (x6 : Int) (x7 : Int) (x9 : Int) (cur_0 : Int) (tokenKind_0 : Int → Int) (tokens_0 : Int) (styleKind_0 : Int) (styleOne_0 : Int) (opened_0 : Int) (tokenValue_0 : Int → Int) (tokenPlace_0 : Int → Int) (tokenEnd_0 : Int → Int) (tape_0 : Int → Int) (fault_0 : Int) (limit_0 : Int) (k1 : 0 ≤ x1 ∧ x1 ≤ 2009) (k2 : 0 ≤ x2 ∧ x2 ≤ 5) (k3 : 0 ≤ x3 ∧ x3 ≤ 13) (k6 : 0 ≤ x6 ∧ x6 ≤ 2009) (k7 : 0 ≤ x7 ∧ x7 ≤ 2010) (k9 : 0 ≤ x9 ∧ x9 ≤ 0) (g0 : x6 = cur_0) (f1 : x9 = 0) (f2 : ((cur_0 + 1) ≤ tokens_0) ∧ ((tokens_0 ≤ 2010) ∧ ((tokenKind_0 ((tokens_0 - 1)) = 0) ∨ (tokenKind_0 ((tokens_0 - 1)) = 4)))) (f3 : 1 * x1 + ((-1) * cur_0 + 0) ≤ 0) (f4 : (styleKind_0 = 0) → (styleOne_0 ≤ 23)) (f5 : 1 * opened_0 + 0 ≤ 0) (f6 : (-1) * opened_0 + 0 ≤ 0) (f7 : SBL (fault_0) (cur_0) (styleKind_0) (limit_0) (tokenKind_0) (tokenValue_0) (tokenPlace_0) (tokenEnd_0) (tape_0) (x1) (x2) (x3)) (f8 : 1 * x3 + 0 ≤ 0) (f9 : (-1) * x3 + 0 ≤ 0) (f11 : 1 * x7 + (1 * cur_0 + 0) ≤ 2010) (f12 : (-1) * x7 + ((-1) * cur_0 + 0) ≤ (-2010)) (f13 : (x9 = 1) → (tokenKind_0 (cur_0) = 1)) (f14 : Wqand (fault_0) (cur_0) (limit_0) (tokenKind_0) (tokenPlace_0) (tokenEnd_0) (tape_0) (x9)) (f16 : 1 * x3 + 0 ≤ 0) (f17 : (-1) * x3 + 0 ≤ 0) (hK_0_1 : ∀ j : Int, 0 ≤ j → j < 2000 → (-128) ≤ tape_0 j ∧ tape_0 j ≤ 127) (hK_0_160 : ∀ j : Int, 0 ≤ j → j < 2010 → 0 ≤ tokenKind_0 j ∧ tokenKind_0 j ≤ 4) (hK_0_162 : ∀ j : Int, 0 ≤ j → j < 2010 → 0 ≤ tokenPlace_0 j ∧ tokenPlace_0 j ≤ 2000) (hK_0_163 : ∀ j : Int, 0 ≤ j → j < 2010 → 0 ≤ tokenEnd_0 j ∧ tokenEnd_0 j ≤ 2000) (kz_0_8 : 0 ≤ fault_0 ∧ fault_0 ≤ 5) (kz_0_10 : 0 ≤ limit_0 ∧ limit_0 ≤ 2000) (kz_0_157 : 0 ≤ tokens_0 ∧ tokens_0 ≤ 2010) (kz_0_158 : 0 ≤ cur_0 ∧ cur_0 ≤ 2009) (kz_0_159 : 0 ≤ opened_0 ∧ opened_0 ≤ 13) (kz_0_164 : 0 ≤ styleKind_0 ∧ styleKind_0 ≤ 1) (kz_0_165 : (-1) ≤ styleOne_0 ∧ styleOne_0 ≤ 47) : (-1) * opened_0 + 0 ≤ 0 := by
  first | assumption | (clear f2 f4 f13 hK_0_1 hK_0_160 hK_0_162 hK_0_163; omega) | (clear hK_0_1 hK_0_160 hK_0_162 hK_0_163; grind) | omega | grind
set_option maxHeartbeats 4000000 in
theorem vc_Mo_both_at_f0_2_4 (x1 : Int) (x2 : Int) (x3 : Int) (x6 : Int) (x9 : Int) (cur_0 : Int) (tokenKind_0 : Int → Int) (styleKind_0 : Int) (tokenValue_0 : Int → Int) (tokenPlace_0 : Int → Int) (tokenEnd_0 : Int → Int) (tape_0 : Int → Int) (fault_0 : Int) (limit_0 : Int) (k1 : 0 ≤ x1 ∧ x1 ≤ 2009) (k2 : 0 ≤ x2 ∧ x2 ≤ 5) (k3 : 0 ≤ x3 ∧ x3 ≤ 13) (k6 : 0 ≤ x6 ∧ x6 ≤ 2009) (k9 : 0 ≤ x9 ∧ x9 ≤ 0) (g0 : x6 = cur_0) (f7 : SBL (fault_0) (cur_0) (styleKind_0) (limit_0) (tokenKind_0) (tokenValue_0) (tokenPlace_0) (tokenEnd_0) (tape_0) (x1) (x2) (x3)) (f14 : Wqand (fault_0) (cur_0) (limit_0) (tokenKind_0) (tokenPlace_0) (tokenEnd_0) (tape_0) (x9)) (kz_0_8 : 0 ≤ fault_0 ∧ fault_0 ≤ 5) (kz_0_10 : 0 ≤ limit_0 ∧ limit_0 ≤ 2000) (kz_0_158 : 0 ≤ cur_0 ∧ cur_0 ≤ 2009) (kz_0_164 : 0 ≤ styleKind_0 ∧ styleKind_0 ≤ 1) : SBO (fault_0) (cur_0) (styleKind_0) (limit_0) (tokenKind_0) (tokenValue_0) (tokenPlace_0) (tokenEnd_0) (tape_0) (x1) (x2) (x3) := by
  first
    | exact sbo_of (‹SBL _ _ _ _ _ _ _ _ _ _ _ _›) (fun z y => wdq_n (‹Wqand _ _ _ _ _ _ _ _›) (by omega) ⟨z, y⟩) (by omega)
  
def o_Mo_both_at_f0_2 : or_T := (48, 10, [(0, (2, 0, 0, [165])), (1, (0, 0, 2009, [])), (2, (0, 0, 5, [])), (3, (0, 0, 13, [])), (6, (0, 0, 2009, [])), (7, (0, 0, 2010, [])), (9, (0, 0, 0, []))], [(9, [6, 4], [158]), (8, [9], [0]), (20, [4], [50, 2, 1, 158, 157, 160, 2, 12, 0, 7, 4, 3, 2, 0, 158, 0, 1, 2, 0, 157, 2, 7, 0, 3, 2, 0, 157, 0, 2010, 3, 14, 1, 10, 3, 0, 160, 5, 3, 2, 0, 157, 0, 1, 0, 0, 1, 10, 3, 0, 160, 5, 3, 2, 0, 157, 0, 1, 0, 4]), (20, [1, 4], [30, 0, 1, 0, 0, -1, 1, 158]), (20, [4], [50, 2, 0, 164, 165, 4, 7, 1, 3, 2, 0, 164, 0, 0, 0, 3, 2, 0, 165, 0, 23]), (20, [4], [30, 0, 1, 1, 159]), (20, [4], [30, 0, -1, 1, 159]), (20, [4, 1, 2, 3], [60, 4, 5, 8, 8, 158, 164, 10, 160, 161, 162, 163, 1]), (23, [3], [0, 1]), (23, [3], [0, -1]), (24, [0, 4], []), (20, [7, 4], [30, 2010, 1, 0, 0, 1, 1, 158]), (20, [7, 4], [30, -2010, -1, 0, 0, -1, 1, 158]), (20, [9, 4], [50, 1, 1, 1158, 1160, 4, 6, 1, 2, 1, 0, 0, 1, 1, 6, 3, 1, 160, 2, 1, 158, 0, 1]), (20, [4, 9], [60, 3, 4, 26, 8, 158, 10, 160, 162, 163, 1]), (102, [8], [0]), (23, [3], [0, 1]), (23, [3], [0, -1])], [], [], [(20, [0], [50, 2, 1, 158, 157, 160, 2, 12, 0, 7, 4, 3, 2, 0, 158, 0, 1, 2, 0, 157, 2, 7, 0, 3, 2, 0, 157, 0, 2010, 3, 14, 1, 10, 3, 0, 160, 5, 3, 2, 0, 157, 0, 1, 0, 0, 1, 10, 3, 0, 160, 5, 3, 2, 0, 157, 0, 1, 0, 4]), (20, [1, 0], [30, 0, 1, 0, 0, -1, 1, 158]), (20, [0], [30, 0, 1, 1, 159]), (20, [0], [30, 0, -1, 1, 159]), (20, [0, 1, 2, 3], [60, 4, 5, 4, 8, 158, 164, 10, 160, 161, 162, 163, 1])], [], [])
theorem oo_Mo_both_at_f0_2 {kA : Nat → ClassId} : or_ok PRD kA GG o_Mo_both_at_f0_2 := by
  refine or_mk fun A ta ws vs hD hth hl => ?_
  intro t0 r0 t1 k1 t2 k2 t3 k3 t6 k6 t7 k7 t9 k9 f0 f1 f2 f3 f4 f5 f6 f7 f8 f9 f10 f11 f12 f13 f14 ta1 w1 le1 s1 f16 f17
  replace f0 := shm_311 f0
  replace f2 := shm_296 f2
  replace f3 := shm_306 f3
  replace f4 := shm_299 f4
  replace f5 := shm_999 f5
  replace f6 := shm_1000 f6
  replace f7 := shm_308 f7
  replace f10 := shm_5 f10
  replace f11 := shm_309 f11
  replace f12 := shm_310 f12
  replace f13 := shm_312 f13
  replace f14 := shm_313 f14
  have q4 : n_v vs 4 = n_v vs 0 := f10.symm
  simp only [q4] at f0 f2 f3 f4 f5 f6 f7 f11 f12 f13 f14
  have cr_0_1 := fdq_46 hD hth r0
  have cr_0_160 := fdq_41 hD hth r0
  have cr_0_162 := fdq_48 hD hth r0
  have cr_0_163 := fdq_49 hD hth r0
  have g0 : v_iv (n_v vs 6) = w_fi ws (n_v vs 0) 158 := congrArg v_iv f0
  have hK_0_1 := elq_6 hD hth cr_0_1
  have hK_0_160 := elq_5 hD hth cr_0_160
  have hK_0_162 := elq_7 hD hth cr_0_162
  have hK_0_163 := elq_8 hD hth cr_0_163
  have kz_0_8 := fdq_14 hD hth r0
  have kz_0_10 := fdq_50 hD hth r0
  have kz_0_157 := fdq_42 hD hth r0
  have kz_0_158 := fdq_43 hD hth r0
  have kz_0_159 := fdq_44 hD hth r0
  have kz_0_164 := fdq_45 hD hth r0
  have kz_0_165 := fdq_35 hD hth r0
  have nf0 : fc_1 PRD (20, [0], [50, 2, 1, 158, 157, 160, 2, 12, 0, 7, 4, 3, 2, 0, 158, 0, 1, 2, 0, 157, 2, 7, 0, 3, 2, 0, 157, 0, 2010, 3, 14, 1, 10, 3, 0, 160, 5, 3, 2, 0, 157, 0, 1, 0, 0, 1, 10, 3, 0, 160, 5, 3, 2, 0, 157, 0, 1, 0, 4]) ws (vs) := ⟨nf_in hl rfl, sgq_296 (vc_Mo_both_at_f0_2_0 (v_iv (n_v vs 1)) (v_iv (n_v vs 2)) (v_iv (n_v vs 3)) (v_iv (n_v vs 6)) (v_iv (n_v vs 7)) (v_iv (n_v vs 9)) (w_fi ws (n_v vs 0) 158) (w_ei ws (w_ar ws (n_v vs 0) 160)) (w_fi ws (n_v vs 0) 157) (w_fi ws (n_v vs 0) 164) (w_fi ws (n_v vs 0) 165) (w_fi ws (n_v vs 0) 159) (w_ei ws (w_ar ws (n_v vs 0) 161)) (w_ei ws (w_ar ws (n_v vs 0) 162)) (w_ei ws (w_ar ws (n_v vs 0) 163)) (w_ei ws (w_ar ws (n_v vs 0) 1)) (w_fi ws (n_v vs 0) 8) (w_fi ws (n_v vs 0) 10) k1 k2 k3 k6 k7 k9 g0 (shm_210 f1) f2 f3 f4 f5 f6 f7 (shm_1477 f8) (shm_1013 f9) f11 f12 f13 f14 (shm_1477 f16) (shm_1013 f17) hK_0_1 hK_0_160 hK_0_162 hK_0_163 kz_0_8 kz_0_10 kz_0_157 kz_0_158 kz_0_159 kz_0_164 kz_0_165)⟩
  have nf1 : fc_1 PRD (20, [1, 0], [30, 0, 1, 0, 0, -1, 1, 158]) ws (vs) := ⟨nf_in hl rfl, sgq_306 (vc_Mo_both_at_f0_2_1 (v_iv (n_v vs 1)) (v_iv (n_v vs 2)) (v_iv (n_v vs 3)) (v_iv (n_v vs 6)) (v_iv (n_v vs 7)) (v_iv (n_v vs 9)) (w_fi ws (n_v vs 0) 158) (w_ei ws (w_ar ws (n_v vs 0) 160)) (w_fi ws (n_v vs 0) 157) (w_fi ws (n_v vs 0) 164) (w_fi ws (n_v vs 0) 165) (w_fi ws (n_v vs 0) 159) (w_ei ws (w_ar ws (n_v vs 0) 161)) (w_ei ws (w_ar ws (n_v vs 0) 162)) (w_ei ws (w_ar ws (n_v vs 0) 163)) (w_ei ws (w_ar ws (n_v vs 0) 1)) (w_fi ws (n_v vs 0) 8) (w_fi ws (n_v vs 0) 10) k1 k2 k3 k6 k7 k9 g0 (shm_210 f1) f2 f3 f4 f5 f6 f7 (shm_1477 f8) (shm_1013 f9) f11 f12 f13 f14 (shm_1477 f16) (shm_1013 f17) hK_0_1 hK_0_160 hK_0_162 hK_0_163 kz_0_8 kz_0_10 kz_0_157 kz_0_158 kz_0_159 kz_0_164 kz_0_165)⟩
  have nf2 : fc_1 PRD (20, [0], [30, 0, 1, 1, 159]) ws (vs) := ⟨nf_in hl rfl, sgq_999 (vc_Mo_both_at_f0_2_2 (v_iv (n_v vs 1)) (v_iv (n_v vs 2)) (v_iv (n_v vs 3)) (v_iv (n_v vs 6)) (v_iv (n_v vs 7)) (v_iv (n_v vs 9)) (w_fi ws (n_v vs 0) 158) (w_ei ws (w_ar ws (n_v vs 0) 160)) (w_fi ws (n_v vs 0) 157) (w_fi ws (n_v vs 0) 164) (w_fi ws (n_v vs 0) 165) (w_fi ws (n_v vs 0) 159) (w_ei ws (w_ar ws (n_v vs 0) 161)) (w_ei ws (w_ar ws (n_v vs 0) 162)) (w_ei ws (w_ar ws (n_v vs 0) 163)) (w_ei ws (w_ar ws (n_v vs 0) 1)) (w_fi ws (n_v vs 0) 8) (w_fi ws (n_v vs 0) 10) k1 k2 k3 k6 k7 k9 g0 (shm_210 f1) f2 f3 f4 f5 f6 f7 (shm_1477 f8) (shm_1013 f9) f11 f12 f13 f14 (shm_1477 f16) (shm_1013 f17) hK_0_1 hK_0_160 hK_0_162 hK_0_163 kz_0_8 kz_0_10 kz_0_157 kz_0_158 kz_0_159 kz_0_164 kz_0_165)⟩
  have nf3 : fc_1 PRD (20, [0], [30, 0, -1, 1, 159]) ws (vs) := ⟨nf_in hl rfl, sgq_1000 (vc_Mo_both_at_f0_2_3 (v_iv (n_v vs 1)) (v_iv (n_v vs 2)) (v_iv (n_v vs 3)) (v_iv (n_v vs 6)) (v_iv (n_v vs 7)) (v_iv (n_v vs 9)) (w_fi ws (n_v vs 0) 158) (w_ei ws (w_ar ws (n_v vs 0) 160)) (w_fi ws (n_v vs 0) 157) (w_fi ws (n_v vs 0) 164) (w_fi ws (n_v vs 0) 165) (w_fi ws (n_v vs 0) 159) (w_ei ws (w_ar ws (n_v vs 0) 161)) (w_ei ws (w_ar ws (n_v vs 0) 162)) (w_ei ws (w_ar ws (n_v vs 0) 163)) (w_ei ws (w_ar ws (n_v vs 0) 1)) (w_fi ws (n_v vs 0) 8) (w_fi ws (n_v vs 0) 10) k1 k2 k3 k6 k7 k9 g0 (shm_210 f1) f2 f3 f4 f5 f6 f7 (shm_1477 f8) (shm_1013 f9) f11 f12 f13 f14 (shm_1477 f16) (shm_1013 f17) hK_0_1 hK_0_160 hK_0_162 hK_0_163 kz_0_8 kz_0_10 kz_0_157 kz_0_158 kz_0_159 kz_0_164 kz_0_165)⟩
  have nf4 : fc_1 PRD (20, [0, 1, 2, 3], [60, 4, 5, 4, 8, 158, 164, 10, 160, 161, 162, 163, 1]) ws (vs) := ⟨nf_in hl rfl, sgq_314 (vc_Mo_both_at_f0_2_4 (v_iv (n_v vs 1)) (v_iv (n_v vs 2)) (v_iv (n_v vs 3)) (v_iv (n_v vs 6)) (v_iv (n_v vs 9)) (w_fi ws (n_v vs 0) 158) (w_ei ws (w_ar ws (n_v vs 0) 160)) (w_fi ws (n_v vs 0) 164) (w_ei ws (w_ar ws (n_v vs 0) 161)) (w_ei ws (w_ar ws (n_v vs 0) 162)) (w_ei ws (w_ar ws (n_v vs 0) 163)) (w_ei ws (w_ar ws (n_v vs 0) 1)) (w_fi ws (n_v vs 0) 8) (w_fi ws (n_v vs 0) 10) k1 k2 k3 k6 k9 g0 f7 f14 kz_0_8 kz_0_10 kz_0_158 kz_0_164)⟩
  refine ⟨(fun _ h => (by cases h)), [], trivial, ?_, (fun _ h => (by cases h))⟩
  rw [List.append_nil]
  exact List.forall_mem_cons.mpr ⟨⟨show (20 : Nat) < 100 from by decide, nf0⟩, List.forall_mem_cons.mpr ⟨⟨show (20 : Nat) < 100 from by decide, nf1⟩, List.forall_mem_cons.mpr ⟨⟨show (20 : Nat) < 100 from by decide, nf2⟩, List.forall_mem_cons.mpr ⟨⟨show (20 : Nat) < 100 from by decide, nf3⟩, List.forall_mem_cons.mpr ⟨⟨show (20 : Nat) < 100 from by decide, nf4⟩, (fun _ h => (by cases h))⟩⟩⟩⟩⟩
set_option maxHeartbeats 4000000 in
theorem vc_Mo_both_at_f0_3_r0 (x1 : Int) (x2 : Int) (x3 : Int) (x6 : Int) (x7 : Int) (x9 : Int) (x10 : Int) (x11 : Int) (cur_0 : Int) (tokenKind_0 : Int → Int) (tokens_0 : Int) (styleKind_0 : Int) (styleOne_0 : Int) (tokenValue_0 : Int → Int) (tokenPlace_0 : Int → Int) (tokenEnd_0 : Int → Int) (tape_0 : Int → Int) (fault_0 : Int) (limit_0 : Int) (k1 : 0 ≤ x1 ∧ x1 ≤ 2009) (k2 : 0 ≤ x2 ∧ x2 ≤ 5) (k3 : 0 ≤ x3 ∧ x3 ≤ 13) (k6 : 0 ≤ x6 ∧ x6 ≤ 2009) (k7 : 0 ≤ x7 ∧ x7 ≤ 2010) (k9 : 1 ≤ x9 ∧ x9 ≤ 1) (k10 : 1 ≤ x10 ∧ x10 ≤ 1) (k11 : 1 ≤ x11 ∧ x11 ≤ 2010) (d0 : x6 + 1 ≤ x11 ∧ x11 ≤ x6 + 1) (f0 : x11 = x6 + x10) (g1 : x6 = cur_0) (f2 : x9 ≠ 0) (f3 : ((cur_0 + 1) ≤ tokens_0) ∧ ((tokens_0 ≤ 2010) ∧ ((tokenKind_0 ((tokens_0 - 1)) = 0) ∨ (tokenKind_0 ((tokens_0 - 1)) = 4)))) (f4 : 1 * x1 + ((-1) * cur_0 + 0) ≤ 0) (f5 : (styleKind_0 = 0) → (styleOne_0 ≤ 23)) (f6 : SBL (fault_0) (cur_0) (styleKind_0) (limit_0) (tokenKind_0) (tokenValue_0) (tokenPlace_0) (tokenEnd_0) (tape_0) (x1) (x2) (x3)) (f7 : 1 * x3 + 0 ≤ 0) (f8 : (-1) * x3 + 0 ≤ 0) (f10 : 1 * x7 + (1 * cur_0 + 0) ≤ 2010) (f11 : (-1) * x7 + ((-1) * cur_0 + 0) ≤ (-2010)) (f12 : (x9 = 1) → (tokenKind_0 (cur_0) = 1)) (f13 : Wqand (fault_0) (cur_0) (limit_0) (tokenKind_0) (tokenPlace_0) (tokenEnd_0) (tape_0) (x9)) (f15 : 1 * x3 + 0 ≤ 0) (f16 : (-1) * x3 + 0 ≤ 0) (hK_0_1 : ∀ j : Int, 0 ≤ j → j < 2000 → (-128) ≤ tape_0 j ∧ tape_0 j ≤ 127) (hK_0_160 : ∀ j : Int, 0 ≤ j → j < 2010 → 0 ≤ tokenKind_0 j ∧ tokenKind_0 j ≤ 4) (hK_0_162 : ∀ j : Int, 0 ≤ j → j < 2010 → 0 ≤ tokenPlace_0 j ∧ tokenPlace_0 j ≤ 2000) (hK_0_163 : ∀ j : Int, 0 ≤ j → j < 2010 → 0 ≤ tokenEnd_0 j ∧ tokenEnd_0 j ≤ 2000) (kz_0_8 : 0 ≤ fault_0 ∧ fault_0 ≤ 5) (kz_0_10 : 0 ≤ limit_0 ∧ limit_0 ≤ 2000) (kz_0_157 : 0 ≤ tokens_0 ∧ tokens_0 ≤ 2010) (kz_0_158 : 0 ≤ cur_0 ∧ cur_0 ≤ 2009) (kz_0_164 : 0 ≤ styleKind_0 ∧ styleKind_0 ≤ 1) (kz_0_165 : (-1) ≤ styleOne_0 ∧ styleOne_0 ≤ 47) : 1 ≤ x11 ∧ x11 ≤ 2009 := by
  first | assumption | (clear f3 f5 f12 hK_0_1 hK_0_160 hK_0_162 hK_0_163; omega) | (clear hK_0_1 hK_0_160 hK_0_162 hK_0_163; grind) | omega | grind
def o_Mo_both_at_f0_3 : or_T := (22, 12, [(0, (2, 0, 0, [165])), (1, (0, 0, 2009, [])), (2, (0, 0, 5, [])), (3, (0, 0, 13, [])), (4, (2, 0, 0, [165])), (6, (0, 0, 2009, [])), (7, (0, 0, 2010, [])), (9, (0, 1, 1, [])), (10, (0, 1, 1, [])), (11, (0, 1, 2010, []))], [(1, [11, 6, 10], []), (9, [6, 4], [158]), (8, [9], [1]), (20, [4], [50, 2, 1, 158, 157, 160, 2, 12, 0, 7, 4, 3, 2, 0, 158, 0, 1, 2, 0, 157, 2, 7, 0, 3, 2, 0, 157, 0, 2010, 3, 14, 1, 10, 3, 0, 160, 5, 3, 2, 0, 157, 0, 1, 0, 0, 1, 10, 3, 0, 160, 5, 3, 2, 0, 157, 0, 1, 0, 4]), (20, [1, 4], [30, 0, 1, 0, 0, -1, 1, 158]), (20, [4], [50, 2, 0, 164, 165, 4, 7, 1, 3, 2, 0, 164, 0, 0, 0, 3, 2, 0, 165, 0, 23]), (20, [4, 1, 2, 3], [60, 4, 5, 8, 8, 158, 164, 10, 160, 161, 162, 163, 1]), (23, [3], [0, 1]), (23, [3], [0, -1]), (24, [0, 4], []), (20, [7, 4], [30, 2010, 1, 0, 0, 1, 1, 158]), (20, [7, 4], [30, -2010, -1, 0, 0, -1, 1, 158]), (20, [9, 4], [50, 1, 1, 1158, 1160, 4, 6, 1, 2, 1, 0, 0, 1, 1, 6, 3, 1, 160, 2, 1, 158, 0, 1]), (20, [4, 9], [60, 3, 4, 26, 8, 158, 10, 160, 162, 163, 1]), (102, [8], [0]), (23, [3], [0, 1]), (23, [3], [0, -1])], [(11, (0, 1, 2009, []))], [], [], [], [(11, 6, 1, 1)])
theorem oo_Mo_both_at_f0_3 {kA : Nat → ClassId} : or_ok PRD kA GG o_Mo_both_at_f0_3 := by
  refine or_mk fun A ta ws vs hD hth hl => ?_
  intro t0 r0 t1 k1 t2 k2 t3 k3 t4 r4 t6 k6 t7 k7 t9 k9 t10 k10 t11 k11 d0 f0 f1 f2 f3 f4 f5 f6 f7 f8 f9 f10 f11 f12 f13 ta1 w1 le1 s1 f15 f16
  replace f1 := shm_311 f1
  replace f3 := shm_296 f3
  replace f4 := shm_306 f4
  replace f5 := shm_299 f5
  replace f6 := shm_308 f6
  replace f9 := shm_5 f9
  replace f10 := shm_309 f10
  replace f11 := shm_310 f11
  replace f12 := shm_312 f12
  replace f13 := shm_313 f13
  have q4 : n_v vs 4 = n_v vs 0 := f9.symm
  simp only [q4] at f1 f3 f4 f5 f6 f10 f11 f12 f13
  have cr_0_1 := fdq_46 hD hth r0
  have cr_0_160 := fdq_41 hD hth r0
  have cr_0_162 := fdq_48 hD hth r0
  have cr_0_163 := fdq_49 hD hth r0
  have g1 : v_iv (n_v vs 6) = w_fi ws (n_v vs 0) 158 := congrArg v_iv f1
  have hK_0_1 := elq_6 hD hth cr_0_1
  have hK_0_160 := elq_5 hD hth cr_0_160
  have hK_0_162 := elq_7 hD hth cr_0_162
  have hK_0_163 := elq_8 hD hth cr_0_163
  have kz_0_8 := fdq_14 hD hth r0
  have kz_0_10 := fdq_50 hD hth r0
  have kz_0_157 := fdq_42 hD hth r0
  have kz_0_158 := fdq_43 hD hth r0
  have kz_0_164 := fdq_45 hD hth r0
  have kz_0_165 := fdq_35 hD hth r0
  have hrf0 : 1 ≤ v_iv (n_v vs 11) ∧ v_iv (n_v vs 11) ≤ 2009 := vc_Mo_both_at_f0_3_r0 (v_iv (n_v vs 1)) (v_iv (n_v vs 2)) (v_iv (n_v vs 3)) (v_iv (n_v vs 6)) (v_iv (n_v vs 7)) (v_iv (n_v vs 9)) (v_iv (n_v vs 10)) (v_iv (n_v vs 11)) (w_fi ws (n_v vs 0) 158) (w_ei ws (w_ar ws (n_v vs 0) 160)) (w_fi ws (n_v vs 0) 157) (w_fi ws (n_v vs 0) 164) (w_fi ws (n_v vs 0) 165) (w_ei ws (w_ar ws (n_v vs 0) 161)) (w_ei ws (w_ar ws (n_v vs 0) 162)) (w_ei ws (w_ar ws (n_v vs 0) 163)) (w_ei ws (w_ar ws (n_v vs 0) 1)) (w_fi ws (n_v vs 0) 8) (w_fi ws (n_v vs 0) 10) k1 k2 k3 k6 k7 k9 k10 k11 d0 (shm_12 f0) g1 (shm_154 f2) f3 f4 f5 f6 (shm_1477 f7) (shm_1013 f8) f10 f11 f12 f13 (shm_1477 f15) (shm_1013 f16) hK_0_1 hK_0_160 hK_0_162 hK_0_163 kz_0_8 kz_0_10 kz_0_157 kz_0_158 kz_0_164 kz_0_165
  have rf11 : tv_ok ta (0, 1, 2009, []) (n_v vs 11) := tv_in t11 (by first | omega | grind) (by first | omega | grind)
  refine ⟨List.forall_mem_cons.mpr ⟨rf11, (fun _ h => (by cases h))⟩, [], trivial, ?_, (fun _ h => (by cases h))⟩
  rw [List.append_nil]
  exact (fun _ h => (by cases h))
set_option maxHeartbeats 4000000 in
theorem vc_Mo_both_at_f0_4_0 (x1 : Int) (x2 : Int) (x3 : Int) (x6 : Int) (x7 : Int) (x9 : Int) (x10 : Int) (x11 : Int) (cur_0 : Int) (styleKind_0 : Int) (styleOne_0 : Int) (opened_0 : Int) (cur_1 : Int) (tokenKind_1 : Int → Int) (tokens_1 : Int) (styleKind_1 : Int) (styleOne_1 : Int) (opened_1 : Int) (tokenValue_1 : Int → Int) (tokenPlace_1 : Int → Int) (tokenEnd_1 : Int → Int) (tape_1 : Int → Int) (fault_1 : Int) (limit_1 : Int) (fault_0 : Int) (limit_0 : Int) (tokens_0 : Int) (tape_0 : Int → Int) (tokenKind_0 : Int → Int) (tokenValue_0 : Int → Int) (tokenPlace_0 : Int → Int) (tokenEnd_0 : Int → Int) (gx : Int) (gy : Int) (gu : Int) (k1 : 0 ≤ x1 ∧ x1 ≤ 2009) (k2 : 0 ≤ x2 ∧ x2 ≤ 5) (k3 : 0 ≤ x3 ∧ x3 ≤ 13) (k6 : 0 ≤ x6 ∧ x6 ≤ 2009) (k7 : 0 ≤ x7 ∧ x7 ≤ 2010) (k9 : 1 ≤ x9 ∧ x9 ≤ 1) (k10 : 1 ≤ x10 ∧ x10 ≤ 1) (k11 : 1 ≤ x11 ∧ x11 ≤ 2009) (d0 : x6 + 1 ≤ x11 ∧ x11 ≤ x6 + 1) (g0 : x11 = cur_0) (f1 : (styleKind_0 = 0) → (styleOne_0 ≤ 23)) (f2 : 1 * opened_0 + 0 ≤ 0) (f3 : (-1) * opened_0 + 0 ≤ 0) (f4 : 1 * x3 + 0 ≤ 0) (f5 : (-1) * x3 + 0 ≤ 0) (f8 : x11 = x6 + x10) (g9 : x6 = cur_1) (f10 : x9 ≠ 0) (f11 : ((cur_1 + 1) ≤ tokens_1) ∧ ((tokens_1 ≤ 2010) ∧ ((tokenKind_1 ((tokens_1 - 1)) = 0) ∨ (tokenKind_1 ((tokens_1 - 1)) = 4)))) (f12 : 1 * x1 + ((-1) * cur_1 + 0) ≤ 0) (f13 : (styleKind_1 = 0) → (styleOne_1 ≤ 23)) (f14 : 1 * opened_1 + 0 ≤ 0) (f15 : (-1) * opened_1 + 0 ≤ 0) (f16 : SBL (fault_1) (cur_1) (styleKind_1) (limit_1) (tokenKind_1) (tokenValue_1) (tokenPlace_1) (tokenEnd_1) (tape_1) (x1) (x2) (x3)) (f17 : 1 * x3 + 0 ≤ 0) (f18 : (-1) * x3 + 0 ≤ 0) (f19 : 1 * x7 + (1 * cur_1 + 0) ≤ 2010) (f20 : (-1) * x7 + ((-1) * cur_1 + 0) ≤ (-2010)) (f21 : (x9 = 1) → (tokenKind_1 (cur_1) = 1)) (f22 : Wqand (fault_1) (cur_1) (limit_1) (tokenKind_1) (tokenPlace_1) (tokenEnd_1) (tape_1) (x9)) (f24 : 1 * x3 + 0 ≤ 0) (f25 : (-1) * x3 + 0 ≤ 0) (fe_0_8_1 : fault_0 = fault_1) (fe_0_10_1 : limit_0 = limit_1) (fe_0_157_1 : tokens_0 = tokens_1) (fe_0_158_1 : cur_0 = x11) (fe_0_159_1 : opened_0 = opened_1) (fe_0_164_1 : styleKind_0 = styleKind_1) (fe_0_165_1 : styleOne_0 = styleOne_1) (hE_0_1_1 : ∀ j : Int, tape_0 j = tape_1 j) (hK_0_1 : ∀ j : Int, 0 ≤ j → j < 2000 → (-128) ≤ tape_0 j ∧ tape_0 j ≤ 127) (hE_0_160_1 : ∀ j : Int, tokenKind_0 j = tokenKind_1 j) (hK_0_160 : ∀ j : Int, 0 ≤ j → j < 2010 → 0 ≤ tokenKind_0 j ∧ tokenKind_0 j ≤ 4) (hE_0_161_1 : ∀ j : Int, tokenValue_0 j = tokenValue_1 j) (hE_0_162_1 : ∀ j : Int, tokenPlace_0 j = tokenPlace_1 j) (hK_0_162 : ∀ j : Int, 0 ≤ j → j < 2010 → 0 ≤ tokenPlace_0 j ∧ tokenPlace_0 j ≤ 2000) (hE_0_163_1 : ∀ j : Int, tokenEnd_0 j = tokenEnd_1 j) (hK_0_163 : ∀ j : Int, 0 ≤ j → j < 2010 → 0 ≤ tokenEnd_0 j ∧ tokenEnd_0 j ≤ 2000) (kz_0_8 : 0 ≤ fault_0 ∧ fault_0 ≤ 5) (kz_0_10 : 0 ≤ limit_0 ∧ limit_0 ≤ 2000) (kz_0_157 : 0 ≤ tokens_0 ∧ tokens_0 ≤ 2010) (kz_0_158 : 0 ≤ cur_0 ∧ cur_0 ≤ 2009) (kz_0_159 : 0 ≤ opened_0 ∧ opened_0 ≤ 13) (kz_0_164 : 0 ≤ styleKind_0 ∧ styleKind_0 ≤ 1) (kz_0_165 : (-1) ≤ styleOne_0 ∧ styleOne_0 ≤ 47) (ex2 : gx = cur_0) (ex3 : 0 ≤ gx ∧ gx ≤ 2009) (ey2 : gy = fault_0) (ey3 : 0 ≤ gy ∧ gy ≤ 5) (eu2 : gu = opened_0) (eu3 : 0 ≤ gu ∧ gu ≤ 13) : ((cur_0 + 1) ≤ tokens_0) ∧ ((tokens_0 ≤ 2010) ∧ ((tokenKind_0 ((tokens_0 - 1)) = 0) ∨ (tokenKind_0 ((tokens_0 - 1)) = 4))) := by
  subst fe_0_8_1
  subst fe_0_10_1
  subst fe_0_157_1
  subst fe_0_159_1
  subst fe_0_164_1
  subst fe_0_165_1
  have e_hE_0_1_1 := funext hE_0_1_1; subst e_hE_0_1_1
  have e_hE_0_160_1 := funext hE_0_160_1; subst e_hE_0_160_1
  have e_hE_0_161_1 := funext hE_0_161_1; subst e_hE_0_161_1
  have e_hE_0_162_1 := funext hE_0_162_1; subst e_hE_0_162_1
  have e_hE_0_163_1 := funext hE_0_163_1; subst e_hE_0_163_1
  first | assumption | (clear f1 f11 f13 f21 hE_0_1_1 hK_0_1 hE_0_160_1 hK_0_160 hE_0_161_1 hE_0_162_1 hK_0_162 hE_0_163_1 hK_0_163; omega) | (clear hE_0_1_1 hK_0_1 hE_0_160_1 hK_0_160 hE_0_161_1 hE_0_162_1 hK_0_162 hE_0_163_1 hK_0_163; grind) | omega | grind
set_option maxHeartbeats 4000000 in
theorem vc_Mo_both_at_f0_4_1 (x1 : Int) (x2 : Int) (x3 : Int) (x6 : Int) (x7 : Int) (x9 : Int) (x10 : Int) (x11 : Int) (cur_0 : Int) (styleKind_0 : Int) (styleOne_0 : Int) (opened_0 : Int) (cur_1 : Int) (tokenKind_1 : Int → Int) (tokens_1 : Int) (styleKind_1 : Int) (styleOne_1 : Int) (opened_1 : Int) (tokenValue_1 : Int → Int) (tokenPlace_1 : Int → Int) (tokenEnd_1 : Int → Int) (tape_1 : Int → Int) (fault_1 : Int) (limit_1 : Int) (fault_0 : Int) (limit_0 : Int) (tokens_0 : Int) (tape_0 : Int → Int) (tokenKind_0 : Int → Int) (tokenValue_0 : Int → Int) (tokenPlace_0 : Int → Int) (tokenEnd_0 : Int → Int) (gx : Int) (gy : Int) (gu : Int) (k1 : 0 ≤ x1 ∧ x1 ≤ 2009) (k2 : 0 ≤ x2 ∧ x2 ≤ 5) (k3 : 0 ≤ x3 ∧ x3 ≤ 13) (k6 : 0 ≤ x6 ∧ x6 ≤ 2009) (k7 : 0 ≤ x7 ∧ x7 ≤ 2010) (k9 : 1 ≤ x9 ∧ x9 ≤ 1) (k10 : 1 ≤ x10 ∧ x10 ≤ 1) (k11 : 1 ≤ x11 ∧ x11 ≤ 2009) (d0 : x6 + 1 ≤ x11 ∧ x11 ≤ x6 + 1) (g0 : x11 = cur_0) (f1 : (styleKind_0 = 0) → (styleOne_0 ≤ 23)) (f2 : 1 * opened_0 + 0 ≤ 0) (f3 : (-1) * opened_0 + 0 ≤ 0) (f4 : 1 * x3 + 0 ≤ 0) (f5 : (-1) * x3 + 0 ≤ 0) (f8 : x11 = x6 + x10) (g9 : x6 = cur_1) (f10 : x9 ≠ 0) (f11 : ((cur_1 + 1) ≤ tokens_1) ∧ ((tokens_1 ≤ 2010) ∧ ((tokenKind_1 ((tokens_1 - 1)) = 0) ∨ (tokenKind_1 ((tokens_1 - 1)) = 4)))) (f12 : 1 * x1 + ((-1) * cur_1 + 0) ≤ 0) (f13 : (styleKind_1 = 0) → (styleOne_1 ≤ 23)) (f14 : 1 * opened_1 + 0 ≤ 0) (f15 : (-1) * opened_1 + 0 ≤ 0) (f16 : SBL (fault_1) (cur_1) (styleKind_1) (limit_1) (tokenKind_1) (tokenValue_1) (tokenPlace_1) (tokenEnd_1) (tape_1) (x1) (x2) (x3)) (f17 : 1 * x3 + 0 ≤ 0) (f18 : (-1) * x3 + 0 ≤ 0) (f19 : 1 * x7 + (1 * cur_1 + 0) ≤ 2010) (f20 : (-1) * x7 + ((-1) * cur_1 + 0) ≤ (-2010)) (f21 : (x9 = 1) → (tokenKind_1 (cur_1) = 1)) (f22 : Wqand (fault_1) (cur_1) (limit_1) (tokenKind_1) (tokenPlace_1) (tokenEnd_1) (tape_1) (x9)) (f24 : 1 * x3 + 0 ≤ 0) (f25 : (-1) * x3 + 0 ≤ 0) (fe_0_8_1 : fault_0 = fault_1) (fe_0_10_1 : limit_0 = limit_1) (fe_0_157_1 : tokens_0 = tokens_1) (fe_0_158_1 : cur_0 = x11) (fe_0_159_1 : opened_0 = opened_1) (fe_0_164_1 : styleKind_0 = styleKind_1) (fe_0_165_1 : styleOne_0 = styleOne_1) (hE_0_1_1 : ∀ j : Int, tape_0 j = tape_1 j) (hK_0_1 : ∀ j : Int, 0 ≤ j → j < 2000 → (-128) ≤ tape_0 j ∧ tape_0 j ≤ 127) (hE_0_160_1 : ∀ j : Int, tokenKind_0 j = tokenKind_1 j) (hK_0_160 : ∀ j : Int, 0 ≤ j → j < 2010 → 0 ≤ tokenKind_0 j ∧ tokenKind_0 j ≤ 4) (hE_0_161_1 : ∀ j : Int, tokenValue_0 j = tokenValue_1 j) (hE_0_162_1 : ∀ j : Int, tokenPlace_0 j = tokenPlace_1 j) (hK_0_162 : ∀ j : Int, 0 ≤ j → j < 2010 → 0 ≤ tokenPlace_0 j ∧ tokenPlace_0 j ≤ 2000) (hE_0_163_1 : ∀ j : Int, tokenEnd_0 j = tokenEnd_1 j) (hK_0_163 : ∀ j : Int, 0 ≤ j → j < 2010 → 0 ≤ tokenEnd_0 j ∧ tokenEnd_0 j ≤ 2000) (kz_0_8 : 0 ≤ fault_0 ∧ fault_0 ≤ 5) (kz_0_10 : 0 ≤ limit_0 ∧ limit_0 ≤ 2000) (kz_0_157 : 0 ≤ tokens_0 ∧ tokens_0 ≤ 2010) (kz_0_158 : 0 ≤ cur_0 ∧ cur_0 ≤ 2009) (kz_0_159 : 0 ≤ opened_0 ∧ opened_0 ≤ 13) (kz_0_164 : 0 ≤ styleKind_0 ∧ styleKind_0 ≤ 1) (kz_0_165 : (-1) ≤ styleOne_0 ∧ styleOne_0 ≤ 47) (ex2 : gx = cur_0) (ex3 : 0 ≤ gx ∧ gx ≤ 2009) (ey2 : gy = fault_0) (ey3 : 0 ≤ gy ∧ gy ≤ 5) (eu2 : gu = opened_0) (eu3 : 0 ≤ gu ∧ gu ≤ 13) : 1 * cur_0 + ((-1) * gx + 0) ≤ 0 := by
  subst fe_0_8_1
  subst fe_0_10_1
  subst fe_0_157_1
  subst fe_0_159_1
  subst fe_0_164_1
  subst fe_0_165_1
  have e_hE_0_1_1 := funext hE_0_1_1; subst e_hE_0_1_1
  have e_hE_0_160_1 := funext hE_0_160_1; subst e_hE_0_160_1
  have e_hE_0_161_1 := funext hE_0_161_1; subst e_hE_0_161_1
  have e_hE_0_162_1 := funext hE_0_162_1; subst e_hE_0_162_1
  have e_hE_0_163_1 := funext hE_0_163_1; subst e_hE_0_163_1
  first | assumption | (clear f1 f11 f13 f21 hE_0_1_1 hK_0_1 hE_0_160_1 hK_0_160 hE_0_161_1 hE_0_162_1 hK_0_162 hE_0_163_1 hK_0_163; omega) | (clear hE_0_1_1 hK_0_1 hE_0_160_1 hK_0_160 hE_0_161_1 hE_0_162_1 hK_0_162 hE_0_163_1 hK_0_163; grind) | omega | grind
set_option maxHeartbeats 4000000 in
theorem vc_Mo_both_at_f0_4_2 (x1 : Int) (x2 : Int) (x3 : Int) (x6 : Int) (x7 : Int) (x9 : Int) (x10 : Int) (x11 : Int) (cur_0 : Int) (styleKind_0 : Int) (styleOne_0 : Int) (opened_0 : Int) (cur_1 : Int) (tokenKind_1 : Int → Int) (tokens_1 : Int) (styleKind_1 : Int) (styleOne_1 : Int) (opened_1 : Int) (tokenValue_1 : Int → Int) (tokenPlace_1 : Int → Int) (tokenEnd_1 : Int → Int) (tape_1 : Int → Int) (fault_1 : Int) (limit_1 : Int) (fault_0 : Int) (limit_0 : Int) (tokens_0 : Int) (tape_0 : Int → Int) (tokenKind_0 : Int → Int) (tokenValue_0 : Int → Int) (tokenPlace_0 : Int → Int) (tokenEnd_0 : Int → Int) (gx : Int) (gy : Int) (gu : Int) (k1 : 0 ≤ x1 ∧ x1 ≤ 2009) (k2 : 0 ≤ x2 ∧ x2 ≤ 5) (k3 : 0 ≤ x3 ∧ x3 ≤ 13) (k6 : 0 ≤ x6 ∧ x6 ≤ 2009) (k7 : 0 ≤ x7 ∧ x7 ≤ 2010) (k9 : 1 ≤ x9 ∧ x9 ≤ 1) (k10 : 1 ≤ x10 ∧ x10 ≤ 1) (k11 : 1 ≤ x11 ∧ x11 ≤ 2009) (d0 : x6 + 1 ≤ x11 ∧ x11 ≤ x6 + 1) (g0 : x11 = cur_0) (f1 : (styleKind_0 = 0) → (styleOne_0 ≤ 23)) (f2 : 1 * opened_0 + 0 ≤ 0) (f3 : (-1) * opened_0 + 0 ≤ 0) (f4 : 1 * x3 + 0 ≤ 0) (f5 : (-1) * x3 + 0 ≤ 0) (f8 : x11 = x6 + x10) (g9 : x6 = cur_1) (f10 : x9 ≠ 0) (f11 : ((cur_1 + 1) ≤ tokens_1) ∧ ((tokens_1 ≤ 2010) ∧ ((tokenKind_1 ((tokens_1 - 1)) = 0) ∨ (tokenKind_1 ((tokens_1 - 1)) = 4)))) (f12 : 1 * x1 + ((-1) * cur_1 + 0) ≤ 0) (f13 : (styleKind_1 = 0) → (styleOne_1 ≤ 23)) (f14 : 1 * opened_1 + 0 ≤ 0) (f15 : (-1) * opened_1 + 0 ≤ 0) (f16 : SBL (fault_1) (cur_1) (styleKind_1) (limit_1) (tokenKind_1) (tokenValue_1) (tokenPlace_1) (tokenEnd_1) (tape_1) (x1) (x2) (x3)) (f17 : 1 * x3 + 0 ≤ 0) (f18 : (-1) * x3 + 0 ≤ 0) (f19 : 1 * x7 + (1 * cur_1 + 0) ≤ 2010) (f20 : (-1) * x7 + ((-1) * cur_1 + 0) ≤ (-2010)) (f21 : (x9 = 1) → (tokenKind_1 (cur_1) = 1)) (f22 : Wqand (fault_1) (cur_1) (limit_1) (tokenKind_1) (tokenPlace_1) (tokenEnd_1) (tape_1) (x9)) (f24 : 1 * x3 + 0 ≤ 0) (f25 : (-1) * x3 + 0 ≤ 0) (fe_0_8_1 : fault_0 = fault_1) (fe_0_10_1 : limit_0 = limit_1) (fe_0_157_1 : tokens_0 = tokens_1) (fe_0_158_1 : cur_0 = x11) (fe_0_159_1 : opened_0 = opened_1) (fe_0_164_1 : styleKind_0 = styleKind_1) (fe_0_165_1 : styleOne_0 = styleOne_1) (hE_0_1_1 : ∀ j : Int, tape_0 j = tape_1 j) (hK_0_1 : ∀ j : Int, 0 ≤ j → j < 2000 → (-128) ≤ tape_0 j ∧ tape_0 j ≤ 127) (hE_0_160_1 : ∀ j : Int, tokenKind_0 j = tokenKind_1 j) (hK_0_160 : ∀ j : Int, 0 ≤ j → j < 2010 → 0 ≤ tokenKind_0 j ∧ tokenKind_0 j ≤ 4) (hE_0_161_1 : ∀ j : Int, tokenValue_0 j = tokenValue_1 j) (hE_0_162_1 : ∀ j : Int, tokenPlace_0 j = tokenPlace_1 j) (hK_0_162 : ∀ j : Int, 0 ≤ j → j < 2010 → 0 ≤ tokenPlace_0 j ∧ tokenPlace_0 j ≤ 2000) (hE_0_163_1 : ∀ j : Int, tokenEnd_0 j = tokenEnd_1 j) (hK_0_163 : ∀ j : Int, 0 ≤ j → j < 2010 → 0 ≤ tokenEnd_0 j ∧ tokenEnd_0 j ≤ 2000) (kz_0_8 : 0 ≤ fault_0 ∧ fault_0 ≤ 5) (kz_0_10 : 0 ≤ limit_0 ∧ limit_0 ≤ 2000) (kz_0_157 : 0 ≤ tokens_0 ∧ tokens_0 ≤ 2010) (kz_0_158 : 0 ≤ cur_0 ∧ cur_0 ≤ 2009) (kz_0_159 : 0 ≤ opened_0 ∧ opened_0 ≤ 13) (kz_0_164 : 0 ≤ styleKind_0 ∧ styleKind_0 ≤ 1) (kz_0_165 : (-1) ≤ styleOne_0 ∧ styleOne_0 ≤ 47) (ex2 : gx = cur_0) (ex3 : 0 ≤ gx ∧ gx ≤ 2009) (ey2 : gy = fault_0) (ey3 : 0 ≤ gy ∧ gy ≤ 5) (eu2 : gu = opened_0) (eu3 : 0 ≤ gu ∧ gu ≤ 13) : (-1) * cur_0 + (1 * gx + 0) ≤ 0 := by
  subst fe_0_8_1
  subst fe_0_10_1
  subst fe_0_157_1
  subst fe_0_159_1
  subst fe_0_164_1
  subst fe_0_165_1
  have e_hE_0_1_1 := funext hE_0_1_1; subst e_hE_0_1_1
  have e_hE_0_160_1 := funext hE_0_160_1; subst e_hE_0_160_1
  have e_hE_0_161_1 := funext hE_0_161_1; subst e_hE_0_161_1
  have e_hE_0_162_1 := funext hE_0_162_1; subst e_hE_0_162_1
  have e_hE_0_163_1 := funext hE_0_163_1; subst e_hE_0_163_1
  first | assumption | (clear f1 f11 f13 f21 hE_0_1_1 hK_0_1 hE_0_160_1 hK_0_160 hE_0_161_1 hE_0_162_1 hK_0_162 hE_0_163_1 hK_0_163; omega) | (clear hE_0_1_1 hK_0_1 hE_0_160_1 hK_0_160 hE_0_161_1 hE_0_162_1 hK_0_162 hE_0_163_1 hK_0_163; grind) | omega | grind
set_option maxHeartbeats 4000000 in
theorem vc_Mo_both_at_f0_4_3 (x1 : Int) (x2 : Int) (x3 : Int) (x6 : Int) (x7 : Int) (x9 : Int) (x10 : Int) (x11 : Int) (cur_0 : Int) (styleKind_0 : Int) (styleOne_0 : Int) (opened_0 : Int) (cur_1 : Int) (tokenKind_1 : Int → Int) (tokens_1 : Int) (styleKind_1 : Int) (styleOne_1 : Int) (opened_1 : Int) (tokenValue_1 : Int → Int) (tokenPlace_1 : Int → Int) (tokenEnd_1 : Int → Int) (tape_1 : Int → Int) (fault_1 : Int) (limit_1 : Int) (fault_0 : Int) (limit_0 : Int) (tokens_0 : Int) (tape_0 : Int → Int) (tokenKind_0 : Int → Int) (tokenValue_0 : Int → Int) (tokenPlace_0 : Int → Int) (tokenEnd_0 : Int → Int) (gx : Int) (gy : Int) (gu : Int) (k1 : 0 ≤ x1 ∧ x1 ≤ 2009) (k2 : 0 ≤ x2 ∧ x2 ≤ 5) (k3 : 0 ≤ x3 ∧ x3 ≤ 13) (k6 : 0 ≤ x6 ∧ x6 ≤ 2009) (k7 : 0 ≤ x7 ∧ x7 ≤ 2010) (k9 : 1 ≤ x9 ∧ x9 ≤ 1) (k10 : 1 ≤ x10 ∧ x10 ≤ 1) (k11 : 1 ≤ x11 ∧ x11 ≤ 2009) (d0 : x6 + 1 ≤ x11 ∧ x11 ≤ x6 + 1) (g0 : x11 = cur_0) (f1 : (styleKind_0 = 0) → (styleOne_0 ≤ 23)) (f2 : 1 * opened_0 + 0 ≤ 0) (f3 : (-1) * opened_0 + 0 ≤ 0) (f4 : 1 * x3 + 0 ≤ 0) (f5 : (-1) * x3 + 0 ≤ 0) (f8 : x11 = x6 + x10) (g9 : x6 = cur_1) (f10 : x9 ≠ 0) (f11 : ((cur_1 + 1) ≤ tokens_1) ∧ ((tokens_1 ≤ 2010) ∧ ((tokenKind_1 ((tokens_1 - 1)) = 0) ∨ (tokenKind_1 ((tokens_1 - 1)) = 4)))) (f12 : 1 * x1 + ((-1) * cur_1 + 0) ≤ 0) (f13 : (styleKind_1 = 0) → (styleOne_1 ≤ 23)) (f14 : 1 * opened_1 + 0 ≤ 0) (f15 : (-1) * opened_1 + 0 ≤ 0) (f16 : SBL (fault_1) (cur_1) (styleKind_1) (limit_1) (tokenKind_1) (tokenValue_1) (tokenPlace_1) (tokenEnd_1) (tape_1) (x1) (x2) (x3)) (f17 : 1 * x3 + 0 ≤ 0) (f18 : (-1) * x3 + 0 ≤ 0) (f19 : 1 * x7 + (1 * cur_1 + 0) ≤ 2010) (f20 : (-1) * x7 + ((-1) * cur_1 + 0) ≤ (-2010)) (f21 : (x9 = 1) → (tokenKind_1 (cur_1) = 1)) (f22 : Wqand (fault_1) (cur_1) (limit_1) (tokenKind_1) (tokenPlace_1) (tokenEnd_1) (tape_1) (x9)) (f24 : 1 * x3 + 0 ≤ 0) (f25 : (-1) * x3 + 0 ≤ 0) (fe_0_8_1 : fault_0 = fault_1) (fe_0_10_1 : limit_0 = limit_1) (fe_0_157_1 : tokens_0 = tokens_1) (fe_0_158_1 : cur_0 = x11) (fe_0_159_1 : opened_0 = opened_1) (fe_0_164_1 : styleKind_0 = styleKind_1) (fe_0_165_1 : styleOne_0 = styleOne_1) (hE_0_1_1 : ∀ j : Int, tape_0 j = tape_1 j) (hK_0_1 : ∀ j : Int, 0 ≤ j → j < 2000 → (-128) ≤ tape_0 j ∧ tape_0 j ≤ 127) (hE_0_160_1 : ∀ j : Int, tokenKind_0 j = tokenKind_1 j) (hK_0_160 : ∀ j : Int, 0 ≤ j → j < 2010 → 0 ≤ tokenKind_0 j ∧ tokenKind_0 j ≤ 4) (hE_0_161_1 : ∀ j : Int, tokenValue_0 j = tokenValue_1 j) (hE_0_162_1 : ∀ j : Int, tokenPlace_0 j = tokenPlace_1 j) (hK_0_162 : ∀ j : Int, 0 ≤ j → j < 2010 → 0 ≤ tokenPlace_0 j ∧ tokenPlace_0 j ≤ 2000) (hE_0_163_1 : ∀ j : Int, tokenEnd_0 j = tokenEnd_1 j) (hK_0_163 : ∀ j : Int, 0 ≤ j → j < 2010 → 0 ≤ tokenEnd_0 j ∧ tokenEnd_0 j ≤ 2000) (kz_0_8 : 0 ≤ fault_0 ∧ fault_0 ≤ 5) (kz_0_10 : 0 ≤ limit_0 ∧ limit_0 ≤ 2000) (kz_0_157 : 0 ≤ tokens_0 ∧ tokens_0 ≤ 2010) (kz_0_158 : 0 ≤ cur_0 ∧ cur_0 ≤ 2009) (kz_0_159 : 0 ≤ opened_0 ∧ opened_0 ≤ 13) (kz_0_164 : 0 ≤ styleKind_0 ∧ styleKind_0 ≤ 1) (kz_0_165 : (-1) ≤ styleOne_0 ∧ styleOne_0 ≤ 47) (ex2 : gx = cur_0) (ex3 : 0 ≤ gx ∧ gx ≤ 2009) (ey2 : gy = fault_0) (ey3 : 0 ≤ gy ∧ gy ≤ 5) (eu2 : gu = opened_0) (eu3 : 0 ≤ gu ∧ gu ≤ 13) : (styleKind_0 = 0) → (styleOne_0 ≤ 23) := by
  subst fe_0_8_1
  subst fe_0_10_1
  subst fe_0_157_1
  subst fe_0_159_1
  subst fe_0_164_1
  subst fe_0_165_1
  have e_hE_0_1_1 := funext hE_0_1_1; subst e_hE_0_1_1
  have e_hE_0_160_1 := funext hE_0_160_1; subst e_hE_0_160_1
  have e_hE_0_161_1 := funext hE_0_161_1; subst e_hE_0_161_1
  have e_hE_0_162_1 := funext hE_0_162_1; subst e_hE_0_162_1
  have e_hE_0_163_1 := funext hE_0_163_1; subst e_hE_0_163_1
  first | assumption | (clear f1 f11 f13 f21 hE_0_1_1 hK_0_1 hE_0_160_1 hK_0_160 hE_0_161_1 hE_0_162_1 hK_0_162 hE_0_163_1 hK_0_163; omega) | (clear hE_0_1_1 hK_0_1 hE_0_160_1 hK_0_160 hE_0_161_1 hE_0_162_1 hK_0_162 hE_0_163_1 hK_0_163; grind) | omega | grind
set_option maxHeartbeats 4000000 in
theorem vc_Mo_both_at_f0_4_4 (x1 : Int) (x2 : Int) (x3 : Int) (x6 : Int) (x7 : Int) (x9 : Int) (x10 : Int) (x11 : Int) (cur_0 : Int) (styleKind_0 : Int) (styleOne_0 : Int) (opened_0 : Int) (cur_1 : Int) (tokenKind_1 : Int → Int) (tokens_1 : Int) (styleKind_1 : Int) (styleOne_1 : Int) (opened_1 : Int) (tokenValue_1 : Int → Int) (tokenPlace_1 : Int → Int) (tokenEnd_1 : Int → Int) (tape_1 : Int → Int) (fault_1 : Int) (limit_1 : Int) (fault_0 : Int) (limit_0 : Int) (tokens_0 : Int) (tape_0 : Int → Int) (tokenKind_0 : Int → Int) (tokenValue_0 : Int → Int) (tokenPlace_0 : Int → Int) (tokenEnd_0 : Int → Int) (gx : Int) (gy : Int) (gu : Int) (k1 : 0 ≤ x1 ∧ x1 ≤ 2009) (k2 : 0 ≤ x2 ∧ x2 ≤ 5) (k3 : 0 ≤ x3 ∧ x3 ≤ 13) (k6 : 0 ≤ x6 ∧ x6 ≤ 2009) (k7 : 0 ≤ x7 ∧ x7 ≤ 2010) (k9 : 1 ≤ x9 ∧ x9 ≤ 1) (k10 : 1 ≤ x10 ∧ x10 ≤ 1) (k11 : 1 ≤ x11 ∧ x11 ≤ 2009) (d0 : x6 + 1 ≤ x11 ∧ x11 ≤ x6 + 1) (g0 : x11 = cur_0) (f1 : (styleKind_0 = 0) → (styleOne_0 ≤ 23)) (f2 : 1 * opened_0 + 0 ≤ 0) (f3 : (-1) * opened_0 + 0 ≤ 0) (f4 : 1 * x3 + 0 ≤ 0) (f5 : (-1) * x3 + 0 ≤ 0) (f8 : x11 = x6 + x10) (g9 : x6 = cur_1) (f10 : x9 ≠ 0) (f11 : ((cur_1 + 1) ≤ tokens_1) ∧ ((tokens_1 ≤ 2010) ∧ ((tokenKind_1 ((tokens_1 - 1)) = 0) ∨ (tokenKind_1 ((tokens_1 - 1)) = 4)))) (f12 : 1 * x1 + ((-1) * cur_1 + 0) ≤ 0) (f13 : (styleKind_1 = 0) → (styleOne_1 ≤ 23)) (f14 : 1 * opened_1 + 0 ≤ 0) (f15 : (-1) * opened_1 + 0 ≤ 0) (f16 : SBL (fault_1) (cur_1) (styleKind_1) (limit_1) (tokenKind_1) (tokenValue_1) (tokenPlace_1) (tokenEnd_1) (tape_1) (x1) (x2) (x3)) (f17 : 1 * x3 + 0 ≤ 0) (f18 : (-1) * x3 + 0 ≤ 0) (f19 : 1 * x7 + (1 * cur_1 + 0) ≤ 2010) (f20 : (-1) * x7 + ((-1) * cur_1 + 0) ≤ (-2010)) (f21 : (x9 = 1) → (tokenKind_1 (cur_1) = 1)) (f22 : Wqand (fault_1) (cur_1) (limit_1) (tokenKind_1) (tokenPlace_1) (tokenEnd_1) (tape_1) (x9)) (f24 : 1 * x3 + 0 ≤ 0) (f25 : (-1) * x3 + 0 ≤ 0) (fe_0_8_1 : fault_0 = fault_1) (fe_0_10_1 : limit_0 = limit_1) (fe_0_157_1 : tokens_0 = tokens_1) (fe_0_158_1 : cur_0 = x11) (fe_0_159_1 : opened_0 = opened_1) (fe_0_164_1 : styleKind_0 = styleKind_1) (fe_0_165_1 : styleOne_0 = styleOne_1) (hE_0_1_1 : ∀ j : Int, tape_0 j = tape_1 j) (hK_0_1 : ∀ j : Int, 0 ≤ j → j < 2000 → (-128) ≤ tape_0 j ∧ tape_0 j ≤ 127) (hE_0_160_1 : ∀ j : Int, tokenKind_0 j = tokenKind_1 j) (hK_0_160 : ∀ j : Int, 0 ≤ j → j < 2010 → 0 ≤ tokenKind_0 j ∧ tokenKind_0 j ≤ 4) (hE_0_161_1 : ∀ j : Int, tokenValue_0 j = tokenValue_1 j) (hE_0_162_1 : ∀ j : Int, tokenPlace_0 j = tokenPlace_1 j) (hK_0_162 : ∀ j : Int, 0 ≤ j → j < 2010 → 0 ≤ tokenPlace_0 j ∧ tokenPlace_0 j ≤ 2000) (hE_0_163_1 : ∀ j : Int, tokenEnd_0 j = tokenEnd_1 j) (hK_0_163 : ∀ j : Int, 0 ≤ j → j < 2010 → 0 ≤ tokenEnd_0 j ∧ tokenEnd_0 j ≤ 2000) (kz_0_8 : 0 ≤ fault_0 ∧ fault_0 ≤ 5) (kz_0_10 : 0 ≤ limit_0 ∧ limit_0 ≤ 2000) (kz_0_157 : 0 ≤ tokens_0 ∧ tokens_0 ≤ 2010) (kz_0_158 : 0 ≤ cur_0 ∧ cur_0 ≤ 2009) (kz_0_159 : 0 ≤ opened_0 ∧ opened_0 ≤ 13) (kz_0_164 : 0 ≤ styleKind_0 ∧ styleKind_0 ≤ 1) (kz_0_165 : (-1) ≤ styleOne_0 ∧ styleOne_0 ≤ 47) (ex2 : gx = cur_0) (ex3 : 0 ≤ gx ∧ gx ≤ 2009) (ey2 : gy = fault_0) (ey3 : 0 ≤ gy ∧ gy ≤ 5) (eu2 : gu = opened_0) (eu3 : 0 ≤ gu ∧ gu ≤ 13) : 1 * opened_0 + 0 ≤ 0 := by
  subst fe_0_8_1
  subst fe_0_10_1
  subst fe_0_157_1
  subst fe_0_159_1
  subst fe_0_164_1
  subst fe_0_165_1
  have e_hE_0_1_1 := funext hE_0_1_1; subst e_hE_0_1_1
  have e_hE_0_160_1 := funext hE_0_160_1; subst e_hE_0_160_1
  have e_hE_0_161_1 := funext hE_0_161_1; subst e_hE_0_161_1
  have e_hE_0_162_1 := funext hE_0_162_1; subst e_hE_0_162_1
  have e_hE_0_163_1 := funext hE_0_163_1; subst e_hE_0_163_1
  first | assumption | (clear f1 f11 f13 f21 hE_0_1_1 hK_0_1 hE_0_160_1 hK_0_160 hE_0_161_1 hE_0_162_1 hK_0_162 hE_0_163_1 hK_0_163; omega) | (clear hE_0_1_1 hK_0_1 hE_0_160_1 hK_0_160 hE_0_161_1 hE_0_162_1 hK_0_162 hE_0_163_1 hK_0_163; grind) | omega | grind
set_option maxHeartbeats 4000000 in
theorem vc_Mo_both_at_f0_4_5 (x1 : Int) (x2 : Int) (x3 : Int) (x6 : Int) (x7 : Int) (x9 : Int) (x10 : Int) (x11 : Int) (cur_0 : Int) (styleKind_0 : Int) (styleOne_0 : Int) (opened_0 : Int) (cur_1 : Int) (tokenKind_1 : Int → Int) (tokens_1 : Int) (styleKind_1 : Int) (styleOne_1 : Int) (opened_1 : Int) (tokenValue_1 : Int → Int) (tokenPlace_1 : Int → Int) (tokenEnd_1 : Int → Int) (tape_1 : Int → Int) (fault_1 : Int) (limit_1 : Int) (fault_0 : Int) (limit_0 : Int) (tokens_0 : Int) (tape_0 : Int → Int) (tokenKind_0 : Int → Int) (tokenValue_0 : Int → Int) (tokenPlace_0 : Int → Int) (tokenEnd_0 : Int → Int) (gx : Int) (gy : Int) (gu : Int) (k1 : 0 ≤ x1 ∧ x1 ≤ 2009) (k2 : 0 ≤ x2 ∧ x2 ≤ 5) (k3 : 0 ≤ x3 ∧ x3 ≤ 13) (k6 : 0 ≤ x6 ∧ x6 ≤ 2009) (k7 : 0 ≤ x7 ∧ x7 ≤ 2010) (k9 : 1 ≤ x9 ∧ x9 ≤ 1) (k10 : 1 ≤ x10 ∧ x10 ≤ 1) (k11 : 1 ≤ x11 ∧ x11 ≤ 2009) (d0 : x6 + 1 ≤ x11 ∧ x11 ≤ x6 + 1) (g0 : x11 = cur_0) (f1 : (styleKind_0 = 0) → (styleOne_0 ≤ 23)) (f2 : 1 * opened_0 + 0 ≤ 0) (f3 : (-1) * opened_0 + 0 ≤ 0) (f4 : 1 * x3 + 0 ≤ 0) (f5 : (-1) * x3 + 0 ≤ 0) (f8 : x11 = x6 + x10) (g9 : x6 = cur_1) (f10 : x9 ≠ 0) (f11 : ((cur_1 + 1) ≤ tokens_1) ∧ ((tokens_1 ≤ 2010) ∧ ((tokenKind_1 ((tokens_1 - 1)) = 0) ∨ (tokenKind_1 ((tokens_1 - 1)) = 4)))) (f12 : 1 * x1 + ((-1) * cur_1 + 0) ≤ 0) (f13 : (styleKind_1 = 0) → (styleOne_1 ≤ 23)) (f14 : 1 * opened_1 + 0 ≤ 0) (f15 : (-1) * opened_1 + 0 ≤ 0) (f16 : SBL (fault_1) (cur_1) (styleKind_1) (limit_1) (tokenKind_1) (tokenValue_1) (tokenPlace_1) (tokenEnd_1) (tape_1) (x1) (x2) (x3)) (f17 : 1 * x3 + 0 ≤ 0) (f18 : (-1) * x3 + 0 ≤ 0) (f19 : 1 * x7 + (1 * cur_1 + 0) ≤ 2010) (f20 : (-1) * x7 + ((-1) * cur_1 + 0) ≤ (-2010)) (f21 : (x9 = 1) → (tokenKind_1 (cur_1) = 1)) (f22 : Wqand (fault_1) (cur_1) (limit_1) (tokenKind_1) (tokenPlace_1) (tokenEnd_1) (tape_1) (x9)) (f24 : 1 * x3 + 0 ≤ 0) (f25 : (-1) * x3 + 0 ≤ 0) (fe_0_8_1 : fault_0 = fault_1) (fe_0_10_1 : limit_0 = limit_1) (fe_0_157_1 : tokens_0 = tokens_1) (fe_0_158_1 : cur_0 = x11) (fe_0_159_1 : opened_0 = opened_1) (fe_0_164_1 : styleKind_0 = styleKind_1) (fe_0_165_1 : styleOne_0 = styleOne_1) (hE_0_1_1 : ∀ j : Int, tape_0 j = tape_1 j) (hK_0_1 : ∀ j : Int, 0 ≤ j → j < 2000 → (-128) ≤ tape_0 j ∧ tape_0 j ≤ 127) (hE_0_160_1 : ∀ j : Int, tokenKind_0 j = tokenKind_1 j) (hK_0_160 : ∀ j : Int, 0 ≤ j → j < 2010 → 0 ≤ tokenKind_0 j ∧ tokenKind_0 j ≤ 4) (hE_0_161_1 : ∀ j : Int, tokenValue_0 j = tokenValue_1 j) (hE_0_162_1 : ∀ j : Int, tokenPlace_0 j = tokenPlace_1 j) (hK_0_162 : ∀ j : Int, 0 ≤ j → j < 2010 → 0 ≤ tokenPlace_0 j ∧ tokenPlace_0 j ≤ 2000) (hE_0_163_1 : ∀ j : Int, tokenEnd_0 j = tokenEnd_1 j) (hK_0_163 : ∀ j : Int, 0 ≤ j → j < 2010 → 0 ≤ tokenEnd_0 j ∧ tokenEnd_0 j ≤ 2000) (kz_0_8 : 0 ≤ fault_0 ∧ fault_0 ≤ 5) (kz_0_10 : 0 ≤ limit_0 ∧ limit_0 ≤ 2000) (kz_0_157 : 0 ≤ tokens_0 ∧ tokens_0 ≤ 2010) (kz_0_158 : 0 ≤ cur_0 ∧ cur_0 ≤ 2009) (kz_0_159 : 0 ≤ opened_0 ∧ opened_0 ≤ 13) (kz_0_164 : 0 ≤ styleKind_0 ∧ styleKind_0 ≤ 1) (kz_0_165 : (-1) ≤ styleOne_0 ∧ styleOne_0 ≤ 47) (ex2 : gx = cur_0) (ex3 : 0 ≤ gx ∧ gx ≤ 2009) (ey2 : gy = fault_0) (ey3 : 0 ≤ gy ∧ gy ≤ 5) (eu2 : gu = opened_0) (eu3 : 0 ≤ gu ∧ gu ≤ 13) : (-1) * opened_0 + 0 ≤ 0 := by
  subst fe_0_8_1
  subst fe_0_10_1
  subst fe_0_157_1
  subst fe_0_159_1
  subst fe_0_164_1
  subst fe_0_165_1
  have e_hE_0_1_1 := funext hE_0_1_1; subst e_hE_0_1_1
  have e_hE_0_160_1 := funext hE_0_160_1; subst e_hE_0_160_1
  have e_hE_0_161_1 := funext hE_0_161_1; subst e_hE_0_161_1
  have e_hE_0_162_1 := funext hE_0_162_1; subst e_hE_0_162_1
  have e_hE_0_163_1 := funext hE_0_163_1; subst e_hE_0_163_1
  first | assumption | (clear f1 f11 f13 f21 hE_0_1_1 hK_0_1 hE_0_160_1 hK_0_160 hE_0_161_1 hE_0_162_1 hK_0_162 hE_0_163_1 hK_0_163; omega) | (clear hE_0_1_1 hK_0_1 hE_0_160_1 hK_0_160 hE_0_161_1 hE_0_162_1 hK_0_162 hE_0_163_1 hK_0_163; grind) | omega | grind
set_option maxHeartbeats 4000000 in
theorem vc_Mo_both_at_f0_4_6 (x1 : Int) (x2 : Int) (x3 : Int) (x6 : Int) (x7 : Int) (x9 : Int) (x10 : Int) (x11 : Int) (cur_0 : Int) (styleKind_0 : Int) (styleOne_0 : Int) (opened_0 : Int) (cur_1 : Int) (tokenKind_1 : Int → Int) (tokens_1 : Int) (styleKind_1 : Int) (styleOne_1 : Int) (opened_1 : Int) (tokenValue_1 : Int → Int) (tokenPlace_1 : Int → Int) (tokenEnd_1 : Int → Int) (tape_1 : Int → Int) (fault_1 : Int) (limit_1 : Int) (fault_0 : Int) (limit_0 : Int) (tokens_0 : Int) (tape_0 : Int → Int) (tokenKind_0 : Int → Int) (tokenValue_0 : Int → Int) (tokenPlace_0 : Int → Int) (tokenEnd_0 : Int → Int) (gx : Int) (gy : Int) (gu : Int) (k1 : 0 ≤ x1 ∧ x1 ≤ 2009) (k2 : 0 ≤ x2 ∧ x2 ≤ 5) (k3 : 0 ≤ x3 ∧ x3 ≤ 13) (k6 : 0 ≤ x6 ∧ x6 ≤ 2009) (k7 : 0 ≤ x7 ∧ x7 ≤ 2010) (k9 : 1 ≤ x9 ∧ x9 ≤ 1) (k10 : 1 ≤ x10 ∧ x10 ≤ 1) (k11 : 1 ≤ x11 ∧ x11 ≤ 2009) (d0 : x6 + 1 ≤ x11 ∧ x11 ≤ x6 + 1) (g0 : x11 = cur_0) (f1 : (styleKind_0 = 0) → (styleOne_0 ≤ 23)) (f2 : 1 * opened_0 + 0 ≤ 0) (f3 : (-1) * opened_0 + 0 ≤ 0) (f4 : 1 * x3 + 0 ≤ 0) (f5 : (-1) * x3 + 0 ≤ 0) (f8 : x11 = x6 + x10) (g9 : x6 = cur_1) (f10 : x9 ≠ 0) (f11 : ((cur_1 + 1) ≤ tokens_1) ∧ ((tokens_1 ≤ 2010) ∧ ((tokenKind_1 ((tokens_1 - 1)) = 0) ∨ (tokenKind_1 ((tokens_1 - 1)) = 4)))) (f12 : 1 * x1 + ((-1) * cur_1 + 0) ≤ 0) (f13 : (styleKind_1 = 0) → (styleOne_1 ≤ 23)) (f14 : 1 * opened_1 + 0 ≤ 0) (f15 : (-1) * opened_1 + 0 ≤ 0) (f16 : SBL (fault_1) (cur_1) (styleKind_1) (limit_1) (tokenKind_1) (tokenValue_1) (tokenPlace_1) (tokenEnd_1) (tape_1) (x1) (x2) (x3)) (f17 : 1 * x3 + 0 ≤ 0) (f18 : (-1) * x3 + 0 ≤ 0) (f19 : 1 * x7 + (1 * cur_1 + 0) ≤ 2010) (f20 : (-1) * x7 + ((-1) * cur_1 + 0) ≤ (-2010)) (f21 : (x9 = 1) → (tokenKind_1 (cur_1) = 1)) (f22 : Wqand (fault_1) (cur_1) (limit_1) (tokenKind_1) (tokenPlace_1) (tokenEnd_1) (tape_1) (x9)) (f24 : 1 * x3 + 0 ≤ 0) (f25 : (-1) * x3 + 0 ≤ 0) (fe_0_8_1 : fault_0 = fault_1) (fe_0_10_1 : limit_0 = limit_1) (fe_0_157_1 : tokens_0 = tokens_1) (fe_0_158_1 : cur_0 = x11) (fe_0_159_1 : opened_0 = opened_1) (fe_0_164_1 : styleKind_0 = styleKind_1) (fe_0_165_1 : styleOne_0 = styleOne_1) (hE_0_1_1 : ∀ j : Int, tape_0 j = tape_1 j) (hK_0_1 : ∀ j : Int, 0 ≤ j → j < 2000 → (-128) ≤ tape_0 j ∧ tape_0 j ≤ 127) (hE_0_160_1 : ∀ j : Int, tokenKind_0 j = tokenKind_1 j) (hK_0_160 : ∀ j : Int, 0 ≤ j → j < 2010 → 0 ≤ tokenKind_0 j ∧ tokenKind_0 j ≤ 4) (hE_0_161_1 : ∀ j : Int, tokenValue_0 j = tokenValue_1 j) (hE_0_162_1 : ∀ j : Int, tokenPlace_0 j = tokenPlace_1 j) (hK_0_162 : ∀ j : Int, 0 ≤ j → j < 2010 → 0 ≤ tokenPlace_0 j ∧ tokenPlace_0 j ≤ 2000) (hE_0_163_1 : ∀ j : Int, tokenEnd_0 j = tokenEnd_1 j) (hK_0_163 : ∀ j : Int, 0 ≤ j → j < 2010 → 0 ≤ tokenEnd_0 j ∧ tokenEnd_0 j ≤ 2000) (kz_0_8 : 0 ≤ fault_0 ∧ fault_0 ≤ 5) (kz_0_10 : 0 ≤ limit_0 ∧ limit_0 ≤ 2000) (kz_0_157 : 0 ≤ tokens_0 ∧ tokens_0 ≤ 2010) (kz_0_158 : 0 ≤ cur_0 ∧ cur_0 ≤ 2009) (kz_0_159 : 0 ≤ opened_0 ∧ opened_0 ≤ 13) (kz_0_164 : 0 ≤ styleKind_0 ∧ styleKind_0 ≤ 1) (kz_0_165 : (-1) ≤ styleOne_0 ∧ styleOne_0 ≤ 47) (ex2 : gx = cur_0) (ex3 : 0 ≤ gx ∧ gx ≤ 2009) (ey2 : gy = fault_0) (ey3 : 0 ≤ gy ∧ gy ≤ 5) (eu2 : gu = opened_0) (eu3 : 0 ≤ gu ∧ gu ≤ 13) : fault_0 = gy := by
  subst fe_0_8_1
  subst fe_0_10_1
  subst fe_0_157_1
  subst fe_0_159_1
  subst fe_0_164_1
  subst fe_0_165_1
  have e_hE_0_1_1 := funext hE_0_1_1; subst e_hE_0_1_1
  have e_hE_0_160_1 := funext hE_0_160_1; subst e_hE_0_160_1
  have e_hE_0_161_1 := funext hE_0_161_1; subst e_hE_0_161_1
  have e_hE_0_162_1 := funext hE_0_162_1; subst e_hE_0_162_1
  have e_hE_0_163_1 := funext hE_0_163_1; subst e_hE_0_163_1
  first | assumption | (clear f1 f11 f13 f21 hE_0_1_1 hK_0_1 hE_0_160_1 hK_0_160 hE_0_161_1 hE_0_162_1 hK_0_162 hE_0_163_1 hK_0_163; omega) | (clear hE_0_1_1 hK_0_1 hE_0_160_1 hK_0_160 hE_0_161_1 hE_0_162_1 hK_0_162 hE_0_163_1 hK_0_163; grind) | omega | grind
set_option maxHeartbeats 4000000 in
theorem vc_Mo_both_at_f0_4_7 (x1 : Int) (x2 : Int) (x3 : Int) (x6 : Int) (x7 : Int) (x9 : Int) (x10 : Int) (x11 : Int) (cur_0 : Int) (styleKind_0 : Int) (styleOne_0 : Int) (opened_0 : Int) (cur_1 : Int) (tokenKind_1 : Int → Int) (tokens_1 : Int) (styleKind_1 : Int) (styleOne_1 : Int) (opened_1 : Int) (tokenValue_1 : Int → Int) (tokenPlace_1 : Int → Int) (tokenEnd_1 : Int → Int) (tape_1 : Int → Int) (fault_1 : Int) (limit_1 : Int) (fault_0 : Int) (limit_0 : Int) (tokens_0 : Int) (tape_0 : Int → Int) (tokenKind_0 : Int → Int) (tokenValue_0 : Int → Int) (tokenPlace_0 : Int → Int) (tokenEnd_0 : Int → Int) (gx : Int) (gy : Int) (gu : Int) (k1 : 0 ≤ x1 ∧ x1 ≤ 2009) (k2 : 0 ≤ x2 ∧ x2 ≤ 5) (k3 : 0 ≤ x3 ∧ x3 ≤ 13) (k6 : 0 ≤ x6 ∧ x6 ≤ 2009) (k7 : 0 ≤ x7 ∧ x7 ≤ 2010) (k9 : 1 ≤ x9 ∧ x9 ≤ 1) (k10 : 1 ≤ x10 ∧ x10 ≤ 1) (k11 : 1 ≤ x11 ∧ x11 ≤ 2009) (d0 : x6 + 1 ≤ x11 ∧ x11 ≤ x6 + 1) (g0 : x11 = cur_0) (f1 : (styleKind_0 = 0) → (styleOne_0 ≤ 23)) (f2 : 1 * opened_0 + 0 ≤ 0) (f3 : (-1) * opened_0 + 0 ≤ 0) (f4 : 1 * x3 + 0 ≤ 0) (f5 : (-1) * x3 + 0 ≤ 0) (f8 : x11 = x6 + x10) (g9 : x6 = cur_1) (f10 : x9 ≠ 0) (f11 : ((cur_1 + 1) ≤ tokens_1) ∧ ((tokens_1 ≤ 2010) ∧ ((tokenKind_1 ((tokens_1 - 1)) = 0) ∨ (tokenKind_1 ((tokens_1 - 1)) = 4)))) (f12 : 1 * x1 + ((-1) * cur_1 + 0) ≤ 0) (f13 : (styleKind_1 = 0) → (styleOne_1 ≤ 23)) (f14 : 1 * opened_1 + 0 ≤ 0) (f15 : (-1) * opened_1 + 0 ≤ 0) (f16 : SBL (fault_1) (cur_1) (styleKind_1) (limit_1) (tokenKind_1) (tokenValue_1) (tokenPlace_1) (tokenEnd_1) (tape_1) (x1) (x2) (x3)) (f17 : 1 * x3 + 0 ≤ 0) (f18 : (-1) * x3 + 0 ≤ 0) (f19 : 1 * x7 + (1 * cur_1 + 0) ≤ 2010) (f20 : (-1) * x7 + ((-1) * cur_1 + 0) ≤ (-2010)) (f21 : (x9 = 1) → (tokenKind_1 (cur_1) = 1)) (f22 : Wqand (fault_1) (cur_1) (limit_1) (tokenKind_1) (tokenPlace_1) (tokenEnd_1) (tape_1) (x9)) (f24 : 1 * x3 + 0 ≤ 0) (f25 : (-1) * x3 + 0 ≤ 0) (fe_0_8_1 : fault_0 = fault_1) (fe_0_10_1 : limit_0 = limit_1) (fe_0_157_1 : tokens_0 = tokens_1) (fe_0_158_1 : cur_0 = x11) (fe_0_159_1 : opened_0 = opened_1) (fe_0_164_1 : styleKind_0 = styleKind_1) (fe_0_165_1 : styleOne_0 = styleOne_1) (hE_0_1_1 : ∀ j : Int, tape_0 j = tape_1 j) (hK_0_1 : ∀ j : Int, 0 ≤ j → j < 2000 → (-128) ≤ tape_0 j ∧ tape_0 j ≤ 127) (hE_0_160_1 : ∀ j : Int, tokenKind_0 j = tokenKind_1 j) (hK_0_160 : ∀ j : Int, 0 ≤ j → j < 2010 → 0 ≤ tokenKind_0 j ∧ tokenKind_0 j ≤ 4) (hE_0_161_1 : ∀ j : Int, tokenValue_0 j = tokenValue_1 j) (hE_0_162_1 : ∀ j : Int, tokenPlace_0 j = tokenPlace_1 j) (hK_0_162 : ∀ j : Int, 0 ≤ j → j < 2010 → 0 ≤ tokenPlace_0 j ∧ tokenPlace_0 j ≤ 2000) (hE_0_163_1 : ∀ j : Int, tokenEnd_0 j = tokenEnd_1 j) (hK_0_163 : ∀ j : Int, 0 ≤ j → j < 2010 → 0 ≤ tokenEnd_0 j ∧ tokenEnd_0 j ≤ 2000) (kz_0_8 : 0 ≤ fault_0 ∧ fault_0 ≤ 5) (kz_0_10 : 0 ≤ limit_0 ∧ limit_0 ≤ 2000) (kz_0_157 : 0 ≤ tokens_0 ∧ tokens_0 ≤ 2010) (kz_0_158 : 0 ≤ cur_0 ∧ cur_0 ≤ 2009) (kz_0_159 : 0 ≤ opened_0 ∧ opened_0 ≤ 13) (kz_0_164 : 0 ≤ styleKind_0 ∧ styleKind_0 ≤ 1) (kz_0_165 : (-1) ≤ styleOne_0 ∧ styleOne_0 ≤ 47) (ex2 : gx = cur_0) (ex3 : 0 ≤ gx ∧ gx ≤ 2009) (ey2 : gy = fault_0) (ey3 : 0 ≤ gy ∧ gy ≤ 5) (eu2 : gu = opened_0) (eu3 : 0 ≤ gu ∧ gu ≤ 13) : opened_0 = gu := by
  subst fe_0_8_1
  subst fe_0_10_1
  subst fe_0_157_1
  subst fe_0_159_1
  subst fe_0_164_1
  subst fe_0_165_1
  have e_hE_0_1_1 := funext hE_0_1_1; subst e_hE_0_1_1
  have e_hE_0_160_1 := funext hE_0_160_1; subst e_hE_0_160_1
  have e_hE_0_161_1 := funext hE_0_161_1; subst e_hE_0_161_1
  have e_hE_0_162_1 := funext hE_0_162_1; subst e_hE_0_162_1
  have e_hE_0_163_1 := funext hE_0_163_1; subst e_hE_0_163_1
  first | assumption | (clear f1 f11 f13 f21 hE_0_1_1 hK_0_1 hE_0_160_1 hK_0_160 hE_0_161_1 hE_0_162_1 hK_0_162 hE_0_163_1 hK_0_163; omega) | (clear hE_0_1_1 hK_0_1 hE_0_160_1 hK_0_160 hE_0_161_1 hE_0_162_1 hK_0_162 hE_0_163_1 hK_0_163; grind) | omega | grind
set_option maxHeartbeats 4000000 in
theorem vc_Mo_both_at_f0_4_8 (x1 : Int) (x2 : Int) (x3 : Int) (x6 : Int) (x7 : Int) (x9 : Int) (x10 : Int) (x11 : Int) (cur_0 : Int) (styleKind_0 : Int) (styleOne_0 : Int) (opened_0 : Int) (cur_1 : Int) (tokenKind_1 : Int → Int) (tokens_1 : Int) (styleKind_1 : Int) (styleOne_1 : Int) (opened_1 : Int) (tokenValue_1 : Int → Int) (tokenPlace_1 : Int → Int) (tokenEnd_1 : Int → Int) (tape_1 : Int → Int) (fault_1 : Int) (limit_1 : Int) (fault_0 : Int) (limit_0 : Int) (tokens_0 : Int) (tape_0 : Int → Int) (tokenKind_0 : Int → Int) (tokenValue_0 : Int → Int) (tokenPlace_0 : Int → Int) (tokenEnd_0 : Int → Int) (gx : Int) (gy : Int) (gu : Int) (k1 : 0 ≤ x1 ∧ x1 ≤ 2009) (k2 : 0 ≤ x2 ∧ x2 ≤ 5) (k3 : 0 ≤ x3 ∧ x3 ≤ 13) (k6 : 0 ≤ x6 ∧ x6 ≤ 2009) (k7 : 0 ≤ x7 ∧ x7 ≤ 2010) (k9 : 1 ≤ x9 ∧ x9 ≤ 1) (k10 : 1 ≤ x10 ∧ x10 ≤ 1) (k11 : 1 ≤ x11 ∧ x11 ≤ 2009) (d0 : x6 + 1 ≤ x11 ∧ x11 ≤ x6 + 1) (g0 : x11 = cur_0) (f1 : (styleKind_0 = 0) → (styleOne_0 ≤ 23)) (f2 : 1 * opened_0 + 0 ≤ 0) (f3 : (-1) * opened_0 + 0 ≤ 0) (f4 : 1 * x3 + 0 ≤ 0) (f5 : (-1) * x3 + 0 ≤ 0) (f8 : x11 = x6 + x10) (g9 : x6 = cur_1) (f10 : x9 ≠ 0) (f11 : ((cur_1 + 1) ≤ tokens_1) ∧ ((tokens_1 ≤ 2010) ∧ ((tokenKind_1 ((tokens_1 - 1)) = 0) ∨ (tokenKind_1 ((tokens_1 - 1)) = 4)))) (f12 : 1 * x1 + ((-1) * cur_1 + 0) ≤ 0) (f13 : (styleKind_1 = 0) → (styleOne_1 ≤ 23)) (f14 : 1 * opened_1 + 0 ≤ 0) (f15 : (-1) * opened_1 + 0 ≤ 0) (f16 : SBL (fault_1) (cur_1) (styleKind_1) (limit_1) (tokenKind_1) (tokenValue_1) (tokenPlace_1) (tokenEnd_1) (tape_1) (x1) (x2) (x3)) (f17 : 1 * x3 + 0 ≤ 0) (f18 : (-1) * x3 + 0 ≤ 0) (f19 : 1 * x7 + (1 * cur_1 + 0) ≤ 2010) (f20 : (-1) * x7 + ((-1) * cur_1 + 0) ≤ (-2010)) (f21 : (x9 = 1) → (tokenKind_1 (cur_1) = 1)) (f22 : Wqand (fault_1) (cur_1) (limit_1) (tokenKind_1) (tokenPlace_1) (tokenEnd_1) (tape_1) (x9)) (f24 : 1 * x3 + 0 ≤ 0) (f25 : (-1) * x3 + 0 ≤ 0) (fe_0_8_1 : fault_0 = fault_1) (fe_0_10_1 : limit_0 = limit_1) (fe_0_157_1 : tokens_0 = tokens_1) (fe_0_158_1 : cur_0 = x11) (fe_0_159_1 : opened_0 = opened_1) (fe_0_164_1 : styleKind_0 = styleKind_1) (fe_0_165_1 : styleOne_0 = styleOne_1) (hE_0_1_1 : ∀ j : Int, tape_0 j = tape_1 j) (hK_0_1 : ∀ j : Int, 0 ≤ j → j < 2000 → (-128) ≤ tape_0 j ∧ tape_0 j ≤ 127) (hE_0_160_1 : ∀ j : Int, tokenKind_0 j = tokenKind_1 j) (hK_0_160 : ∀ j : Int, 0 ≤ j → j < 2010 → 0 ≤ tokenKind_0 j ∧ tokenKind_0 j ≤ 4) (hE_0_161_1 : ∀ j : Int, tokenValue_0 j = tokenValue_1 j) (hE_0_162_1 : ∀ j : Int, tokenPlace_0 j = tokenPlace_1 j) (hK_0_162 : ∀ j : Int, 0 ≤ j → j < 2010 → 0 ≤ tokenPlace_0 j ∧ tokenPlace_0 j ≤ 2000) (hE_0_163_1 : ∀ j : Int, tokenEnd_0 j = tokenEnd_1 j) (hK_0_163 : ∀ j : Int, 0 ≤ j → j < 2010 → 0 ≤ tokenEnd_0 j ∧ tokenEnd_0 j ≤ 2000) (kz_0_8 : 0 ≤ fault_0 ∧ fault_0 ≤ 5) (kz_0_10 : 0 ≤ limit_0 ∧ limit_0 ≤ 2000) (kz_0_157 : 0 ≤ tokens_0 ∧ tokens_0 ≤ 2010) (kz_0_158 : 0 ≤ cur_0 ∧ cur_0 ≤ 2009) (kz_0_159 : 0 ≤ opened_0 ∧ opened_0 ≤ 13) (kz_0_164 : 0 ≤ styleKind_0 ∧ styleKind_0 ≤ 1) (kz_0_165 : (-1) ≤ styleOne_0 ∧ styleOne_0 ≤ 47) (ex2 : gx = cur_0) (ex3 : 0 ≤ gx ∧ gx ≤ 2009) (ey2 : gy = fault_0) (ey3 : 0 ≤ gy ∧ gy ≤ 5) (eu2 : gu = opened_0) (eu3 : 0 ≤ gu ∧ gu ≤ 13) : 1 * x1 + ((-1) * gx + 0) ≤ 0 := by
  subst fe_0_8_1
  subst fe_0_10_1
  subst fe_0_157_1
  subst fe_0_159_1
  subst fe_0_164_1
  subst fe_0_165_1
  have e_hE_0_1_1 := funext hE_0_1_1; subst e_hE_0_1_1
  have e_hE_0_160_1 := funext hE_0_160_1; subst e_hE_0_160_1
  have e_hE_0_161_1 := funext hE_0_161_1; subst e_hE_0_161_1
  have e_hE_0_162_1 := funext hE_0_162_1; subst e_hE_0_162_1
  have e_hE_0_163_1 := funext hE_0_163_1; subst e_hE_0_163_1
  first | assumption | (clear f1 f11 f13 f21 hE_0_1_1 hK_0_1 hE_0_160_1 hK_0_160 hE_0_161_1 hE_0_162_1 hK_0_162 hE_0_163_1 hK_0_163; omega) | (clear hE_0_1_1 hK_0_1 hE_0_160_1 hK_0_160 hE_0_161_1 hE_0_162_1 hK_0_162 hE_0_163_1 hK_0_163; grind) | omega | grind
set_option maxHeartbeats 4000000 in
theorem vc_Mo_both_at_f0_4_9 (x1 : Int) (x2 : Int) (x3 : Int) (x6 : Int) (x7 : Int) (x9 : Int) (x10 : Int) (x11 : Int) (cur_0 : Int) (styleKind_0 : Int) (styleOne_0 : Int) (opened_0 : Int) (cur_1 : Int) (tokenKind_1 : Int → Int) (tokens_1 : Int) (styleKind_1 : Int) (styleOne_1 : Int) (opened_1 : Int) (tokenValue_1 : Int → Int) (tokenPlace_1 : Int → Int) (tokenEnd_1 : Int → Int) (tape_1 : Int → Int) (fault_1 : Int) (limit_1 : Int) (fault_0 : Int) (limit_0 : Int) (tokens_0 : Int) (tape_0 : Int → Int) (tokenKind_0 : Int → Int) (tokenValue_0 : Int → Int) (tokenPlace_0 : Int → Int) (tokenEnd_0 : Int → Int) (gx : Int) (gy : Int) (gu : Int) (k1 : 0 ≤ x1 ∧ x1 ≤ 2009) (k2 : 0 ≤ x2 ∧ x2 ≤ 5) (k3 : 0 ≤ x3 ∧ x3 ≤ 13) (k6 : 0 ≤ x6 ∧ x6 ≤ 2009) (k7 : 0 ≤ x7 ∧ x7 ≤ 2010) (k9 : 1 ≤ x9 ∧ x9 ≤ 1) (k10 : 1 ≤ x10 ∧ x10 ≤ 1) (k11 : 1 ≤ x11 ∧ x11 ≤ 2009) (d0 : x6 + 1 ≤ x11 ∧ x11 ≤ x6 + 1) (g0 : x11 = cur_0) (f1 : (styleKind_0 = 0) → (styleOne_0 ≤ 23)) (f2 : 1 * opened_0 + 0 ≤ 0) (f3 : (-1) * opened_0 + 0 ≤ 0) (f4 : 1 * x3 + 0 ≤ 0) (f5 : (-1) * x3 + 0 ≤ 0) (f8 : x11 = x6 + x10) (g9 : x6 = cur_1) (f10 : x9 ≠ 0) (f11 : ((cur_1 + 1) ≤ tokens_1) ∧ ((tokens_1 ≤ 2010) ∧ ((tokenKind_1 ((tokens_1 - 1)) = 0) ∨ (tokenKind_1 ((tokens_1 - 1)) = 4)))) (f12 : 1 * x1 + ((-1) * cur_1 + 0) ≤ 0) (f13 : (styleKind_1 = 0) → (styleOne_1 ≤ 23)) (f14 : 1 * opened_1 + 0 ≤ 0) (f15 : (-1) * opened_1 + 0 ≤ 0) (f16 : SBL (fault_1) (cur_1) (styleKind_1) (limit_1) (tokenKind_1) (tokenValue_1) (tokenPlace_1) (tokenEnd_1) (tape_1) (x1) (x2) (x3)) (f17 : 1 * x3 + 0 ≤ 0) (f18 : (-1) * x3 + 0 ≤ 0) (f19 : 1 * x7 + (1 * cur_1 + 0) ≤ 2010) (f20 : (-1) * x7 + ((-1) * cur_1 + 0) ≤ (-2010)) (f21 : (x9 = 1) → (tokenKind_1 (cur_1) = 1)) (f22 : Wqand (fault_1) (cur_1) (limit_1) (tokenKind_1) (tokenPlace_1) (tokenEnd_1) (tape_1) (x9)) (f24 : 1 * x3 + 0 ≤ 0) (f25 : (-1) * x3 + 0 ≤ 0) (fe_0_8_1 : fault_0 = fault_1) (fe_0_10_1 : limit_0 = limit_1) (fe_0_157_1 : tokens_0 = tokens_1) (fe_0_158_1 : cur_0 = x11) (fe_0_159_1 : opened_0 = opened_1) (fe_0_164_1 : styleKind_0 = styleKind_1) (fe_0_165_1 : styleOne_0 = styleOne_1) (hE_0_1_1 : ∀ j : Int, tape_0 j = tape_1 j) (hK_0_1 : ∀ j : Int, 0 ≤ j → j < 2000 → (-128) ≤ tape_0 j ∧ tape_0 j ≤ 127) (hE_0_160_1 : ∀ j : Int, tokenKind_0 j = tokenKind_1 j) (hK_0_160 : ∀ j : Int, 0 ≤ j → j < 2010 → 0 ≤ tokenKind_0 j ∧ tokenKind_0 j ≤ 4) (hE_0_161_1 : ∀ j : Int, tokenValue_0 j = tokenValue_1 j) (hE_0_162_1 : ∀ j : Int, tokenPlace_0 j = tokenPlace_1 j) (hK_0_162 : ∀ j : Int, 0 ≤ j → j < 2010 → 0 ≤ tokenPlace_0 j ∧ tokenPlace_0 j ≤ 2000) (hE_0_163_1 : ∀ j : Int, tokenEnd_0 j = tokenEnd_1 j) (hK_0_163 : ∀ j : Int, 0 ≤ j → j < 2010 → 0 ≤ tokenEnd_0 j ∧ tokenEnd_0 j ≤ 2000) (kz_0_8 : 0 ≤ fault_0 ∧ fault_0 ≤ 5) (kz_0_10 : 0 ≤ limit_0 ∧ limit_0 ≤ 2000) (kz_0_157 : 0 ≤ tokens_0 ∧ tokens_0 ≤ 2010) (kz_0_158 : 0 ≤ cur_0 ∧ cur_0 ≤ 2009) (kz_0_159 : 0 ≤ opened_0 ∧ opened_0 ≤ 13) (kz_0_164 : 0 ≤ styleKind_0 ∧ styleKind_0 ≤ 1) (kz_0_165 : (-1) ≤ styleOne_0 ∧ styleOne_0 ≤ 47) (ex2 : gx = cur_0) (ex3 : 0 ≤ gx ∧ gx ≤ 2009) (ey2 : gy = fault_0) (ey3 : 0 ≤ gy ∧ gy ≤ 5) (eu2 : gu = opened_0) (eu3 : 0 ≤ gu ∧ gu ≤ 13) : (-1) * x7 + ((-1) * gx + 0) ≤ (-2011) := by
  subst fe_0_8_1
  subst fe_0_10_1
  subst fe_0_157_1
  subst fe_0_159_1
  subst fe_0_164_1
  subst fe_0_165_1
  have e_hE_0_1_1 := funext hE_0_1_1; subst e_hE_0_1_1
  have e_hE_0_160_1 := funext hE_0_160_1; subst e_hE_0_160_1
  have e_hE_0_161_1 := funext hE_0_161_1; subst e_hE_0_161_1
  have e_hE_0_162_1 := funext hE_0_162_1; subst e_hE_0_162_1
  have e_hE_0_163_1 := funext hE_0_163_1; subst e_hE_0_163_1
  first | assumption | (clear f1 f11 f13 f21 hE_0_1_1 hK_0_1 hE_0_160_1 hK_0_160 hE_0_161_1 hE_0_162_1 hK_0_162 hE_0_163_1 hK_0_163; omega) | (clear hE_0_1_1 hK_0_1 hE_0_160_1 hK_0_160 hE_0_161_1 hE_0_162_1 hK_0_162 hE_0_163_1 hK_0_163; grind) | omega | grind
set_option maxHeartbeats 4000000 in
theorem vc_Mo_both_at_f0_4_10 (x1 : Int) (x2 : Int) (x3 : Int) (x6 : Int) (x9 : Int) (x11 : Int) (cur_0 : Int) (styleKind_0 : Int) (styleOne_0 : Int) (opened_0 : Int) (cur_1 : Int) (tokenKind_1 : Int → Int) (tokens_1 : Int) (styleKind_1 : Int) (styleOne_1 : Int) (opened_1 : Int) (tokenValue_1 : Int → Int) (tokenPlace_1 : Int → Int) (tokenEnd_1 : Int → Int) (tape_1 : Int → Int) (fault_1 : Int) (limit_1 : Int) (fault_0 : Int) (limit_0 : Int) (tokens_0 : Int) (tape_0 : Int → Int) (tokenKind_0 : Int → Int) (tokenValue_0 : Int → Int) (tokenPlace_0 : Int → Int) (tokenEnd_0 : Int → Int) (gx : Int) (gy : Int) (k1 : 0 ≤ x1 ∧ x1 ≤ 2009) (k2 : 0 ≤ x2 ∧ x2 ≤ 5) (k3 : 0 ≤ x3 ∧ x3 ≤ 13) (k6 : 0 ≤ x6 ∧ x6 ≤ 2009) (k9 : 1 ≤ x9 ∧ x9 ≤ 1) (k11 : 1 ≤ x11 ∧ x11 ≤ 2009) (d0 : x6 + 1 ≤ x11 ∧ x11 ≤ x6 + 1) (g0 : x11 = cur_0) (g9 : x6 = cur_1) (f16 : SBL (fault_1) (cur_1) (styleKind_1) (limit_1) (tokenKind_1) (tokenValue_1) (tokenPlace_1) (tokenEnd_1) (tape_1) (x1) (x2) (x3)) (f22 : Wqand (fault_1) (cur_1) (limit_1) (tokenKind_1) (tokenPlace_1) (tokenEnd_1) (tape_1) (x9)) (fe_0_8_1 : fault_0 = fault_1) (fe_0_10_1 : limit_0 = limit_1) (fe_0_157_1 : tokens_0 = tokens_1) (fe_0_159_1 : opened_0 = opened_1) (fe_0_164_1 : styleKind_0 = styleKind_1) (fe_0_165_1 : styleOne_0 = styleOne_1) (hE_0_1_1 : ∀ j : Int, tape_0 j = tape_1 j) (hE_0_160_1 : ∀ j : Int, tokenKind_0 j = tokenKind_1 j) (hE_0_161_1 : ∀ j : Int, tokenValue_0 j = tokenValue_1 j) (hE_0_162_1 : ∀ j : Int, tokenPlace_0 j = tokenPlace_1 j) (hE_0_163_1 : ∀ j : Int, tokenEnd_0 j = tokenEnd_1 j) (kz_0_8 : 0 ≤ fault_0 ∧ fault_0 ≤ 5) (kz_0_10 : 0 ≤ limit_0 ∧ limit_0 ≤ 2000) (kz_0_157 : 0 ≤ tokens_0 ∧ tokens_0 ≤ 2010) (kz_0_158 : 0 ≤ cur_0 ∧ cur_0 ≤ 2009) (kz_0_159 : 0 ≤ opened_0 ∧ opened_0 ≤ 13) (kz_0_164 : 0 ≤ styleKind_0 ∧ styleKind_0 ≤ 1) (kz_0_165 : (-1) ≤ styleOne_0 ∧ styleOne_0 ≤ 47) (ex2 : gx = cur_0) (ey2 : gy = fault_0) : GBL (styleKind_0) (limit_0) (tokenKind_0) (tokenValue_0) (tokenPlace_0) (tokenEnd_0) (tape_0) (gx) (gy) (x1) (x2) (x3) := by
  subst fe_0_8_1
  subst fe_0_10_1
  subst fe_0_157_1
  subst fe_0_159_1
  subst fe_0_164_1
  subst fe_0_165_1
  have e_hE_0_1_1 := funext hE_0_1_1; subst e_hE_0_1_1
  have e_hE_0_160_1 := funext hE_0_160_1; subst e_hE_0_160_1
  have e_hE_0_161_1 := funext hE_0_161_1; subst e_hE_0_161_1
  have e_hE_0_162_1 := funext hE_0_162_1; subst e_hE_0_162_1
  have e_hE_0_163_1 := funext hE_0_163_1; subst e_hE_0_163_1
  first
    | (have h := (wdq_y (‹Wqand _ _ _ _ _ _ _ _›) (by omega))
       have h1 := h.1
       exact gbl_of (‹SBL _ _ _ _ _ _ _ _ _ _ _ _›) (by omega) h.2 (by omega) (by omega))
  
set_option maxHeartbeats 4000000 in
theorem vc_Mo_both_at_f0_4_11 (x1 : Int) (x2 : Int) (x3 : Int) (x6 : Int) (x7 : Int) (x9 : Int) (x10 : Int) (x11 : Int) (cur_0 : Int) (styleKind_0 : Int) (styleOne_0 : Int) (opened_0 : Int) (cur_1 : Int) (tokenKind_1 : Int → Int) (tokens_1 : Int) (styleKind_1 : Int) (styleOne_1 : Int) (opened_1 : Int) (tokenValue_1 : Int → Int) (tokenPlace_1 : Int → Int) (tokenEnd_1 : Int → Int) (tape_1 : Int → Int) (fault_1 : Int) (limit_1 : Int) (fault_0 : Int) (limit_0 : Int) (tokens_0 : Int) (tape_0 : Int → Int) (tokenKind_0 : Int → Int) (tokenValue_0 : Int → Int) (tokenPlace_0 : Int → Int) (tokenEnd_0 : Int → Int) (gx : Int) (gy : Int) (gu : Int) (k1 : 0 ≤ x1 ∧ x1 ≤ 2009) (k2 : 0 ≤ x2 ∧ x2 ≤ 5) (k3 : 0 ≤ x3 ∧ x3 ≤ 13) (k6 : 0 ≤ x6 ∧ x6 ≤ 2009) (k7 : 0 ≤ x7 ∧ x7 ≤ 2010) (k9 : 1 ≤ x9 ∧ x9 ≤ 1) (k10 : 1 ≤ x10 ∧ x10 ≤ 1) (k11 : 1 ≤ x11 ∧ x11 ≤ 2009) (d0 : x6 + 1 ≤ x11 ∧ x11 ≤ x6 + 1) (g0 : x11 = cur_0) (f1 : (styleKind_0 = 0) → (styleOne_0 ≤ 23)) (f2 : 1 * opened_0 + 0 ≤ 0) (f3 : (-1) * opened_0 + 0 ≤ 0) (f4 : 1 * x3 + 0 ≤ 0) (f5 : (-1) * x3 + 0 ≤ 0) (f8 : x11 = x6 + x10) (g9 : x6 = cur_1) (f10 : x9 ≠ 0) (f11 : ((cur_1 + 1) ≤ tokens_1) ∧ ((tokens_1 ≤ 2010) ∧ ((tokenKind_1 ((tokens_1 - 1)) = 0) ∨ (tokenKind_1 ((tokens_1 - 1)) = 4)))) (f12 : 1 * x1 + ((-1) * cur_1 + 0) ≤ 0) (f13 : (styleKind_1 = 0) → (styleOne_1 ≤ 23)) (f14 : 1 * opened_1 + 0 ≤ 0) (f15 : (-1) * opened_1 + 0 ≤ 0) (f16 : SBL (fault_1) (cur_1) (styleKind_1) (limit_1) (tokenKind_1) (tokenValue_1) (tokenPlace_1) (tokenEnd_1) (tape_1) (x1) (x2) (x3)) (f17 : 1 * x3 + 0 ≤ 0) (f18 : (-1) * x3 + 0 ≤ 0) (f19 : 1 * x7 + (1 * cur_1 + 0) ≤ 2010) (f20 : (-1) * x7 + ((-1) * cur_1 + 0) ≤ (-2010)) (f21 : (x9 = 1) → (tokenKind_1 (cur_1) = 1)) (f22 : Wqand (fault_1) (cur_1) (limit_1) (tokenKind_1) (tokenPlace_1) (tokenEnd_1) (tape_1) (x9)) (f24 : 1 * x3 + 0 ≤ 0) (f25 : (-1) * x3 + 0 ≤ 0) (fe_0_8_1 : fault_0 = fault_1) (fe_0_10_1 : limit_0 = limit_1) (fe_0_157_1 : tokens_0 = tokens_1) (fe_0_158_1 : cur_0 = x11) (fe_0_159_1 : opened_0 = opened_1) (fe_0_164_1 : styleKind_0 = styleKind_1) (fe_0_165_1 : styleOne_0 = styleOne_1) (hE_0_1_1 : ∀ j : Int, tape_0 j = tape_1 j) (hK_0_1 : ∀ j : Int, 0 ≤ j → j < 2000 → (-128) ≤ tape_0 j ∧ tape_0 j ≤ 127) (hE_0_160_1 : ∀ j : Int, tokenKind_0 j = tokenKind_1 j) (hK_0_160 : ∀ j : Int, 0 ≤ j → j < 2010 → 0 ≤ tokenKind_0 j ∧ tokenKind_0 j ≤ 4) (hE_0_161_1 : ∀ j : Int, tokenValue_0 j = tokenValue_1 j) (hE_0_162_1 : ∀ j : Int, tokenPlace_0 j = tokenPlace_1 j) (hK_0_162 : ∀ j : Int, 0 ≤ j → j < 2010 → 0 ≤ tokenPlace_0 j ∧ tokenPlace_0 j ≤ 2000) (hE_0_163_1 : ∀ j : Int, tokenEnd_0 j = tokenEnd_1 j) (hK_0_163 : ∀ j : Int, 0 ≤ j → j < 2010 → 0 ≤ tokenEnd_0 j ∧ tokenEnd_0 j ≤ 2000) (kz_0_8 : 0 ≤ fault_0 ∧ fault_0 ≤ 5) (kz_0_10 : 0 ≤ limit_0 ∧ limit_0 ≤ 2000) (kz_0_157 : 0 ≤ tokens_0 ∧ tokens_0 ≤ 2010) (kz_0_158 : 0 ≤ cur_0 ∧ cur_0 ≤ 2009) (kz_0_159 : 0 ≤ opened_0 ∧ opened_0 ≤ 13) (kz_0_164 : 0 ≤ styleKind_0 ∧ styleKind_0 ≤ 1) (kz_0_165 : (-1) ≤ styleOne_0 ∧ styleOne_0 ≤ 47) (ex2 : gx = cur_0) (ex3 : 0 ≤ gx ∧ gx ≤ 2009) (ey2 : gy = fault_0) (ey3 : 0 ≤ gy ∧ gy ≤ 5) (eu2 : gu = opened_0) (eu3 : 0 ≤ gu ∧ gu ≤ 13) : 1 * gu + 0 ≤ 0 := by
  subst fe_0_8_1
  subst fe_0_10_1
  subst fe_0_157_1
  subst fe_0_159_1
  subst fe_0_164_1
  subst fe_0_165_1
  have e_hE_0_1_1 := funext hE_0_1_1; subst e_hE_0_1_1
  have e_hE_0_160_1 := funext hE_0_160_1; subst e_hE_0_160_1
  have e_hE_0_161_1 := funext hE_0_161_1; subst e_hE_0_161_1
  have e_hE_0_162_1 := funext hE_0_162_1; subst e_hE_0_162_1
  have e_hE_0_163_1 := funext hE_0_163_1; subst e_hE_0_163_1
  first | assumption | (clear f1 f11 f13 f21 hE_0_1_1 hK_0_1 hE_0_160_1 hK_0_160 hE_0_161_1 hE_0_162_1 hK_0_162 hE_0_163_1 hK_0_163; omega) | (clear hE_0_1_1 hK_0_1 hE_0_160_1 hK_0_160 hE_0_161_1 hE_0_162_1 hK_0_162 hE_0_163_1 hK_0_163; grind) | omega | grind
set_option maxHeartbeats 4000000 in
theorem vc_Mo_both_at_f0_4_12 (x1 : Int) (x2 : Int) (x3 : Int) (x6 : Int) (x7 : Int) (x9 : Int) (x10 : Int) (x11 : Int) (cur_0 : Int) (styleKind_0 : Int) (styleOne_0 : Int) (opened_0 : Int) (cur_1 : Int) (tokenKind_1 : Int → Int) (tokens_1 : Int) (styleKind_1 : Int) (styleOne_1 : Int) (opened_1 : Int) (tokenValue_1 : Int → Int) (tokenPlace_1 : Int → Int) (tokenEnd_1 : Int → Int) (tape_1 : Int → Int) (fault_1 : Int) (limit_1 : Int) (fault_0 : Int) (limit_0 : Int) (tokens_0 : Int) (tape_0 : Int → Int) (tokenKind_0 : Int → Int) (tokenValue_0 : Int → Int) (tokenPlace_0 : Int → Int) (tokenEnd_0 : Int → Int) (gx : Int) (gy : Int) (gu : Int) (k1 : 0 ≤ x1 ∧ x1 ≤ 2009) (k2 : 0 ≤ x2 ∧ x2 ≤ 5) (k3 : 0 ≤ x3 ∧ x3 ≤ 13) (k6 : 0 ≤ x6 ∧ x6 ≤ 2009) (k7 : 0 ≤ x7 ∧ x7 ≤ 2010) (k9 : 1 ≤ x9 ∧ x9 ≤ 1) (k10 : 1 ≤ x10 ∧ x10 ≤ 1) (k11 : 1 ≤ x11 ∧ x11 ≤ 2009) (d0 : x6 + 1 ≤ x11 ∧ x11 ≤ x6 + 1) (g0 : x11 = cur_0) (f1 : (styleKind_0 = 0) → (styleOne_0 ≤ 23)) (f2 : 1 * opened_0 + 0 ≤ 0) (f3 : (-1) * opened_0 + 0 ≤ 0) (f4 : 1 * x3 + 0 ≤ 0) (f5 : (-1) * x3 + 0 ≤ 0) (f8 : x11 = x6 + x10) (g9 : x6 = cur_1) (f10 : x9 ≠ 0) (f11 : ((cur_1 + 1) ≤ tokens_1) ∧ ((tokens_1 ≤ 2010) ∧ ((tokenKind_1 ((tokens_1 - 1)) = 0) ∨ (tokenKind_1 ((tokens_1 - 1)) = 4)))) (f12 : 1 * x1 + ((-1) * cur_1 + 0) ≤ 0) (f13 : (styleKind_1 = 0) → (styleOne_1 ≤ 23)) (f14 : 1 * opened_1 + 0 ≤ 0) (f15 : (-1) * opened_1 + 0 ≤ 0) (f16 : SBL (fault_1) (cur_1) (styleKind_1) (limit_1) (tokenKind_1) (tokenValue_1) (tokenPlace_1) (tokenEnd_1) (tape_1) (x1) (x2) (x3)) (f17 : 1 * x3 + 0 ≤ 0) (f18 : (-1) * x3 + 0 ≤ 0) (f19 : 1 * x7 + (1 * cur_1 + 0) ≤ 2010) (f20 : (-1) * x7 + ((-1) * cur_1 + 0) ≤ (-2010)) (f21 : (x9 = 1) → (tokenKind_1 (cur_1) = 1)) (f22 : Wqand (fault_1) (cur_1) (limit_1) (tokenKind_1) (tokenPlace_1) (tokenEnd_1) (tape_1) (x9)) (f24 : 1 * x3 + 0 ≤ 0) (f25 : (-1) * x3 + 0 ≤ 0) (fe_0_8_1 : fault_0 = fault_1) (fe_0_10_1 : limit_0 = limit_1) (fe_0_157_1 : tokens_0 = tokens_1) (fe_0_158_1 : cur_0 = x11) (fe_0_159_1 : opened_0 = opened_1) (fe_0_164_1 : styleKind_0 = styleKind_1) (fe_0_165_1 : styleOne_0 = styleOne_1) (hE_0_1_1 : ∀ j : Int, tape_0 j = tape_1 j) (hK_0_1 : ∀ j : Int, 0 ≤ j → j < 2000 → (-128) ≤ tape_0 j ∧ tape_0 j ≤ 127) (hE_0_160_1 : ∀ j : Int, tokenKind_0 j = tokenKind_1 j) (hK_0_160 : ∀ j : Int, 0 ≤ j → j < 2010 → 0 ≤ tokenKind_0 j ∧ tokenKind_0 j ≤ 4) (hE_0_161_1 : ∀ j : Int, tokenValue_0 j = tokenValue_1 j) (hE_0_162_1 : ∀ j : Int, tokenPlace_0 j = tokenPlace_1 j) (hK_0_162 : ∀ j : Int, 0 ≤ j → j < 2010 → 0 ≤ tokenPlace_0 j ∧ tokenPlace_0 j ≤ 2000) (hE_0_163_1 : ∀ j : Int, tokenEnd_0 j = tokenEnd_1 j) (hK_0_163 : ∀ j : Int, 0 ≤ j → j < 2010 → 0 ≤ tokenEnd_0 j ∧ tokenEnd_0 j ≤ 2000) (kz_0_8 : 0 ≤ fault_0 ∧ fault_0 ≤ 5) (kz_0_10 : 0 ≤ limit_0 ∧ limit_0 ≤ 2000) (kz_0_157 : 0 ≤ tokens_0 ∧ tokens_0 ≤ 2010) (kz_0_158 : 0 ≤ cur_0 ∧ cur_0 ≤ 2009) (kz_0_159 : 0 ≤ opened_0 ∧ opened_0 ≤ 13) (kz_0_164 : 0 ≤ styleKind_0 ∧ styleKind_0 ≤ 1) (kz_0_165 : (-1) ≤ styleOne_0 ∧ styleOne_0 ≤ 47) (ex2 : gx = cur_0) (ex3 : 0 ≤ gx ∧ gx ≤ 2009) (ey2 : gy = fault_0) (ey3 : 0 ≤ gy ∧ gy ≤ 5) (eu2 : gu = opened_0) (eu3 : 0 ≤ gu ∧ gu ≤ 13) : (-1) * gu + 0 ≤ 0 := by
  subst fe_0_8_1
  subst fe_0_10_1
  subst fe_0_157_1
  subst fe_0_159_1
  subst fe_0_164_1
  subst fe_0_165_1
  have e_hE_0_1_1 := funext hE_0_1_1; subst e_hE_0_1_1
  have e_hE_0_160_1 := funext hE_0_160_1; subst e_hE_0_160_1
  have e_hE_0_161_1 := funext hE_0_161_1; subst e_hE_0_161_1
  have e_hE_0_162_1 := funext hE_0_162_1; subst e_hE_0_162_1
  have e_hE_0_163_1 := funext hE_0_163_1; subst e_hE_0_163_1
  first | assumption | (clear f1 f11 f13 f21 hE_0_1_1 hK_0_1 hE_0_160_1 hK_0_160 hE_0_161_1 hE_0_162_1 hK_0_162 hE_0_163_1 hK_0_163; omega) | (clear hE_0_1_1 hK_0_1 hE_0_160_1 hK_0_160 hE_0_161_1 hE_0_162_1 hK_0_162 hE_0_163_1 hK_0_163; grind) | omega | grind
def o_Mo_both_at_f0_4 : or_T := (26, 12, [(0, (2, 0, 0, [165])), (1, (0, 0, 2009, [])), (2, (0, 0, 5, [])), (3, (0, 0, 13, [])), (6, (0, 0, 2009, [])), (7, (0, 0, 2010, [])), (9, (0, 1, 1, [])), (10, (0, 1, 1, [])), (11, (0, 1, 2009, []))], [(9, [11, 4], [158]), (20, [4], [50, 2, 0, 164, 165, 4, 7, 1, 3, 2, 0, 164, 0, 0, 0, 3, 2, 0, 165, 0, 23]), (20, [4], [30, 0, 1, 1, 159]), (20, [4], [30, 0, -1, 1, 159]), (23, [3], [0, 1]), (23, [3], [0, -1]), (24, [0, 4], []), (101, [4, 11], [158]), (1, [11, 6, 10], []), (9, [6, 4], [158]), (8, [9], [1]), (20, [4], [50, 2, 1, 158, 157, 160, 2, 12, 0, 7, 4, 3, 2, 0, 158, 0, 1, 2, 0, 157, 2, 7, 0, 3, 2, 0, 157, 0, 2010, 3, 14, 1, 10, 3, 0, 160, 5, 3, 2, 0, 157, 0, 1, 0, 0, 1, 10, 3, 0, 160, 5, 3, 2, 0, 157, 0, 1, 0, 4]), (20, [1, 4], [30, 0, 1, 0, 0, -1, 1, 158]), (20, [4], [50, 2, 0, 164, 165, 4, 7, 1, 3, 2, 0, 164, 0, 0, 0, 3, 2, 0, 165, 0, 23]), (20, [4], [30, 0, 1, 1, 159]), (20, [4], [30, 0, -1, 1, 159]), (20, [4, 1, 2, 3], [60, 4, 5, 8, 8, 158, 164, 10, 160, 161, 162, 163, 1]), (23, [3], [0, 1]), (23, [3], [0, -1]), (20, [7, 4], [30, 2010, 1, 0, 0, 1, 1, 158]), (20, [7, 4], [30, -2010, -1, 0, 0, -1, 1, 158]), (20, [9, 4], [50, 1, 1, 1158, 1160, 4, 6, 1, 2, 1, 0, 0, 1, 1, 6, 3, 1, 160, 2, 1, 158, 0, 1]), (20, [4, 9], [60, 3, 4, 26, 8, 158, 10, 160, 162, 163, 1]), (102, [8], [0]), (23, [3], [0, 1]), (23, [3], [0, -1])], [], [(0, 0, 2009, []), (0, 0, 5, []), (0, 0, 13, [])], [(20, [4], [50, 2, 1, 158, 157, 160, 2, 12, 0, 7, 4, 3, 2, 0, 158, 0, 1, 2, 0, 157, 2, 7, 0, 3, 2, 0, 157, 0, 2010, 3, 14, 1, 10, 3, 0, 160, 5, 3, 2, 0, 157, 0, 1, 0, 0, 1, 10, 3, 0, 160, 5, 3, 2, 0, 157, 0, 1, 0, 4]), (20, [4, 12], [30, 0, 1, 1, 158, -1, 0, 0]), (20, [4, 12], [30, 0, -1, 1, 158, 1, 0, 0]), (20, [4], [50, 2, 0, 164, 165, 4, 7, 1, 3, 2, 0, 164, 0, 0, 0, 3, 2, 0, 165, 0, 23]), (20, [4], [30, 0, 1, 1, 159]), (20, [4], [30, 0, -1, 1, 159]), (20, [4, 13], [50, 1, 0, 8, 1, 3, 2, 0, 8, 1, 1]), (20, [4, 14], [50, 1, 0, 159, 1, 3, 2, 0, 159, 1, 1]), (23, [1, 12], [0, 1, -1]), (23, [7, 12], [-2011, -1, -1]), (20, [4, 12, 13, 1, 2, 3], [60, 2, 5, 12, 164, 10, 160, 161, 162, 163, 1]), (23, [14], [0, 1]), (23, [14], [0, -1])], [], [(11, 6, 1, 1)])
theorem oo_Mo_both_at_f0_4 {kA : Nat → ClassId} : or_ok PRD kA GG o_Mo_both_at_f0_4 := by
  refine or_mk fun A ta ws vs hD hth hl => ?_
  intro t0 r0 t1 k1 t2 k2 t3 k3 t6 k6 t7 k7 t9 k9 t10 k10 t11 k11 d0 f0 f1 f2 f3 f4 f5 f6 ta1 w1 le1 s1 f8 f9 f10 f11 f12 f13 f14 f15 f16 f17 f18 f19 f20 f21 f22 ta2 w2 le2 s2 f24 f25
  replace f0 := shm_311 f0
  replace f1 := shm_299 f1
  replace f2 := shm_999 f2
  replace f3 := shm_1000 f3
  replace f4 := shm_1477 f4
  replace f5 := shm_1013 f5
  replace f6 := shm_5 f6
  have s1 : (∀ b j, w_el ws b j = w_el w1 b j) ∧ ∀ b j, w_fd ws b j = if b = v_ad (n_v vs 4) ∧ j = 158 then n_v vs 11 else w_fd w1 b j := s1.2
  replace f8 := shm_12 f8
  replace f9 := shm_311 f9
  replace f10 := shm_154 f10
  replace f11 := shm_296 f11
  replace f12 := shm_306 f12
  replace f13 := shm_299 f13
  replace f14 := shm_999 f14
  replace f15 := shm_1000 f15
  replace f16 := shm_308 f16
  replace f17 := shm_1477 f17
  replace f18 := shm_1013 f18
  replace f19 := shm_309 f19
  replace f20 := shm_310 f20
  replace f21 := shm_312 f21
  replace f22 := shm_313 f22
  replace f24 := shm_1477 f24
  replace f25 := shm_1013 f25
  have q4 : n_v vs 4 = n_v vs 0 := f6.symm
  simp only [q4] at f0 f1 f2 f3
  rw [q4] at s1
  simp only [q4] at f9 f11 f12 f13 f14 f15 f16 f19 f20 f21 f22
  have ar_0_1_1 : w_ar w1 (n_v vs 0) 1 = w_ar ws (n_v vs 0) 1 := by show v_ad (w_fd w1 _ _) = v_ad (w_fd ws _ _); rw [s1.2, if_neg (fun e => absurd e.2 (by decide))]
  have cr_0_1 := fdq_46 hD hth r0
  have ar_0_160_1 : w_ar w1 (n_v vs 0) 160 = w_ar ws (n_v vs 0) 160 := by show v_ad (w_fd w1 _ _) = v_ad (w_fd ws _ _); rw [s1.2, if_neg (fun e => absurd e.2 (by decide))]
  have cr_0_160 := fdq_41 hD hth r0
  have ar_0_161_1 : w_ar w1 (n_v vs 0) 161 = w_ar ws (n_v vs 0) 161 := by show v_ad (w_fd w1 _ _) = v_ad (w_fd ws _ _); rw [s1.2, if_neg (fun e => absurd e.2 (by decide))]
  have ar_0_162_1 : w_ar w1 (n_v vs 0) 162 = w_ar ws (n_v vs 0) 162 := by show v_ad (w_fd w1 _ _) = v_ad (w_fd ws _ _); rw [s1.2, if_neg (fun e => absurd e.2 (by decide))]
  have cr_0_162 := fdq_48 hD hth r0
  have ar_0_163_1 : w_ar w1 (n_v vs 0) 163 = w_ar ws (n_v vs 0) 163 := by show v_ad (w_fd w1 _ _) = v_ad (w_fd ws _ _); rw [s1.2, if_neg (fun e => absurd e.2 (by decide))]
  have cr_0_163 := fdq_49 hD hth r0
  have g0 : v_iv (n_v vs 11) = w_fi ws (n_v vs 0) 158 := congrArg v_iv f0
  have g9 : v_iv (n_v vs 6) = w_fi w1 (n_v vs 0) 158 := congrArg v_iv f9
  simp only [ar_0_160_1, ar_0_1_1, ar_0_161_1, ar_0_162_1, ar_0_163_1] at f11 f16 f21 f22
  have fe_0_8_1 : w_fi ws (n_v vs 0) 8 = w_fi w1 (n_v vs 0) 8 := by show v_iv (w_fd _ _ _) = v_iv (w_fd _ _ _); rw [s1.2, if_neg (fun e => absurd e.2 (by decide))]
  have fe_0_10_1 : w_fi ws (n_v vs 0) 10 = w_fi w1 (n_v vs 0) 10 := by show v_iv (w_fd _ _ _) = v_iv (w_fd _ _ _); rw [s1.2, if_neg (fun e => absurd e.2 (by decide))]
  have fe_0_157_1 : w_fi ws (n_v vs 0) 157 = w_fi w1 (n_v vs 0) 157 := by show v_iv (w_fd _ _ _) = v_iv (w_fd _ _ _); rw [s1.2, if_neg (fun e => absurd e.2 (by decide))]
  have fe_0_158_1 : w_fi ws (n_v vs 0) 158 = v_iv (n_v vs 11) := by show v_iv (w_fd _ _ _) = _; rw [s1.2, if_pos ⟨rfl, rfl⟩]
  have fe_0_159_1 : w_fi ws (n_v vs 0) 159 = w_fi w1 (n_v vs 0) 159 := by show v_iv (w_fd _ _ _) = v_iv (w_fd _ _ _); rw [s1.2, if_neg (fun e => absurd e.2 (by decide))]
  have fe_0_164_1 : w_fi ws (n_v vs 0) 164 = w_fi w1 (n_v vs 0) 164 := by show v_iv (w_fd _ _ _) = v_iv (w_fd _ _ _); rw [s1.2, if_neg (fun e => absurd e.2 (by decide))]
  have fe_0_165_1 : w_fi ws (n_v vs 0) 165 = w_fi w1 (n_v vs 0) 165 := by show v_iv (w_fd _ _ _) = v_iv (w_fd _ _ _); rw [s1.2, if_neg (fun e => absurd e.2 (by decide))]
  have hE_0_1_1 : ∀ j : Int, w_ei ws (w_ar ws (n_v vs 0) 1) j = w_ei w1 (w_ar ws (n_v vs 0) 1) j := fun j => s1.1 _ _
  have hK_0_1 := elq_6 hD hth cr_0_1
  have hE_0_160_1 : ∀ j : Int, w_ei ws (w_ar ws (n_v vs 0) 160) j = w_ei w1 (w_ar ws (n_v vs 0) 160) j := fun j => s1.1 _ _
  have hK_0_160 := elq_5 hD hth cr_0_160
  have hE_0_161_1 : ∀ j : Int, w_ei ws (w_ar ws (n_v vs 0) 161) j = w_ei w1 (w_ar ws (n_v vs 0) 161) j := fun j => s1.1 _ _
  have hE_0_162_1 : ∀ j : Int, w_ei ws (w_ar ws (n_v vs 0) 162) j = w_ei w1 (w_ar ws (n_v vs 0) 162) j := fun j => s1.1 _ _
  have hK_0_162 := elq_7 hD hth cr_0_162
  have hE_0_163_1 : ∀ j : Int, w_ei ws (w_ar ws (n_v vs 0) 163) j = w_ei w1 (w_ar ws (n_v vs 0) 163) j := fun j => s1.1 _ _
  have hK_0_163 := elq_8 hD hth cr_0_163
  have kz_0_8 := fdq_14 hD hth r0
  have kz_0_10 := fdq_50 hD hth r0
  have kz_0_157 := fdq_42 hD hth r0
  have kz_0_158 := fdq_43 hD hth r0
  have kz_0_159 := fdq_44 hD hth r0
  have kz_0_164 := fdq_45 hD hth r0
  have kz_0_165 := fdq_35 hD hth r0
  obtain ⟨x, ex, hx⟩ := iv_ex (ta := ta) (lo := 0) (hi := 2009) (z := w_fi ws (n_v vs 0) 158) (by omega) (by omega) (by omega) (by omega)
  have ex2 : v_iv (Value.int x) = w_fi ws (n_v vs 0) 158 := ex
  have ex3 : 0 ≤ v_iv (Value.int x) ∧ v_iv (Value.int x) ≤ 2009 := tv_rng hx
  obtain ⟨y, ey, hy⟩ := iv_ex (ta := ta) (lo := 0) (hi := 5) (z := w_fi ws (n_v vs 0) 8) (by omega) (by omega) (by omega) (by omega)
  have ey2 : v_iv (Value.int y) = w_fi ws (n_v vs 0) 8 := ey
  have ey3 : 0 ≤ v_iv (Value.int y) ∧ v_iv (Value.int y) ≤ 5 := tv_rng hy
  obtain ⟨u, eu, hu⟩ := iv_ex (ta := ta) (lo := 0) (hi := 13) (z := w_fi ws (n_v vs 0) 159) (by omega) (by omega) (by omega) (by omega)
  have eu2 : v_iv (Value.int u) = w_fi ws (n_v vs 0) 159 := eu
  have eu3 : 0 ≤ v_iv (Value.int u) ∧ v_iv (Value.int u) ≤ 13 := tv_rng hu
  have e_1 : n_v (vs ++ [Value.int x, Value.int y, Value.int u]) 1 = n_v vs 1 := n_v_old (by rw [hl]; decide)
  have e_2 : n_v (vs ++ [Value.int x, Value.int y, Value.int u]) 2 = n_v vs 2 := n_v_old (by rw [hl]; decide)
  have e_3 : n_v (vs ++ [Value.int x, Value.int y, Value.int u]) 3 = n_v vs 3 := n_v_old (by rw [hl]; decide)
  have e_4 : n_v (vs ++ [Value.int x, Value.int y, Value.int u]) 4 = n_v vs 4 := n_v_old (by rw [hl]; decide)
  have e_7 : n_v (vs ++ [Value.int x, Value.int y, Value.int u]) 7 = n_v vs 7 := n_v_old (by rw [hl]; decide)
  have e_12 : n_v (vs ++ [Value.int x, Value.int y, Value.int u]) 12 = Value.int x := n_v_newk (k := 0) hl rfl
  have e_13 : n_v (vs ++ [Value.int x, Value.int y, Value.int u]) 13 = Value.int y := n_v_newk (k := 1) hl rfl
  have e_14 : n_v (vs ++ [Value.int x, Value.int y, Value.int u]) 14 = Value.int u := n_v_newk (k := 2) hl rfl
  have nf0 : fc_1 PRD (20, [4], [50, 2, 1, 158, 157, 160, 2, 12, 0, 7, 4, 3, 2, 0, 158, 0, 1, 2, 0, 157, 2, 7, 0, 3, 2, 0, 157, 0, 2010, 3, 14, 1, 10, 3, 0, 160, 5, 3, 2, 0, 157, 0, 1, 0, 0, 1, 10, 3, 0, 160, 5, 3, 2, 0, 157, 0, 1, 0, 4]) ws (vs ++ [Value.int x, Value.int y, Value.int u]) := by
    refine ⟨nf_inA hl rfl, sgq_296 ?_⟩
    · show ((w_fi ws (n_v (vs ++ [Value.int x, Value.int y, Value.int u]) 4) 158 + 1) ≤ w_fi ws (n_v (vs ++ [Value.int x, Value.int y, Value.int u]) 4) 157) ∧ ((w_fi ws (n_v (vs ++ [Value.int x, Value.int y, Value.int u]) 4) 157 ≤ 2010) ∧ ((w_ei ws (w_ar ws (n_v (vs ++ [Value.int x, Value.int y, Value.int u]) 4) 160) ((w_fi ws (n_v (vs ++ [Value.int x, Value.int y, Value.int u]) 4) 157 - 1)) = 0) ∨ (w_ei ws (w_ar ws (n_v (vs ++ [Value.int x, Value.int y, Value.int u]) 4) 160) ((w_fi ws (n_v (vs ++ [Value.int x, Value.int y, Value.int u]) 4) 157 - 1)) = 4)))
      simp only [e_4, q4]
      exact vc_Mo_both_at_f0_4_0 (v_iv (n_v vs 1)) (v_iv (n_v vs 2)) (v_iv (n_v vs 3)) (v_iv (n_v vs 6)) (v_iv (n_v vs 7)) (v_iv (n_v vs 9)) (v_iv (n_v vs 10)) (v_iv (n_v vs 11)) (w_fi ws (n_v vs 0) 158) (w_fi ws (n_v vs 0) 164) (w_fi ws (n_v vs 0) 165) (w_fi ws (n_v vs 0) 159) (w_fi w1 (n_v vs 0) 158) (w_ei w1 (w_ar ws (n_v vs 0) 160)) (w_fi w1 (n_v vs 0) 157) (w_fi w1 (n_v vs 0) 164) (w_fi w1 (n_v vs 0) 165) (w_fi w1 (n_v vs 0) 159) (w_ei w1 (w_ar ws (n_v vs 0) 161)) (w_ei w1 (w_ar ws (n_v vs 0) 162)) (w_ei w1 (w_ar ws (n_v vs 0) 163)) (w_ei w1 (w_ar ws (n_v vs 0) 1)) (w_fi w1 (n_v vs 0) 8) (w_fi w1 (n_v vs 0) 10) (w_fi ws (n_v vs 0) 8) (w_fi ws (n_v vs 0) 10) (w_fi ws (n_v vs 0) 157) (w_ei ws (w_ar ws (n_v vs 0) 1)) (w_ei ws (w_ar ws (n_v vs 0) 160)) (w_ei ws (w_ar ws (n_v vs 0) 161)) (w_ei ws (w_ar ws (n_v vs 0) 162)) (w_ei ws (w_ar ws (n_v vs 0) 163)) (v_iv (Value.int x)) (v_iv (Value.int y)) (v_iv (Value.int u)) k1 k2 k3 k6 k7 k9 k10 k11 d0 g0 f1 f2 f3 f4 f5 f8 g9 f10 f11 f12 f13 f14 f15 f16 f17 f18 f19 f20 f21 f22 f24 f25 fe_0_8_1 fe_0_10_1 fe_0_157_1 fe_0_158_1 fe_0_159_1 fe_0_164_1 fe_0_165_1 hE_0_1_1 hK_0_1 hE_0_160_1 hK_0_160 hE_0_161_1 hE_0_162_1 hK_0_162 hE_0_163_1 hK_0_163 kz_0_8 kz_0_10 kz_0_157 kz_0_158 kz_0_159 kz_0_164 kz_0_165 ex2 ex3 ey2 ey3 eu2 eu3
  have nf1 : fc_1 PRD (20, [4, 12], [30, 0, 1, 1, 158, -1, 0, 0]) ws (vs ++ [Value.int x, Value.int y, Value.int u]) := by
    refine ⟨nf_inA hl rfl, sgq_297 ?_⟩
    · show 1 * w_fi ws (n_v (vs ++ [Value.int x, Value.int y, Value.int u]) 4) 158 + ((-1) * v_iv (n_v (vs ++ [Value.int x, Value.int y, Value.int u]) 12) + 0) ≤ 0
      simp only [e_4, e_12, q4]
      exact vc_Mo_both_at_f0_4_1 (v_iv (n_v vs 1)) (v_iv (n_v vs 2)) (v_iv (n_v vs 3)) (v_iv (n_v vs 6)) (v_iv (n_v vs 7)) (v_iv (n_v vs 9)) (v_iv (n_v vs 10)) (v_iv (n_v vs 11)) (w_fi ws (n_v vs 0) 158) (w_fi ws (n_v vs 0) 164) (w_fi ws (n_v vs 0) 165) (w_fi ws (n_v vs 0) 159) (w_fi w1 (n_v vs 0) 158) (w_ei w1 (w_ar ws (n_v vs 0) 160)) (w_fi w1 (n_v vs 0) 157) (w_fi w1 (n_v vs 0) 164) (w_fi w1 (n_v vs 0) 165) (w_fi w1 (n_v vs 0) 159) (w_ei w1 (w_ar ws (n_v vs 0) 161)) (w_ei w1 (w_ar ws (n_v vs 0) 162)) (w_ei w1 (w_ar ws (n_v vs 0) 163)) (w_ei w1 (w_ar ws (n_v vs 0) 1)) (w_fi w1 (n_v vs 0) 8) (w_fi w1 (n_v vs 0) 10) (w_fi ws (n_v vs 0) 8) (w_fi ws (n_v vs 0) 10) (w_fi ws (n_v vs 0) 157) (w_ei ws (w_ar ws (n_v vs 0) 1)) (w_ei ws (w_ar ws (n_v vs 0) 160)) (w_ei ws (w_ar ws (n_v vs 0) 161)) (w_ei ws (w_ar ws (n_v vs 0) 162)) (w_ei ws (w_ar ws (n_v vs 0) 163)) (v_iv (Value.int x)) (v_iv (Value.int y)) (v_iv (Value.int u)) k1 k2 k3 k6 k7 k9 k10 k11 d0 g0 f1 f2 f3 f4 f5 f8 g9 f10 f11 f12 f13 f14 f15 f16 f17 f18 f19 f20 f21 f22 f24 f25 fe_0_8_1 fe_0_10_1 fe_0_157_1 fe_0_158_1 fe_0_159_1 fe_0_164_1 fe_0_165_1 hE_0_1_1 hK_0_1 hE_0_160_1 hK_0_160 hE_0_161_1 hE_0_162_1 hK_0_162 hE_0_163_1 hK_0_163 kz_0_8 kz_0_10 kz_0_157 kz_0_158 kz_0_159 kz_0_164 kz_0_165 ex2 ex3 ey2 ey3 eu2 eu3
  have nf2 : fc_1 PRD (20, [4, 12], [30, 0, -1, 1, 158, 1, 0, 0]) ws (vs ++ [Value.int x, Value.int y, Value.int u]) := by
    refine ⟨nf_inA hl rfl, sgq_298 ?_⟩
    · show (-1) * w_fi ws (n_v (vs ++ [Value.int x, Value.int y, Value.int u]) 4) 158 + (1 * v_iv (n_v (vs ++ [Value.int x, Value.int y, Value.int u]) 12) + 0) ≤ 0
      simp only [e_4, e_12, q4]
      exact vc_Mo_both_at_f0_4_2 (v_iv (n_v vs 1)) (v_iv (n_v vs 2)) (v_iv (n_v vs 3)) (v_iv (n_v vs 6)) (v_iv (n_v vs 7)) (v_iv (n_v vs 9)) (v_iv (n_v vs 10)) (v_iv (n_v vs 11)) (w_fi ws (n_v vs 0) 158) (w_fi ws (n_v vs 0) 164) (w_fi ws (n_v vs 0) 165) (w_fi ws (n_v vs 0) 159) (w_fi w1 (n_v vs 0) 158) (w_ei w1 (w_ar ws (n_v vs 0) 160)) (w_fi w1 (n_v vs 0) 157) (w_fi w1 (n_v vs 0) 164) (w_fi w1 (n_v vs 0) 165) (w_fi w1 (n_v vs 0) 159) (w_ei w1 (w_ar ws (n_v vs 0) 161)) (w_ei w1 (w_ar ws (n_v vs 0) 162)) (w_ei w1 (w_ar ws (n_v vs 0) 163)) (w_ei w1 (w_ar ws (n_v vs 0) 1)) (w_fi w1 (n_v vs 0) 8) (w_fi w1 (n_v vs 0) 10) (w_fi ws (n_v vs 0) 8) (w_fi ws (n_v vs 0) 10) (w_fi ws (n_v vs 0) 157) (w_ei ws (w_ar ws (n_v vs 0) 1)) (w_ei ws (w_ar ws (n_v vs 0) 160)) (w_ei ws (w_ar ws (n_v vs 0) 161)) (w_ei ws (w_ar ws (n_v vs 0) 162)) (w_ei ws (w_ar ws (n_v vs 0) 163)) (v_iv (Value.int x)) (v_iv (Value.int y)) (v_iv (Value.int u)) k1 k2 k3 k6 k7 k9 k10 k11 d0 g0 f1 f2 f3 f4 f5 f8 g9 f10 f11 f12 f13 f14 f15 f16 f17 f18 f19 f20 f21 f22 f24 f25 fe_0_8_1 fe_0_10_1 fe_0_157_1 fe_0_158_1 fe_0_159_1 fe_0_164_1 fe_0_165_1 hE_0_1_1 hK_0_1 hE_0_160_1 hK_0_160 hE_0_161_1 hE_0_162_1 hK_0_162 hE_0_163_1 hK_0_163 kz_0_8 kz_0_10 kz_0_157 kz_0_158 kz_0_159 kz_0_164 kz_0_165 ex2 ex3 ey2 ey3 eu2 eu3
  have nf3 : fc_1 PRD (20, [4], [50, 2, 0, 164, 165, 4, 7, 1, 3, 2, 0, 164, 0, 0, 0, 3, 2, 0, 165, 0, 23]) ws (vs ++ [Value.int x, Value.int y, Value.int u]) := by
    refine ⟨nf_inA hl rfl, sgq_299 ?_⟩
    · show (w_fi ws (n_v (vs ++ [Value.int x, Value.int y, Value.int u]) 4) 164 = 0) → (w_fi ws (n_v (vs ++ [Value.int x, Value.int y, Value.int u]) 4) 165 ≤ 23)
      simp only [e_4, q4]
      exact vc_Mo_both_at_f0_4_3 (v_iv (n_v vs 1)) (v_iv (n_v vs 2)) (v_iv (n_v vs 3)) (v_iv (n_v vs 6)) (v_iv (n_v vs 7)) (v_iv (n_v vs 9)) (v_iv (n_v vs 10)) (v_iv (n_v vs 11)) (w_fi ws (n_v vs 0) 158) (w_fi ws (n_v vs 0) 164) (w_fi ws (n_v vs 0) 165) (w_fi ws (n_v vs 0) 159) (w_fi w1 (n_v vs 0) 158) (w_ei w1 (w_ar ws (n_v vs 0) 160)) (w_fi w1 (n_v vs 0) 157) (w_fi w1 (n_v vs 0) 164) (w_fi w1 (n_v vs 0) 165) (w_fi w1 (n_v vs 0) 159) (w_ei w1 (w_ar ws (n_v vs 0) 161)) (w_ei w1 (w_ar ws (n_v vs 0) 162)) (w_ei w1 (w_ar ws (n_v vs 0) 163)) (w_ei w1 (w_ar ws (n_v vs 0) 1)) (w_fi w1 (n_v vs 0) 8) (w_fi w1 (n_v vs 0) 10) (w_fi ws (n_v vs 0) 8) (w_fi ws (n_v vs 0) 10) (w_fi ws (n_v vs 0) 157) (w_ei ws (w_ar ws (n_v vs 0) 1)) (w_ei ws (w_ar ws (n_v vs 0) 160)) (w_ei ws (w_ar ws (n_v vs 0) 161)) (w_ei ws (w_ar ws (n_v vs 0) 162)) (w_ei ws (w_ar ws (n_v vs 0) 163)) (v_iv (Value.int x)) (v_iv (Value.int y)) (v_iv (Value.int u)) k1 k2 k3 k6 k7 k9 k10 k11 d0 g0 f1 f2 f3 f4 f5 f8 g9 f10 f11 f12 f13 f14 f15 f16 f17 f18 f19 f20 f21 f22 f24 f25 fe_0_8_1 fe_0_10_1 fe_0_157_1 fe_0_158_1 fe_0_159_1 fe_0_164_1 fe_0_165_1 hE_0_1_1 hK_0_1 hE_0_160_1 hK_0_160 hE_0_161_1 hE_0_162_1 hK_0_162 hE_0_163_1 hK_0_163 kz_0_8 kz_0_10 kz_0_157 kz_0_158 kz_0_159 kz_0_164 kz_0_165 ex2 ex3 ey2 ey3 eu2 eu3
  have nf4 : fc_1 PRD (20, [4], [30, 0, 1, 1, 159]) ws (vs ++ [Value.int x, Value.int y, Value.int u]) := by
    refine ⟨nf_inA hl rfl, sgq_999 ?_⟩
    · show 1 * w_fi ws (n_v (vs ++ [Value.int x, Value.int y, Value.int u]) 4) 159 + 0 ≤ 0
      simp only [e_4, q4]
      exact vc_Mo_both_at_f0_4_4 (v_iv (n_v vs 1)) (v_iv (n_v vs 2)) (v_iv (n_v vs 3)) (v_iv (n_v vs 6)) (v_iv (n_v vs 7)) (v_iv (n_v vs 9)) (v_iv (n_v vs 10)) (v_iv (n_v vs 11)) (w_fi ws (n_v vs 0) 158) (w_fi ws (n_v vs 0) 164) (w_fi ws (n_v vs 0) 165) (w_fi ws (n_v vs 0) 159) (w_fi w1 (n_v vs 0) 158) (w_ei w1 (w_ar ws (n_v vs 0) 160)) (w_fi w1 (n_v vs 0) 157) (w_fi w1 (n_v vs 0) 164) (w_fi w1 (n_v vs 0) 165) (w_fi w1 (n_v vs 0) 159) (w_ei w1 (w_ar ws (n_v vs 0) 161)) (w_ei w1 (w_ar ws (n_v vs 0) 162)) (w_ei w1 (w_ar ws (n_v vs 0) 163)) (w_ei w1 (w_ar ws (n_v vs 0) 1)) (w_fi w1 (n_v vs 0) 8) (w_fi w1 (n_v vs 0) 10) (w_fi ws (n_v vs 0) 8) (w_fi ws (n_v vs 0) 10) (w_fi ws (n_v vs 0) 157) (w_ei ws (w_ar ws (n_v vs 0) 1)) (w_ei ws (w_ar ws (n_v vs 0) 160)) (w_ei ws (w_ar ws (n_v vs 0) 161)) (w_ei ws (w_ar ws (n_v vs 0) 162)) (w_ei ws (w_ar ws (n_v vs 0) 163)) (v_iv (Value.int x)) (v_iv (Value.int y)) (v_iv (Value.int u)) k1 k2 k3 k6 k7 k9 k10 k11 d0 g0 f1 f2 f3 f4 f5 f8 g9 f10 f11 f12 f13 f14 f15 f16 f17 f18 f19 f20 f21 f22 f24 f25 fe_0_8_1 fe_0_10_1 fe_0_157_1 fe_0_158_1 fe_0_159_1 fe_0_164_1 fe_0_165_1 hE_0_1_1 hK_0_1 hE_0_160_1 hK_0_160 hE_0_161_1 hE_0_162_1 hK_0_162 hE_0_163_1 hK_0_163 kz_0_8 kz_0_10 kz_0_157 kz_0_158 kz_0_159 kz_0_164 kz_0_165 ex2 ex3 ey2 ey3 eu2 eu3
  have nf5 : fc_1 PRD (20, [4], [30, 0, -1, 1, 159]) ws (vs ++ [Value.int x, Value.int y, Value.int u]) := by
    refine ⟨nf_inA hl rfl, sgq_1000 ?_⟩
    · show (-1) * w_fi ws (n_v (vs ++ [Value.int x, Value.int y, Value.int u]) 4) 159 + 0 ≤ 0
      simp only [e_4, q4]
      exact vc_Mo_both_at_f0_4_5 (v_iv (n_v vs 1)) (v_iv (n_v vs 2)) (v_iv (n_v vs 3)) (v_iv (n_v vs 6)) (v_iv (n_v vs 7)) (v_iv (n_v vs 9)) (v_iv (n_v vs 10)) (v_iv (n_v vs 11)) (w_fi ws (n_v vs 0) 158) (w_fi ws (n_v vs 0) 164) (w_fi ws (n_v vs 0) 165) (w_fi ws (n_v vs 0) 159) (w_fi w1 (n_v vs 0) 158) (w_ei w1 (w_ar ws (n_v vs 0) 160)) (w_fi w1 (n_v vs 0) 157) (w_fi w1 (n_v vs 0) 164) (w_fi w1 (n_v vs 0) 165) (w_fi w1 (n_v vs 0) 159) (w_ei w1 (w_ar ws (n_v vs 0) 161)) (w_ei w1 (w_ar ws (n_v vs 0) 162)) (w_ei w1 (w_ar ws (n_v vs 0) 163)) (w_ei w1 (w_ar ws (n_v vs 0) 1)) (w_fi w1 (n_v vs 0) 8) (w_fi w1 (n_v vs 0) 10) (w_fi ws (n_v vs 0) 8) (w_fi ws (n_v vs 0) 10) (w_fi ws (n_v vs 0) 157) (w_ei ws (w_ar ws (n_v vs 0) 1)) (w_ei ws (w_ar ws (n_v vs 0) 160)) (w_ei ws (w_ar ws (n_v vs 0) 161)) (w_ei ws (w_ar ws (n_v vs 0) 162)) (w_ei ws (w_ar ws (n_v vs 0) 163)) (v_iv (Value.int x)) (v_iv (Value.int y)) (v_iv (Value.int u)) k1 k2 k3 k6 k7 k9 k10 k11 d0 g0 f1 f2 f3 f4 f5 f8 g9 f10 f11 f12 f13 f14 f15 f16 f17 f18 f19 f20 f21 f22 f24 f25 fe_0_8_1 fe_0_10_1 fe_0_157_1 fe_0_158_1 fe_0_159_1 fe_0_164_1 fe_0_165_1 hE_0_1_1 hK_0_1 hE_0_160_1 hK_0_160 hE_0_161_1 hE_0_162_1 hK_0_162 hE_0_163_1 hK_0_163 kz_0_8 kz_0_10 kz_0_157 kz_0_158 kz_0_159 kz_0_164 kz_0_165 ex2 ex3 ey2 ey3 eu2 eu3
  have nf6 : fc_1 PRD (20, [4, 13], [50, 1, 0, 8, 1, 3, 2, 0, 8, 1, 1]) ws (vs ++ [Value.int x, Value.int y, Value.int u]) := by
    refine ⟨nf_inA hl rfl, sgq_302 ?_⟩
    · show w_fi ws (n_v (vs ++ [Value.int x, Value.int y, Value.int u]) 4) 8 = v_iv (n_v (vs ++ [Value.int x, Value.int y, Value.int u]) 13)
      simp only [e_4, e_13, q4]
      exact vc_Mo_both_at_f0_4_6 (v_iv (n_v vs 1)) (v_iv (n_v vs 2)) (v_iv (n_v vs 3)) (v_iv (n_v vs 6)) (v_iv (n_v vs 7)) (v_iv (n_v vs 9)) (v_iv (n_v vs 10)) (v_iv (n_v vs 11)) (w_fi ws (n_v vs 0) 158) (w_fi ws (n_v vs 0) 164) (w_fi ws (n_v vs 0) 165) (w_fi ws (n_v vs 0) 159) (w_fi w1 (n_v vs 0) 158) (w_ei w1 (w_ar ws (n_v vs 0) 160)) (w_fi w1 (n_v vs 0) 157) (w_fi w1 (n_v vs 0) 164) (w_fi w1 (n_v vs 0) 165) (w_fi w1 (n_v vs 0) 159) (w_ei w1 (w_ar ws (n_v vs 0) 161)) (w_ei w1 (w_ar ws (n_v vs 0) 162)) (w_ei w1 (w_ar ws (n_v vs 0) 163)) (w_ei w1 (w_ar ws (n_v vs 0) 1)) (w_fi w1 (n_v vs 0) 8) (w_fi w1 (n_v vs 0) 10) (w_fi ws (n_v vs 0) 8) (w_fi ws (n_v vs 0) 10) (w_fi ws (n_v vs 0) 157) (w_ei ws (w_ar ws (n_v vs 0) 1)) (w_ei ws (w_ar ws (n_v vs 0) 160)) (w_ei ws (w_ar ws (n_v vs 0) 161)) (w_ei ws (w_ar ws (n_v vs 0) 162)) (w_ei ws (w_ar ws (n_v vs 0) 163)) (v_iv (Value.int x)) (v_iv (Value.int y)) (v_iv (Value.int u)) k1 k2 k3 k6 k7 k9 k10 k11 d0 g0 f1 f2 f3 f4 f5 f8 g9 f10 f11 f12 f13 f14 f15 f16 f17 f18 f19 f20 f21 f22 f24 f25 fe_0_8_1 fe_0_10_1 fe_0_157_1 fe_0_158_1 fe_0_159_1 fe_0_164_1 fe_0_165_1 hE_0_1_1 hK_0_1 hE_0_160_1 hK_0_160 hE_0_161_1 hE_0_162_1 hK_0_162 hE_0_163_1 hK_0_163 kz_0_8 kz_0_10 kz_0_157 kz_0_158 kz_0_159 kz_0_164 kz_0_165 ex2 ex3 ey2 ey3 eu2 eu3
  have nf7 : fc_1 PRD (20, [4, 14], [50, 1, 0, 159, 1, 3, 2, 0, 159, 1, 1]) ws (vs ++ [Value.int x, Value.int y, Value.int u]) := by
    refine ⟨nf_inA hl rfl, sgq_303 ?_⟩
    · show w_fi ws (n_v (vs ++ [Value.int x, Value.int y, Value.int u]) 4) 159 = v_iv (n_v (vs ++ [Value.int x, Value.int y, Value.int u]) 14)
      simp only [e_4, e_14, q4]
      exact vc_Mo_both_at_f0_4_7 (v_iv (n_v vs 1)) (v_iv (n_v vs 2)) (v_iv (n_v vs 3)) (v_iv (n_v vs 6)) (v_iv (n_v vs 7)) (v_iv (n_v vs 9)) (v_iv (n_v vs 10)) (v_iv (n_v vs 11)) (w_fi ws (n_v vs 0) 158) (w_fi ws (n_v vs 0) 164) (w_fi ws (n_v vs 0) 165) (w_fi ws (n_v vs 0) 159) (w_fi w1 (n_v vs 0) 158) (w_ei w1 (w_ar ws (n_v vs 0) 160)) (w_fi w1 (n_v vs 0) 157) (w_fi w1 (n_v vs 0) 164) (w_fi w1 (n_v vs 0) 165) (w_fi w1 (n_v vs 0) 159) (w_ei w1 (w_ar ws (n_v vs 0) 161)) (w_ei w1 (w_ar ws (n_v vs 0) 162)) (w_ei w1 (w_ar ws (n_v vs 0) 163)) (w_ei w1 (w_ar ws (n_v vs 0) 1)) (w_fi w1 (n_v vs 0) 8) (w_fi w1 (n_v vs 0) 10) (w_fi ws (n_v vs 0) 8) (w_fi ws (n_v vs 0) 10) (w_fi ws (n_v vs 0) 157) (w_ei ws (w_ar ws (n_v vs 0) 1)) (w_ei ws (w_ar ws (n_v vs 0) 160)) (w_ei ws (w_ar ws (n_v vs 0) 161)) (w_ei ws (w_ar ws (n_v vs 0) 162)) (w_ei ws (w_ar ws (n_v vs 0) 163)) (v_iv (Value.int x)) (v_iv (Value.int y)) (v_iv (Value.int u)) k1 k2 k3 k6 k7 k9 k10 k11 d0 g0 f1 f2 f3 f4 f5 f8 g9 f10 f11 f12 f13 f14 f15 f16 f17 f18 f19 f20 f21 f22 f24 f25 fe_0_8_1 fe_0_10_1 fe_0_157_1 fe_0_158_1 fe_0_159_1 fe_0_164_1 fe_0_165_1 hE_0_1_1 hK_0_1 hE_0_160_1 hK_0_160 hE_0_161_1 hE_0_162_1 hK_0_162 hE_0_163_1 hK_0_163 kz_0_8 kz_0_10 kz_0_157 kz_0_158 kz_0_159 kz_0_164 kz_0_165 ex2 ex3 ey2 ey3 eu2 eu3
  have nf8 : fc_1 PRD (23, [1, 12], [0, 1, -1]) ws (vs ++ [Value.int x, Value.int y, Value.int u]) := by
    refine ⟨nf_inA hl rfl, sgq_7 ?_⟩
    · show 1 * v_iv (n_v (vs ++ [Value.int x, Value.int y, Value.int u]) 1) + ((-1) * v_iv (n_v (vs ++ [Value.int x, Value.int y, Value.int u]) 12) + 0) ≤ 0
      simp only [e_1, e_12]
      exact vc_Mo_both_at_f0_4_8 (v_iv (n_v vs 1)) (v_iv (n_v vs 2)) (v_iv (n_v vs 3)) (v_iv (n_v vs 6)) (v_iv (n_v vs 7)) (v_iv (n_v vs 9)) (v_iv (n_v vs 10)) (v_iv (n_v vs 11)) (w_fi ws (n_v vs 0) 158) (w_fi ws (n_v vs 0) 164) (w_fi ws (n_v vs 0) 165) (w_fi ws (n_v vs 0) 159) (w_fi w1 (n_v vs 0) 158) (w_ei w1 (w_ar ws (n_v vs 0) 160)) (w_fi w1 (n_v vs 0) 157) (w_fi w1 (n_v vs 0) 164) (w_fi w1 (n_v vs 0) 165) (w_fi w1 (n_v vs 0) 159) (w_ei w1 (w_ar ws (n_v vs 0) 161)) (w_ei w1 (w_ar ws (n_v vs 0) 162)) (w_ei w1 (w_ar ws (n_v vs 0) 163)) (w_ei w1 (w_ar ws (n_v vs 0) 1)) (w_fi w1 (n_v vs 0) 8) (w_fi w1 (n_v vs 0) 10) (w_fi ws (n_v vs 0) 8) (w_fi ws (n_v vs 0) 10) (w_fi ws (n_v vs 0) 157) (w_ei ws (w_ar ws (n_v vs 0) 1)) (w_ei ws (w_ar ws (n_v vs 0) 160)) (w_ei ws (w_ar ws (n_v vs 0) 161)) (w_ei ws (w_ar ws (n_v vs 0) 162)) (w_ei ws (w_ar ws (n_v vs 0) 163)) (v_iv (Value.int x)) (v_iv (Value.int y)) (v_iv (Value.int u)) k1 k2 k3 k6 k7 k9 k10 k11 d0 g0 f1 f2 f3 f4 f5 f8 g9 f10 f11 f12 f13 f14 f15 f16 f17 f18 f19 f20 f21 f22 f24 f25 fe_0_8_1 fe_0_10_1 fe_0_157_1 fe_0_158_1 fe_0_159_1 fe_0_164_1 fe_0_165_1 hE_0_1_1 hK_0_1 hE_0_160_1 hK_0_160 hE_0_161_1 hE_0_162_1 hK_0_162 hE_0_163_1 hK_0_163 kz_0_8 kz_0_10 kz_0_157 kz_0_158 kz_0_159 kz_0_164 kz_0_165 ex2 ex3 ey2 ey3 eu2 eu3
  have nf9 : fc_1 PRD (23, [7, 12], [-2011, -1, -1]) ws (vs ++ [Value.int x, Value.int y, Value.int u]) := by
    refine ⟨nf_inA hl rfl, sgq_315 ?_⟩
    · show (-1) * v_iv (n_v (vs ++ [Value.int x, Value.int y, Value.int u]) 7) + ((-1) * v_iv (n_v (vs ++ [Value.int x, Value.int y, Value.int u]) 12) + 0) ≤ (-2011)
      simp only [e_7, e_12]
      exact vc_Mo_both_at_f0_4_9 (v_iv (n_v vs 1)) (v_iv (n_v vs 2)) (v_iv (n_v vs 3)) (v_iv (n_v vs 6)) (v_iv (n_v vs 7)) (v_iv (n_v vs 9)) (v_iv (n_v vs 10)) (v_iv (n_v vs 11)) (w_fi ws (n_v vs 0) 158) (w_fi ws (n_v vs 0) 164) (w_fi ws (n_v vs 0) 165) (w_fi ws (n_v vs 0) 159) (w_fi w1 (n_v vs 0) 158) (w_ei w1 (w_ar ws (n_v vs 0) 160)) (w_fi w1 (n_v vs 0) 157) (w_fi w1 (n_v vs 0) 164) (w_fi w1 (n_v vs 0) 165) (w_fi w1 (n_v vs 0) 159) (w_ei w1 (w_ar ws (n_v vs 0) 161)) (w_ei w1 (w_ar ws (n_v vs 0) 162)) (w_ei w1 (w_ar ws (n_v vs 0) 163)) (w_ei w1 (w_ar ws (n_v vs 0) 1)) (w_fi w1 (n_v vs 0) 8) (w_fi w1 (n_v vs 0) 10) (w_fi ws (n_v vs 0) 8) (w_fi ws (n_v vs 0) 10) (w_fi ws (n_v vs 0) 157) (w_ei ws (w_ar ws (n_v vs 0) 1)) (w_ei ws (w_ar ws (n_v vs 0) 160)) (w_ei ws (w_ar ws (n_v vs 0) 161)) (w_ei ws (w_ar ws (n_v vs 0) 162)) (w_ei ws (w_ar ws (n_v vs 0) 163)) (v_iv (Value.int x)) (v_iv (Value.int y)) (v_iv (Value.int u)) k1 k2 k3 k6 k7 k9 k10 k11 d0 g0 f1 f2 f3 f4 f5 f8 g9 f10 f11 f12 f13 f14 f15 f16 f17 f18 f19 f20 f21 f22 f24 f25 fe_0_8_1 fe_0_10_1 fe_0_157_1 fe_0_158_1 fe_0_159_1 fe_0_164_1 fe_0_165_1 hE_0_1_1 hK_0_1 hE_0_160_1 hK_0_160 hE_0_161_1 hE_0_162_1 hK_0_162 hE_0_163_1 hK_0_163 kz_0_8 kz_0_10 kz_0_157 kz_0_158 kz_0_159 kz_0_164 kz_0_165 ex2 ex3 ey2 ey3 eu2 eu3
  have nf10 : fc_1 PRD (20, [4, 12, 13, 1, 2, 3], [60, 2, 5, 12, 164, 10, 160, 161, 162, 163, 1]) ws (vs ++ [Value.int x, Value.int y, Value.int u]) := by
    refine ⟨nf_inA hl rfl, sgq_316 ?_⟩
    · show GBL (w_fi ws (n_v (vs ++ [Value.int x, Value.int y, Value.int u]) 4) 164) (w_fi ws (n_v (vs ++ [Value.int x, Value.int y, Value.int u]) 4) 10) (w_ei ws (w_ar ws (n_v (vs ++ [Value.int x, Value.int y, Value.int u]) 4) 160)) (w_ei ws (w_ar ws (n_v (vs ++ [Value.int x, Value.int y, Value.int u]) 4) 161)) (w_ei ws (w_ar ws (n_v (vs ++ [Value.int x, Value.int y, Value.int u]) 4) 162)) (w_ei ws (w_ar ws (n_v (vs ++ [Value.int x, Value.int y, Value.int u]) 4) 163)) (w_ei ws (w_ar ws (n_v (vs ++ [Value.int x, Value.int y, Value.int u]) 4) 1)) (v_iv (n_v (vs ++ [Value.int x, Value.int y, Value.int u]) 12)) (v_iv (n_v (vs ++ [Value.int x, Value.int y, Value.int u]) 13)) (v_iv (n_v (vs ++ [Value.int x, Value.int y, Value.int u]) 1)) (v_iv (n_v (vs ++ [Value.int x, Value.int y, Value.int u]) 2)) (v_iv (n_v (vs ++ [Value.int x, Value.int y, Value.int u]) 3))
      simp only [e_1, e_2, e_3, e_4, e_12, e_13, q4]
      exact vc_Mo_both_at_f0_4_10 (v_iv (n_v vs 1)) (v_iv (n_v vs 2)) (v_iv (n_v vs 3)) (v_iv (n_v vs 6)) (v_iv (n_v vs 9)) (v_iv (n_v vs 11)) (w_fi ws (n_v vs 0) 158) (w_fi ws (n_v vs 0) 164) (w_fi ws (n_v vs 0) 165) (w_fi ws (n_v vs 0) 159) (w_fi w1 (n_v vs 0) 158) (w_ei w1 (w_ar ws (n_v vs 0) 160)) (w_fi w1 (n_v vs 0) 157) (w_fi w1 (n_v vs 0) 164) (w_fi w1 (n_v vs 0) 165) (w_fi w1 (n_v vs 0) 159) (w_ei w1 (w_ar ws (n_v vs 0) 161)) (w_ei w1 (w_ar ws (n_v vs 0) 162)) (w_ei w1 (w_ar ws (n_v vs 0) 163)) (w_ei w1 (w_ar ws (n_v vs 0) 1)) (w_fi w1 (n_v vs 0) 8) (w_fi w1 (n_v vs 0) 10) (w_fi ws (n_v vs 0) 8) (w_fi ws (n_v vs 0) 10) (w_fi ws (n_v vs 0) 157) (w_ei ws (w_ar ws (n_v vs 0) 1)) (w_ei ws (w_ar ws (n_v vs 0) 160)) (w_ei ws (w_ar ws (n_v vs 0) 161)) (w_ei ws (w_ar ws (n_v vs 0) 162)) (w_ei ws (w_ar ws (n_v vs 0) 163)) (v_iv (Value.int x)) (v_iv (Value.int y)) k1 k2 k3 k6 k9 k11 d0 g0 g9 f16 f22 fe_0_8_1 fe_0_10_1 fe_0_157_1 fe_0_159_1 fe_0_164_1 fe_0_165_1 hE_0_1_1 hE_0_160_1 hE_0_161_1 hE_0_162_1 hE_0_163_1 kz_0_8 kz_0_10 kz_0_157 kz_0_158 kz_0_159 kz_0_164 kz_0_165 ex2 ey2
  have nf11 : fc_1 PRD (23, [14], [0, 1]) ws (vs ++ [Value.int x, Value.int y, Value.int u]) := by
    refine ⟨nf_inA hl rfl, sgq_1477 ?_⟩
    · show 1 * v_iv (n_v (vs ++ [Value.int x, Value.int y, Value.int u]) 14) + 0 ≤ 0
      rw [e_14]
      exact vc_Mo_both_at_f0_4_11 (v_iv (n_v vs 1)) (v_iv (n_v vs 2)) (v_iv (n_v vs 3)) (v_iv (n_v vs 6)) (v_iv (n_v vs 7)) (v_iv (n_v vs 9)) (v_iv (n_v vs 10)) (v_iv (n_v vs 11)) (w_fi ws (n_v vs 0) 158) (w_fi ws (n_v vs 0) 164) (w_fi ws (n_v vs 0) 165) (w_fi ws (n_v vs 0) 159) (w_fi w1 (n_v vs 0) 158) (w_ei w1 (w_ar ws (n_v vs 0) 160)) (w_fi w1 (n_v vs 0) 157) (w_fi w1 (n_v vs 0) 164) (w_fi w1 (n_v vs 0) 165) (w_fi w1 (n_v vs 0) 159) (w_ei w1 (w_ar ws (n_v vs 0) 161)) (w_ei w1 (w_ar ws (n_v vs 0) 162)) (w_ei w1 (w_ar ws (n_v vs 0) 163)) (w_ei w1 (w_ar ws (n_v vs 0) 1)) (w_fi w1 (n_v vs 0) 8) (w_fi w1 (n_v vs 0) 10) (w_fi ws (n_v vs 0) 8) (w_fi ws (n_v vs 0) 10) (w_fi ws (n_v vs 0) 157) (w_ei ws (w_ar ws (n_v vs 0) 1)) (w_ei ws (w_ar ws (n_v vs 0) 160)) (w_ei ws (w_ar ws (n_v vs 0) 161)) (w_ei ws (w_ar ws (n_v vs 0) 162)) (w_ei ws (w_ar ws (n_v vs 0) 163)) (v_iv (Value.int x)) (v_iv (Value.int y)) (v_iv (Value.int u)) k1 k2 k3 k6 k7 k9 k10 k11 d0 g0 f1 f2 f3 f4 f5 f8 g9 f10 f11 f12 f13 f14 f15 f16 f17 f18 f19 f20 f21 f22 f24 f25 fe_0_8_1 fe_0_10_1 fe_0_157_1 fe_0_158_1 fe_0_159_1 fe_0_164_1 fe_0_165_1 hE_0_1_1 hK_0_1 hE_0_160_1 hK_0_160 hE_0_161_1 hE_0_162_1 hK_0_162 hE_0_163_1 hK_0_163 kz_0_8 kz_0_10 kz_0_157 kz_0_158 kz_0_159 kz_0_164 kz_0_165 ex2 ex3 ey2 ey3 eu2 eu3
  have nf12 : fc_1 PRD (23, [14], [0, -1]) ws (vs ++ [Value.int x, Value.int y, Value.int u]) := by
    refine ⟨nf_inA hl rfl, sgq_1013 ?_⟩
    · show (-1) * v_iv (n_v (vs ++ [Value.int x, Value.int y, Value.int u]) 14) + 0 ≤ 0
      rw [e_14]
      exact vc_Mo_both_at_f0_4_12 (v_iv (n_v vs 1)) (v_iv (n_v vs 2)) (v_iv (n_v vs 3)) (v_iv (n_v vs 6)) (v_iv (n_v vs 7)) (v_iv (n_v vs 9)) (v_iv (n_v vs 10)) (v_iv (n_v vs 11)) (w_fi ws (n_v vs 0) 158) (w_fi ws (n_v vs 0) 164) (w_fi ws (n_v vs 0) 165) (w_fi ws (n_v vs 0) 159) (w_fi w1 (n_v vs 0) 158) (w_ei w1 (w_ar ws (n_v vs 0) 160)) (w_fi w1 (n_v vs 0) 157) (w_fi w1 (n_v vs 0) 164) (w_fi w1 (n_v vs 0) 165) (w_fi w1 (n_v vs 0) 159) (w_ei w1 (w_ar ws (n_v vs 0) 161)) (w_ei w1 (w_ar ws (n_v vs 0) 162)) (w_ei w1 (w_ar ws (n_v vs 0) 163)) (w_ei w1 (w_ar ws (n_v vs 0) 1)) (w_fi w1 (n_v vs 0) 8) (w_fi w1 (n_v vs 0) 10) (w_fi ws (n_v vs 0) 8) (w_fi ws (n_v vs 0) 10) (w_fi ws (n_v vs 0) 157) (w_ei ws (w_ar ws (n_v vs 0) 1)) (w_ei ws (w_ar ws (n_v vs 0) 160)) (w_ei ws (w_ar ws (n_v vs 0) 161)) (w_ei ws (w_ar ws (n_v vs 0) 162)) (w_ei ws (w_ar ws (n_v vs 0) 163)) (v_iv (Value.int x)) (v_iv (Value.int y)) (v_iv (Value.int u)) k1 k2 k3 k6 k7 k9 k10 k11 d0 g0 f1 f2 f3 f4 f5 f8 g9 f10 f11 f12 f13 f14 f15 f16 f17 f18 f19 f20 f21 f22 f24 f25 fe_0_8_1 fe_0_10_1 fe_0_157_1 fe_0_158_1 fe_0_159_1 fe_0_164_1 fe_0_165_1 hE_0_1_1 hK_0_1 hE_0_160_1 hK_0_160 hE_0_161_1 hE_0_162_1 hK_0_162 hE_0_163_1 hK_0_163 kz_0_8 kz_0_10 kz_0_157 kz_0_158 kz_0_159 kz_0_164 kz_0_165 ex2 ex3 ey2 ey3 eu2 eu3
  exact ⟨(fun _ h => (by cases h)), [Value.int x, Value.int y, Value.int u], ag_three hx hy hu, List.forall_mem_cons.mpr ⟨⟨show (20 : Nat) < 100 from by decide, nf0⟩, List.forall_mem_cons.mpr ⟨⟨show (20 : Nat) < 100 from by decide, nf1⟩, List.forall_mem_cons.mpr ⟨⟨show (20 : Nat) < 100 from by decide, nf2⟩, List.forall_mem_cons.mpr ⟨⟨show (20 : Nat) < 100 from by decide, nf3⟩, List.forall_mem_cons.mpr ⟨⟨show (20 : Nat) < 100 from by decide, nf4⟩, List.forall_mem_cons.mpr ⟨⟨show (20 : Nat) < 100 from by decide, nf5⟩, List.forall_mem_cons.mpr ⟨⟨show (20 : Nat) < 100 from by decide, nf6⟩, List.forall_mem_cons.mpr ⟨⟨show (20 : Nat) < 100 from by decide, nf7⟩, List.forall_mem_cons.mpr ⟨⟨show (23 : Nat) < 100 from by decide, nf8⟩, List.forall_mem_cons.mpr ⟨⟨show (23 : Nat) < 100 from by decide, nf9⟩, List.forall_mem_cons.mpr ⟨⟨show (20 : Nat) < 100 from by decide, nf10⟩, List.forall_mem_cons.mpr ⟨⟨show (23 : Nat) < 100 from by decide, nf11⟩, List.forall_mem_cons.mpr ⟨⟨show (23 : Nat) < 100 from by decide, nf12⟩, (fun _ h => (by cases h))⟩⟩⟩⟩⟩⟩⟩⟩⟩⟩⟩⟩⟩, (fun _ h => (by cases h))⟩
set_option maxHeartbeats 4000000 in
theorem vc_Mo_both_at_f0_5_0 (x1 : Int) (x2 : Int) (x3 : Int) (x6 : Int) (x7 : Int) (x10 : Int) (x11 : Int) (x12 : Int) (x13 : Int) (x14 : Int) (styleKind_0 : Int) (styleOne_0 : Int) (tokenKind_0 : Int → Int) (tokenValue_0 : Int → Int) (tokenPlace_0 : Int → Int) (tokenEnd_0 : Int → Int) (tape_0 : Int → Int) (limit_0 : Int) (cur_0 : Int) (tokens_0 : Int) (opened_0 : Int) (fault_0 : Int) (gx : Int) (k1 : 0 ≤ x1 ∧ x1 ≤ 2009) (k2 : 0 ≤ x2 ∧ x2 ≤ 5) (k3 : 0 ≤ x3 ∧ x3 ≤ 13) (k6 : 0 ≤ x6 ∧ x6 ≤ 2009) (k7 : 0 ≤ x7 ∧ x7 ≤ 2010) (k10 : 1 ≤ x10 ∧ x10 ≤ 1) (k11 : 1 ≤ x11 ∧ x11 ≤ 2009) (k12 : 0 ≤ x12 ∧ x12 ≤ 2009) (k13 : 0 ≤ x13 ∧ x13 ≤ 5) (k14 : 0 ≤ x14 ∧ x14 ≤ 13) (d0 : x6 + 1 ≤ x11 ∧ x11 ≤ x6 + 1) (f0 : (styleKind_0 = 0) → (styleOne_0 ≤ 23)) (f1 : 1 * x1 + ((-1) * x12 + 0) ≤ 0) (f2 : (-1) * x7 + ((-1) * x12 + 0) ≤ (-2011)) (f3 : GBL (styleKind_0) (limit_0) (tokenKind_0) (tokenValue_0) (tokenPlace_0) (tokenEnd_0) (tape_0) (x12) (x13) (x1) (x2) (x3)) (f4 : 1 * x14 + 0 ≤ 0) (f5 : (-1) * x14 + 0 ≤ 0) (f6 : (styleKind_0 = 0) → (styleOne_0 ≤ 23)) (f7 : 1 * x3 + 0 ≤ 0) (f8 : (-1) * x3 + 0 ≤ 0) (f10 : ((cur_0 + 1) ≤ tokens_0) ∧ ((tokens_0 ≤ 2010) ∧ ((tokenKind_0 ((tokens_0 - 1)) = 0) ∨ (tokenKind_0 ((tokens_0 - 1)) = 4)))) (f11 : 1 * x12 + ((-1) * cur_0 + 0) ≤ 0) (f12 : 1 * opened_0 + 0 ≤ 0) (f13 : (-1) * opened_0 + 0 ≤ 0) (f14 : SON (fault_0) (cur_0) (styleKind_0) (limit_0) (tokenKind_0) (tokenValue_0) (tokenPlace_0) (tokenEnd_0) (tape_0) (x12) (x13) (x14)) (f16 : 1 * x1 + ((-1) * x12 + 0) ≤ 0) (f17 : (-1) * x7 + ((-1) * x12 + 0) ≤ (-2011)) (f18 : 1 * x14 + 0 ≤ 0) (f19 : (-1) * x14 + 0 ≤ 0) (f20 : 1 * x3 + 0 ≤ 0) (f21 : (-1) * x3 + 0 ≤ 0) (f23 : x11 = x6 + x10) (f24 : 1 * x3 + 0 ≤ 0) (f25 : (-1) * x3 + 0 ≤ 0) (f27 : 1 * x3 + 0 ≤ 0) (f28 : (-1) * x3 + 0 ≤ 0) (hK_0_1 : ∀ j : Int, 0 ≤ j → j < 2000 → (-128) ≤ tape_0 j ∧ tape_0 j ≤ 127) (hK_0_160 : ∀ j : Int, 0 ≤ j → j < 2010 → 0 ≤ tokenKind_0 j ∧ tokenKind_0 j ≤ 4) (hK_0_162 : ∀ j : Int, 0 ≤ j → j < 2010 → 0 ≤ tokenPlace_0 j ∧ tokenPlace_0 j ≤ 2000) (hK_0_163 : ∀ j : Int, 0 ≤ j → j < 2010 → 0 ≤ tokenEnd_0 j ∧ tokenEnd_0 j ≤ 2000) (kz_0_8 : 0 ≤ fault_0 ∧ fault_0 ≤ 5) (kz_0_10 : 0 ≤ limit_0 ∧ limit_0 ≤ 2000) (kz_0_157 : 0 ≤ tokens_0 ∧ tokens_0 ≤ 2010) (kz_0_158 : 0 ≤ cur_0 ∧ cur_0 ≤ 2009) (kz_0_159 : 0 ≤ opened_0 ∧ opened_0 ≤ 13) (kz_0_164 : 0 ≤ styleKind_0 ∧ styleKind_0 ≤ 1) (kz_0_165 : (-1) ≤ styleOne_0 ∧ styleOne_0 ≤ 47) (ex2 : gx = 0 + (1 * x7 + 0)) (ex3 : 0 ≤ gx ∧ gx ≤ 2010) : ((cur_0 + 1) ≤ tokens_0) ∧ ((tokens_0 ≤ 2010) ∧ ((tokenKind_0 ((tokens_0 - 1)) = 0) ∨ (tokenKind_0 ((tokens_0 - 1)) = 4))) := by
  first | assumption | (clear f0 f6 f10 hK_0_1 hK_0_160 hK_0_162 hK_0_163; omega) | (clear hK_0_1 hK_0_160 hK_0_162 hK_0_163; grind) | omega | grind
set_option maxHeartbeats 4000000 in
theorem vc_Mo_both_at_f0_5_1 (x1 : Int) (x2 : Int) (x3 : Int) (x6 : Int) (x7 : Int) (x10 : Int) (x11 : Int) (x12 : Int) (x13 : Int) (x14 : Int) (styleKind_0 : Int) (styleOne_0 : Int) (tokenKind_0 : Int → Int) (tokenValue_0 : Int → Int) (tokenPlace_0 : Int → Int) (tokenEnd_0 : Int → Int) (tape_0 : Int → Int) (limit_0 : Int) (cur_0 : Int) (tokens_0 : Int) (opened_0 : Int) (fault_0 : Int) (gx : Int) (k1 : 0 ≤ x1 ∧ x1 ≤ 2009) (k2 : 0 ≤ x2 ∧ x2 ≤ 5) (k3 : 0 ≤ x3 ∧ x3 ≤ 13) (k6 : 0 ≤ x6 ∧ x6 ≤ 2009) (k7 : 0 ≤ x7 ∧ x7 ≤ 2010) (k10 : 1 ≤ x10 ∧ x10 ≤ 1) (k11 : 1 ≤ x11 ∧ x11 ≤ 2009) (k12 : 0 ≤ x12 ∧ x12 ≤ 2009) (k13 : 0 ≤ x13 ∧ x13 ≤ 5) (k14 : 0 ≤ x14 ∧ x14 ≤ 13) (d0 : x6 + 1 ≤ x11 ∧ x11 ≤ x6 + 1) (f0 : (styleKind_0 = 0) → (styleOne_0 ≤ 23)) (f1 : 1 * x1 + ((-1) * x12 + 0) ≤ 0) (f2 : (-1) * x7 + ((-1) * x12 + 0) ≤ (-2011)) (f3 : GBL (styleKind_0) (limit_0) (tokenKind_0) (tokenValue_0) (tokenPlace_0) (tokenEnd_0) (tape_0) (x12) (x13) (x1) (x2) (x3)) (f4 : 1 * x14 + 0 ≤ 0) (f5 : (-1) * x14 + 0 ≤ 0) (f6 : (styleKind_0 = 0) → (styleOne_0 ≤ 23)) (f7 : 1 * x3 + 0 ≤ 0) (f8 : (-1) * x3 + 0 ≤ 0) (f10 : ((cur_0 + 1) ≤ tokens_0) ∧ ((tokens_0 ≤ 2010) ∧ ((tokenKind_0 ((tokens_0 - 1)) = 0) ∨ (tokenKind_0 ((tokens_0 - 1)) = 4)))) (f11 : 1 * x12 + ((-1) * cur_0 + 0) ≤ 0) (f12 : 1 * opened_0 + 0 ≤ 0) (f13 : (-1) * opened_0 + 0 ≤ 0) (f14 : SON (fault_0) (cur_0) (styleKind_0) (limit_0) (tokenKind_0) (tokenValue_0) (tokenPlace_0) (tokenEnd_0) (tape_0) (x12) (x13) (x14)) (f16 : 1 * x1 + ((-1) * x12 + 0) ≤ 0) (f17 : (-1) * x7 + ((-1) * x12 + 0) ≤ (-2011)) (f18 : 1 * x14 + 0 ≤ 0) (f19 : (-1) * x14 + 0 ≤ 0) (f20 : 1 * x3 + 0 ≤ 0) (f21 : (-1) * x3 + 0 ≤ 0) (f23 : x11 = x6 + x10) (f24 : 1 * x3 + 0 ≤ 0) (f25 : (-1) * x3 + 0 ≤ 0) (f27 : 1 * x3 + 0 ≤ 0) (f28 : (-1) * x3 + 0 ≤ 0) (hK_0_1 : ∀ j : Int, 0 ≤ j → j < 2000 → (-128) ≤ tape_0 j ∧ tape_0 j ≤ 127) (hK_0_160 : ∀ j : Int, 0 ≤ j → j < 2010 → 0 ≤ tokenKind_0 j ∧ tokenKind_0 j ≤ 4) (hK_0_162 : ∀ j : Int, 0 ≤ j → j < 2010 → 0 ≤ tokenPlace_0 j ∧ tokenPlace_0 j ≤ 2000) (hK_0_163 : ∀ j : Int, 0 ≤ j → j < 2010 → 0 ≤ tokenEnd_0 j ∧ tokenEnd_0 j ≤ 2000) (kz_0_8 : 0 ≤ fault_0 ∧ fault_0 ≤ 5) (kz_0_10 : 0 ≤ limit_0 ∧ limit_0 ≤ 2000) (kz_0_157 : 0 ≤ tokens_0 ∧ tokens_0 ≤ 2010) (kz_0_158 : 0 ≤ cur_0 ∧ cur_0 ≤ 2009) (kz_0_159 : 0 ≤ opened_0 ∧ opened_0 ≤ 13) (kz_0_164 : 0 ≤ styleKind_0 ∧ styleKind_0 ≤ 1) (kz_0_165 : (-1) ≤ styleOne_0 ∧ styleOne_0 ≤ 47) (ex2 : gx = 0 + (1 * x7 + 0)) (ex3 : 0 ≤ gx ∧ gx ≤ 2010) : 1 * x1 + ((-1) * cur_0 + 0) ≤ 0 := by
  first | assumption | (clear f0 f6 f10 hK_0_1 hK_0_160 hK_0_162 hK_0_163; omega) | (clear hK_0_1 hK_0_160 hK_0_162 hK_0_163; grind) | omega | grind
set_option maxHeartbeats 4000000 in
theorem vc_Mo_both_at_f0_5_2 (x1 : Int) (x2 : Int) (x3 : Int) (x6 : Int) (x7 : Int) (x10 : Int) (x11 : Int) (x12 : Int) (x13 : Int) (x14 : Int) (styleKind_0 : Int) (styleOne_0 : Int) (tokenKind_0 : Int → Int) (tokenValue_0 : Int → Int) (tokenPlace_0 : Int → Int) (tokenEnd_0 : Int → Int) (tape_0 : Int → Int) (limit_0 : Int) (cur_0 : Int) (tokens_0 : Int) (opened_0 : Int) (fault_0 : Int) (gx : Int) (k1 : 0 ≤ x1 ∧ x1 ≤ 2009) (k2 : 0 ≤ x2 ∧ x2 ≤ 5) (k3 : 0 ≤ x3 ∧ x3 ≤ 13) (k6 : 0 ≤ x6 ∧ x6 ≤ 2009) (k7 : 0 ≤ x7 ∧ x7 ≤ 2010) (k10 : 1 ≤ x10 ∧ x10 ≤ 1) (k11 : 1 ≤ x11 ∧ x11 ≤ 2009) (k12 : 0 ≤ x12 ∧ x12 ≤ 2009) (k13 : 0 ≤ x13 ∧ x13 ≤ 5) (k14 : 0 ≤ x14 ∧ x14 ≤ 13) (d0 : x6 + 1 ≤ x11 ∧ x11 ≤ x6 + 1) (f0 : (styleKind_0 = 0) → (styleOne_0 ≤ 23)) (f1 : 1 * x1 + ((-1) * x12 + 0) ≤ 0) (f2 : (-1) * x7 + ((-1) * x12 + 0) ≤ (-2011)) (f3 : GBL (styleKind_0) (limit_0) (tokenKind_0) (tokenValue_0) (tokenPlace_0) (tokenEnd_0) (tape_0) (x12) (x13) (x1) (x2) (x3)) (f4 : 1 * x14 + 0 ≤ 0) (f5 : (-1) * x14 + 0 ≤ 0) (f6 : (styleKind_0 = 0) → (styleOne_0 ≤ 23)) (f7 : 1 * x3 + 0 ≤ 0) (f8 : (-1) * x3 + 0 ≤ 0) (f10 : ((cur_0 + 1) ≤ tokens_0) ∧ ((tokens_0 ≤ 2010) ∧ ((tokenKind_0 ((tokens_0 - 1)) = 0) ∨ (tokenKind_0 ((tokens_0 - 1)) = 4)))) (f11 : 1 * x12 + ((-1) * cur_0 + 0) ≤ 0) (f12 : 1 * opened_0 + 0 ≤ 0) (f13 : (-1) * opened_0 + 0 ≤ 0) (f14 : SON (fault_0) (cur_0) (styleKind_0) (limit_0) (tokenKind_0) (tokenValue_0) (tokenPlace_0) (tokenEnd_0) (tape_0) (x12) (x13) (x14)) (f16 : 1 * x1 + ((-1) * x12 + 0) ≤ 0) (f17 : (-1) * x7 + ((-1) * x12 + 0) ≤ (-2011)) (f18 : 1 * x14 + 0 ≤ 0) (f19 : (-1) * x14 + 0 ≤ 0) (f20 : 1 * x3 + 0 ≤ 0) (f21 : (-1) * x3 + 0 ≤ 0) (f23 : x11 = x6 + x10) (f24 : 1 * x3 + 0 ≤ 0) (f25 : (-1) * x3 + 0 ≤ 0) (f27 : 1 * x3 + 0 ≤ 0) (f28 : (-1) * x3 + 0 ≤ 0) (hK_0_1 : ∀ j : Int, 0 ≤ j → j < 2000 → (-128) ≤ tape_0 j ∧ tape_0 j ≤ 127) (hK_0_160 : ∀ j : Int, 0 ≤ j → j < 2010 → 0 ≤ tokenKind_0 j ∧ tokenKind_0 j ≤ 4) (hK_0_162 : ∀ j : Int, 0 ≤ j → j < 2010 → 0 ≤ tokenPlace_0 j ∧ tokenPlace_0 j ≤ 2000) (hK_0_163 : ∀ j : Int, 0 ≤ j → j < 2010 → 0 ≤ tokenEnd_0 j ∧ tokenEnd_0 j ≤ 2000) (kz_0_8 : 0 ≤ fault_0 ∧ fault_0 ≤ 5) (kz_0_10 : 0 ≤ limit_0 ∧ limit_0 ≤ 2000) (kz_0_157 : 0 ≤ tokens_0 ∧ tokens_0 ≤ 2010) (kz_0_158 : 0 ≤ cur_0 ∧ cur_0 ≤ 2009) (kz_0_159 : 0 ≤ opened_0 ∧ opened_0 ≤ 13) (kz_0_164 : 0 ≤ styleKind_0 ∧ styleKind_0 ≤ 1) (kz_0_165 : (-1) ≤ styleOne_0 ∧ styleOne_0 ≤ 47) (ex2 : gx = 0 + (1 * x7 + 0)) (ex3 : 0 ≤ gx ∧ gx ≤ 2010) : (styleKind_0 = 0) → (styleOne_0 ≤ 23) := by
  first | assumption | (clear f0 f6 f10 hK_0_1 hK_0_160 hK_0_162 hK_0_163; omega) | (clear hK_0_1 hK_0_160 hK_0_162 hK_0_163; grind) | omega | grind
set_option maxHeartbeats 4000000 in
theorem vc_Mo_both_at_f0_5_3 (x1 : Int) (x2 : Int) (x3 : Int) (x6 : Int) (x7 : Int) (x10 : Int) (x11 : Int) (x12 : Int) (x13 : Int) (x14 : Int) (styleKind_0 : Int) (styleOne_0 : Int) (tokenKind_0 : Int → Int) (tokenValue_0 : Int → Int) (tokenPlace_0 : Int → Int) (tokenEnd_0 : Int → Int) (tape_0 : Int → Int) (limit_0 : Int) (cur_0 : Int) (tokens_0 : Int) (opened_0 : Int) (fault_0 : Int) (gx : Int) (k1 : 0 ≤ x1 ∧ x1 ≤ 2009) (k2 : 0 ≤ x2 ∧ x2 ≤ 5) (k3 : 0 ≤ x3 ∧ x3 ≤ 13) (k6 : 0 ≤ x6 ∧ x6 ≤ 2009) (k7 : 0 ≤ x7 ∧ x7 ≤ 2010) (k10 : 1 ≤ x10 ∧ x10 ≤ 1) (k11 : 1 ≤ x11 ∧ x11 ≤ 2009) (k12 : 0 ≤ x12 ∧ x12 ≤ 2009) (k13 : 0 ≤ x13 ∧ x13 ≤ 5) (k14 : 0 ≤ x14 ∧ x14 ≤ 13) (d0 : x6 + 1 ≤ x11 ∧ x11 ≤ x6 + 1) (f0 : (styleKind_0 = 0) → (styleOne_0 ≤ 23)) (f1 : 1 * x1 + ((-1) * x12 + 0) ≤ 0) (f2 : (-1) * x7 + ((-1) * x12 + 0) ≤ (-2011)) (f3 : GBL (styleKind_0) (limit_0) (tokenKind_0) (tokenValue_0) (tokenPlace_0) (tokenEnd_0) (tape_0) (x12) (x13) (x1) (x2) (x3)) (f4 : 1 * x14 + 0 ≤ 0) (f5 : (-1) * x14 + 0 ≤ 0) (f6 : (styleKind_0 = 0) → (styleOne_0 ≤ 23)) (f7 : 1 * x3 + 0 ≤ 0) (f8 : (-1) * x3 + 0 ≤ 0) (f10 : ((cur_0 + 1) ≤ tokens_0) ∧ ((tokens_0 ≤ 2010) ∧ ((tokenKind_0 ((tokens_0 - 1)) = 0) ∨ (tokenKind_0 ((tokens_0 - 1)) = 4)))) (f11 : 1 * x12 + ((-1) * cur_0 + 0) ≤ 0) (f12 : 1 * opened_0 + 0 ≤ 0) (f13 : (-1) * opened_0 + 0 ≤ 0) (f14 : SON (fault_0) (cur_0) (styleKind_0) (limit_0) (tokenKind_0) (tokenValue_0) (tokenPlace_0) (tokenEnd_0) (tape_0) (x12) (x13) (x14)) (f16 : 1 * x1 + ((-1) * x12 + 0) ≤ 0) (f17 : (-1) * x7 + ((-1) * x12 + 0) ≤ (-2011)) (f18 : 1 * x14 + 0 ≤ 0) (f19 : (-1) * x14 + 0 ≤ 0) (f20 : 1 * x3 + 0 ≤ 0) (f21 : (-1) * x3 + 0 ≤ 0) (f23 : x11 = x6 + x10) (f24 : 1 * x3 + 0 ≤ 0) (f25 : (-1) * x3 + 0 ≤ 0) (f27 : 1 * x3 + 0 ≤ 0) (f28 : (-1) * x3 + 0 ≤ 0) (hK_0_1 : ∀ j : Int, 0 ≤ j → j < 2000 → (-128) ≤ tape_0 j ∧ tape_0 j ≤ 127) (hK_0_160 : ∀ j : Int, 0 ≤ j → j < 2010 → 0 ≤ tokenKind_0 j ∧ tokenKind_0 j ≤ 4) (hK_0_162 : ∀ j : Int, 0 ≤ j → j < 2010 → 0 ≤ tokenPlace_0 j ∧ tokenPlace_0 j ≤ 2000) (hK_0_163 : ∀ j : Int, 0 ≤ j → j < 2010 → 0 ≤ tokenEnd_0 j ∧ tokenEnd_0 j ≤ 2000) (kz_0_8 : 0 ≤ fault_0 ∧ fault_0 ≤ 5) (kz_0_10 : 0 ≤ limit_0 ∧ limit_0 ≤ 2000) (kz_0_157 : 0 ≤ tokens_0 ∧ tokens_0 ≤ 2010) (kz_0_158 : 0 ≤ cur_0 ∧ cur_0 ≤ 2009) (kz_0_159 : 0 ≤ opened_0 ∧ opened_0 ≤ 13) (kz_0_164 : 0 ≤ styleKind_0 ∧ styleKind_0 ≤ 1) (kz_0_165 : (-1) ≤ styleOne_0 ∧ styleOne_0 ≤ 47) (ex2 : gx = 0 + (1 * x7 + 0)) (ex3 : 0 ≤ gx ∧ gx ≤ 2010) : 1 * opened_0 + 0 ≤ 0 := by
  first | assumption | (clear f0 f6 f10 hK_0_1 hK_0_160 hK_0_162 hK_0_163; omega) | (clear hK_0_1 hK_0_160 hK_0_162 hK_0_163; grind) | omega | grind
set_option maxHeartbeats 4000000 in
theorem vc_Mo_both_at_f0_5_4 (x1 : Int) (x2 : Int) (x3 : Int) (x6 : Int) (x7 : Int) (x10 : Int) (x11 : Int) (x12 : Int) (x13 : Int) (x14 : Int) (styleKind_0 : Int) (styleOne_0 : Int) (tokenKind_0 : Int → Int) (tokenValue_0 : Int → Int) (tokenPlace_0 : Int → Int) (tokenEnd_0 : Int → Int) (tape_0 : Int → Int) (limit_0 : Int) (cur_0 : Int) (tokens_0 : Int) (opened_0 : Int) (fault_0 : Int) (gx : Int) (k1 : 0 ≤ x1 ∧ x1 ≤ 2009) (k2 : 0 ≤ x2 ∧ x2 ≤ 5) (k3 : 0 ≤ x3 ∧ x3 ≤ 13) (k6 : 0 ≤ x6 ∧ x6 ≤ 2009) (k7 : 0 ≤ x7 ∧ x7 ≤ 2010) (k10 : 1 ≤ x10 ∧ x10 ≤ 1) (k11 : 1 ≤ x11 ∧ x11 ≤ 2009) (k12 : 0 ≤ x12 ∧ x12 ≤ 2009) (k13 : 0 ≤ x13 ∧ x13 ≤ 5) (k14 : 0 ≤ x14 ∧ x14 ≤ 13) (d0 : x6 + 1 ≤ x11 ∧ x11 ≤ x6 + 1) (f0 : (styleKind_0 = 0) → (styleOne_0 ≤ 23)) (f1 : 1 * x1 + ((-1) * x12 + 0) ≤ 0) (f2 : (-1) * x7 + ((-1) * x12 + 0) ≤ (-2011)) (f3 : GBL (styleKind_0) (limit_0) (tokenKind_0) (tokenValue_0) (tokenPlace_0) (tokenEnd_0) (tape_0) (x12) (x13) (x1) (x2) (x3)) (f4 : 1 * x14 + 0 ≤ 0) (f5 : (-1) * x14 + 0 ≤ 0) (f6 : (styleKind_0 = 0) → (styleOne_0 ≤ 23)) (f7 : 1 * x3 + 0 ≤ 0) (f8 : (-1) * x3 + 0 ≤ 0) (f10 : ((cur_0 + 1) ≤ tokens_0) ∧ ((tokens_0 ≤ 2010) ∧ ((tokenKind_0 ((tokens_0 - 1)) = 0) ∨ (tokenKind_0 ((tokens_0 - 1)) = 4)))) (f11 : 1 * x12 + ((-1) * cur_0 + 0) ≤ 0) (f12 : 1 * opened_0 + 0 ≤ 0) (f13 : (-1) * opened_0 + 0 ≤ 0) (f14 : SON (fault_0) (cur_0) (styleKind_0) (limit_0) (tokenKind_0) (tokenValue_0) (tokenPlace_0) (tokenEnd_0) (tape_0) (x12) (x13) (x14)) (f16 : 1 * x1 + ((-1) * x12 + 0) ≤ 0) (f17 : (-1) * x7 + ((-1) * x12 + 0) ≤ (-2011)) (f18 : 1 * x14 + 0 ≤ 0) (f19 : (-1) * x14 + 0 ≤ 0) (f20 : 1 * x3 + 0 ≤ 0) (f21 : (-1) * x3 + 0 ≤ 0) (f23 : x11 = x6 + x10) (f24 : 1 * x3 + 0 ≤ 0) (f25 : (-1) * x3 + 0 ≤ 0) (f27 : 1 * x3 + 0 ≤ 0) (f28 : (-1) * x3 + 0 ≤ 0) (hK_0_1 : ∀ j : Int, 0 ≤ j → j < 2000 → (-128) ≤ tape_0 j ∧ tape_0 j ≤ 127) (hK_0_160 : ∀ j : Int, 0 ≤ j → j < 2010 → 0 ≤ tokenKind_0 j ∧ tokenKind_0 j ≤ 4) (hK_0_162 : ∀ j : Int, 0 ≤ j → j < 2010 → 0 ≤ tokenPlace_0 j ∧ tokenPlace_0 j ≤ 2000) (hK_0_163 : ∀ j : Int, 0 ≤ j → j < 2010 → 0 ≤ tokenEnd_0 j ∧ tokenEnd_0 j ≤ 2000) (kz_0_8 : 0 ≤ fault_0 ∧ fault_0 ≤ 5) (kz_0_10 : 0 ≤ limit_0 ∧ limit_0 ≤ 2000) (kz_0_157 : 0 ≤ tokens_0 ∧ tokens_0 ≤ 2010) (kz_0_158 : 0 ≤ cur_0 ∧ cur_0 ≤ 2009) (kz_0_159 : 0 ≤ opened_0 ∧ opened_0 ≤ 13) (kz_0_164 : 0 ≤ styleKind_0 ∧ styleKind_0 ≤ 1) (kz_0_165 : (-1) ≤ styleOne_0 ∧ styleOne_0 ≤ 47) (ex2 : gx = 0 + (1 * x7 + 0)) (ex3 : 0 ≤ gx ∧ gx ≤ 2010) : (-1) * opened_0 + 0 ≤ 0 := by
  first | assumption | (clear f0 f6 f10 hK_0_1 hK_0_160 hK_0_162 hK_0_163; omega) | (clear hK_0_1 hK_0_160 hK_0_162 hK_0_163; grind) | omega | grind
set_option maxHeartbeats 4000000 in
theorem vc_Mo_both_at_f0_5_5 (x1 : Int) (x2 : Int) (x3 : Int) (x6 : Int) (x7 : Int) (x10 : Int) (x11 : Int) (x12 : Int) (x13 : Int) (x14 : Int) (styleKind_0 : Int) (styleOne_0 : Int) (tokenKind_0 : Int → Int) (tokenValue_0 : Int → Int) (tokenPlace_0 : Int → Int) (tokenEnd_0 : Int → Int) (tape_0 : Int → Int) (limit_0 : Int) (cur_0 : Int) (tokens_0 : Int) (opened_0 : Int) (fault_0 : Int) (gx : Int) (k1 : 0 ≤ x1 ∧ x1 ≤ 2009) (k2 : 0 ≤ x2 ∧ x2 ≤ 5) (k3 : 0 ≤ x3 ∧ x3 ≤ 13) (k6 : 0 ≤ x6 ∧ x6 ≤ 2009) (k7 : 0 ≤ x7 ∧ x7 ≤ 2010) (k10 : 1 ≤ x10 ∧ x10 ≤ 1) (k11 : 1 ≤ x11 ∧ x11 ≤ 2009) (k12 : 0 ≤ x12 ∧ x12 ≤ 2009) (k13 : 0 ≤ x13 ∧ x13 ≤ 5) (k14 : 0 ≤ x14 ∧ x14 ≤ 13) (d0 : x6 + 1 ≤ x11 ∧ x11 ≤ x6 + 1) (f0 : (styleKind_0 = 0) → (styleOne_0 ≤ 23)) (f1 : 1 * x1 + ((-1) * x12 + 0) ≤ 0) (f2 : (-1) * x7 + ((-1) * x12 + 0) ≤ (-2011)) (f3 : GBL (styleKind_0) (limit_0) (tokenKind_0) (tokenValue_0) (tokenPlace_0) (tokenEnd_0) (tape_0) (x12) (x13) (x1) (x2) (x3)) (f4 : 1 * x14 + 0 ≤ 0) (f5 : (-1) * x14 + 0 ≤ 0) (f6 : (styleKind_0 = 0) → (styleOne_0 ≤ 23)) (f7 : 1 * x3 + 0 ≤ 0) (f8 : (-1) * x3 + 0 ≤ 0) (f10 : ((cur_0 + 1) ≤ tokens_0) ∧ ((tokens_0 ≤ 2010) ∧ ((tokenKind_0 ((tokens_0 - 1)) = 0) ∨ (tokenKind_0 ((tokens_0 - 1)) = 4)))) (f11 : 1 * x12 + ((-1) * cur_0 + 0) ≤ 0) (f12 : 1 * opened_0 + 0 ≤ 0) (f13 : (-1) * opened_0 + 0 ≤ 0) (f14 : SON (fault_0) (cur_0) (styleKind_0) (limit_0) (tokenKind_0) (tokenValue_0) (tokenPlace_0) (tokenEnd_0) (tape_0) (x12) (x13) (x14)) (f16 : 1 * x1 + ((-1) * x12 + 0) ≤ 0) (f17 : (-1) * x7 + ((-1) * x12 + 0) ≤ (-2011)) (f18 : 1 * x14 + 0 ≤ 0) (f19 : (-1) * x14 + 0 ≤ 0) (f20 : 1 * x3 + 0 ≤ 0) (f21 : (-1) * x3 + 0 ≤ 0) (f23 : x11 = x6 + x10) (f24 : 1 * x3 + 0 ≤ 0) (f25 : (-1) * x3 + 0 ≤ 0) (f27 : 1 * x3 + 0 ≤ 0) (f28 : (-1) * x3 + 0 ≤ 0) (hK_0_1 : ∀ j : Int, 0 ≤ j → j < 2000 → (-128) ≤ tape_0 j ∧ tape_0 j ≤ 127) (hK_0_160 : ∀ j : Int, 0 ≤ j → j < 2010 → 0 ≤ tokenKind_0 j ∧ tokenKind_0 j ≤ 4) (hK_0_162 : ∀ j : Int, 0 ≤ j → j < 2010 → 0 ≤ tokenPlace_0 j ∧ tokenPlace_0 j ≤ 2000) (hK_0_163 : ∀ j : Int, 0 ≤ j → j < 2010 → 0 ≤ tokenEnd_0 j ∧ tokenEnd_0 j ≤ 2000) (kz_0_8 : 0 ≤ fault_0 ∧ fault_0 ≤ 5) (kz_0_10 : 0 ≤ limit_0 ∧ limit_0 ≤ 2000) (kz_0_157 : 0 ≤ tokens_0 ∧ tokens_0 ≤ 2010) (kz_0_158 : 0 ≤ cur_0 ∧ cur_0 ≤ 2009) (kz_0_159 : 0 ≤ opened_0 ∧ opened_0 ≤ 13) (kz_0_164 : 0 ≤ styleKind_0 ∧ styleKind_0 ≤ 1) (kz_0_165 : (-1) ≤ styleOne_0 ∧ styleOne_0 ≤ 47) (ex2 : gx = 0 + (1 * x7 + 0)) (ex3 : 0 ≤ gx ∧ gx ≤ 2010) : (-1) * gx + ((-1) * cur_0 + 0) ≤ (-2011) := by
  first | assumption | (clear f0 f6 f10 hK_0_1 hK_0_160 hK_0_162 hK_0_163; omega) | (clear hK_0_1 hK_0_160 hK_0_162 hK_0_163; grind) | omega | grind
set_option maxHeartbeats 4000000 in
theorem vc_Mo_both_at_f0_5_6 (x1 : Int) (x2 : Int) (x3 : Int) (x12 : Int) (x13 : Int) (x14 : Int) (styleKind_0 : Int) (tokenKind_0 : Int → Int) (tokenValue_0 : Int → Int) (tokenPlace_0 : Int → Int) (tokenEnd_0 : Int → Int) (tape_0 : Int → Int) (limit_0 : Int) (cur_0 : Int) (fault_0 : Int) (k1 : 0 ≤ x1 ∧ x1 ≤ 2009) (k2 : 0 ≤ x2 ∧ x2 ≤ 5) (k3 : 0 ≤ x3 ∧ x3 ≤ 13) (k12 : 0 ≤ x12 ∧ x12 ≤ 2009) (k13 : 0 ≤ x13 ∧ x13 ≤ 5) (k14 : 0 ≤ x14 ∧ x14 ≤ 13) (f3 : GBL (styleKind_0) (limit_0) (tokenKind_0) (tokenValue_0) (tokenPlace_0) (tokenEnd_0) (tape_0) (x12) (x13) (x1) (x2) (x3)) (f4 : 1 * x14 + 0 ≤ 0) (f7 : 1 * x3 + 0 ≤ 0) (f11 : 1 * x12 + ((-1) * cur_0 + 0) ≤ 0) (f14 : SON (fault_0) (cur_0) (styleKind_0) (limit_0) (tokenKind_0) (tokenValue_0) (tokenPlace_0) (tokenEnd_0) (tape_0) (x12) (x13) (x14)) (kz_0_8 : 0 ≤ fault_0 ∧ fault_0 ≤ 5) (kz_0_10 : 0 ≤ limit_0 ∧ limit_0 ≤ 2000) (kz_0_158 : 0 ≤ cur_0 ∧ cur_0 ≤ 2009) (kz_0_164 : 0 ≤ styleKind_0 ∧ styleKind_0 ≤ 1) : SBL (fault_0) (cur_0) (styleKind_0) (limit_0) (tokenKind_0) (tokenValue_0) (tokenPlace_0) (tokenEnd_0) (tape_0) (x1) (x2) (x3) := by
  first
    | exact sbl_start (‹SON _ _ _ _ _ _ _ _ _ _ _ _›) (by omega) (by omega) (by omega) (by omega)
    | exact sbl_go (‹GBL _ _ _ _ _ _ _ _ _ _ _ _›) (‹SON _ _ _ _ _ _ _ _ _ _ _ _›) (by omega) (by omega) (by omega)
    | assumption
  
set_option maxHeartbeats 4000000 in
theorem vc_Mo_both_at_f0_5_7 (x1 : Int) (x2 : Int) (x3 : Int) (x6 : Int) (x7 : Int) (x10 : Int) (x11 : Int) (x12 : Int) (x13 : Int) (x14 : Int) (styleKind_0 : Int) (styleOne_0 : Int) (tokenKind_0 : Int → Int) (tokenValue_0 : Int → Int) (tokenPlace_0 : Int → Int) (tokenEnd_0 : Int → Int) (tape_0 : Int → Int) (limit_0 : Int) (cur_0 : Int) (tokens_0 : Int) (opened_0 : Int) (fault_0 : Int) (gx : Int) (k1 : 0 ≤ x1 ∧ x1 ≤ 2009) (k2 : 0 ≤ x2 ∧ x2 ≤ 5) (k3 : 0 ≤ x3 ∧ x3 ≤ 13) (k6 : 0 ≤ x6 ∧ x6 ≤ 2009) (k7 : 0 ≤ x7 ∧ x7 ≤ 2010) (k10 : 1 ≤ x10 ∧ x10 ≤ 1) (k11 : 1 ≤ x11 ∧ x11 ≤ 2009) (k12 : 0 ≤ x12 ∧ x12 ≤ 2009) (k13 : 0 ≤ x13 ∧ x13 ≤ 5) (k14 : 0 ≤ x14 ∧ x14 ≤ 13) (d0 : x6 + 1 ≤ x11 ∧ x11 ≤ x6 + 1) (f0 : (styleKind_0 = 0) → (styleOne_0 ≤ 23)) (f1 : 1 * x1 + ((-1) * x12 + 0) ≤ 0) (f2 : (-1) * x7 + ((-1) * x12 + 0) ≤ (-2011)) (f3 : GBL (styleKind_0) (limit_0) (tokenKind_0) (tokenValue_0) (tokenPlace_0) (tokenEnd_0) (tape_0) (x12) (x13) (x1) (x2) (x3)) (f4 : 1 * x14 + 0 ≤ 0) (f5 : (-1) * x14 + 0 ≤ 0) (f6 : (styleKind_0 = 0) → (styleOne_0 ≤ 23)) (f7 : 1 * x3 + 0 ≤ 0) (f8 : (-1) * x3 + 0 ≤ 0) (f10 : ((cur_0 + 1) ≤ tokens_0) ∧ ((tokens_0 ≤ 2010) ∧ ((tokenKind_0 ((tokens_0 - 1)) = 0) ∨ (tokenKind_0 ((tokens_0 - 1)) = 4)))) (f11 : 1 * x12 + ((-1) * cur_0 + 0) ≤ 0) (f12 : 1 * opened_0 + 0 ≤ 0) (f13 : (-1) * opened_0 + 0 ≤ 0) (f14 : SON (fault_0) (cur_0) (styleKind_0) (limit_0) (tokenKind_0) (tokenValue_0) (tokenPlace_0) (tokenEnd_0) (tape_0) (x12) (x13) (x14)) (f16 : 1 * x1 + ((-1) * x12 + 0) ≤ 0) (f17 : (-1) * x7 + ((-1) * x12 + 0) ≤ (-2011)) (f18 : 1 * x14 + 0 ≤ 0) (f19 : (-1) * x14 + 0 ≤ 0) (f20 : 1 * x3 + 0 ≤ 0) (f21 : (-1) * x3 + 0 ≤ 0) (f23 : x11 = x6 + x10) (f24 : 1 * x3 + 0 ≤ 0) (f25 : (-1) * x3 + 0 ≤ 0) (f27 : 1 * x3 + 0 ≤ 0) (f28 : (-1) * x3 + 0 ≤ 0) (hK_0_1 : ∀ j : Int, 0 ≤ j → j < 2000 → (-128) ≤ tape_0 j ∧ tape_0 j ≤ 127) (hK_0_160 : ∀ j : Int, 0 ≤ j → j < 2010 → 0 ≤ tokenKind_0 j ∧ tokenKind_0 j ≤ 4) (hK_0_162 : ∀ j : Int, 0 ≤ j → j < 2010 → 0 ≤ tokenPlace_0 j ∧ tokenPlace_0 j ≤ 2000) (hK_0_163 : ∀ j : Int, 0 ≤ j → j < 2010 → 0 ≤ tokenEnd_0 j ∧ tokenEnd_0 j ≤ 2000) (kz_0_8 : 0 ≤ fault_0 ∧ fault_0 ≤ 5) (kz_0_10 : 0 ≤ limit_0 ∧ limit_0 ≤ 2000) (kz_0_157 : 0 ≤ tokens_0 ∧ tokens_0 ≤ 2010) (kz_0_158 : 0 ≤ cur_0 ∧ cur_0 ≤ 2009) (kz_0_159 : 0 ≤ opened_0 ∧ opened_0 ≤ 13) (kz_0_164 : 0 ≤ styleKind_0 ∧ styleKind_0 ≤ 1) (kz_0_165 : (-1) ≤ styleOne_0 ∧ styleOne_0 ≤ 47) (ex2 : gx = 0 + (1 * x7 + 0)) (ex3 : 0 ≤ gx ∧ gx ≤ 2010) : 1 * x3 + 0 ≤ 0 := by
  first | assumption | (clear f0 f6 f10 hK_0_1 hK_0_160 hK_0_162 hK_0_163; omega) | (clear hK_0_1 hK_0_160 hK_0_162 hK_0_163; grind) | omega | grind
set_option maxHeartbeats 4000000 in
theorem vc_Mo_both_at_f0_5_8 (x1 : Int) (x2 : Int) (x3 : Int) (x6 : Int) (x7 : Int) (x10 : Int) (x11 : Int) (x12 : Int) (x13 : Int) (x14 : Int) (styleKind_0 : Int) (styleOne_0 : Int) (tokenKind_0 : Int → Int) (tokenValue_0 : Int → Int) (tokenPlace_0 : Int → Int) (tokenEnd_0 : Int → Int) (tape_0 : Int → Int) (limit_0 : Int) (cur_0 : Int) (tokens_0 : Int) (opened_0 : Int) (fault_0 : Int) (gx : Int) (k1 : 0 ≤ x1 ∧ x1 ≤ 2009) (k2 : 0 ≤ x2 ∧ x2 ≤ 5) (k3 : 0 ≤ x3 ∧ x3 ≤ 13) (k6 : 0 ≤ x6 ∧ x6 ≤ 2009) (k7 : 0 ≤ x7 ∧ x7 ≤ 2010) (k10 : 1 ≤ x10 ∧ x10 ≤ 1) (k11 : 1 ≤ x11 ∧ x11 ≤ 2009) (k12 : 0 ≤ x12 ∧ x12 ≤ 2009) (k13 : 0 ≤ x13 ∧ x13 ≤ 5) (k14 : 0 ≤ x14 ∧ x14 ≤ 13) (d0 : x6 + 1 ≤ x11 ∧ x11 ≤ x6 + 1) (f0 : (styleKind_0 = 0) → (styleOne_0 ≤ 23)) (f1 : 1 * x1 + ((-1) * x12 + 0) ≤ 0) (f2 : (-1) * x7 + ((-1) * x12 + 0) ≤ (-2011)) (f3 : GBL (styleKind_0) (limit_0) (tokenKind_0) (tokenValue_0) (tokenPlace_0) (tokenEnd_0) (tape_0) (x12) (x13) (x1) (x2) (x3)) (f4 : 1 * x14 + 0 ≤ 0) (f5 : (-1) * x14 + 0 ≤ 0) (f6 : (styleKind_0 = 0) → (styleOne_0 ≤ 23)) (f7 : 1 * x3 + 0 ≤ 0) (f8 : (-1) * x3 + 0 ≤ 0) (f10 : ((cur_0 + 1) ≤ tokens_0) ∧ ((tokens_0 ≤ 2010) ∧ ((tokenKind_0 ((tokens_0 - 1)) = 0) ∨ (tokenKind_0 ((tokens_0 - 1)) = 4)))) (f11 : 1 * x12 + ((-1) * cur_0 + 0) ≤ 0) (f12 : 1 * opened_0 + 0 ≤ 0) (f13 : (-1) * opened_0 + 0 ≤ 0) (f14 : SON (fault_0) (cur_0) (styleKind_0) (limit_0) (tokenKind_0) (tokenValue_0) (tokenPlace_0) (tokenEnd_0) (tape_0) (x12) (x13) (x14)) (f16 : 1 * x1 + ((-1) * x12 + 0) ≤ 0) (f17 : (-1) * x7 + ((-1) * x12 + 0) ≤ (-2011)) (f18 : 1 * x14 + 0 ≤ 0) (f19 : (-1) * x14 + 0 ≤ 0) (f20 : 1 * x3 + 0 ≤ 0) (f21 : (-1) * x3 + 0 ≤ 0) (f23 : x11 = x6 + x10) (f24 : 1 * x3 + 0 ≤ 0) (f25 : (-1) * x3 + 0 ≤ 0) (f27 : 1 * x3 + 0 ≤ 0) (f28 : (-1) * x3 + 0 ≤ 0) (hK_0_1 : ∀ j : Int, 0 ≤ j → j < 2000 → (-128) ≤ tape_0 j ∧ tape_0 j ≤ 127) (hK_0_160 : ∀ j : Int, 0 ≤ j → j < 2010 → 0 ≤ tokenKind_0 j ∧ tokenKind_0 j ≤ 4) (hK_0_162 : ∀ j : Int, 0 ≤ j → j < 2010 → 0 ≤ tokenPlace_0 j ∧ tokenPlace_0 j ≤ 2000) (hK_0_163 : ∀ j : Int, 0 ≤ j → j < 2010 → 0 ≤ tokenEnd_0 j ∧ tokenEnd_0 j ≤ 2000) (kz_0_8 : 0 ≤ fault_0 ∧ fault_0 ≤ 5) (kz_0_10 : 0 ≤ limit_0 ∧ limit_0 ≤ 2000) (kz_0_157 : 0 ≤ tokens_0 ∧ tokens_0 ≤ 2010) (kz_0_158 : 0 ≤ cur_0 ∧ cur_0 ≤ 2009) (kz_0_159 : 0 ≤ opened_0 ∧ opened_0 ≤ 13) (kz_0_164 : 0 ≤ styleKind_0 ∧ styleKind_0 ≤ 1) (kz_0_165 : (-1) ≤ styleOne_0 ∧ styleOne_0 ≤ 47) (ex2 : gx = 0 + (1 * x7 + 0)) (ex3 : 0 ≤ gx ∧ gx ≤ 2010) : (-1) * x3 + 0 ≤ 0 := by
  first | assumption | (clear f0 f6 f10 hK_0_1 hK_0_160 hK_0_162 hK_0_163; omega) | (clear hK_0_1 hK_0_160 hK_0_162 hK_0_163; grind) | omega | grind
def o_Mo_both_at_f0_5 : or_T := (43, 17, [(0, (2, 0, 0, [165])), (1, (0, 0, 2009, [])), (2, (0, 0, 5, [])), (3, (0, 0, 13, [])), (4, (2, 0, 0, [165])), (6, (0, 0, 2009, [])), (7, (0, 0, 2010, [])), (10, (0, 1, 1, [])), (11, (0, 1, 2009, [])), (12, (0, 0, 2009, [])), (13, (0, 0, 5, [])), (14, (0, 0, 13, []))], [(20, [4], [50, 2, 0, 164, 165, 4, 7, 1, 3, 2, 0, 164, 0, 0, 0, 3, 2, 0, 165, 0, 23]), (23, [1, 12], [0, 1, -1]), (23, [7, 12], [-2011, -1, -1]), (20, [4, 12, 13, 1, 2, 3], [60, 2, 5, 12, 164, 10, 160, 161, 162, 163, 1]), (23, [14], [0, 1]), (23, [14], [0, -1]), (20, [4], [50, 2, 0, 164, 165, 4, 7, 1, 3, 2, 0, 164, 0, 0, 0, 3, 2, 0, 165, 0, 23]), (23, [3], [0, 1]), (23, [3], [0, -1]), (24, [0, 4], []), (20, [4], [50, 2, 1, 158, 157, 160, 2, 12, 0, 7, 4, 3, 2, 0, 158, 0, 1, 2, 0, 157, 2, 7, 0, 3, 2, 0, 157, 0, 2010, 3, 14, 1, 10, 3, 0, 160, 5, 3, 2, 0, 157, 0, 1, 0, 0, 1, 10, 3, 0, 160, 5, 3, 2, 0, 157, 0, 1, 0, 4]), (20, [12, 4], [30, 0, 1, 0, 0, -1, 1, 158]), (20, [4], [30, 0, 1, 1, 159]), (20, [4], [30, 0, -1, 1, 159]), (20, [4, 12, 13, 14], [60, 4, 5, 3, 8, 158, 164, 10, 160, 161, 162, 163, 1]), (102, [14], [0, 165008, 165009, 165158, 165159]), (23, [1, 12], [0, 1, -1]), (23, [7, 12], [-2011, -1, -1]), (23, [14], [0, 1]), (23, [14], [0, -1]), (23, [3], [0, 1]), (23, [3], [0, -1]), (101, [4, 11], [158]), (1, [11, 6, 10], []), (23, [3], [0, 1]), (23, [3], [0, -1]), (102, [8], [0]), (23, [3], [0, 1]), (23, [3], [0, -1])], [], [(0, 0, 2010, [])], [(20, [4], [50, 2, 1, 158, 157, 160, 2, 12, 0, 7, 4, 3, 2, 0, 158, 0, 1, 2, 0, 157, 2, 7, 0, 3, 2, 0, 157, 0, 2010, 3, 14, 1, 10, 3, 0, 160, 5, 3, 2, 0, 157, 0, 1, 0, 0, 1, 10, 3, 0, 160, 5, 3, 2, 0, 157, 0, 1, 0, 4]), (20, [1, 4], [30, 0, 1, 0, 0, -1, 1, 158]), (20, [4], [50, 2, 0, 164, 165, 4, 7, 1, 3, 2, 0, 164, 0, 0, 0, 3, 2, 0, 165, 0, 23]), (20, [4], [30, 0, 1, 1, 159]), (20, [4], [30, 0, -1, 1, 159]), (20, [17, 4], [30, -2011, -1, 0, 0, -1, 1, 158]), (20, [4, 1, 2, 3], [60, 4, 5, 8, 8, 158, 164, 10, 160, 161, 162, 163, 1]), (23, [3], [0, 1]), (23, [3], [0, -1]), (24, [0, 4], [])], [(17, 7, 0, 0)], [(11, 6, 1, 1)])
theorem oo_Mo_both_at_f0_5 {kA : Nat → ClassId} : or_ok PRD kA GG o_Mo_both_at_f0_5 := by
  refine or_mk fun A ta ws vs hD hth hl => ?_
  intro t0 r0 t1 k1 t2 k2 t3 k3 t4 r4 t6 k6 t7 k7 t10 k10 t11 k11 t12 k12 t13 k13 t14 k14 d0 f0 f1 f2 f3 f4 f5 f6 f7 f8 f9 f10 f11 f12 f13 f14 ta1 w1 le1 s1 f16 f17 f18 f19 f20 f21 ta2 w2 le2 s2 f23 f24 f25 ta3 w3 le3 s3 f27 f28
  replace f0 := shm_299 f0
  replace f1 := shm_7 f1
  replace f2 := shm_315 f2
  replace f3 := shm_316 f3
  replace f4 := shm_1477 f4
  replace f5 := shm_1013 f5
  replace f6 := shm_299 f6
  replace f7 := shm_1477 f7
  replace f8 := shm_1013 f8
  replace f9 := shm_5 f9
  replace f10 := shm_296 f10
  replace f11 := shm_306 f11
  replace f12 := shm_999 f12
  replace f13 := shm_1000 f13
  replace f14 := shm_307 f14
  replace f16 := shm_7 f16
  replace f17 := shm_315 f17
  replace f18 := shm_1477 f18
  replace f19 := shm_1013 f19
  replace f20 := shm_1477 f20
  replace f21 := shm_1013 f21
  have s2 : (∀ b j, w_el w1 b j = w_el w2 b j) ∧ ∀ b j, w_fd w1 b j = if b = v_ad (n_v vs 4) ∧ j = 158 then n_v vs 11 else w_fd w2 b j := s2.2
  replace f23 := shm_12 f23
  replace f24 := shm_1477 f24
  replace f25 := shm_1013 f25
  replace f27 := shm_1477 f27
  replace f28 := shm_1013 f28
  have q4 : n_v vs 4 = n_v vs 0 := f9.symm
  simp only [q4] at f0 f3 f6 f10 f11 f12 f13 f14
  rw [q4] at s2
  have cr_0_1 := fdq_46 hD hth r0
  have cr_0_160 := fdq_41 hD hth r0
  have cr_0_161 := fdq_47 hD hth r0
  have cr_0_162 := fdq_48 hD hth r0
  have cr_0_163 := fdq_49 hD hth r0
  have hK_0_1 := elq_6 hD hth cr_0_1
  have hK_0_160 := elq_5 hD hth cr_0_160
  have hK_0_162 := elq_7 hD hth cr_0_162
  have hK_0_163 := elq_8 hD hth cr_0_163
  have kz_0_8 := fdq_14 hD hth r0
  have kz_0_10 := fdq_50 hD hth r0
  have kz_0_157 := fdq_42 hD hth r0
  have kz_0_158 := fdq_43 hD hth r0
  have kz_0_159 := fdq_44 hD hth r0
  have kz_0_164 := fdq_45 hD hth r0
  have kz_0_165 := fdq_35 hD hth r0
  obtain ⟨x, ex, hx⟩ := iv_ex (ta := ta) (lo := 0) (hi := 2010) (z := 0 + (1 * v_iv (n_v vs 7) + 0)) (by omega) (by omega) (by omega) (by omega)
  have ex2 : v_iv (Value.int x) = 0 + (1 * v_iv (n_v vs 7) + 0) := ex
  have ex3 : 0 ≤ v_iv (Value.int x) ∧ v_iv (Value.int x) ≤ 2010 := tv_rng hx
  have e_0 : n_v (vs ++ [Value.int x]) 0 = n_v vs 0 := n_v_old (by rw [hl]; decide)
  have e_1 : n_v (vs ++ [Value.int x]) 1 = n_v vs 1 := n_v_old (by rw [hl]; decide)
  have e_2 : n_v (vs ++ [Value.int x]) 2 = n_v vs 2 := n_v_old (by rw [hl]; decide)
  have e_3 : n_v (vs ++ [Value.int x]) 3 = n_v vs 3 := n_v_old (by rw [hl]; decide)
  have e_4 : n_v (vs ++ [Value.int x]) 4 = n_v vs 4 := n_v_old (by rw [hl]; decide)
  have e_17 : n_v (vs ++ [Value.int x]) 17 = Value.int x := n_v_new hl
  have nf0 : fc_1 PRD (20, [4], [50, 2, 1, 158, 157, 160, 2, 12, 0, 7, 4, 3, 2, 0, 158, 0, 1, 2, 0, 157, 2, 7, 0, 3, 2, 0, 157, 0, 2010, 3, 14, 1, 10, 3, 0, 160, 5, 3, 2, 0, 157, 0, 1, 0, 0, 1, 10, 3, 0, 160, 5, 3, 2, 0, 157, 0, 1, 0, 4]) ws (vs ++ [Value.int x]) := by
    refine ⟨nf_inA hl rfl, sgq_296 ?_⟩
    · show ((w_fi ws (n_v (vs ++ [Value.int x]) 4) 158 + 1) ≤ w_fi ws (n_v (vs ++ [Value.int x]) 4) 157) ∧ ((w_fi ws (n_v (vs ++ [Value.int x]) 4) 157 ≤ 2010) ∧ ((w_ei ws (w_ar ws (n_v (vs ++ [Value.int x]) 4) 160) ((w_fi ws (n_v (vs ++ [Value.int x]) 4) 157 - 1)) = 0) ∨ (w_ei ws (w_ar ws (n_v (vs ++ [Value.int x]) 4) 160) ((w_fi ws (n_v (vs ++ [Value.int x]) 4) 157 - 1)) = 4)))
      simp only [e_4, q4]
      exact vc_Mo_both_at_f0_5_0 (v_iv (n_v vs 1)) (v_iv (n_v vs 2)) (v_iv (n_v vs 3)) (v_iv (n_v vs 6)) (v_iv (n_v vs 7)) (v_iv (n_v vs 10)) (v_iv (n_v vs 11)) (v_iv (n_v vs 12)) (v_iv (n_v vs 13)) (v_iv (n_v vs 14)) (w_fi ws (n_v vs 0) 164) (w_fi ws (n_v vs 0) 165) (w_ei ws (w_ar ws (n_v vs 0) 160)) (w_ei ws (w_ar ws (n_v vs 0) 161)) (w_ei ws (w_ar ws (n_v vs 0) 162)) (w_ei ws (w_ar ws (n_v vs 0) 163)) (w_ei ws (w_ar ws (n_v vs 0) 1)) (w_fi ws (n_v vs 0) 10) (w_fi ws (n_v vs 0) 158) (w_fi ws (n_v vs 0) 157) (w_fi ws (n_v vs 0) 159) (w_fi ws (n_v vs 0) 8) (v_iv (Value.int x)) k1 k2 k3 k6 k7 k10 k11 k12 k13 k14 d0 f0 f1 f2 f3 f4 f5 f6 f7 f8 f10 f11 f12 f13 f14 f16 f17 f18 f19 f20 f21 f23 f24 f25 f27 f28 hK_0_1 hK_0_160 hK_0_162 hK_0_163 kz_0_8 kz_0_10 kz_0_157 kz_0_158 kz_0_159 kz_0_164 kz_0_165 ex2 ex3
  have nf1 : fc_1 PRD (20, [1, 4], [30, 0, 1, 0, 0, -1, 1, 158]) ws (vs ++ [Value.int x]) := by
    refine ⟨nf_inA hl rfl, sgq_306 ?_⟩
    · show 1 * v_iv (n_v (vs ++ [Value.int x]) 1) + ((-1) * w_fi ws (n_v (vs ++ [Value.int x]) 4) 158 + 0) ≤ 0
      simp only [e_1, e_4, q4]
      exact vc_Mo_both_at_f0_5_1 (v_iv (n_v vs 1)) (v_iv (n_v vs 2)) (v_iv (n_v vs 3)) (v_iv (n_v vs 6)) (v_iv (n_v vs 7)) (v_iv (n_v vs 10)) (v_iv (n_v vs 11)) (v_iv (n_v vs 12)) (v_iv (n_v vs 13)) (v_iv (n_v vs 14)) (w_fi ws (n_v vs 0) 164) (w_fi ws (n_v vs 0) 165) (w_ei ws (w_ar ws (n_v vs 0) 160)) (w_ei ws (w_ar ws (n_v vs 0) 161)) (w_ei ws (w_ar ws (n_v vs 0) 162)) (w_ei ws (w_ar ws (n_v vs 0) 163)) (w_ei ws (w_ar ws (n_v vs 0) 1)) (w_fi ws (n_v vs 0) 10) (w_fi ws (n_v vs 0) 158) (w_fi ws (n_v vs 0) 157) (w_fi ws (n_v vs 0) 159) (w_fi ws (n_v vs 0) 8) (v_iv (Value.int x)) k1 k2 k3 k6 k7 k10 k11 k12 k13 k14 d0 f0 f1 f2 f3 f4 f5 f6 f7 f8 f10 f11 f12 f13 f14 f16 f17 f18 f19 f20 f21 f23 f24 f25 f27 f28 hK_0_1 hK_0_160 hK_0_162 hK_0_163 kz_0_8 kz_0_10 kz_0_157 kz_0_158 kz_0_159 kz_0_164 kz_0_165 ex2 ex3
  have nf2 : fc_1 PRD (20, [4], [50, 2, 0, 164, 165, 4, 7, 1, 3, 2, 0, 164, 0, 0, 0, 3, 2, 0, 165, 0, 23]) ws (vs ++ [Value.int x]) := by
    refine ⟨nf_inA hl rfl, sgq_299 ?_⟩
    · show (w_fi ws (n_v (vs ++ [Value.int x]) 4) 164 = 0) → (w_fi ws (n_v (vs ++ [Value.int x]) 4) 165 ≤ 23)
      simp only [e_4, q4]
      exact vc_Mo_both_at_f0_5_2 (v_iv (n_v vs 1)) (v_iv (n_v vs 2)) (v_iv (n_v vs 3)) (v_iv (n_v vs 6)) (v_iv (n_v vs 7)) (v_iv (n_v vs 10)) (v_iv (n_v vs 11)) (v_iv (n_v vs 12)) (v_iv (n_v vs 13)) (v_iv (n_v vs 14)) (w_fi ws (n_v vs 0) 164) (w_fi ws (n_v vs 0) 165) (w_ei ws (w_ar ws (n_v vs 0) 160)) (w_ei ws (w_ar ws (n_v vs 0) 161)) (w_ei ws (w_ar ws (n_v vs 0) 162)) (w_ei ws (w_ar ws (n_v vs 0) 163)) (w_ei ws (w_ar ws (n_v vs 0) 1)) (w_fi ws (n_v vs 0) 10) (w_fi ws (n_v vs 0) 158) (w_fi ws (n_v vs 0) 157) (w_fi ws (n_v vs 0) 159) (w_fi ws (n_v vs 0) 8) (v_iv (Value.int x)) k1 k2 k3 k6 k7 k10 k11 k12 k13 k14 d0 f0 f1 f2 f3 f4 f5 f6 f7 f8 f10 f11 f12 f13 f14 f16 f17 f18 f19 f20 f21 f23 f24 f25 f27 f28 hK_0_1 hK_0_160 hK_0_162 hK_0_163 kz_0_8 kz_0_10 kz_0_157 kz_0_158 kz_0_159 kz_0_164 kz_0_165 ex2 ex3
  have nf3 : fc_1 PRD (20, [4], [30, 0, 1, 1, 159]) ws (vs ++ [Value.int x]) := by
    refine ⟨nf_inA hl rfl, sgq_999 ?_⟩
    · show 1 * w_fi ws (n_v (vs ++ [Value.int x]) 4) 159 + 0 ≤ 0
      simp only [e_4, q4]
      exact vc_Mo_both_at_f0_5_3 (v_iv (n_v vs 1)) (v_iv (n_v vs 2)) (v_iv (n_v vs 3)) (v_iv (n_v vs 6)) (v_iv (n_v vs 7)) (v_iv (n_v vs 10)) (v_iv (n_v vs 11)) (v_iv (n_v vs 12)) (v_iv (n_v vs 13)) (v_iv (n_v vs 14)) (w_fi ws (n_v vs 0) 164) (w_fi ws (n_v vs 0) 165) (w_ei ws (w_ar ws (n_v vs 0) 160)) (w_ei ws (w_ar ws (n_v vs 0) 161)) (w_ei ws (w_ar ws (n_v vs 0) 162)) (w_ei ws (w_ar ws (n_v vs 0) 163)) (w_ei ws (w_ar ws (n_v vs 0) 1)) (w_fi ws (n_v vs 0) 10) (w_fi ws (n_v vs 0) 158) (w_fi ws (n_v vs 0) 157) (w_fi ws (n_v vs 0) 159) (w_fi ws (n_v vs 0) 8) (v_iv (Value.int x)) k1 k2 k3 k6 k7 k10 k11 k12 k13 k14 d0 f0 f1 f2 f3 f4 f5 f6 f7 f8 f10 f11 f12 f13 f14 f16 f17 f18 f19 f20 f21 f23 f24 f25 f27 f28 hK_0_1 hK_0_160 hK_0_162 hK_0_163 kz_0_8 kz_0_10 kz_0_157 kz_0_158 kz_0_159 kz_0_164 kz_0_165 ex2 ex3
  have nf4 : fc_1 PRD (20, [4], [30, 0, -1, 1, 159]) ws (vs ++ [Value.int x]) := by
    refine ⟨nf_inA hl rfl, sgq_1000 ?_⟩
    · show (-1) * w_fi ws (n_v (vs ++ [Value.int x]) 4) 159 + 0 ≤ 0
      simp only [e_4, q4]
      exact vc_Mo_both_at_f0_5_4 (v_iv (n_v vs 1)) (v_iv (n_v vs 2)) (v_iv (n_v vs 3)) (v_iv (n_v vs 6)) (v_iv (n_v vs 7)) (v_iv (n_v vs 10)) (v_iv (n_v vs 11)) (v_iv (n_v vs 12)) (v_iv (n_v vs 13)) (v_iv (n_v vs 14)) (w_fi ws (n_v vs 0) 164) (w_fi ws (n_v vs 0) 165) (w_ei ws (w_ar ws (n_v vs 0) 160)) (w_ei ws (w_ar ws (n_v vs 0) 161)) (w_ei ws (w_ar ws (n_v vs 0) 162)) (w_ei ws (w_ar ws (n_v vs 0) 163)) (w_ei ws (w_ar ws (n_v vs 0) 1)) (w_fi ws (n_v vs 0) 10) (w_fi ws (n_v vs 0) 158) (w_fi ws (n_v vs 0) 157) (w_fi ws (n_v vs 0) 159) (w_fi ws (n_v vs 0) 8) (v_iv (Value.int x)) k1 k2 k3 k6 k7 k10 k11 k12 k13 k14 d0 f0 f1 f2 f3 f4 f5 f6 f7 f8 f10 f11 f12 f13 f14 f16 f17 f18 f19 f20 f21 f23 f24 f25 f27 f28 hK_0_1 hK_0_160 hK_0_162 hK_0_163 kz_0_8 kz_0_10 kz_0_157 kz_0_158 kz_0_159 kz_0_164 kz_0_165 ex2 ex3
  have nf5 : fc_1 PRD (20, [17, 4], [30, -2011, -1, 0, 0, -1, 1, 158]) ws (vs ++ [Value.int x]) := by
    refine ⟨nf_inA hl rfl, sgq_317 ?_⟩
    · show (-1) * v_iv (n_v (vs ++ [Value.int x]) 17) + ((-1) * w_fi ws (n_v (vs ++ [Value.int x]) 4) 158 + 0) ≤ (-2011)
      simp only [e_4, e_17, q4]
      exact vc_Mo_both_at_f0_5_5 (v_iv (n_v vs 1)) (v_iv (n_v vs 2)) (v_iv (n_v vs 3)) (v_iv (n_v vs 6)) (v_iv (n_v vs 7)) (v_iv (n_v vs 10)) (v_iv (n_v vs 11)) (v_iv (n_v vs 12)) (v_iv (n_v vs 13)) (v_iv (n_v vs 14)) (w_fi ws (n_v vs 0) 164) (w_fi ws (n_v vs 0) 165) (w_ei ws (w_ar ws (n_v vs 0) 160)) (w_ei ws (w_ar ws (n_v vs 0) 161)) (w_ei ws (w_ar ws (n_v vs 0) 162)) (w_ei ws (w_ar ws (n_v vs 0) 163)) (w_ei ws (w_ar ws (n_v vs 0) 1)) (w_fi ws (n_v vs 0) 10) (w_fi ws (n_v vs 0) 158) (w_fi ws (n_v vs 0) 157) (w_fi ws (n_v vs 0) 159) (w_fi ws (n_v vs 0) 8) (v_iv (Value.int x)) k1 k2 k3 k6 k7 k10 k11 k12 k13 k14 d0 f0 f1 f2 f3 f4 f5 f6 f7 f8 f10 f11 f12 f13 f14 f16 f17 f18 f19 f20 f21 f23 f24 f25 f27 f28 hK_0_1 hK_0_160 hK_0_162 hK_0_163 kz_0_8 kz_0_10 kz_0_157 kz_0_158 kz_0_159 kz_0_164 kz_0_165 ex2 ex3
  have nf6 : fc_1 PRD (20, [4, 1, 2, 3], [60, 4, 5, 8, 8, 158, 164, 10, 160, 161, 162, 163, 1]) ws (vs ++ [Value.int x]) := by
    refine ⟨nf_inA hl rfl, sgq_308 ?_⟩
    · show SBL (w_fi ws (n_v (vs ++ [Value.int x]) 4) 8) (w_fi ws (n_v (vs ++ [Value.int x]) 4) 158) (w_fi ws (n_v (vs ++ [Value.int x]) 4) 164) (w_fi ws (n_v (vs ++ [Value.int x]) 4) 10) (w_ei ws (w_ar ws (n_v (vs ++ [Value.int x]) 4) 160)) (w_ei ws (w_ar ws (n_v (vs ++ [Value.int x]) 4) 161)) (w_ei ws (w_ar ws (n_v (vs ++ [Value.int x]) 4) 162)) (w_ei ws (w_ar ws (n_v (vs ++ [Value.int x]) 4) 163)) (w_ei ws (w_ar ws (n_v (vs ++ [Value.int x]) 4) 1)) (v_iv (n_v (vs ++ [Value.int x]) 1)) (v_iv (n_v (vs ++ [Value.int x]) 2)) (v_iv (n_v (vs ++ [Value.int x]) 3))
      simp only [e_1, e_2, e_3, e_4, q4]
      exact vc_Mo_both_at_f0_5_6 (v_iv (n_v vs 1)) (v_iv (n_v vs 2)) (v_iv (n_v vs 3)) (v_iv (n_v vs 12)) (v_iv (n_v vs 13)) (v_iv (n_v vs 14)) (w_fi ws (n_v vs 0) 164) (w_ei ws (w_ar ws (n_v vs 0) 160)) (w_ei ws (w_ar ws (n_v vs 0) 161)) (w_ei ws (w_ar ws (n_v vs 0) 162)) (w_ei ws (w_ar ws (n_v vs 0) 163)) (w_ei ws (w_ar ws (n_v vs 0) 1)) (w_fi ws (n_v vs 0) 10) (w_fi ws (n_v vs 0) 158) (w_fi ws (n_v vs 0) 8) k1 k2 k3 k12 k13 k14 f3 f4 f7 f11 f14 kz_0_8 kz_0_10 kz_0_158 kz_0_164
  have nf7 : fc_1 PRD (23, [3], [0, 1]) ws (vs ++ [Value.int x]) := by
    refine ⟨nf_inA hl rfl, sgq_1477 ?_⟩
    · show 1 * v_iv (n_v (vs ++ [Value.int x]) 3) + 0 ≤ 0
      rw [e_3]
      exact vc_Mo_both_at_f0_5_7 (v_iv (n_v vs 1)) (v_iv (n_v vs 2)) (v_iv (n_v vs 3)) (v_iv (n_v vs 6)) (v_iv (n_v vs 7)) (v_iv (n_v vs 10)) (v_iv (n_v vs 11)) (v_iv (n_v vs 12)) (v_iv (n_v vs 13)) (v_iv (n_v vs 14)) (w_fi ws (n_v vs 0) 164) (w_fi ws (n_v vs 0) 165) (w_ei ws (w_ar ws (n_v vs 0) 160)) (w_ei ws (w_ar ws (n_v vs 0) 161)) (w_ei ws (w_ar ws (n_v vs 0) 162)) (w_ei ws (w_ar ws (n_v vs 0) 163)) (w_ei ws (w_ar ws (n_v vs 0) 1)) (w_fi ws (n_v vs 0) 10) (w_fi ws (n_v vs 0) 158) (w_fi ws (n_v vs 0) 157) (w_fi ws (n_v vs 0) 159) (w_fi ws (n_v vs 0) 8) (v_iv (Value.int x)) k1 k2 k3 k6 k7 k10 k11 k12 k13 k14 d0 f0 f1 f2 f3 f4 f5 f6 f7 f8 f10 f11 f12 f13 f14 f16 f17 f18 f19 f20 f21 f23 f24 f25 f27 f28 hK_0_1 hK_0_160 hK_0_162 hK_0_163 kz_0_8 kz_0_10 kz_0_157 kz_0_158 kz_0_159 kz_0_164 kz_0_165 ex2 ex3
  have nf8 : fc_1 PRD (23, [3], [0, -1]) ws (vs ++ [Value.int x]) := by
    refine ⟨nf_inA hl rfl, sgq_1013 ?_⟩
    · show (-1) * v_iv (n_v (vs ++ [Value.int x]) 3) + 0 ≤ 0
      rw [e_3]
      exact vc_Mo_both_at_f0_5_8 (v_iv (n_v vs 1)) (v_iv (n_v vs 2)) (v_iv (n_v vs 3)) (v_iv (n_v vs 6)) (v_iv (n_v vs 7)) (v_iv (n_v vs 10)) (v_iv (n_v vs 11)) (v_iv (n_v vs 12)) (v_iv (n_v vs 13)) (v_iv (n_v vs 14)) (w_fi ws (n_v vs 0) 164) (w_fi ws (n_v vs 0) 165) (w_ei ws (w_ar ws (n_v vs 0) 160)) (w_ei ws (w_ar ws (n_v vs 0) 161)) (w_ei ws (w_ar ws (n_v vs 0) 162)) (w_ei ws (w_ar ws (n_v vs 0) 163)) (w_ei ws (w_ar ws (n_v vs 0) 1)) (w_fi ws (n_v vs 0) 10) (w_fi ws (n_v vs 0) 158) (w_fi ws (n_v vs 0) 157) (w_fi ws (n_v vs 0) 159) (w_fi ws (n_v vs 0) 8) (v_iv (Value.int x)) k1 k2 k3 k6 k7 k10 k11 k12 k13 k14 d0 f0 f1 f2 f3 f4 f5 f6 f7 f8 f10 f11 f12 f13 f14 f16 f17 f18 f19 f20 f21 f23 f24 f25 f27 f28 hK_0_1 hK_0_160 hK_0_162 hK_0_163 kz_0_8 kz_0_10 kz_0_157 kz_0_158 kz_0_159 kz_0_164 kz_0_165 ex2 ex3
  have nf9 : fc_1 PRD (24, [0, 4], []) ws (vs ++ [Value.int x]) := by
    refine ⟨nf_inA hl rfl, sgq_5 ?_⟩
    · show n_v (vs ++ [Value.int x]) 0 = n_v (vs ++ [Value.int x]) 4
      first | rfl | simp only [e_0, e_4, q4]
  obtain ⟨x0, e0, _, _⟩ := tv_int t7 rfl
  have e1 : v_iv (n_v vs 7) = x0.toInt := by rw [e0]; rfl
  have ho : sy_ofs (vs ++ [Value.int x]) (17, 7, 0, 0) := by
    refine ⟨x, x0, by rw [List.getElem?_append_right (by rw [hl]; decide), hl]; rfl, ?_, ?_, ?_⟩
    · rw [List.getElem?_append_left (by rw [hl]; decide)]; exact n_v_some (by rw [hl]; decide) e0
    · show x0.toInt + 0 ≤ x.toInt; omega
    · show x.toInt ≤ x0.toInt + 0; omega
  exact ⟨(fun _ h => (by cases h)), [Value.int x], ag_one hx, List.forall_mem_cons.mpr ⟨⟨show (20 : Nat) < 100 from by decide, nf0⟩, List.forall_mem_cons.mpr ⟨⟨show (20 : Nat) < 100 from by decide, nf1⟩, List.forall_mem_cons.mpr ⟨⟨show (20 : Nat) < 100 from by decide, nf2⟩, List.forall_mem_cons.mpr ⟨⟨show (20 : Nat) < 100 from by decide, nf3⟩, List.forall_mem_cons.mpr ⟨⟨show (20 : Nat) < 100 from by decide, nf4⟩, List.forall_mem_cons.mpr ⟨⟨show (20 : Nat) < 100 from by decide, nf5⟩, List.forall_mem_cons.mpr ⟨⟨show (20 : Nat) < 100 from by decide, nf6⟩, List.forall_mem_cons.mpr ⟨⟨show (23 : Nat) < 100 from by decide, nf7⟩, List.forall_mem_cons.mpr ⟨⟨show (23 : Nat) < 100 from by decide, nf8⟩, List.forall_mem_cons.mpr ⟨⟨show (24 : Nat) < 100 from by decide, nf9⟩, (fun _ h => (by cases h))⟩⟩⟩⟩⟩⟩⟩⟩⟩⟩, List.forall_mem_cons.mpr ⟨ho, (fun _ h => (by cases h))⟩⟩
set_option maxHeartbeats 4000000 in
theorem vc_Mo_both_at_f0_6_0 (x1 : Int) (x2 : Int) (x3 : Int) (x8 : Int) (tokenKind_0 : Int → Int) (cur_0 : Int) (tokens_0 : Int) (styleKind_0 : Int) (styleOne_0 : Int) (opened_0 : Int) (tokenValue_0 : Int → Int) (tokenPlace_0 : Int → Int) (tokenEnd_0 : Int → Int) (tape_0 : Int → Int) (fault_0 : Int) (limit_0 : Int) (gx : Int) (k1 : 0 ≤ x1 ∧ x1 ≤ 2009) (k2 : 0 ≤ x2 ∧ x2 ≤ 5) (k3 : 0 ≤ x3 ∧ x3 ≤ 13) (k8 : 0 ≤ x8 ∧ x8 ≤ 2010) (f0 : ((cur_0 + 1) ≤ tokens_0) ∧ ((tokens_0 ≤ 2010) ∧ ((tokenKind_0 ((tokens_0 - 1)) = 0) ∨ (tokenKind_0 ((tokens_0 - 1)) = 4)))) (f1 : 1 * x1 + ((-1) * cur_0 + 0) ≤ 0) (f2 : (styleKind_0 = 0) → (styleOne_0 ≤ 23)) (f3 : 1 * opened_0 + 0 ≤ 0) (f4 : (-1) * opened_0 + 0 ≤ 0) (f5 : (-1) * x8 + ((-1) * cur_0 + 0) ≤ (-2011)) (f6 : SBL (fault_0) (cur_0) (styleKind_0) (limit_0) (tokenKind_0) (tokenValue_0) (tokenPlace_0) (tokenEnd_0) (tape_0) (x1) (x2) (x3)) (f7 : 1 * x3 + 0 ≤ 0) (f8 : (-1) * x3 + 0 ≤ 0) (hK_0_1 : ∀ j : Int, 0 ≤ j → j < 2000 → (-128) ≤ tape_0 j ∧ tape_0 j ≤ 127) (hK_0_160 : ∀ j : Int, 0 ≤ j → j < 2010 → 0 ≤ tokenKind_0 j ∧ tokenKind_0 j ≤ 4) (hK_0_162 : ∀ j : Int, 0 ≤ j → j < 2010 → 0 ≤ tokenPlace_0 j ∧ tokenPlace_0 j ≤ 2000) (hK_0_163 : ∀ j : Int, 0 ≤ j → j < 2010 → 0 ≤ tokenEnd_0 j ∧ tokenEnd_0 j ≤ 2000) (kz_0_8 : 0 ≤ fault_0 ∧ fault_0 ≤ 5) (kz_0_10 : 0 ≤ limit_0 ∧ limit_0 ≤ 2000) (kz_0_157 : 0 ≤ tokens_0 ∧ tokens_0 ≤ 2010) (kz_0_158 : 0 ≤ cur_0 ∧ cur_0 ≤ 2009) (kz_0_159 : 0 ≤ opened_0 ∧ opened_0 ≤ 13) (kz_0_164 : 0 ≤ styleKind_0 ∧ styleKind_0 ≤ 1) (kz_0_165 : (-1) ≤ styleOne_0 ∧ styleOne_0 ≤ 47) (ex2 : gx = 2010 + ((-1) * cur_0 + 0)) (ex3 : 0 ≤ gx ∧ gx ≤ 2010) : ((cur_0 + 1) ≤ tokens_0) ∧ ((tokens_0 ≤ 2010) ∧ ((tokenKind_0 ((tokens_0 - 1)) = 0) ∨ (tokenKind_0 ((tokens_0 - 1)) = 4))) := by
  first | assumption | (clear f0 f2 hK_0_1 hK_0_160 hK_0_162 hK_0_163; omega) | (clear hK_0_1 hK_0_160 hK_0_162 hK_0_163; grind) | omega | grind
set_option maxHeartbeats 4000000 in
theorem vc_Mo_both_at_f0_6_1 (x1 : Int) (x2 : Int) (x3 : Int) (x8 : Int) (tokenKind_0 : Int → Int) (cur_0 : Int) (tokens_0 : Int) (styleKind_0 : Int) (styleOne_0 : Int) (opened_0 : Int) (tokenValue_0 : Int → Int) (tokenPlace_0 : Int → Int) (tokenEnd_0 : Int → Int) (tape_0 : Int → Int) (fault_0 : Int) (limit_0 : Int) (gx : Int) (k1 : 0 ≤ x1 ∧ x1 ≤ 2009) (k2 : 0 ≤ x2 ∧ x2 ≤ 5) (k3 : 0 ≤ x3 ∧ x3 ≤ 13) (k8 : 0 ≤ x8 ∧ x8 ≤ 2010) (f0 : ((cur_0 + 1) ≤ tokens_0) ∧ ((tokens_0 ≤ 2010) ∧ ((tokenKind_0 ((tokens_0 - 1)) = 0) ∨ (tokenKind_0 ((tokens_0 - 1)) = 4)))) (f1 : 1 * x1 + ((-1) * cur_0 + 0) ≤ 0) (f2 : (styleKind_0 = 0) → (styleOne_0 ≤ 23)) (f3 : 1 * opened_0 + 0 ≤ 0) (f4 : (-1) * opened_0 + 0 ≤ 0) (f5 : (-1) * x8 + ((-1) * cur_0 + 0) ≤ (-2011)) (f6 : SBL (fault_0) (cur_0) (styleKind_0) (limit_0) (tokenKind_0) (tokenValue_0) (tokenPlace_0) (tokenEnd_0) (tape_0) (x1) (x2) (x3)) (f7 : 1 * x3 + 0 ≤ 0) (f8 : (-1) * x3 + 0 ≤ 0) (hK_0_1 : ∀ j : Int, 0 ≤ j → j < 2000 → (-128) ≤ tape_0 j ∧ tape_0 j ≤ 127) (hK_0_160 : ∀ j : Int, 0 ≤ j → j < 2010 → 0 ≤ tokenKind_0 j ∧ tokenKind_0 j ≤ 4) (hK_0_162 : ∀ j : Int, 0 ≤ j → j < 2010 → 0 ≤ tokenPlace_0 j ∧ tokenPlace_0 j ≤ 2000) (hK_0_163 : ∀ j : Int, 0 ≤ j → j < 2010 → 0 ≤ tokenEnd_0 j ∧ tokenEnd_0 j ≤ 2000) (kz_0_8 : 0 ≤ fault_0 ∧ fault_0 ≤ 5) (kz_0_10 : 0 ≤ limit_0 ∧ limit_0 ≤ 2000) (kz_0_157 : 0 ≤ tokens_0 ∧ tokens_0 ≤ 2010) (kz_0_158 : 0 ≤ cur_0 ∧ cur_0 ≤ 2009) (kz_0_159 : 0 ≤ opened_0 ∧ opened_0 ≤ 13) (kz_0_164 : 0 ≤ styleKind_0 ∧ styleKind_0 ≤ 1) (kz_0_165 : (-1) ≤ styleOne_0 ∧ styleOne_0 ≤ 47) (ex2 : gx = 2010 + ((-1) * cur_0 + 0)) (ex3 : 0 ≤ gx ∧ gx ≤ 2010) : 1 * x1 + ((-1) * cur_0 + 0) ≤ 0 := by
  first | assumption | (clear f0 f2 hK_0_1 hK_0_160 hK_0_162 hK_0_163; omega) | (clear hK_0_1 hK_0_160 hK_0_162 hK_0_163; grind) | omega | grind
set_option maxHeartbeats 4000000 in
theorem vc_Mo_both_at_f0_6_2 (x1 : Int) (x2 : Int) (x3 : Int) (x8 : Int) (tokenKind_0 : Int → Int) (cur_0 : Int) (tokens_0 : Int) (styleKind_0 : Int) (styleOne_0 : Int) (opened_0 : Int) (tokenValue_0 : Int → Int) (tokenPlace_0 : Int → Int) (tokenEnd_0 : Int → Int) (tape_0 : Int → Int) (fault_0 : Int) (limit_0 : Int) (gx : Int) (k1 : 0 ≤ x1 ∧ x1 ≤ 2009) (k2 : 0 ≤ x2 ∧ x2 ≤ 5) (k3 : 0 ≤ x3 ∧ x3 ≤ 13) (k8 : 0 ≤ x8 ∧ x8 ≤ 2010) (f0 : ((cur_0 + 1) ≤ tokens_0) ∧ ((tokens_0 ≤ 2010) ∧ ((tokenKind_0 ((tokens_0 - 1)) = 0) ∨ (tokenKind_0 ((tokens_0 - 1)) = 4)))) (f1 : 1 * x1 + ((-1) * cur_0 + 0) ≤ 0) (f2 : (styleKind_0 = 0) → (styleOne_0 ≤ 23)) (f3 : 1 * opened_0 + 0 ≤ 0) (f4 : (-1) * opened_0 + 0 ≤ 0) (f5 : (-1) * x8 + ((-1) * cur_0 + 0) ≤ (-2011)) (f6 : SBL (fault_0) (cur_0) (styleKind_0) (limit_0) (tokenKind_0) (tokenValue_0) (tokenPlace_0) (tokenEnd_0) (tape_0) (x1) (x2) (x3)) (f7 : 1 * x3 + 0 ≤ 0) (f8 : (-1) * x3 + 0 ≤ 0) (hK_0_1 : ∀ j : Int, 0 ≤ j → j < 2000 → (-128) ≤ tape_0 j ∧ tape_0 j ≤ 127) (hK_0_160 : ∀ j : Int, 0 ≤ j → j < 2010 → 0 ≤ tokenKind_0 j ∧ tokenKind_0 j ≤ 4) (hK_0_162 : ∀ j : Int, 0 ≤ j → j < 2010 → 0 ≤ tokenPlace_0 j ∧ tokenPlace_0 j ≤ 2000) (hK_0_163 : ∀ j : Int, 0 ≤ j → j < 2010 → 0 ≤ tokenEnd_0 j ∧ tokenEnd_0 j ≤ 2000) (kz_0_8 : 0 ≤ fault_0 ∧ fault_0 ≤ 5) (kz_0_10 : 0 ≤ limit_0 ∧ limit_0 ≤ 2000) (kz_0_157 : 0 ≤ tokens_0 ∧ tokens_0 ≤ 2010) (kz_0_158 : 0 ≤ cur_0 ∧ cur_0 ≤ 2009) (kz_0_159 : 0 ≤ opened_0 ∧ opened_0 ≤ 13) (kz_0_164 : 0 ≤ styleKind_0 ∧ styleKind_0 ≤ 1) (kz_0_165 : (-1) ≤ styleOne_0 ∧ styleOne_0 ≤ 47) (ex2 : gx = 2010 + ((-1) * cur_0 + 0)) (ex3 : 0 ≤ gx ∧ gx ≤ 2010) : (styleKind_0 = 0) → (styleOne_0 ≤ 23) := by
  first | assumption | (clear f0 f2 hK_0_1 hK_0_160 hK_0_162 hK_0_163; omega) | (clear hK_0_1 hK_0_160 hK_0_162 hK_0_163; grind) | omega | grind
set_option maxHeartbeats 4000000 in
theorem vc_Mo_both_at_f0_6_3 (x1 : Int) (x2 : Int) (x3 : Int) (x8 : Int) (tokenKind_0 : Int → Int) (cur_0 : Int) (tokens_0 : Int) (styleKind_0 : Int) (styleOne_0 : Int) (opened_0 : Int) (tokenValue_0 : Int → Int) (tokenPlace_0 : Int → Int) (tokenEnd_0 : Int → Int) (tape_0 : Int → Int) (fault_0 : Int) (limit_0 : Int) (gx : Int) (k1 : 0 ≤ x1 ∧ x1 ≤ 2009) (k2 : 0 ≤ x2 ∧ x2 ≤ 5) (k3 : 0 ≤ x3 ∧ x3 ≤ 13) (k8 : 0 ≤ x8 ∧ x8 ≤ 2010) (f0 : ((cur_0 + 1) ≤ tokens_0) ∧ ((tokens_0 ≤ 2010) ∧ ((tokenKind_0 ((tokens_0 - 1)) = 0) ∨ (tokenKind_0 ((tokens_0 - 1)) = 4)))) (f1 : 1 * x1 + ((-1) * cur_0 + 0) ≤ 0) (f2 : (styleKind_0 = 0) → (styleOne_0 ≤ 23)) (f3 : 1 * opened_0 + 0 ≤ 0) (f4 : (-1) * opened_0 + 0 ≤ 0) (f5 : (-1) * x8 + ((-1) * cur_0 + 0) ≤ (-2011)) (f6 : SBL (fault_0) (cur_0) (styleKind_0) (limit_0) (tokenKind_0) (tokenValue_0) (tokenPlace_0) (tokenEnd_0) (tape_0) (x1) (x2) (x3)) (f7 : 1 * x3 + 0 ≤ 0) (f8 : (-1) * x3 + 0 ≤ 0) (hK_0_1 : ∀ j : Int, 0 ≤ j → j < 2000 → (-128) ≤ tape_0 j ∧ tape_0 j ≤ 127) (hK_0_160 : ∀ j : Int, 0 ≤ j → j < 2010 → 0 ≤ tokenKind_0 j ∧ tokenKind_0 j ≤ 4) (hK_0_162 : ∀ j : Int, 0 ≤ j → j < 2010 → 0 ≤ tokenPlace_0 j ∧ tokenPlace_0 j ≤ 2000) (hK_0_163 : ∀ j : Int, 0 ≤ j → j < 2010 → 0 ≤ tokenEnd_0 j ∧ tokenEnd_0 j ≤ 2000) (kz_0_8 : 0 ≤ fault_0 ∧ fault_0 ≤ 5) (kz_0_10 : 0 ≤ limit_0 ∧ limit_0 ≤ 2000) (kz_0_157 : 0 ≤ tokens_0 ∧ tokens_0 ≤ 2010) (kz_0_158 : 0 ≤ cur_0 ∧ cur_0 ≤ 2009) (kz_0_159 : 0 ≤ opened_0 ∧ opened_0 ≤ 13) (kz_0_164 : 0 ≤ styleKind_0 ∧ styleKind_0 ≤ 1) (kz_0_165 : (-1) ≤ styleOne_0 ∧ styleOne_0 ≤ 47) (ex2 : gx = 2010 + ((-1) * cur_0 + 0)) (ex3 : 0 ≤ gx ∧ gx ≤ 2010) : 1 * opened_0 + 0 ≤ 0 := by
  first | assumption | (clear f0 f2 hK_0_1 hK_0_160 hK_0_162 hK_0_163; omega) | (clear hK_0_1 hK_0_160 hK_0_162 hK_0_163; grind) | omega | grind
set_option maxHeartbeats 4000000 in
theorem vc_Mo_both_at_f0_6_4 (x1 : Int) (x2 : Int) (x3 : Int) (x8 : Int) (tokenKind_0 : Int → Int) (cur_0 : Int) (tokens_0 : Int) (styleKind_0 : Int) (styleOne_0 : Int) (opened_0 : Int) (tokenValue_0 : Int → Int) (tokenPlace_0 : Int → Int) (tokenEnd_0 : Int → Int) (tape_0 : Int → Int) (fault_0 : Int) (limit_0 : Int) (gx : Int) (k1 : 0 ≤ x1 ∧ x1 ≤ 2009) (k2 : 0 ≤ x2 ∧ x2 ≤ 5) (k3 : 0 ≤ x3 ∧ x3 ≤ 13) (k8 : 0 ≤ x8 ∧ x8 ≤ 2010) (f0 : ((cur_0 + 1) ≤ tokens_0) ∧ ((tokens_0 ≤ 2010) ∧ ((tokenKind_0 ((tokens_0 - 1)) = 0) ∨ (tokenKind_0 ((tokens_0 - 1)) = 4)))) (f1 : 1 * x1 + ((-1) * cur_0 + 0) ≤ 0) (f2 : (styleKind_0 = 0) → (styleOne_0 ≤ 23)) (f3 : 1 * opened_0 + 0 ≤ 0) (f4 : (-1) * opened_0 + 0 ≤ 0) (f5 : (-1) * x8 + ((-1) * cur_0 + 0) ≤ (-2011)) (f6 : SBL (fault_0) (cur_0) (styleKind_0) (limit_0) (tokenKind_0) (tokenValue_0) (tokenPlace_0) (tokenEnd_0) (tape_0) (x1) (x2) (x3)) (f7 : 1 * x3 + 0 ≤ 0) (f8 : (-1) * x3 + 0 ≤ 0) (hK_0_1 : ∀ j : Int, 0 ≤ j → j < 2000 → (-128) ≤ tape_0 j ∧ tape_0 j ≤ 127) (hK_0_160 : ∀ j : Int, 0 ≤ j → j < 2010 → 0 ≤ tokenKind_0 j ∧ tokenKind_0 j ≤ 4) (hK_0_162 : ∀ j : Int, 0 ≤ j → j < 2010 → 0 ≤ tokenPlace_0 j ∧ tokenPlace_0 j ≤ 2000) (hK_0_163 : ∀ j : Int, 0 ≤ j → j < 2010 → 0 ≤ tokenEnd_0 j ∧ tokenEnd_0 j ≤ 2000) (kz_0_8 : 0 ≤ fault_0 ∧ fault_0 ≤ 5) (kz_0_10 : 0 ≤ limit_0 ∧ limit_0 ≤ 2000) (kz_0_157 : 0 ≤ tokens_0 ∧ tokens_0 ≤ 2010) (kz_0_158 : 0 ≤ cur_0 ∧ cur_0 ≤ 2009) (kz_0_159 : 0 ≤ opened_0 ∧ opened_0 ≤ 13) (kz_0_164 : 0 ≤ styleKind_0 ∧ styleKind_0 ≤ 1) (kz_0_165 : (-1) ≤ styleOne_0 ∧ styleOne_0 ≤ 47) (ex2 : gx = 2010 + ((-1) * cur_0 + 0)) (ex3 : 0 ≤ gx ∧ gx ≤ 2010) : (-1) * opened_0 + 0 ≤ 0 := by
  first | assumption | (clear f0 f2 hK_0_1 hK_0_160 hK_0_162 hK_0_163; omega) | (clear hK_0_1 hK_0_160 hK_0_162 hK_0_163; grind) | omega | grind
set_option maxHeartbeats 4000000 in
theorem vc_Mo_both_at_f0_6_5 (x1 : Int) (x2 : Int) (x3 : Int) (tokenKind_0 : Int → Int) (cur_0 : Int) (styleKind_0 : Int) (tokenValue_0 : Int → Int) (tokenPlace_0 : Int → Int) (tokenEnd_0 : Int → Int) (tape_0 : Int → Int) (fault_0 : Int) (limit_0 : Int) (k1 : 0 ≤ x1 ∧ x1 ≤ 2009) (k2 : 0 ≤ x2 ∧ x2 ≤ 5) (k3 : 0 ≤ x3 ∧ x3 ≤ 13) (f6 : SBL (fault_0) (cur_0) (styleKind_0) (limit_0) (tokenKind_0) (tokenValue_0) (tokenPlace_0) (tokenEnd_0) (tape_0) (x1) (x2) (x3)) (kz_0_8 : 0 ≤ fault_0 ∧ fault_0 ≤ 5) (kz_0_10 : 0 ≤ limit_0 ∧ limit_0 ≤ 2000) (kz_0_158 : 0 ≤ cur_0 ∧ cur_0 ≤ 2009) (kz_0_164 : 0 ≤ styleKind_0 ∧ styleKind_0 ≤ 1) : SBL (fault_0) (cur_0) (styleKind_0) (limit_0) (tokenKind_0) (tokenValue_0) (tokenPlace_0) (tokenEnd_0) (tape_0) (x1) (x2) (x3) := by
  first
    | exact sbl_start (‹SON _ _ _ _ _ _ _ _ _ _ _ _›) (by omega) (by omega) (by omega) (by omega)
    | exact sbl_go (‹GBL _ _ _ _ _ _ _ _ _ _ _ _›) (‹SON _ _ _ _ _ _ _ _ _ _ _ _›) (by omega) (by omega) (by omega)
    | assumption
  
set_option maxHeartbeats 4000000 in
theorem vc_Mo_both_at_f0_6_6 (x1 : Int) (x2 : Int) (x3 : Int) (x8 : Int) (tokenKind_0 : Int → Int) (cur_0 : Int) (tokens_0 : Int) (styleKind_0 : Int) (styleOne_0 : Int) (opened_0 : Int) (tokenValue_0 : Int → Int) (tokenPlace_0 : Int → Int) (tokenEnd_0 : Int → Int) (tape_0 : Int → Int) (fault_0 : Int) (limit_0 : Int) (gx : Int) (k1 : 0 ≤ x1 ∧ x1 ≤ 2009) (k2 : 0 ≤ x2 ∧ x2 ≤ 5) (k3 : 0 ≤ x3 ∧ x3 ≤ 13) (k8 : 0 ≤ x8 ∧ x8 ≤ 2010) (f0 : ((cur_0 + 1) ≤ tokens_0) ∧ ((tokens_0 ≤ 2010) ∧ ((tokenKind_0 ((tokens_0 - 1)) = 0) ∨ (tokenKind_0 ((tokens_0 - 1)) = 4)))) (f1 : 1 * x1 + ((-1) * cur_0 + 0) ≤ 0) (f2 : (styleKind_0 = 0) → (styleOne_0 ≤ 23)) (f3 : 1 * opened_0 + 0 ≤ 0) (f4 : (-1) * opened_0 + 0 ≤ 0) (f5 : (-1) * x8 + ((-1) * cur_0 + 0) ≤ (-2011)) (f6 : SBL (fault_0) (cur_0) (styleKind_0) (limit_0) (tokenKind_0) (tokenValue_0) (tokenPlace_0) (tokenEnd_0) (tape_0) (x1) (x2) (x3)) (f7 : 1 * x3 + 0 ≤ 0) (f8 : (-1) * x3 + 0 ≤ 0) (hK_0_1 : ∀ j : Int, 0 ≤ j → j < 2000 → (-128) ≤ tape_0 j ∧ tape_0 j ≤ 127) (hK_0_160 : ∀ j : Int, 0 ≤ j → j < 2010 → 0 ≤ tokenKind_0 j ∧ tokenKind_0 j ≤ 4) (hK_0_162 : ∀ j : Int, 0 ≤ j → j < 2010 → 0 ≤ tokenPlace_0 j ∧ tokenPlace_0 j ≤ 2000) (hK_0_163 : ∀ j : Int, 0 ≤ j → j < 2010 → 0 ≤ tokenEnd_0 j ∧ tokenEnd_0 j ≤ 2000) (kz_0_8 : 0 ≤ fault_0 ∧ fault_0 ≤ 5) (kz_0_10 : 0 ≤ limit_0 ∧ limit_0 ≤ 2000) (kz_0_157 : 0 ≤ tokens_0 ∧ tokens_0 ≤ 2010) (kz_0_158 : 0 ≤ cur_0 ∧ cur_0 ≤ 2009) (kz_0_159 : 0 ≤ opened_0 ∧ opened_0 ≤ 13) (kz_0_164 : 0 ≤ styleKind_0 ∧ styleKind_0 ≤ 1) (kz_0_165 : (-1) ≤ styleOne_0 ∧ styleOne_0 ≤ 47) (ex2 : gx = 2010 + ((-1) * cur_0 + 0)) (ex3 : 0 ≤ gx ∧ gx ≤ 2010) : 1 * x3 + 0 ≤ 0 := by
  first | assumption | (clear f0 f2 hK_0_1 hK_0_160 hK_0_162 hK_0_163; omega) | (clear hK_0_1 hK_0_160 hK_0_162 hK_0_163; grind) | omega | grind
set_option maxHeartbeats 4000000 in
theorem vc_Mo_both_at_f0_6_7 (x1 : Int) (x2 : Int) (x3 : Int) (x8 : Int) (tokenKind_0 : Int → Int) (cur_0 : Int) (tokens_0 : Int) (styleKind_0 : Int) (styleOne_0 : Int) (opened_0 : Int) (tokenValue_0 : Int → Int) (tokenPlace_0 : Int → Int) (tokenEnd_0 : Int → Int) (tape_0 : Int → Int) (fault_0 : Int) (limit_0 : Int) (gx : Int) (k1 : 0 ≤ x1 ∧ x1 ≤ 2009) (k2 : 0 ≤ x2 ∧ x2 ≤ 5) (k3 : 0 ≤ x3 ∧ x3 ≤ 13) (k8 : 0 ≤ x8 ∧ x8 ≤ 2010) (f0 : ((cur_0 + 1) ≤ tokens_0) ∧ ((tokens_0 ≤ 2010) ∧ ((tokenKind_0 ((tokens_0 - 1)) = 0) ∨ (tokenKind_0 ((tokens_0 - 1)) = 4)))) (f1 : 1 * x1 + ((-1) * cur_0 + 0) ≤ 0) (f2 : (styleKind_0 = 0) → (styleOne_0 ≤ 23)) (f3 : 1 * opened_0 + 0 ≤ 0) (f4 : (-1) * opened_0 + 0 ≤ 0) (f5 : (-1) * x8 + ((-1) * cur_0 + 0) ≤ (-2011)) (f6 : SBL (fault_0) (cur_0) (styleKind_0) (limit_0) (tokenKind_0) (tokenValue_0) (tokenPlace_0) (tokenEnd_0) (tape_0) (x1) (x2) (x3)) (f7 : 1 * x3 + 0 ≤ 0) (f8 : (-1) * x3 + 0 ≤ 0) (hK_0_1 : ∀ j : Int, 0 ≤ j → j < 2000 → (-128) ≤ tape_0 j ∧ tape_0 j ≤ 127) (hK_0_160 : ∀ j : Int, 0 ≤ j → j < 2010 → 0 ≤ tokenKind_0 j ∧ tokenKind_0 j ≤ 4) (hK_0_162 : ∀ j : Int, 0 ≤ j → j < 2010 → 0 ≤ tokenPlace_0 j ∧ tokenPlace_0 j ≤ 2000) (hK_0_163 : ∀ j : Int, 0 ≤ j → j < 2010 → 0 ≤ tokenEnd_0 j ∧ tokenEnd_0 j ≤ 2000) (kz_0_8 : 0 ≤ fault_0 ∧ fault_0 ≤ 5) (kz_0_10 : 0 ≤ limit_0 ∧ limit_0 ≤ 2000) (kz_0_157 : 0 ≤ tokens_0 ∧ tokens_0 ≤ 2010) (kz_0_158 : 0 ≤ cur_0 ∧ cur_0 ≤ 2009) (kz_0_159 : 0 ≤ opened_0 ∧ opened_0 ≤ 13) (kz_0_164 : 0 ≤ styleKind_0 ∧ styleKind_0 ≤ 1) (kz_0_165 : (-1) ≤ styleOne_0 ∧ styleOne_0 ≤ 47) (ex2 : gx = 2010 + ((-1) * cur_0 + 0)) (ex3 : 0 ≤ gx ∧ gx ≤ 2010) : (-1) * x3 + 0 ≤ 0 := by
  first | assumption | (clear f0 f2 hK_0_1 hK_0_160 hK_0_162 hK_0_163; omega) | (clear hK_0_1 hK_0_160 hK_0_162 hK_0_163; grind) | omega | grind
set_option maxHeartbeats 4000000 in
theorem vc_Mo_both_at_f0_6_9 (x1 : Int) (x2 : Int) (x3 : Int) (x8 : Int) (tokenKind_0 : Int → Int) (cur_0 : Int) (tokens_0 : Int) (styleKind_0 : Int) (styleOne_0 : Int) (opened_0 : Int) (tokenValue_0 : Int → Int) (tokenPlace_0 : Int → Int) (tokenEnd_0 : Int → Int) (tape_0 : Int → Int) (fault_0 : Int) (limit_0 : Int) (gx : Int) (k1 : 0 ≤ x1 ∧ x1 ≤ 2009) (k2 : 0 ≤ x2 ∧ x2 ≤ 5) (k3 : 0 ≤ x3 ∧ x3 ≤ 13) (k8 : 0 ≤ x8 ∧ x8 ≤ 2010) (f0 : ((cur_0 + 1) ≤ tokens_0) ∧ ((tokens_0 ≤ 2010) ∧ ((tokenKind_0 ((tokens_0 - 1)) = 0) ∨ (tokenKind_0 ((tokens_0 - 1)) = 4)))) (f1 : 1 * x1 + ((-1) * cur_0 + 0) ≤ 0) (f2 : (styleKind_0 = 0) → (styleOne_0 ≤ 23)) (f3 : 1 * opened_0 + 0 ≤ 0) (f4 : (-1) * opened_0 + 0 ≤ 0) (f5 : (-1) * x8 + ((-1) * cur_0 + 0) ≤ (-2011)) (f6 : SBL (fault_0) (cur_0) (styleKind_0) (limit_0) (tokenKind_0) (tokenValue_0) (tokenPlace_0) (tokenEnd_0) (tape_0) (x1) (x2) (x3)) (f7 : 1 * x3 + 0 ≤ 0) (f8 : (-1) * x3 + 0 ≤ 0) (hK_0_1 : ∀ j : Int, 0 ≤ j → j < 2000 → (-128) ≤ tape_0 j ∧ tape_0 j ≤ 127) (hK_0_160 : ∀ j : Int, 0 ≤ j → j < 2010 → 0 ≤ tokenKind_0 j ∧ tokenKind_0 j ≤ 4) (hK_0_162 : ∀ j : Int, 0 ≤ j → j < 2010 → 0 ≤ tokenPlace_0 j ∧ tokenPlace_0 j ≤ 2000) (hK_0_163 : ∀ j : Int, 0 ≤ j → j < 2010 → 0 ≤ tokenEnd_0 j ∧ tokenEnd_0 j ≤ 2000) (kz_0_8 : 0 ≤ fault_0 ∧ fault_0 ≤ 5) (kz_0_10 : 0 ≤ limit_0 ∧ limit_0 ≤ 2000) (kz_0_157 : 0 ≤ tokens_0 ∧ tokens_0 ≤ 2010) (kz_0_158 : 0 ≤ cur_0 ∧ cur_0 ≤ 2009) (kz_0_159 : 0 ≤ opened_0 ∧ opened_0 ≤ 13) (kz_0_164 : 0 ≤ styleKind_0 ∧ styleKind_0 ≤ 1) (kz_0_165 : (-1) ≤ styleOne_0 ∧ styleOne_0 ≤ 47) (ex2 : gx = 2010 + ((-1) * cur_0 + 0)) (ex3 : 0 ≤ gx ∧ gx ≤ 2010) : 1 * gx + (1 * cur_0 + 0) ≤ 2010 := by
  first | assumption | (clear f0 f2 hK_0_1 hK_0_160 hK_0_162 hK_0_163; omega) | (clear hK_0_1 hK_0_160 hK_0_162 hK_0_163; grind) | omega | grind
set_option maxHeartbeats 4000000 in
theorem vc_Mo_both_at_f0_6_10 (x1 : Int) (x2 : Int) (x3 : Int) (x8 : Int) (tokenKind_0 : Int → Int) (cur_0 : Int) (tokens_0 : Int) (styleKind_0 : Int) (styleOne_0 : Int) (opened_0 : Int) (tokenValue_0 : Int → Int) (tokenPlace_0 : Int → Int) (tokenEnd_0 : Int → Int) (tape_0 : Int → Int) (fault_0 : Int) (limit_0 : Int) (gx : Int) (k1 : 0 ≤ x1 ∧ x1 ≤ 2009) (k2 : 0 ≤ x2 ∧ x2 ≤ 5) (k3 : 0 ≤ x3 ∧ x3 ≤ 13) (k8 : 0 ≤ x8 ∧ x8 ≤ 2010) (f0 : ((cur_0 + 1) ≤ tokens_0) ∧ ((tokens_0 ≤ 2010) ∧ ((tokenKind_0 ((tokens_0 - 1)) = 0) ∨ (tokenKind_0 ((tokens_0 - 1)) = 4)))) (f1 : 1 * x1 + ((-1) * cur_0 + 0) ≤ 0) (f2 : (styleKind_0 = 0) → (styleOne_0 ≤ 23)) (f3 : 1 * opened_0 + 0 ≤ 0) (f4 : (-1) * opened_0 + 0 ≤ 0) (f5 : (-1) * x8 + ((-1) * cur_0 + 0) ≤ (-2011)) (f6 : SBL (fault_0) (cur_0) (styleKind_0) (limit_0) (tokenKind_0) (tokenValue_0) (tokenPlace_0) (tokenEnd_0) (tape_0) (x1) (x2) (x3)) (f7 : 1 * x3 + 0 ≤ 0) (f8 : (-1) * x3 + 0 ≤ 0) (hK_0_1 : ∀ j : Int, 0 ≤ j → j < 2000 → (-128) ≤ tape_0 j ∧ tape_0 j ≤ 127) (hK_0_160 : ∀ j : Int, 0 ≤ j → j < 2010 → 0 ≤ tokenKind_0 j ∧ tokenKind_0 j ≤ 4) (hK_0_162 : ∀ j : Int, 0 ≤ j → j < 2010 → 0 ≤ tokenPlace_0 j ∧ tokenPlace_0 j ≤ 2000) (hK_0_163 : ∀ j : Int, 0 ≤ j → j < 2010 → 0 ≤ tokenEnd_0 j ∧ tokenEnd_0 j ≤ 2000) (kz_0_8 : 0 ≤ fault_0 ∧ fault_0 ≤ 5) (kz_0_10 : 0 ≤ limit_0 ∧ limit_0 ≤ 2000) (kz_0_157 : 0 ≤ tokens_0 ∧ tokens_0 ≤ 2010) (kz_0_158 : 0 ≤ cur_0 ∧ cur_0 ≤ 2009) (kz_0_159 : 0 ≤ opened_0 ∧ opened_0 ≤ 13) (kz_0_164 : 0 ≤ styleKind_0 ∧ styleKind_0 ≤ 1) (kz_0_165 : (-1) ≤ styleOne_0 ∧ styleOne_0 ≤ 47) (ex2 : gx = 2010 + ((-1) * cur_0 + 0)) (ex3 : 0 ≤ gx ∧ gx ≤ 2010) : (-1) * gx + ((-1) * cur_0 + 0) ≤ (-2010) := by
  first | assumption | (clear f0 f2 hK_0_1 hK_0_160 hK_0_162 hK_0_163; omega) | (clear hK_0_1 hK_0_160 hK_0_162 hK_0_163; grind) | omega | grind
def o_Mo_both_at_f0_6 : or_T := (5, 9, [(0, (2, 0, 0, [165])), (1, (0, 0, 2009, [])), (2, (0, 0, 5, [])), (3, (0, 0, 13, [])), (4, (2, 0, 0, [165])), (8, (0, 0, 2010, []))], [(20, [4], [50, 2, 1, 158, 157, 160, 2, 12, 0, 7, 4, 3, 2, 0, 158, 0, 1, 2, 0, 157, 2, 7, 0, 3, 2, 0, 157, 0, 2010, 3, 14, 1, 10, 3, 0, 160, 5, 3, 2, 0, 157, 0, 1, 0, 0, 1, 10, 3, 0, 160, 5, 3, 2, 0, 157, 0, 1, 0, 4]), (20, [1, 4], [30, 0, 1, 0, 0, -1, 1, 158]), (20, [4], [50, 2, 0, 164, 165, 4, 7, 1, 3, 2, 0, 164, 0, 0, 0, 3, 2, 0, 165, 0, 23]), (20, [4], [30, 0, 1, 1, 159]), (20, [4], [30, 0, -1, 1, 159]), (20, [8, 4], [30, -2011, -1, 0, 0, -1, 1, 158]), (20, [4, 1, 2, 3], [60, 4, 5, 8, 8, 158, 164, 10, 160, 161, 162, 163, 1]), (23, [3], [0, 1]), (23, [3], [0, -1]), (24, [0, 4], [])], [], [(0, 0, 2010, [])], [(20, [4], [50, 2, 1, 158, 157, 160, 2, 12, 0, 7, 4, 3, 2, 0, 158, 0, 1, 2, 0, 157, 2, 7, 0, 3, 2, 0, 157, 0, 2010, 3, 14, 1, 10, 3, 0, 160, 5, 3, 2, 0, 157, 0, 1, 0, 0, 1, 10, 3, 0, 160, 5, 3, 2, 0, 157, 0, 1, 0, 4]), (20, [1, 4], [30, 0, 1, 0, 0, -1, 1, 158]), (20, [4], [50, 2, 0, 164, 165, 4, 7, 1, 3, 2, 0, 164, 0, 0, 0, 3, 2, 0, 165, 0, 23]), (20, [4], [30, 0, 1, 1, 159]), (20, [4], [30, 0, -1, 1, 159]), (20, [4, 1, 2, 3], [60, 4, 5, 8, 8, 158, 164, 10, 160, 161, 162, 163, 1]), (23, [3], [0, 1]), (23, [3], [0, -1]), (24, [0, 4], []), (20, [9, 4], [30, 2010, 1, 0, 0, 1, 1, 158]), (20, [9, 4], [30, -2010, -1, 0, 0, -1, 1, 158])], [(9, 8, -1000000000000, -1)], [])
theorem oo_Mo_both_at_f0_6 {kA : Nat → ClassId} : or_ok PRD kA GG o_Mo_both_at_f0_6 := by
  refine or_mk fun A ta ws vs hD hth hl => ?_
  intro t0 r0 t1 k1 t2 k2 t3 k3 t4 r4 t8 k8 f0 f1 f2 f3 f4 f5 f6 f7 f8 f9
  replace f0 := shm_296 f0
  replace f1 := shm_306 f1
  replace f2 := shm_299 f2
  replace f3 := shm_999 f3
  replace f4 := shm_1000 f4
  replace f5 := shm_317 f5
  replace f6 := shm_308 f6
  replace f7 := shm_1477 f7
  replace f8 := shm_1013 f8
  replace f9 := shm_5 f9
  have q4 : n_v vs 4 = n_v vs 0 := f9.symm
  simp only [q4] at f0 f1 f2 f3 f4 f5 f6
  have cr_0_1 := fdq_46 hD hth r0
  have cr_0_160 := fdq_41 hD hth r0
  have cr_0_161 := fdq_47 hD hth r0
  have cr_0_162 := fdq_48 hD hth r0
  have cr_0_163 := fdq_49 hD hth r0
  have hK_0_1 := elq_6 hD hth cr_0_1
  have hK_0_160 := elq_5 hD hth cr_0_160
  have hK_0_162 := elq_7 hD hth cr_0_162
  have hK_0_163 := elq_8 hD hth cr_0_163
  have kz_0_8 := fdq_14 hD hth r0
  have kz_0_10 := fdq_50 hD hth r0
  have kz_0_157 := fdq_42 hD hth r0
  have kz_0_158 := fdq_43 hD hth r0
  have kz_0_159 := fdq_44 hD hth r0
  have kz_0_164 := fdq_45 hD hth r0
  have kz_0_165 := fdq_35 hD hth r0
  have kb_0_158 := fdq_43 hD hth r0
  obtain ⟨x, ex, hx⟩ := iv_ex (ta := ta) (lo := 0) (hi := 2010) (z := 2010 + ((-1) * w_fi ws (n_v vs 0) 158 + 0)) (by omega) (by omega) (by omega) (by omega)
  have ex2 : v_iv (Value.int x) = 2010 + ((-1) * w_fi ws (n_v vs 0) 158 + 0) := ex
  have ex3 : 0 ≤ v_iv (Value.int x) ∧ v_iv (Value.int x) ≤ 2010 := tv_rng hx
  have e_0 : n_v (vs ++ [Value.int x]) 0 = n_v vs 0 := n_v_old (by rw [hl]; decide)
  have e_1 : n_v (vs ++ [Value.int x]) 1 = n_v vs 1 := n_v_old (by rw [hl]; decide)
  have e_2 : n_v (vs ++ [Value.int x]) 2 = n_v vs 2 := n_v_old (by rw [hl]; decide)
  have e_3 : n_v (vs ++ [Value.int x]) 3 = n_v vs 3 := n_v_old (by rw [hl]; decide)
  have e_4 : n_v (vs ++ [Value.int x]) 4 = n_v vs 4 := n_v_old (by rw [hl]; decide)
  have e_9 : n_v (vs ++ [Value.int x]) 9 = Value.int x := n_v_new hl
  have nf0 : fc_1 PRD (20, [4], [50, 2, 1, 158, 157, 160, 2, 12, 0, 7, 4, 3, 2, 0, 158, 0, 1, 2, 0, 157, 2, 7, 0, 3, 2, 0, 157, 0, 2010, 3, 14, 1, 10, 3, 0, 160, 5, 3, 2, 0, 157, 0, 1, 0, 0, 1, 10, 3, 0, 160, 5, 3, 2, 0, 157, 0, 1, 0, 4]) ws (vs ++ [Value.int x]) := by
    refine ⟨nf_inA hl rfl, sgq_296 ?_⟩
    · show ((w_fi ws (n_v (vs ++ [Value.int x]) 4) 158 + 1) ≤ w_fi ws (n_v (vs ++ [Value.int x]) 4) 157) ∧ ((w_fi ws (n_v (vs ++ [Value.int x]) 4) 157 ≤ 2010) ∧ ((w_ei ws (w_ar ws (n_v (vs ++ [Value.int x]) 4) 160) ((w_fi ws (n_v (vs ++ [Value.int x]) 4) 157 - 1)) = 0) ∨ (w_ei ws (w_ar ws (n_v (vs ++ [Value.int x]) 4) 160) ((w_fi ws (n_v (vs ++ [Value.int x]) 4) 157 - 1)) = 4)))
      simp only [e_4, q4]
      exact vc_Mo_both_at_f0_6_0 (v_iv (n_v vs 1)) (v_iv (n_v vs 2)) (v_iv (n_v vs 3)) (v_iv (n_v vs 8)) (w_ei ws (w_ar ws (n_v vs 0) 160)) (w_fi ws (n_v vs 0) 158) (w_fi ws (n_v vs 0) 157) (w_fi ws (n_v vs 0) 164) (w_fi ws (n_v vs 0) 165) (w_fi ws (n_v vs 0) 159) (w_ei ws (w_ar ws (n_v vs 0) 161)) (w_ei ws (w_ar ws (n_v vs 0) 162)) (w_ei ws (w_ar ws (n_v vs 0) 163)) (w_ei ws (w_ar ws (n_v vs 0) 1)) (w_fi ws (n_v vs 0) 8) (w_fi ws (n_v vs 0) 10) (v_iv (Value.int x)) k1 k2 k3 k8 f0 f1 f2 f3 f4 f5 f6 f7 f8 hK_0_1 hK_0_160 hK_0_162 hK_0_163 kz_0_8 kz_0_10 kz_0_157 kz_0_158 kz_0_159 kz_0_164 kz_0_165 ex2 ex3
  have nf1 : fc_1 PRD (20, [1, 4], [30, 0, 1, 0, 0, -1, 1, 158]) ws (vs ++ [Value.int x]) := by
    refine ⟨nf_inA hl rfl, sgq_306 ?_⟩
    · show 1 * v_iv (n_v (vs ++ [Value.int x]) 1) + ((-1) * w_fi ws (n_v (vs ++ [Value.int x]) 4) 158 + 0) ≤ 0
      simp only [e_1, e_4, q4]
      exact vc_Mo_both_at_f0_6_1 (v_iv (n_v vs 1)) (v_iv (n_v vs 2)) (v_iv (n_v vs 3)) (v_iv (n_v vs 8)) (w_ei ws (w_ar ws (n_v vs 0) 160)) (w_fi ws (n_v vs 0) 158) (w_fi ws (n_v vs 0) 157) (w_fi ws (n_v vs 0) 164) (w_fi ws (n_v vs 0) 165) (w_fi ws (n_v vs 0) 159) (w_ei ws (w_ar ws (n_v vs 0) 161)) (w_ei ws (w_ar ws (n_v vs 0) 162)) (w_ei ws (w_ar ws (n_v vs 0) 163)) (w_ei ws (w_ar ws (n_v vs 0) 1)) (w_fi ws (n_v vs 0) 8) (w_fi ws (n_v vs 0) 10) (v_iv (Value.int x)) k1 k2 k3 k8 f0 f1 f2 f3 f4 f5 f6 f7 f8 hK_0_1 hK_0_160 hK_0_162 hK_0_163 kz_0_8 kz_0_10 kz_0_157 kz_0_158 kz_0_159 kz_0_164 kz_0_165 ex2 ex3
  have nf2 : fc_1 PRD (20, [4], [50, 2, 0, 164, 165, 4, 7, 1, 3, 2, 0, 164, 0, 0, 0, 3, 2, 0, 165, 0, 23]) ws (vs ++ [Value.int x]) := by
    refine ⟨nf_inA hl rfl, sgq_299 ?_⟩
    · show (w_fi ws (n_v (vs ++ [Value.int x]) 4) 164 = 0) → (w_fi ws (n_v (vs ++ [Value.int x]) 4) 165 ≤ 23)
      simp only [e_4, q4]
      exact vc_Mo_both_at_f0_6_2 (v_iv (n_v vs 1)) (v_iv (n_v vs 2)) (v_iv (n_v vs 3)) (v_iv (n_v vs 8)) (w_ei ws (w_ar ws (n_v vs 0) 160)) (w_fi ws (n_v vs 0) 158) (w_fi ws (n_v vs 0) 157) (w_fi ws (n_v vs 0) 164) (w_fi ws (n_v vs 0) 165) (w_fi ws (n_v vs 0) 159) (w_ei ws (w_ar ws (n_v vs 0) 161)) (w_ei ws (w_ar ws (n_v vs 0) 162)) (w_ei ws (w_ar ws (n_v vs 0) 163)) (w_ei ws (w_ar ws (n_v vs 0) 1)) (w_fi ws (n_v vs 0) 8) (w_fi ws (n_v vs 0) 10) (v_iv (Value.int x)) k1 k2 k3 k8 f0 f1 f2 f3 f4 f5 f6 f7 f8 hK_0_1 hK_0_160 hK_0_162 hK_0_163 kz_0_8 kz_0_10 kz_0_157 kz_0_158 kz_0_159 kz_0_164 kz_0_165 ex2 ex3
  have nf3 : fc_1 PRD (20, [4], [30, 0, 1, 1, 159]) ws (vs ++ [Value.int x]) := by
    refine ⟨nf_inA hl rfl, sgq_999 ?_⟩
    · show 1 * w_fi ws (n_v (vs ++ [Value.int x]) 4) 159 + 0 ≤ 0
      simp only [e_4, q4]
      exact vc_Mo_both_at_f0_6_3 (v_iv (n_v vs 1)) (v_iv (n_v vs 2)) (v_iv (n_v vs 3)) (v_iv (n_v vs 8)) (w_ei ws (w_ar ws (n_v vs 0) 160)) (w_fi ws (n_v vs 0) 158) (w_fi ws (n_v vs 0) 157) (w_fi ws (n_v vs 0) 164) (w_fi ws (n_v vs 0) 165) (w_fi ws (n_v vs 0) 159) (w_ei ws (w_ar ws (n_v vs 0) 161)) (w_ei ws (w_ar ws (n_v vs 0) 162)) (w_ei ws (w_ar ws (n_v vs 0) 163)) (w_ei ws (w_ar ws (n_v vs 0) 1)) (w_fi ws (n_v vs 0) 8) (w_fi ws (n_v vs 0) 10) (v_iv (Value.int x)) k1 k2 k3 k8 f0 f1 f2 f3 f4 f5 f6 f7 f8 hK_0_1 hK_0_160 hK_0_162 hK_0_163 kz_0_8 kz_0_10 kz_0_157 kz_0_158 kz_0_159 kz_0_164 kz_0_165 ex2 ex3
  have nf4 : fc_1 PRD (20, [4], [30, 0, -1, 1, 159]) ws (vs ++ [Value.int x]) := by
    refine ⟨nf_inA hl rfl, sgq_1000 ?_⟩
    · show (-1) * w_fi ws (n_v (vs ++ [Value.int x]) 4) 159 + 0 ≤ 0
      simp only [e_4, q4]
      exact vc_Mo_both_at_f0_6_4 (v_iv (n_v vs 1)) (v_iv (n_v vs 2)) (v_iv (n_v vs 3)) (v_iv (n_v vs 8)) (w_ei ws (w_ar ws (n_v vs 0) 160)) (w_fi ws (n_v vs 0) 158) (w_fi ws (n_v vs 0) 157) (w_fi ws (n_v vs 0) 164) (w_fi ws (n_v vs 0) 165) (w_fi ws (n_v vs 0) 159) (w_ei ws (w_ar ws (n_v vs 0) 161)) (w_ei ws (w_ar ws (n_v vs 0) 162)) (w_ei ws (w_ar ws (n_v vs 0) 163)) (w_ei ws (w_ar ws (n_v vs 0) 1)) (w_fi ws (n_v vs 0) 8) (w_fi ws (n_v vs 0) 10) (v_iv (Value.int x)) k1 k2 k3 k8 f0 f1 f2 f3 f4 f5 f6 f7 f8 hK_0_1 hK_0_160 hK_0_162 hK_0_163 kz_0_8 kz_0_10 kz_0_157 kz_0_158 kz_0_159 kz_0_164 kz_0_165 ex2 ex3
  have nf5 : fc_1 PRD (20, [4, 1, 2, 3], [60, 4, 5, 8, 8, 158, 164, 10, 160, 161, 162, 163, 1]) ws (vs ++ [Value.int x]) := by
    refine ⟨nf_inA hl rfl, sgq_308 ?_⟩
    · show SBL (w_fi ws (n_v (vs ++ [Value.int x]) 4) 8) (w_fi ws (n_v (vs ++ [Value.int x]) 4) 158) (w_fi ws (n_v (vs ++ [Value.int x]) 4) 164) (w_fi ws (n_v (vs ++ [Value.int x]) 4) 10) (w_ei ws (w_ar ws (n_v (vs ++ [Value.int x]) 4) 160)) (w_ei ws (w_ar ws (n_v (vs ++ [Value.int x]) 4) 161)) (w_ei ws (w_ar ws (n_v (vs ++ [Value.int x]) 4) 162)) (w_ei ws (w_ar ws (n_v (vs ++ [Value.int x]) 4) 163)) (w_ei ws (w_ar ws (n_v (vs ++ [Value.int x]) 4) 1)) (v_iv (n_v (vs ++ [Value.int x]) 1)) (v_iv (n_v (vs ++ [Value.int x]) 2)) (v_iv (n_v (vs ++ [Value.int x]) 3))
      simp only [e_1, e_2, e_3, e_4, q4]
      exact vc_Mo_both_at_f0_6_5 (v_iv (n_v vs 1)) (v_iv (n_v vs 2)) (v_iv (n_v vs 3)) (w_ei ws (w_ar ws (n_v vs 0) 160)) (w_fi ws (n_v vs 0) 158) (w_fi ws (n_v vs 0) 164) (w_ei ws (w_ar ws (n_v vs 0) 161)) (w_ei ws (w_ar ws (n_v vs 0) 162)) (w_ei ws (w_ar ws (n_v vs 0) 163)) (w_ei ws (w_ar ws (n_v vs 0) 1)) (w_fi ws (n_v vs 0) 8) (w_fi ws (n_v vs 0) 10) k1 k2 k3 f6 kz_0_8 kz_0_10 kz_0_158 kz_0_164
  have nf6 : fc_1 PRD (23, [3], [0, 1]) ws (vs ++ [Value.int x]) := by
    refine ⟨nf_inA hl rfl, sgq_1477 ?_⟩
    · show 1 * v_iv (n_v (vs ++ [Value.int x]) 3) + 0 ≤ 0
      rw [e_3]
      exact vc_Mo_both_at_f0_6_6 (v_iv (n_v vs 1)) (v_iv (n_v vs 2)) (v_iv (n_v vs 3)) (v_iv (n_v vs 8)) (w_ei ws (w_ar ws (n_v vs 0) 160)) (w_fi ws (n_v vs 0) 158) (w_fi ws (n_v vs 0) 157) (w_fi ws (n_v vs 0) 164) (w_fi ws (n_v vs 0) 165) (w_fi ws (n_v vs 0) 159) (w_ei ws (w_ar ws (n_v vs 0) 161)) (w_ei ws (w_ar ws (n_v vs 0) 162)) (w_ei ws (w_ar ws (n_v vs 0) 163)) (w_ei ws (w_ar ws (n_v vs 0) 1)) (w_fi ws (n_v vs 0) 8) (w_fi ws (n_v vs 0) 10) (v_iv (Value.int x)) k1 k2 k3 k8 f0 f1 f2 f3 f4 f5 f6 f7 f8 hK_0_1 hK_0_160 hK_0_162 hK_0_163 kz_0_8 kz_0_10 kz_0_157 kz_0_158 kz_0_159 kz_0_164 kz_0_165 ex2 ex3
  have nf7 : fc_1 PRD (23, [3], [0, -1]) ws (vs ++ [Value.int x]) := by
    refine ⟨nf_inA hl rfl, sgq_1013 ?_⟩
    · show (-1) * v_iv (n_v (vs ++ [Value.int x]) 3) + 0 ≤ 0
      rw [e_3]
      exact vc_Mo_both_at_f0_6_7 (v_iv (n_v vs 1)) (v_iv (n_v vs 2)) (v_iv (n_v vs 3)) (v_iv (n_v vs 8)) (w_ei ws (w_ar ws (n_v vs 0) 160)) (w_fi ws (n_v vs 0) 158) (w_fi ws (n_v vs 0) 157) (w_fi ws (n_v vs 0) 164) (w_fi ws (n_v vs 0) 165) (w_fi ws (n_v vs 0) 159) (w_ei ws (w_ar ws (n_v vs 0) 161)) (w_ei ws (w_ar ws (n_v vs 0) 162)) (w_ei ws (w_ar ws (n_v vs 0) 163)) (w_ei ws (w_ar ws (n_v vs 0) 1)) (w_fi ws (n_v vs 0) 8) (w_fi ws (n_v vs 0) 10) (v_iv (Value.int x)) k1 k2 k3 k8 f0 f1 f2 f3 f4 f5 f6 f7 f8 hK_0_1 hK_0_160 hK_0_162 hK_0_163 kz_0_8 kz_0_10 kz_0_157 kz_0_158 kz_0_159 kz_0_164 kz_0_165 ex2 ex3
  have nf8 : fc_1 PRD (24, [0, 4], []) ws (vs ++ [Value.int x]) := by
    refine ⟨nf_inA hl rfl, sgq_5 ?_⟩
    · show n_v (vs ++ [Value.int x]) 0 = n_v (vs ++ [Value.int x]) 4
      first | rfl | simp only [e_0, e_4, q4]
  have nf9 : fc_1 PRD (20, [9, 4], [30, 2010, 1, 0, 0, 1, 1, 158]) ws (vs ++ [Value.int x]) := by
    refine ⟨nf_inA hl rfl, sgq_309 ?_⟩
    · show 1 * v_iv (n_v (vs ++ [Value.int x]) 9) + (1 * w_fi ws (n_v (vs ++ [Value.int x]) 4) 158 + 0) ≤ 2010
      simp only [e_4, e_9, q4]
      exact vc_Mo_both_at_f0_6_9 (v_iv (n_v vs 1)) (v_iv (n_v vs 2)) (v_iv (n_v vs 3)) (v_iv (n_v vs 8)) (w_ei ws (w_ar ws (n_v vs 0) 160)) (w_fi ws (n_v vs 0) 158) (w_fi ws (n_v vs 0) 157) (w_fi ws (n_v vs 0) 164) (w_fi ws (n_v vs 0) 165) (w_fi ws (n_v vs 0) 159) (w_ei ws (w_ar ws (n_v vs 0) 161)) (w_ei ws (w_ar ws (n_v vs 0) 162)) (w_ei ws (w_ar ws (n_v vs 0) 163)) (w_ei ws (w_ar ws (n_v vs 0) 1)) (w_fi ws (n_v vs 0) 8) (w_fi ws (n_v vs 0) 10) (v_iv (Value.int x)) k1 k2 k3 k8 f0 f1 f2 f3 f4 f5 f6 f7 f8 hK_0_1 hK_0_160 hK_0_162 hK_0_163 kz_0_8 kz_0_10 kz_0_157 kz_0_158 kz_0_159 kz_0_164 kz_0_165 ex2 ex3
  have nf10 : fc_1 PRD (20, [9, 4], [30, -2010, -1, 0, 0, -1, 1, 158]) ws (vs ++ [Value.int x]) := by
    refine ⟨nf_inA hl rfl, sgq_310 ?_⟩
    · show (-1) * v_iv (n_v (vs ++ [Value.int x]) 9) + ((-1) * w_fi ws (n_v (vs ++ [Value.int x]) 4) 158 + 0) ≤ (-2010)
      simp only [e_4, e_9, q4]
      exact vc_Mo_both_at_f0_6_10 (v_iv (n_v vs 1)) (v_iv (n_v vs 2)) (v_iv (n_v vs 3)) (v_iv (n_v vs 8)) (w_ei ws (w_ar ws (n_v vs 0) 160)) (w_fi ws (n_v vs 0) 158) (w_fi ws (n_v vs 0) 157) (w_fi ws (n_v vs 0) 164) (w_fi ws (n_v vs 0) 165) (w_fi ws (n_v vs 0) 159) (w_ei ws (w_ar ws (n_v vs 0) 161)) (w_ei ws (w_ar ws (n_v vs 0) 162)) (w_ei ws (w_ar ws (n_v vs 0) 163)) (w_ei ws (w_ar ws (n_v vs 0) 1)) (w_fi ws (n_v vs 0) 8) (w_fi ws (n_v vs 0) 10) (v_iv (Value.int x)) k1 k2 k3 k8 f0 f1 f2 f3 f4 f5 f6 f7 f8 hK_0_1 hK_0_160 hK_0_162 hK_0_163 kz_0_8 kz_0_10 kz_0_157 kz_0_158 kz_0_159 kz_0_164 kz_0_165 ex2 ex3
  obtain ⟨x0, e0, _, _⟩ := tv_int t8 rfl
  have e1 : v_iv (n_v vs 8) = x0.toInt := by rw [e0]; rfl
  have ho : sy_ofs (vs ++ [Value.int x]) (9, 8, -1000000000000, -1) := by
    refine ⟨x, x0, by rw [List.getElem?_append_right (by rw [hl]; decide), hl]; rfl, ?_, ?_, ?_⟩
    · rw [List.getElem?_append_left (by rw [hl]; decide)]; exact n_v_some (by rw [hl]; decide) e0
    · show x0.toInt + (-1000000000000) ≤ x.toInt; omega
    · show x.toInt ≤ x0.toInt + (-1); omega
  exact ⟨(fun _ h => (by cases h)), [Value.int x], ag_one hx, List.forall_mem_cons.mpr ⟨⟨show (20 : Nat) < 100 from by decide, nf0⟩, List.forall_mem_cons.mpr ⟨⟨show (20 : Nat) < 100 from by decide, nf1⟩, List.forall_mem_cons.mpr ⟨⟨show (20 : Nat) < 100 from by decide, nf2⟩, List.forall_mem_cons.mpr ⟨⟨show (20 : Nat) < 100 from by decide, nf3⟩, List.forall_mem_cons.mpr ⟨⟨show (20 : Nat) < 100 from by decide, nf4⟩, List.forall_mem_cons.mpr ⟨⟨show (20 : Nat) < 100 from by decide, nf5⟩, List.forall_mem_cons.mpr ⟨⟨show (23 : Nat) < 100 from by decide, nf6⟩, List.forall_mem_cons.mpr ⟨⟨show (23 : Nat) < 100 from by decide, nf7⟩, List.forall_mem_cons.mpr ⟨⟨show (24 : Nat) < 100 from by decide, nf8⟩, List.forall_mem_cons.mpr ⟨⟨show (20 : Nat) < 100 from by decide, nf9⟩, List.forall_mem_cons.mpr ⟨⟨show (20 : Nat) < 100 from by decide, nf10⟩, (fun _ h => (by cases h))⟩⟩⟩⟩⟩⟩⟩⟩⟩⟩⟩, List.forall_mem_cons.mpr ⟨ho, (fun _ h => (by cases h))⟩⟩
def n_Mo_both_at_f0_an : List an_T := [(5, [(0, (2, 0, 0, [165])), (1, (0, 0, 1, []))], [], (0, 0), [(0, 0, 99995), (2, 7, 0), (0, 0, 100000)], [], [((0, 158), (0, 0, 2009, []))], [(2, 0, 0, [165]), (0, 0, 2009, []), (0, 0, 5, []), (0, 0, 13, [])], 0, [(0, 0, 2010, [])], [(20, [4], [50, 2, 1, 158, 157, 160, 2, 12, 0, 7, 4, 3, 2, 0, 158, 0, 1, 2, 0, 157, 2, 7, 0, 3, 2, 0, 157, 0, 2010, 3, 14, 1, 10, 3, 0, 160, 5, 3, 2, 0, 157, 0, 1, 0, 0, 1, 10, 3, 0, 160, 5, 3, 2, 0, 157, 0, 1, 0, 4]), (20, [1, 4], [30, 0, 1, 0, 0, (Int.negSucc 0), 1, 158]), (20, [4], [50, 2, 0, 164, 165, 4, 7, 1, 3, 2, 0, 164, 0, 0, 0, 3, 2, 0, 165, 0, 23]), (20, [4], [30, 0, 1, 1, 159]), (20, [4], [30, 0, (Int.negSucc 0), 1, 159]), (20, [4, 1, 2, 3], [60, 4, 5, 8, 8, 158, 164, 10, 160, 161, 162, 163, 1]), (23, [3], [0, 1]), (23, [3], [0, (Int.negSucc 0)]), (24, [0, 4], []), (20, [7, 4], [30, 2010, 1, 0, 0, 1, 1, 158]), (20, [7, 4], [30, (Int.negSucc 2009), (Int.negSucc 0), 0, 0, (Int.negSucc 0), 1, 158])]), (43, [(0, (2, 0, 0, [165])), (1, (0, 0, 1, [])), (2, (0, 0, 1, []))], [(0, 0, 1, [])], (0, 0), [(0, 0, 99995), (2, 8, 0), (0, 0, 99957)], [(7, 5, (Int.negSucc 999999999999), 0), (7, 6, (Int.negSucc 999999999999), 0)], [], [(2, 0, 0, [165]), (0, 0, 2009, []), (0, 0, 5, []), (0, 0, 13, [])], 0, [(0, 0, 2010, [])], [(20, [4], [50, 2, 1, 158, 157, 160, 2, 12, 0, 7, 4, 3, 2, 0, 158, 0, 1, 2, 0, 157, 2, 7, 0, 3, 2, 0, 157, 0, 2010, 3, 14, 1, 10, 3, 0, 160, 5, 3, 2, 0, 157, 0, 1, 0, 0, 1, 10, 3, 0, 160, 5, 3, 2, 0, 157, 0, 1, 0, 4]), (20, [1, 4], [30, 0, 1, 0, 0, (Int.negSucc 0), 1, 158]), (20, [4], [50, 2, 0, 164, 165, 4, 7, 1, 3, 2, 0, 164, 0, 0, 0, 3, 2, 0, 165, 0, 23]), (20, [4], [30, 0, 1, 1, 159]), (20, [4], [30, 0, (Int.negSucc 0), 1, 159]), (20, [8, 4], [30, (Int.negSucc 2010), (Int.negSucc 0), 0, 0, (Int.negSucc 0), 1, 158]), (20, [4, 1, 2, 3], [60, 4, 5, 8, 8, 158, 164, 10, 160, 161, 162, 163, 1]), (23, [3], [0, 1]), (23, [3], [0, (Int.negSucc 0)]), (24, [0, 4], [])])]
def t_Mo_both_at_f0_ct : ct_L := [(7, 1225, e_Mo_oneTest_at_f0), (31, 1190, e_Mo_word_at_s5040), (82, 1225, e_Mo_oneTest_at_f0), (1000001, 1228, en_ro [] (2, 0, 0, [5040]))]
set_option maxRecDepth 100000 in
theorem c_Mo_both_at_f0 {l : Launch} {D : va_G} {kA : Nat → ClassId} (h_Mo_oneTest_at_f0 : ct_ok PRD l D kA GG y_Mo_oneTest_at_f0 z_Mo_oneTest_at_f0 e_Mo_oneTest_at_f0) (h_Mo_word_at_s5040 : ct_ok PRD l D kA GG y_Mo_word_at_s5040 z_Mo_word_at_s5040 e_Mo_word_at_s5040) : ct_ok PRD l D kA GG y_Mo_both_at_f0 z_Mo_both_at_f0 e_Mo_both_at_f0 := chk_all_ok (FT := [(1169, 13, 158)]) (PT := [(1169, 13, 158, .int)]) (CT := t_Mo_both_at_f0_ct) (KT := []) (NT := []) (AN := n_Mo_both_at_f0_an) (OT := [o_Mo_both_at_f0_0, o_Mo_both_at_f0_1, o_Mo_both_at_f0_2, o_Mo_both_at_f0_3, o_Mo_both_at_f0_4, o_Mo_both_at_f0_5, o_Mo_both_at_f0_6]) 3 200 (List.forall_mem_cons.mpr ⟨oo_Mo_both_at_f0_0, List.forall_mem_cons.mpr ⟨oo_Mo_both_at_f0_1, List.forall_mem_cons.mpr ⟨oo_Mo_both_at_f0_2, List.forall_mem_cons.mpr ⟨oo_Mo_both_at_f0_3, List.forall_mem_cons.mpr ⟨oo_Mo_both_at_f0_4, List.forall_mem_cons.mpr ⟨oo_Mo_both_at_f0_5, List.forall_mem_cons.mpr ⟨oo_Mo_both_at_f0_6, List.forall_mem_nil _⟩⟩⟩⟩⟩⟩⟩) (by decide +kernel) ⟨List.forall_mem_cons.mpr ⟨gf_Mo_1169, List.forall_mem_nil _⟩, List.forall_mem_cons.mpr ⟨pf_Mo_1169, List.forall_mem_nil _⟩, List.forall_mem_cons.mpr ⟨cl_virtual (y := y_Mo_oneTest_at_f0) (ci := 13) rfl rfl ⟨_, _, rfl⟩ (by decide +kernel) h_Mo_oneTest_at_f0 wm_3823 wm_9 wm_3820 wm_3822 wv_23_9 ⟨by decide, by decide, by decide +kernel⟩ (by decide), List.forall_mem_cons.mpr ⟨cl_virtual (y := y_Mo_word_at_s5040) (ci := 13) rfl rfl ⟨_, _, rfl⟩ (by decide +kernel) h_Mo_word_at_s5040 wm_3809 wm_9 wm_3806 wm_3808 wv_23_6 ⟨by decide, by decide, by decide +kernel⟩ (by decide), List.forall_mem_cons.mpr ⟨cl_virtual (y := y_Mo_oneTest_at_f0) (ci := 13) rfl rfl ⟨_, _, rfl⟩ (by decide +kernel) h_Mo_oneTest_at_f0 wm_3823 wm_9 wm_3820 wm_3822 wv_23_9 ⟨by decide, by decide, by decide +kernel⟩ (by decide), List.forall_mem_cons.mpr ⟨cl_ldcw (own := "DrawingHouseModel") (idx := 1228) (i := 40) (tx := "and") (by decide +kernel) (by decide +kernel) (by decide +kernel), List.forall_mem_nil _⟩⟩⟩⟩, List.forall_mem_nil _, List.forall_mem_nil _, GG_pl⟩ (by decide +kernel)
def n_Mo_both_at_f1_an : List an_T := [(5, [(0, (2, 0, 0, [165])), (1, (0, 0, 1, []))], [], (0, 0), [(0, 0, 99995), (2, 7, 0), (0, 0, 100000)], [], [((0, 158), (0, 0, 2009, []))], [(2, 0, 0, [165]), (0, 0, 2009, []), (0, 0, 5, []), (0, 0, 13, [])], 0, [(0, 0, 2010, [])], [(20, [4], [50, 2, 1, 158, 157, 160, 2, 12, 0, 7, 4, 3, 2, 0, 158, 0, 1, 2, 0, 157, 2, 7, 0, 3, 2, 0, 157, 0, 2010, 3, 14, 1, 10, 3, 0, 160, 5, 3, 2, 0, 157, 0, 1, 0, 0, 1, 10, 3, 0, 160, 5, 3, 2, 0, 157, 0, 1, 0, 4]), (20, [1, 4], [30, 0, 1, 0, 0, (Int.negSucc 0), 1, 158]), (20, [4], [50, 2, 0, 164, 165, 4, 7, 1, 3, 2, 0, 164, 0, 0, 0, 3, 2, 0, 165, 0, 23]), (20, [4], [30, 1, 1, 1, 159]), (20, [4], [30, (Int.negSucc 0), (Int.negSucc 0), 1, 159]), (20, [4, 1, 2, 3], [60, 4, 5, 8, 8, 158, 164, 10, 160, 161, 162, 163, 1]), (23, [3], [1, 1]), (23, [3], [(Int.negSucc 0), (Int.negSucc 0)]), (24, [0, 4], []), (20, [7, 4], [30, 2010, 1, 0, 0, 1, 1, 158]), (20, [7, 4], [30, (Int.negSucc 2009), (Int.negSucc 0), 0, 0, (Int.negSucc 0), 1, 158])]), (43, [(0, (2, 0, 0, [165])), (1, (0, 0, 1, [])), (2, (0, 0, 1, []))], [(0, 0, 1, [])], (0, 0), [(0, 0, 99995), (2, 8, 0), (0, 0, 99957)], [(7, 5, (Int.negSucc 999999999999), 0), (7, 6, (Int.negSucc 999999999999), 0)], [], [(2, 0, 0, [165]), (0, 0, 2009, []), (0, 0, 5, []), (0, 0, 13, [])], 0, [(0, 0, 2010, [])], [(20, [4], [50, 2, 1, 158, 157, 160, 2, 12, 0, 7, 4, 3, 2, 0, 158, 0, 1, 2, 0, 157, 2, 7, 0, 3, 2, 0, 157, 0, 2010, 3, 14, 1, 10, 3, 0, 160, 5, 3, 2, 0, 157, 0, 1, 0, 0, 1, 10, 3, 0, 160, 5, 3, 2, 0, 157, 0, 1, 0, 4]), (20, [1, 4], [30, 0, 1, 0, 0, (Int.negSucc 0), 1, 158]), (20, [4], [50, 2, 0, 164, 165, 4, 7, 1, 3, 2, 0, 164, 0, 0, 0, 3, 2, 0, 165, 0, 23]), (20, [4], [30, 1, 1, 1, 159]), (20, [4], [30, (Int.negSucc 0), (Int.negSucc 0), 1, 159]), (20, [8, 4], [30, (Int.negSucc 2010), (Int.negSucc 0), 0, 0, (Int.negSucc 0), 1, 158]), (20, [4, 1, 2, 3], [60, 4, 5, 8, 8, 158, 164, 10, 160, 161, 162, 163, 1]), (23, [3], [1, 1]), (23, [3], [(Int.negSucc 0), (Int.negSucc 0)]), (24, [0, 4], [])])]
def t_Mo_both_at_f1_ct : ct_L := [(7, 1225, e_Mo_oneTest_at_f1), (31, 1190, e_Mo_word_at_s5040), (82, 1225, e_Mo_oneTest_at_f1), (1000001, 1228, en_ro [] (2, 0, 0, [5040]))]
set_option maxRecDepth 100000 in
theorem c_Mo_both_at_f1 {l : Launch} {D : va_G} {kA : Nat → ClassId} (h_Mo_oneTest_at_f1 : ct_ok PRD l D kA GG y_Mo_oneTest_at_f1 z_Mo_oneTest_at_f1 e_Mo_oneTest_at_f1) (h_Mo_word_at_s5040 : ct_ok PRD l D kA GG y_Mo_word_at_s5040 z_Mo_word_at_s5040 e_Mo_word_at_s5040) : ct_ok PRD l D kA GG y_Mo_both_at_f1 z_Mo_both_at_f1 e_Mo_both_at_f1 := chk_all_ok (FT := [(1169, 13, 158)]) (PT := [(1169, 13, 158, .int)]) (CT := t_Mo_both_at_f1_ct) (KT := []) (NT := []) (AN := n_Mo_both_at_f1_an) (OT := [(o_Mo_both_f_0 1), (o_Mo_both_f_1 1), (o_Mo_both_f_2 1), (o_Mo_both_f_3 1), (o_Mo_both_f_4 1), (o_Mo_both_f_5 1), (o_Mo_both_f_6 1)]) 3 200 (List.forall_mem_cons.mpr ⟨(oo_Mo_both_f_0 1 (by decide) (by decide)), List.forall_mem_cons.mpr ⟨(oo_Mo_both_f_1 1 (by decide) (by decide)), List.forall_mem_cons.mpr ⟨(oo_Mo_both_f_2 1 (by decide) (by decide)), List.forall_mem_cons.mpr ⟨(oo_Mo_both_f_3 1 (by decide) (by decide)), List.forall_mem_cons.mpr ⟨(oo_Mo_both_f_4 1 (by decide) (by decide)), List.forall_mem_cons.mpr ⟨(oo_Mo_both_f_5 1 (by decide) (by decide)), List.forall_mem_cons.mpr ⟨(oo_Mo_both_f_6 1 (by decide) (by decide)), List.forall_mem_nil _⟩⟩⟩⟩⟩⟩⟩) (by decide +kernel) ⟨List.forall_mem_cons.mpr ⟨gf_Mo_1169, List.forall_mem_nil _⟩, List.forall_mem_cons.mpr ⟨pf_Mo_1169, List.forall_mem_nil _⟩, List.forall_mem_cons.mpr ⟨cl_virtual (y := y_Mo_oneTest_at_f1) (ci := 13) rfl rfl ⟨_, _, rfl⟩ (by decide +kernel) h_Mo_oneTest_at_f1 wm_3823 wm_9 wm_3820 wm_3822 wv_23_9 ⟨by decide, by decide, by decide +kernel⟩ (by decide), List.forall_mem_cons.mpr ⟨cl_virtual (y := y_Mo_word_at_s5040) (ci := 13) rfl rfl ⟨_, _, rfl⟩ (by decide +kernel) h_Mo_word_at_s5040 wm_3809 wm_9 wm_3806 wm_3808 wv_23_6 ⟨by decide, by decide, by decide +kernel⟩ (by decide), List.forall_mem_cons.mpr ⟨cl_virtual (y := y_Mo_oneTest_at_f1) (ci := 13) rfl rfl ⟨_, _, rfl⟩ (by decide +kernel) h_Mo_oneTest_at_f1 wm_3823 wm_9 wm_3820 wm_3822 wv_23_9 ⟨by decide, by decide, by decide +kernel⟩ (by decide), List.forall_mem_cons.mpr ⟨cl_ldcw (own := "DrawingHouseModel") (idx := 1228) (i := 40) (tx := "and") (by decide +kernel) (by decide +kernel) (by decide +kernel), List.forall_mem_nil _⟩⟩⟩⟩, List.forall_mem_nil _, List.forall_mem_nil _, GG_pl⟩ (by decide +kernel)
def n_Mo_both_at_f10_an : List an_T := [(5, [(0, (2, 0, 0, [165])), (1, (0, 0, 1, []))], [], (0, 0), [(0, 0, 99995), (2, 7, 0), (0, 0, 100000)], [], [((0, 158), (0, 0, 2009, []))], [(2, 0, 0, [165]), (0, 0, 2009, []), (0, 0, 5, []), (0, 0, 13, [])], 0, [(0, 0, 2010, [])], [(20, [4], [50, 2, 1, 158, 157, 160, 2, 12, 0, 7, 4, 3, 2, 0, 158, 0, 1, 2, 0, 157, 2, 7, 0, 3, 2, 0, 157, 0, 2010, 3, 14, 1, 10, 3, 0, 160, 5, 3, 2, 0, 157, 0, 1, 0, 0, 1, 10, 3, 0, 160, 5, 3, 2, 0, 157, 0, 1, 0, 4]), (20, [1, 4], [30, 0, 1, 0, 0, (Int.negSucc 0), 1, 158]), (20, [4], [50, 2, 0, 164, 165, 4, 7, 1, 3, 2, 0, 164, 0, 0, 0, 3, 2, 0, 165, 0, 23]), (20, [4], [30, 10, 1, 1, 159]), (20, [4], [30, (Int.negSucc 9), (Int.negSucc 0), 1, 159]), (20, [4, 1, 2, 3], [60, 4, 5, 8, 8, 158, 164, 10, 160, 161, 162, 163, 1]), (23, [3], [10, 1]), (23, [3], [(Int.negSucc 9), (Int.negSucc 0)]), (24, [0, 4], []), (20, [7, 4], [30, 2010, 1, 0, 0, 1, 1, 158]), (20, [7, 4], [30, (Int.negSucc 2009), (Int.negSucc 0), 0, 0, (Int.negSucc 0), 1, 158])]), (43, [(0, (2, 0, 0, [165])), (1, (0, 0, 1, [])), (2, (0, 0, 1, []))], [(0, 0, 1, [])], (0, 0), [(0, 0, 99995), (2, 8, 0), (0, 0, 99957)], [(7, 5, (Int.negSucc 999999999999), 0), (7, 6, (Int.negSucc 999999999999), 0)], [], [(2, 0, 0, [165]), (0, 0, 2009, []), (0, 0, 5, []), (0, 0, 13, [])], 0, [(0, 0, 2010, [])], [(20, [4], [50, 2, 1, 158, 157, 160, 2, 12, 0, 7, 4, 3, 2, 0, 158, 0, 1, 2, 0, 157, 2, 7, 0, 3, 2, 0, 157, 0, 2010, 3, 14, 1, 10, 3, 0, 160, 5, 3, 2, 0, 157, 0, 1, 0, 0, 1, 10, 3, 0, 160, 5, 3, 2, 0, 157, 0, 1, 0, 4]), (20, [1, 4], [30, 0, 1, 0, 0, (Int.negSucc 0), 1, 158]), (20, [4], [50, 2, 0, 164, 165, 4, 7, 1, 3, 2, 0, 164, 0, 0, 0, 3, 2, 0, 165, 0, 23]), (20, [4], [30, 10, 1, 1, 159]), (20, [4], [30, (Int.negSucc 9), (Int.negSucc 0), 1, 159]), (20, [8, 4], [30, (Int.negSucc 2010), (Int.negSucc 0), 0, 0, (Int.negSucc 0), 1, 158]), (20, [4, 1, 2, 3], [60, 4, 5, 8, 8, 158, 164, 10, 160, 161, 162, 163, 1]), (23, [3], [10, 1]), (23, [3], [(Int.negSucc 9), (Int.negSucc 0)]), (24, [0, 4], [])])]
def t_Mo_both_at_f10_ct : ct_L := [(7, 1225, e_Mo_oneTest_at_f10), (31, 1190, e_Mo_word_at_s5040), (82, 1225, e_Mo_oneTest_at_f10), (1000001, 1228, en_ro [] (2, 0, 0, [5040]))]
set_option maxRecDepth 100000 in
theorem c_Mo_both_at_f10 {l : Launch} {D : va_G} {kA : Nat → ClassId} (h_Mo_oneTest_at_f10 : ct_ok PRD l D kA GG y_Mo_oneTest_at_f10 z_Mo_oneTest_at_f10 e_Mo_oneTest_at_f10) (h_Mo_word_at_s5040 : ct_ok PRD l D kA GG y_Mo_word_at_s5040 z_Mo_word_at_s5040 e_Mo_word_at_s5040) : ct_ok PRD l D kA GG y_Mo_both_at_f10 z_Mo_both_at_f10 e_Mo_both_at_f10 := chk_all_ok (FT := [(1169, 13, 158)]) (PT := [(1169, 13, 158, .int)]) (CT := t_Mo_both_at_f10_ct) (KT := []) (NT := []) (AN := n_Mo_both_at_f10_an) (OT := [(o_Mo_both_f_0 10), (o_Mo_both_f_1 10), (o_Mo_both_f_2 10), (o_Mo_both_f_3 10), (o_Mo_both_f_4 10), (o_Mo_both_f_5 10), (o_Mo_both_f_6 10)]) 3 200 (List.forall_mem_cons.mpr ⟨(oo_Mo_both_f_0 10 (by decide) (by decide)), List.forall_mem_cons.mpr ⟨(oo_Mo_both_f_1 10 (by decide) (by decide)), List.forall_mem_cons.mpr ⟨(oo_Mo_both_f_2 10 (by decide) (by decide)), List.forall_mem_cons.mpr ⟨(oo_Mo_both_f_3 10 (by decide) (by decide)), List.forall_mem_cons.mpr ⟨(oo_Mo_both_f_4 10 (by decide) (by decide)), List.forall_mem_cons.mpr ⟨(oo_Mo_both_f_5 10 (by decide) (by decide)), List.forall_mem_cons.mpr ⟨(oo_Mo_both_f_6 10 (by decide) (by decide)), List.forall_mem_nil _⟩⟩⟩⟩⟩⟩⟩) (by decide +kernel) ⟨List.forall_mem_cons.mpr ⟨gf_Mo_1169, List.forall_mem_nil _⟩, List.forall_mem_cons.mpr ⟨pf_Mo_1169, List.forall_mem_nil _⟩, List.forall_mem_cons.mpr ⟨cl_virtual (y := y_Mo_oneTest_at_f10) (ci := 13) rfl rfl ⟨_, _, rfl⟩ (by decide +kernel) h_Mo_oneTest_at_f10 wm_3823 wm_9 wm_3820 wm_3822 wv_23_9 ⟨by decide, by decide, by decide +kernel⟩ (by decide), List.forall_mem_cons.mpr ⟨cl_virtual (y := y_Mo_word_at_s5040) (ci := 13) rfl rfl ⟨_, _, rfl⟩ (by decide +kernel) h_Mo_word_at_s5040 wm_3809 wm_9 wm_3806 wm_3808 wv_23_6 ⟨by decide, by decide, by decide +kernel⟩ (by decide), List.forall_mem_cons.mpr ⟨cl_virtual (y := y_Mo_oneTest_at_f10) (ci := 13) rfl rfl ⟨_, _, rfl⟩ (by decide +kernel) h_Mo_oneTest_at_f10 wm_3823 wm_9 wm_3820 wm_3822 wv_23_9 ⟨by decide, by decide, by decide +kernel⟩ (by decide), List.forall_mem_cons.mpr ⟨cl_ldcw (own := "DrawingHouseModel") (idx := 1228) (i := 40) (tx := "and") (by decide +kernel) (by decide +kernel) (by decide +kernel), List.forall_mem_nil _⟩⟩⟩⟩, List.forall_mem_nil _, List.forall_mem_nil _, GG_pl⟩ (by decide +kernel)
def n_Mo_both_at_f11_an : List an_T := [(5, [(0, (2, 0, 0, [165])), (1, (0, 0, 1, []))], [], (0, 0), [(0, 0, 99995), (2, 7, 0), (0, 0, 100000)], [], [((0, 158), (0, 0, 2009, []))], [(2, 0, 0, [165]), (0, 0, 2009, []), (0, 0, 5, []), (0, 0, 13, [])], 0, [(0, 0, 2010, [])], [(20, [4], [50, 2, 1, 158, 157, 160, 2, 12, 0, 7, 4, 3, 2, 0, 158, 0, 1, 2, 0, 157, 2, 7, 0, 3, 2, 0, 157, 0, 2010, 3, 14, 1, 10, 3, 0, 160, 5, 3, 2, 0, 157, 0, 1, 0, 0, 1, 10, 3, 0, 160, 5, 3, 2, 0, 157, 0, 1, 0, 4]), (20, [1, 4], [30, 0, 1, 0, 0, (Int.negSucc 0), 1, 158]), (20, [4], [50, 2, 0, 164, 165, 4, 7, 1, 3, 2, 0, 164, 0, 0, 0, 3, 2, 0, 165, 0, 23]), (20, [4], [30, 11, 1, 1, 159]), (20, [4], [30, (Int.negSucc 10), (Int.negSucc 0), 1, 159]), (20, [4, 1, 2, 3], [60, 4, 5, 8, 8, 158, 164, 10, 160, 161, 162, 163, 1]), (23, [3], [11, 1]), (23, [3], [(Int.negSucc 10), (Int.negSucc 0)]), (24, [0, 4], []), (20, [7, 4], [30, 2010, 1, 0, 0, 1, 1, 158]), (20, [7, 4], [30, (Int.negSucc 2009), (Int.negSucc 0), 0, 0, (Int.negSucc 0), 1, 158])]), (43, [(0, (2, 0, 0, [165])), (1, (0, 0, 1, [])), (2, (0, 0, 1, []))], [(0, 0, 1, [])], (0, 0), [(0, 0, 99995), (2, 8, 0), (0, 0, 99957)], [(7, 5, (Int.negSucc 999999999999), 0), (7, 6, (Int.negSucc 999999999999), 0)], [], [(2, 0, 0, [165]), (0, 0, 2009, []), (0, 0, 5, []), (0, 0, 13, [])], 0, [(0, 0, 2010, [])], [(20, [4], [50, 2, 1, 158, 157, 160, 2, 12, 0, 7, 4, 3, 2, 0, 158, 0, 1, 2, 0, 157, 2, 7, 0, 3, 2, 0, 157, 0, 2010, 3, 14, 1, 10, 3, 0, 160, 5, 3, 2, 0, 157, 0, 1, 0, 0, 1, 10, 3, 0, 160, 5, 3, 2, 0, 157, 0, 1, 0, 4]), (20, [1, 4], [30, 0, 1, 0, 0, (Int.negSucc 0), 1, 158]), (20, [4], [50, 2, 0, 164, 165, 4, 7, 1, 3, 2, 0, 164, 0, 0, 0, 3, 2, 0, 165, 0, 23]), (20, [4], [30, 11, 1, 1, 159]), (20, [4], [30, (Int.negSucc 10), (Int.negSucc 0), 1, 159]), (20, [8, 4], [30, (Int.negSucc 2010), (Int.negSucc 0), 0, 0, (Int.negSucc 0), 1, 158]), (20, [4, 1, 2, 3], [60, 4, 5, 8, 8, 158, 164, 10, 160, 161, 162, 163, 1]), (23, [3], [11, 1]), (23, [3], [(Int.negSucc 10), (Int.negSucc 0)]), (24, [0, 4], [])])]
def t_Mo_both_at_f11_ct : ct_L := [(7, 1225, e_Mo_oneTest_at_f11), (31, 1190, e_Mo_word_at_s5040), (82, 1225, e_Mo_oneTest_at_f11), (1000001, 1228, en_ro [] (2, 0, 0, [5040]))]
set_option maxRecDepth 100000 in
theorem c_Mo_both_at_f11 {l : Launch} {D : va_G} {kA : Nat → ClassId} (h_Mo_oneTest_at_f11 : ct_ok PRD l D kA GG y_Mo_oneTest_at_f11 z_Mo_oneTest_at_f11 e_Mo_oneTest_at_f11) (h_Mo_word_at_s5040 : ct_ok PRD l D kA GG y_Mo_word_at_s5040 z_Mo_word_at_s5040 e_Mo_word_at_s5040) : ct_ok PRD l D kA GG y_Mo_both_at_f11 z_Mo_both_at_f11 e_Mo_both_at_f11 := chk_all_ok (FT := [(1169, 13, 158)]) (PT := [(1169, 13, 158, .int)]) (CT := t_Mo_both_at_f11_ct) (KT := []) (NT := []) (AN := n_Mo_both_at_f11_an) (OT := [(o_Mo_both_f_0 11), (o_Mo_both_f_1 11), (o_Mo_both_f_2 11), (o_Mo_both_f_3 11), (o_Mo_both_f_4 11), (o_Mo_both_f_5 11), (o_Mo_both_f_6 11)]) 3 200 (List.forall_mem_cons.mpr ⟨(oo_Mo_both_f_0 11 (by decide) (by decide)), List.forall_mem_cons.mpr ⟨(oo_Mo_both_f_1 11 (by decide) (by decide)), List.forall_mem_cons.mpr ⟨(oo_Mo_both_f_2 11 (by decide) (by decide)), List.forall_mem_cons.mpr ⟨(oo_Mo_both_f_3 11 (by decide) (by decide)), List.forall_mem_cons.mpr ⟨(oo_Mo_both_f_4 11 (by decide) (by decide)), List.forall_mem_cons.mpr ⟨(oo_Mo_both_f_5 11 (by decide) (by decide)), List.forall_mem_cons.mpr ⟨(oo_Mo_both_f_6 11 (by decide) (by decide)), List.forall_mem_nil _⟩⟩⟩⟩⟩⟩⟩) (by decide +kernel) ⟨List.forall_mem_cons.mpr ⟨gf_Mo_1169, List.forall_mem_nil _⟩, List.forall_mem_cons.mpr ⟨pf_Mo_1169, List.forall_mem_nil _⟩, List.forall_mem_cons.mpr ⟨cl_virtual (y := y_Mo_oneTest_at_f11) (ci := 13) rfl rfl ⟨_, _, rfl⟩ (by decide +kernel) h_Mo_oneTest_at_f11 wm_3823 wm_9 wm_3820 wm_3822 wv_23_9 ⟨by decide, by decide, by decide +kernel⟩ (by decide), List.forall_mem_cons.mpr ⟨cl_virtual (y := y_Mo_word_at_s5040) (ci := 13) rfl rfl ⟨_, _, rfl⟩ (by decide +kernel) h_Mo_word_at_s5040 wm_3809 wm_9 wm_3806 wm_3808 wv_23_6 ⟨by decide, by decide, by decide +kernel⟩ (by decide), List.forall_mem_cons.mpr ⟨cl_virtual (y := y_Mo_oneTest_at_f11) (ci := 13) rfl rfl ⟨_, _, rfl⟩ (by decide +kernel) h_Mo_oneTest_at_f11 wm_3823 wm_9 wm_3820 wm_3822 wv_23_9 ⟨by decide, by decide, by decide +kernel⟩ (by decide), List.forall_mem_cons.mpr ⟨cl_ldcw (own := "DrawingHouseModel") (idx := 1228) (i := 40) (tx := "and") (by decide +kernel) (by decide +kernel) (by decide +kernel), List.forall_mem_nil _⟩⟩⟩⟩, List.forall_mem_nil _, List.forall_mem_nil _, GG_pl⟩ (by decide +kernel)
def n_Mo_both_at_f12_an : List an_T := [(5, [(0, (2, 0, 0, [165])), (1, (0, 0, 1, []))], [], (0, 0), [(0, 0, 99995), (2, 7, 0), (0, 0, 100000)], [], [((0, 158), (0, 0, 2009, []))], [(2, 0, 0, [165]), (0, 0, 2009, []), (0, 0, 5, []), (0, 0, 13, [])], 0, [(0, 0, 2010, [])], [(20, [4], [50, 2, 1, 158, 157, 160, 2, 12, 0, 7, 4, 3, 2, 0, 158, 0, 1, 2, 0, 157, 2, 7, 0, 3, 2, 0, 157, 0, 2010, 3, 14, 1, 10, 3, 0, 160, 5, 3, 2, 0, 157, 0, 1, 0, 0, 1, 10, 3, 0, 160, 5, 3, 2, 0, 157, 0, 1, 0, 4]), (20, [1, 4], [30, 0, 1, 0, 0, (Int.negSucc 0), 1, 158]), (20, [4], [50, 2, 0, 164, 165, 4, 7, 1, 3, 2, 0, 164, 0, 0, 0, 3, 2, 0, 165, 0, 23]), (20, [4], [30, 12, 1, 1, 159]), (20, [4], [30, (Int.negSucc 11), (Int.negSucc 0), 1, 159]), (20, [4, 1, 2, 3], [60, 4, 5, 8, 8, 158, 164, 10, 160, 161, 162, 163, 1]), (23, [3], [12, 1]), (23, [3], [(Int.negSucc 11), (Int.negSucc 0)]), (24, [0, 4], []), (20, [7, 4], [30, 2010, 1, 0, 0, 1, 1, 158]), (20, [7, 4], [30, (Int.negSucc 2009), (Int.negSucc 0), 0, 0, (Int.negSucc 0), 1, 158])]), (43, [(0, (2, 0, 0, [165])), (1, (0, 0, 1, [])), (2, (0, 0, 1, []))], [(0, 0, 1, [])], (0, 0), [(0, 0, 99995), (2, 8, 0), (0, 0, 99957)], [(7, 5, (Int.negSucc 999999999999), 0), (7, 6, (Int.negSucc 999999999999), 0)], [], [(2, 0, 0, [165]), (0, 0, 2009, []), (0, 0, 5, []), (0, 0, 13, [])], 0, [(0, 0, 2010, [])], [(20, [4], [50, 2, 1, 158, 157, 160, 2, 12, 0, 7, 4, 3, 2, 0, 158, 0, 1, 2, 0, 157, 2, 7, 0, 3, 2, 0, 157, 0, 2010, 3, 14, 1, 10, 3, 0, 160, 5, 3, 2, 0, 157, 0, 1, 0, 0, 1, 10, 3, 0, 160, 5, 3, 2, 0, 157, 0, 1, 0, 4]), (20, [1, 4], [30, 0, 1, 0, 0, (Int.negSucc 0), 1, 158]), (20, [4], [50, 2, 0, 164, 165, 4, 7, 1, 3, 2, 0, 164, 0, 0, 0, 3, 2, 0, 165, 0, 23]), (20, [4], [30, 12, 1, 1, 159]), (20, [4], [30, (Int.negSucc 11), (Int.negSucc 0), 1, 159]), (20, [8, 4], [30, (Int.negSucc 2010), (Int.negSucc 0), 0, 0, (Int.negSucc 0), 1, 158]), (20, [4, 1, 2, 3], [60, 4, 5, 8, 8, 158, 164, 10, 160, 161, 162, 163, 1]), (23, [3], [12, 1]), (23, [3], [(Int.negSucc 11), (Int.negSucc 0)]), (24, [0, 4], [])])]
def t_Mo_both_at_f12_ct : ct_L := [(7, 1225, e_Mo_oneTest_at_f12), (31, 1190, e_Mo_word_at_s5040), (82, 1225, e_Mo_oneTest_at_f12), (1000001, 1228, en_ro [] (2, 0, 0, [5040]))]
set_option maxRecDepth 100000 in
theorem c_Mo_both_at_f12 {l : Launch} {D : va_G} {kA : Nat → ClassId} (h_Mo_oneTest_at_f12 : ct_ok PRD l D kA GG y_Mo_oneTest_at_f12 z_Mo_oneTest_at_f12 e_Mo_oneTest_at_f12) (h_Mo_word_at_s5040 : ct_ok PRD l D kA GG y_Mo_word_at_s5040 z_Mo_word_at_s5040 e_Mo_word_at_s5040) : ct_ok PRD l D kA GG y_Mo_both_at_f12 z_Mo_both_at_f12 e_Mo_both_at_f12 := chk_all_ok (FT := [(1169, 13, 158)]) (PT := [(1169, 13, 158, .int)]) (CT := t_Mo_both_at_f12_ct) (KT := []) (NT := []) (AN := n_Mo_both_at_f12_an) (OT := [(o_Mo_both_f_0 12), (o_Mo_both_f_1 12), (o_Mo_both_f_2 12), (o_Mo_both_f_3 12), (o_Mo_both_f_4 12), (o_Mo_both_f_5 12), (o_Mo_both_f_6 12)]) 3 200 (List.forall_mem_cons.mpr ⟨(oo_Mo_both_f_0 12 (by decide) (by decide)), List.forall_mem_cons.mpr ⟨(oo_Mo_both_f_1 12 (by decide) (by decide)), List.forall_mem_cons.mpr ⟨(oo_Mo_both_f_2 12 (by decide) (by decide)), List.forall_mem_cons.mpr ⟨(oo_Mo_both_f_3 12 (by decide) (by decide)), List.forall_mem_cons.mpr ⟨(oo_Mo_both_f_4 12 (by decide) (by decide)), List.forall_mem_cons.mpr ⟨(oo_Mo_both_f_5 12 (by decide) (by decide)), List.forall_mem_cons.mpr ⟨(oo_Mo_both_f_6 12 (by decide) (by decide)), List.forall_mem_nil _⟩⟩⟩⟩⟩⟩⟩) (by decide +kernel) ⟨List.forall_mem_cons.mpr ⟨gf_Mo_1169, List.forall_mem_nil _⟩, List.forall_mem_cons.mpr ⟨pf_Mo_1169, List.forall_mem_nil _⟩, List.forall_mem_cons.mpr ⟨cl_virtual (y := y_Mo_oneTest_at_f12) (ci := 13) rfl rfl ⟨_, _, rfl⟩ (by decide +kernel) h_Mo_oneTest_at_f12 wm_3823 wm_9 wm_3820 wm_3822 wv_23_9 ⟨by decide, by decide, by decide +kernel⟩ (by decide), List.forall_mem_cons.mpr ⟨cl_virtual (y := y_Mo_word_at_s5040) (ci := 13) rfl rfl ⟨_, _, rfl⟩ (by decide +kernel) h_Mo_word_at_s5040 wm_3809 wm_9 wm_3806 wm_3808 wv_23_6 ⟨by decide, by decide, by decide +kernel⟩ (by decide), List.forall_mem_cons.mpr ⟨cl_virtual (y := y_Mo_oneTest_at_f12) (ci := 13) rfl rfl ⟨_, _, rfl⟩ (by decide +kernel) h_Mo_oneTest_at_f12 wm_3823 wm_9 wm_3820 wm_3822 wv_23_9 ⟨by decide, by decide, by decide +kernel⟩ (by decide), List.forall_mem_cons.mpr ⟨cl_ldcw (own := "DrawingHouseModel") (idx := 1228) (i := 40) (tx := "and") (by decide +kernel) (by decide +kernel) (by decide +kernel), List.forall_mem_nil _⟩⟩⟩⟩, List.forall_mem_nil _, List.forall_mem_nil _, GG_pl⟩ (by decide +kernel)

set_option maxHeartbeats 4000000 in
theorem vc_Mo_both_at_f13_0_0 (x1 : Int) (x2 : Int) (x3 : Int) (tokenKind_0 : Int → Int) (cur_0 : Int) (tokens_0 : Int) (styleKind_0 : Int) (styleOne_0 : Int) (opened_0 : Int) (fault_0 : Int) (gx : Int) (gy : Int) (gu : Int) (k1 : 0 ≤ x1 ∧ x1 ≤ 2009) (k2 : 0 ≤ x2 ∧ x2 ≤ 5) (k3 : 0 ≤ x3 ∧ x3 ≤ 13) (f0 : ((cur_0 + 1) ≤ tokens_0) ∧ ((tokens_0 ≤ 2010) ∧ ((tokenKind_0 ((tokens_0 - 1)) = 0) ∨ (tokenKind_0 ((tokens_0 - 1)) = 4)))) (f1 : 1 * cur_0 + ((-1) * x1 + 0) ≤ 0) (f2 : (-1) * cur_0 + (1 * x1 + 0) ≤ 0) (f3 : (styleKind_0 = 0) → (styleOne_0 ≤ 23)) (f4 : 1 * opened_0 + 0 ≤ 13) (f5 : (-1) * opened_0 + 0 ≤ (-13)) (f6 : (-1) * fault_0 + 0 ≤ (-1)) (f7 : fault_0 = x2) (f8 : opened_0 = x3) (hK_0_160 : ∀ j : Int, 0 ≤ j → j < 2010 → 0 ≤ tokenKind_0 j ∧ tokenKind_0 j ≤ 4) (kz_0_8 : 0 ≤ fault_0 ∧ fault_0 ≤ 5) (kz_0_157 : 0 ≤ tokens_0 ∧ tokens_0 ≤ 2010) (kz_0_158 : 0 ≤ cur_0 ∧ cur_0 ≤ 2009) (kz_0_159 : 0 ≤ opened_0 ∧ opened_0 ≤ 13) (kz_0_164 : 0 ≤ styleKind_0 ∧ styleKind_0 ≤ 1) (kz_0_165 : (-1) ≤ styleOne_0 ∧ styleOne_0 ≤ 47) (ex2 : gx = cur_0) (ex3 : 0 ≤ gx ∧ gx ≤ 2009) (ey2 : gy = fault_0) (ey3 : 0 ≤ gy ∧ gy ≤ 5) (eu2 : gu = opened_0) (eu3 : 0 ≤ gu ∧ gu ≤ 13) : 1 * x3 + 0 ≤ 13 := by
  first | assumption | (clear f0 f3 hK_0_160; omega) | (clear hK_0_160; grind) | omega | grind
set_option maxHeartbeats 4000000 in
theorem vc_Mo_both_at_f13_0_1 (x1 : Int) (x2 : Int) (x3 : Int) (tokenKind_0 : Int → Int) (cur_0 : Int) (tokens_0 : Int) (styleKind_0 : Int) (styleOne_0 : Int) (opened_0 : Int) (fault_0 : Int) (gx : Int) (gy : Int) (gu : Int) (k1 : 0 ≤ x1 ∧ x1 ≤ 2009) (k2 : 0 ≤ x2 ∧ x2 ≤ 5) (k3 : 0 ≤ x3 ∧ x3 ≤ 13) (f0 : ((cur_0 + 1) ≤ tokens_0) ∧ ((tokens_0 ≤ 2010) ∧ ((tokenKind_0 ((tokens_0 - 1)) = 0) ∨ (tokenKind_0 ((tokens_0 - 1)) = 4)))) (f1 : 1 * cur_0 + ((-1) * x1 + 0) ≤ 0) (f2 : (-1) * cur_0 + (1 * x1 + 0) ≤ 0) (f3 : (styleKind_0 = 0) → (styleOne_0 ≤ 23)) (f4 : 1 * opened_0 + 0 ≤ 13) (f5 : (-1) * opened_0 + 0 ≤ (-13)) (f6 : (-1) * fault_0 + 0 ≤ (-1)) (f7 : fault_0 = x2) (f8 : opened_0 = x3) (hK_0_160 : ∀ j : Int, 0 ≤ j → j < 2010 → 0 ≤ tokenKind_0 j ∧ tokenKind_0 j ≤ 4) (kz_0_8 : 0 ≤ fault_0 ∧ fault_0 ≤ 5) (kz_0_157 : 0 ≤ tokens_0 ∧ tokens_0 ≤ 2010) (kz_0_158 : 0 ≤ cur_0 ∧ cur_0 ≤ 2009) (kz_0_159 : 0 ≤ opened_0 ∧ opened_0 ≤ 13) (kz_0_164 : 0 ≤ styleKind_0 ∧ styleKind_0 ≤ 1) (kz_0_165 : (-1) ≤ styleOne_0 ∧ styleOne_0 ≤ 47) (ex2 : gx = cur_0) (ex3 : 0 ≤ gx ∧ gx ≤ 2009) (ey2 : gy = fault_0) (ey3 : 0 ≤ gy ∧ gy ≤ 5) (eu2 : gu = opened_0) (eu3 : 0 ≤ gu ∧ gu ≤ 13) : (-1) * x3 + 0 ≤ (-13) := by
  first | assumption | (clear f0 f3 hK_0_160; omega) | (clear hK_0_160; grind) | omega | grind
set_option maxHeartbeats 4000000 in
theorem vc_Mo_both_at_f13_0_2 (x1 : Int) (x2 : Int) (x3 : Int) (tokenKind_0 : Int → Int) (cur_0 : Int) (tokens_0 : Int) (styleKind_0 : Int) (styleOne_0 : Int) (opened_0 : Int) (fault_0 : Int) (gx : Int) (gy : Int) (gu : Int) (k1 : 0 ≤ x1 ∧ x1 ≤ 2009) (k2 : 0 ≤ x2 ∧ x2 ≤ 5) (k3 : 0 ≤ x3 ∧ x3 ≤ 13) (f0 : ((cur_0 + 1) ≤ tokens_0) ∧ ((tokens_0 ≤ 2010) ∧ ((tokenKind_0 ((tokens_0 - 1)) = 0) ∨ (tokenKind_0 ((tokens_0 - 1)) = 4)))) (f1 : 1 * cur_0 + ((-1) * x1 + 0) ≤ 0) (f2 : (-1) * cur_0 + (1 * x1 + 0) ≤ 0) (f3 : (styleKind_0 = 0) → (styleOne_0 ≤ 23)) (f4 : 1 * opened_0 + 0 ≤ 13) (f5 : (-1) * opened_0 + 0 ≤ (-13)) (f6 : (-1) * fault_0 + 0 ≤ (-1)) (f7 : fault_0 = x2) (f8 : opened_0 = x3) (hK_0_160 : ∀ j : Int, 0 ≤ j → j < 2010 → 0 ≤ tokenKind_0 j ∧ tokenKind_0 j ≤ 4) (kz_0_8 : 0 ≤ fault_0 ∧ fault_0 ≤ 5) (kz_0_157 : 0 ≤ tokens_0 ∧ tokens_0 ≤ 2010) (kz_0_158 : 0 ≤ cur_0 ∧ cur_0 ≤ 2009) (kz_0_159 : 0 ≤ opened_0 ∧ opened_0 ≤ 13) (kz_0_164 : 0 ≤ styleKind_0 ∧ styleKind_0 ≤ 1) (kz_0_165 : (-1) ≤ styleOne_0 ∧ styleOne_0 ≤ 47) (ex2 : gx = cur_0) (ex3 : 0 ≤ gx ∧ gx ≤ 2009) (ey2 : gy = fault_0) (ey3 : 0 ≤ gy ∧ gy ≤ 5) (eu2 : gu = opened_0) (eu3 : 0 ≤ gu ∧ gu ≤ 13) : ((cur_0 + 1) ≤ tokens_0) ∧ ((tokens_0 ≤ 2010) ∧ ((tokenKind_0 ((tokens_0 - 1)) = 0) ∨ (tokenKind_0 ((tokens_0 - 1)) = 4))) := by
  first | assumption | (clear f0 f3 hK_0_160; omega) | (clear hK_0_160; grind) | omega | grind
set_option maxHeartbeats 4000000 in
theorem vc_Mo_both_at_f13_0_3 (x1 : Int) (x2 : Int) (x3 : Int) (tokenKind_0 : Int → Int) (cur_0 : Int) (tokens_0 : Int) (styleKind_0 : Int) (styleOne_0 : Int) (opened_0 : Int) (fault_0 : Int) (gx : Int) (gy : Int) (gu : Int) (k1 : 0 ≤ x1 ∧ x1 ≤ 2009) (k2 : 0 ≤ x2 ∧ x2 ≤ 5) (k3 : 0 ≤ x3 ∧ x3 ≤ 13) (f0 : ((cur_0 + 1) ≤ tokens_0) ∧ ((tokens_0 ≤ 2010) ∧ ((tokenKind_0 ((tokens_0 - 1)) = 0) ∨ (tokenKind_0 ((tokens_0 - 1)) = 4)))) (f1 : 1 * cur_0 + ((-1) * x1 + 0) ≤ 0) (f2 : (-1) * cur_0 + (1 * x1 + 0) ≤ 0) (f3 : (styleKind_0 = 0) → (styleOne_0 ≤ 23)) (f4 : 1 * opened_0 + 0 ≤ 13) (f5 : (-1) * opened_0 + 0 ≤ (-13)) (f6 : (-1) * fault_0 + 0 ≤ (-1)) (f7 : fault_0 = x2) (f8 : opened_0 = x3) (hK_0_160 : ∀ j : Int, 0 ≤ j → j < 2010 → 0 ≤ tokenKind_0 j ∧ tokenKind_0 j ≤ 4) (kz_0_8 : 0 ≤ fault_0 ∧ fault_0 ≤ 5) (kz_0_157 : 0 ≤ tokens_0 ∧ tokens_0 ≤ 2010) (kz_0_158 : 0 ≤ cur_0 ∧ cur_0 ≤ 2009) (kz_0_159 : 0 ≤ opened_0 ∧ opened_0 ≤ 13) (kz_0_164 : 0 ≤ styleKind_0 ∧ styleKind_0 ≤ 1) (kz_0_165 : (-1) ≤ styleOne_0 ∧ styleOne_0 ≤ 47) (ex2 : gx = cur_0) (ex3 : 0 ≤ gx ∧ gx ≤ 2009) (ey2 : gy = fault_0) (ey3 : 0 ≤ gy ∧ gy ≤ 5) (eu2 : gu = opened_0) (eu3 : 0 ≤ gu ∧ gu ≤ 13) : 1 * cur_0 + ((-1) * gx + 0) ≤ 0 := by
  first | assumption | (clear f0 f3 hK_0_160; omega) | (clear hK_0_160; grind) | omega | grind
set_option maxHeartbeats 4000000 in
theorem vc_Mo_both_at_f13_0_4 (x1 : Int) (x2 : Int) (x3 : Int) (tokenKind_0 : Int → Int) (cur_0 : Int) (tokens_0 : Int) (styleKind_0 : Int) (styleOne_0 : Int) (opened_0 : Int) (fault_0 : Int) (gx : Int) (gy : Int) (gu : Int) (k1 : 0 ≤ x1 ∧ x1 ≤ 2009) (k2 : 0 ≤ x2 ∧ x2 ≤ 5) (k3 : 0 ≤ x3 ∧ x3 ≤ 13) (f0 : ((cur_0 + 1) ≤ tokens_0) ∧ ((tokens_0 ≤ 2010) ∧ ((tokenKind_0 ((tokens_0 - 1)) = 0) ∨ (tokenKind_0 ((tokens_0 - 1)) = 4)))) (f1 : 1 * cur_0 + ((-1) * x1 + 0) ≤ 0) (f2 : (-1) * cur_0 + (1 * x1 + 0) ≤ 0) (f3 : (styleKind_0 = 0) → (styleOne_0 ≤ 23)) (f4 : 1 * opened_0 + 0 ≤ 13) (f5 : (-1) * opened_0 + 0 ≤ (-13)) (f6 : (-1) * fault_0 + 0 ≤ (-1)) (f7 : fault_0 = x2) (f8 : opened_0 = x3) (hK_0_160 : ∀ j : Int, 0 ≤ j → j < 2010 → 0 ≤ tokenKind_0 j ∧ tokenKind_0 j ≤ 4) (kz_0_8 : 0 ≤ fault_0 ∧ fault_0 ≤ 5) (kz_0_157 : 0 ≤ tokens_0 ∧ tokens_0 ≤ 2010) (kz_0_158 : 0 ≤ cur_0 ∧ cur_0 ≤ 2009) (kz_0_159 : 0 ≤ opened_0 ∧ opened_0 ≤ 13) (kz_0_164 : 0 ≤ styleKind_0 ∧ styleKind_0 ≤ 1) (kz_0_165 : (-1) ≤ styleOne_0 ∧ styleOne_0 ≤ 47) (ex2 : gx = cur_0) (ex3 : 0 ≤ gx ∧ gx ≤ 2009) (ey2 : gy = fault_0) (ey3 : 0 ≤ gy ∧ gy ≤ 5) (eu2 : gu = opened_0) (eu3 : 0 ≤ gu ∧ gu ≤ 13) : (-1) * cur_0 + (1 * gx + 0) ≤ 0 := by
  first | assumption | (clear f0 f3 hK_0_160; omega) | (clear hK_0_160; grind) | omega | grind
set_option maxHeartbeats 4000000 in
theorem vc_Mo_both_at_f13_0_5 (x1 : Int) (x2 : Int) (x3 : Int) (tokenKind_0 : Int → Int) (cur_0 : Int) (tokens_0 : Int) (styleKind_0 : Int) (styleOne_0 : Int) (opened_0 : Int) (fault_0 : Int) (gx : Int) (gy : Int) (gu : Int) (k1 : 0 ≤ x1 ∧ x1 ≤ 2009) (k2 : 0 ≤ x2 ∧ x2 ≤ 5) (k3 : 0 ≤ x3 ∧ x3 ≤ 13) (f0 : ((cur_0 + 1) ≤ tokens_0) ∧ ((tokens_0 ≤ 2010) ∧ ((tokenKind_0 ((tokens_0 - 1)) = 0) ∨ (tokenKind_0 ((tokens_0 - 1)) = 4)))) (f1 : 1 * cur_0 + ((-1) * x1 + 0) ≤ 0) (f2 : (-1) * cur_0 + (1 * x1 + 0) ≤ 0) (f3 : (styleKind_0 = 0) → (styleOne_0 ≤ 23)) (f4 : 1 * opened_0 + 0 ≤ 13) (f5 : (-1) * opened_0 + 0 ≤ (-13)) (f6 : (-1) * fault_0 + 0 ≤ (-1)) (f7 : fault_0 = x2) (f8 : opened_0 = x3) (hK_0_160 : ∀ j : Int, 0 ≤ j → j < 2010 → 0 ≤ tokenKind_0 j ∧ tokenKind_0 j ≤ 4) (kz_0_8 : 0 ≤ fault_0 ∧ fault_0 ≤ 5) (kz_0_157 : 0 ≤ tokens_0 ∧ tokens_0 ≤ 2010) (kz_0_158 : 0 ≤ cur_0 ∧ cur_0 ≤ 2009) (kz_0_159 : 0 ≤ opened_0 ∧ opened_0 ≤ 13) (kz_0_164 : 0 ≤ styleKind_0 ∧ styleKind_0 ≤ 1) (kz_0_165 : (-1) ≤ styleOne_0 ∧ styleOne_0 ≤ 47) (ex2 : gx = cur_0) (ex3 : 0 ≤ gx ∧ gx ≤ 2009) (ey2 : gy = fault_0) (ey3 : 0 ≤ gy ∧ gy ≤ 5) (eu2 : gu = opened_0) (eu3 : 0 ≤ gu ∧ gu ≤ 13) : (styleKind_0 = 0) → (styleOne_0 ≤ 23) := by
  first | assumption | (clear f0 f3 hK_0_160; omega) | (clear hK_0_160; grind) | omega | grind
set_option maxHeartbeats 4000000 in
theorem vc_Mo_both_at_f13_0_6 (x1 : Int) (x2 : Int) (x3 : Int) (tokenKind_0 : Int → Int) (cur_0 : Int) (tokens_0 : Int) (styleKind_0 : Int) (styleOne_0 : Int) (opened_0 : Int) (fault_0 : Int) (gx : Int) (gy : Int) (gu : Int) (k1 : 0 ≤ x1 ∧ x1 ≤ 2009) (k2 : 0 ≤ x2 ∧ x2 ≤ 5) (k3 : 0 ≤ x3 ∧ x3 ≤ 13) (f0 : ((cur_0 + 1) ≤ tokens_0) ∧ ((tokens_0 ≤ 2010) ∧ ((tokenKind_0 ((tokens_0 - 1)) = 0) ∨ (tokenKind_0 ((tokens_0 - 1)) = 4)))) (f1 : 1 * cur_0 + ((-1) * x1 + 0) ≤ 0) (f2 : (-1) * cur_0 + (1 * x1 + 0) ≤ 0) (f3 : (styleKind_0 = 0) → (styleOne_0 ≤ 23)) (f4 : 1 * opened_0 + 0 ≤ 13) (f5 : (-1) * opened_0 + 0 ≤ (-13)) (f6 : (-1) * fault_0 + 0 ≤ (-1)) (f7 : fault_0 = x2) (f8 : opened_0 = x3) (hK_0_160 : ∀ j : Int, 0 ≤ j → j < 2010 → 0 ≤ tokenKind_0 j ∧ tokenKind_0 j ≤ 4) (kz_0_8 : 0 ≤ fault_0 ∧ fault_0 ≤ 5) (kz_0_157 : 0 ≤ tokens_0 ∧ tokens_0 ≤ 2010) (kz_0_158 : 0 ≤ cur_0 ∧ cur_0 ≤ 2009) (kz_0_159 : 0 ≤ opened_0 ∧ opened_0 ≤ 13) (kz_0_164 : 0 ≤ styleKind_0 ∧ styleKind_0 ≤ 1) (kz_0_165 : (-1) ≤ styleOne_0 ∧ styleOne_0 ≤ 47) (ex2 : gx = cur_0) (ex3 : 0 ≤ gx ∧ gx ≤ 2009) (ey2 : gy = fault_0) (ey3 : 0 ≤ gy ∧ gy ≤ 5) (eu2 : gu = opened_0) (eu3 : 0 ≤ gu ∧ gu ≤ 13) : 1 * opened_0 + 0 ≤ 13 := by
  first | assumption | (clear f0 f3 hK_0_160; omega) | (clear hK_0_160; grind) | omega | grind
set_option maxHeartbeats 4000000 in
theorem vc_Mo_both_at_f13_0_7 (x1 : Int) (x2 : Int) (x3 : Int) (tokenKind_0 : Int → Int) (cur_0 : Int) (tokens_0 : Int) (styleKind_0 : Int) (styleOne_0 : Int) (opened_0 : Int) (fault_0 : Int) (gx : Int) (gy : Int) (gu : Int) (k1 : 0 ≤ x1 ∧ x1 ≤ 2009) (k2 : 0 ≤ x2 ∧ x2 ≤ 5) (k3 : 0 ≤ x3 ∧ x3 ≤ 13) (f0 : ((cur_0 + 1) ≤ tokens_0) ∧ ((tokens_0 ≤ 2010) ∧ ((tokenKind_0 ((tokens_0 - 1)) = 0) ∨ (tokenKind_0 ((tokens_0 - 1)) = 4)))) (f1 : 1 * cur_0 + ((-1) * x1 + 0) ≤ 0) (f2 : (-1) * cur_0 + (1 * x1 + 0) ≤ 0) (f3 : (styleKind_0 = 0) → (styleOne_0 ≤ 23)) (f4 : 1 * opened_0 + 0 ≤ 13) (f5 : (-1) * opened_0 + 0 ≤ (-13)) (f6 : (-1) * fault_0 + 0 ≤ (-1)) (f7 : fault_0 = x2) (f8 : opened_0 = x3) (hK_0_160 : ∀ j : Int, 0 ≤ j → j < 2010 → 0 ≤ tokenKind_0 j ∧ tokenKind_0 j ≤ 4) (kz_0_8 : 0 ≤ fault_0 ∧ fault_0 ≤ 5) (kz_0_157 : 0 ≤ tokens_0 ∧ tokens_0 ≤ 2010) (kz_0_158 : 0 ≤ cur_0 ∧ cur_0 ≤ 2009) (kz_0_159 : 0 ≤ opened_0 ∧ opened_0 ≤ 13) (kz_0_164 : 0 ≤ styleKind_0 ∧ styleKind_0 ≤ 1) (kz_0_165 : (-1) ≤ styleOne_0 ∧ styleOne_0 ≤ 47) (ex2 : gx = cur_0) (ex3 : 0 ≤ gx ∧ gx ≤ 2009) (ey2 : gy = fault_0) (ey3 : 0 ≤ gy ∧ gy ≤ 5) (eu2 : gu = opened_0) (eu3 : 0 ≤ gu ∧ gu ≤ 13) : (-1) * opened_0 + 0 ≤ (-13) := by
  first | assumption | (clear f0 f3 hK_0_160; omega) | (clear hK_0_160; grind) | omega | grind
set_option maxHeartbeats 4000000 in
theorem vc_Mo_both_at_f13_0_8 (x1 : Int) (x2 : Int) (x3 : Int) (tokenKind_0 : Int → Int) (cur_0 : Int) (tokens_0 : Int) (styleKind_0 : Int) (styleOne_0 : Int) (opened_0 : Int) (fault_0 : Int) (gx : Int) (gy : Int) (gu : Int) (k1 : 0 ≤ x1 ∧ x1 ≤ 2009) (k2 : 0 ≤ x2 ∧ x2 ≤ 5) (k3 : 0 ≤ x3 ∧ x3 ≤ 13) (f0 : ((cur_0 + 1) ≤ tokens_0) ∧ ((tokens_0 ≤ 2010) ∧ ((tokenKind_0 ((tokens_0 - 1)) = 0) ∨ (tokenKind_0 ((tokens_0 - 1)) = 4)))) (f1 : 1 * cur_0 + ((-1) * x1 + 0) ≤ 0) (f2 : (-1) * cur_0 + (1 * x1 + 0) ≤ 0) (f3 : (styleKind_0 = 0) → (styleOne_0 ≤ 23)) (f4 : 1 * opened_0 + 0 ≤ 13) (f5 : (-1) * opened_0 + 0 ≤ (-13)) (f6 : (-1) * fault_0 + 0 ≤ (-1)) (f7 : fault_0 = x2) (f8 : opened_0 = x3) (hK_0_160 : ∀ j : Int, 0 ≤ j → j < 2010 → 0 ≤ tokenKind_0 j ∧ tokenKind_0 j ≤ 4) (kz_0_8 : 0 ≤ fault_0 ∧ fault_0 ≤ 5) (kz_0_157 : 0 ≤ tokens_0 ∧ tokens_0 ≤ 2010) (kz_0_158 : 0 ≤ cur_0 ∧ cur_0 ≤ 2009) (kz_0_159 : 0 ≤ opened_0 ∧ opened_0 ≤ 13) (kz_0_164 : 0 ≤ styleKind_0 ∧ styleKind_0 ≤ 1) (kz_0_165 : (-1) ≤ styleOne_0 ∧ styleOne_0 ≤ 47) (ex2 : gx = cur_0) (ex3 : 0 ≤ gx ∧ gx ≤ 2009) (ey2 : gy = fault_0) (ey3 : 0 ≤ gy ∧ gy ≤ 5) (eu2 : gu = opened_0) (eu3 : 0 ≤ gu ∧ gu ≤ 13) : (-1) * fault_0 + 0 ≤ (-1) := by
  first | assumption | (clear f0 f3 hK_0_160; omega) | (clear hK_0_160; grind) | omega | grind
set_option maxHeartbeats 4000000 in
theorem vc_Mo_both_at_f13_0_9 (x1 : Int) (x2 : Int) (x3 : Int) (tokenKind_0 : Int → Int) (cur_0 : Int) (tokens_0 : Int) (styleKind_0 : Int) (styleOne_0 : Int) (opened_0 : Int) (fault_0 : Int) (gx : Int) (gy : Int) (gu : Int) (k1 : 0 ≤ x1 ∧ x1 ≤ 2009) (k2 : 0 ≤ x2 ∧ x2 ≤ 5) (k3 : 0 ≤ x3 ∧ x3 ≤ 13) (f0 : ((cur_0 + 1) ≤ tokens_0) ∧ ((tokens_0 ≤ 2010) ∧ ((tokenKind_0 ((tokens_0 - 1)) = 0) ∨ (tokenKind_0 ((tokens_0 - 1)) = 4)))) (f1 : 1 * cur_0 + ((-1) * x1 + 0) ≤ 0) (f2 : (-1) * cur_0 + (1 * x1 + 0) ≤ 0) (f3 : (styleKind_0 = 0) → (styleOne_0 ≤ 23)) (f4 : 1 * opened_0 + 0 ≤ 13) (f5 : (-1) * opened_0 + 0 ≤ (-13)) (f6 : (-1) * fault_0 + 0 ≤ (-1)) (f7 : fault_0 = x2) (f8 : opened_0 = x3) (hK_0_160 : ∀ j : Int, 0 ≤ j → j < 2010 → 0 ≤ tokenKind_0 j ∧ tokenKind_0 j ≤ 4) (kz_0_8 : 0 ≤ fault_0 ∧ fault_0 ≤ 5) (kz_0_157 : 0 ≤ tokens_0 ∧ tokens_0 ≤ 2010) (kz_0_158 : 0 ≤ cur_0 ∧ cur_0 ≤ 2009) (kz_0_159 : 0 ≤ opened_0 ∧ opened_0 ≤ 13) (kz_0_164 : 0 ≤ styleKind_0 ∧ styleKind_0 ≤ 1) (kz_0_165 : (-1) ≤ styleOne_0 ∧ styleOne_0 ≤ 47) (ex2 : gx = cur_0) (ex3 : 0 ≤ gx ∧ gx ≤ 2009) (ey2 : gy = fault_0) (ey3 : 0 ≤ gy ∧ gy ≤ 5) (eu2 : gu = opened_0) (eu3 : 0 ≤ gu ∧ gu ≤ 13) : fault_0 = gy := by
  first | assumption | (clear f0 f3 hK_0_160; omega) | (clear hK_0_160; grind) | omega | grind
set_option maxHeartbeats 4000000 in
theorem vc_Mo_both_at_f13_0_10 (x1 : Int) (x2 : Int) (x3 : Int) (tokenKind_0 : Int → Int) (cur_0 : Int) (tokens_0 : Int) (styleKind_0 : Int) (styleOne_0 : Int) (opened_0 : Int) (fault_0 : Int) (gx : Int) (gy : Int) (gu : Int) (k1 : 0 ≤ x1 ∧ x1 ≤ 2009) (k2 : 0 ≤ x2 ∧ x2 ≤ 5) (k3 : 0 ≤ x3 ∧ x3 ≤ 13) (f0 : ((cur_0 + 1) ≤ tokens_0) ∧ ((tokens_0 ≤ 2010) ∧ ((tokenKind_0 ((tokens_0 - 1)) = 0) ∨ (tokenKind_0 ((tokens_0 - 1)) = 4)))) (f1 : 1 * cur_0 + ((-1) * x1 + 0) ≤ 0) (f2 : (-1) * cur_0 + (1 * x1 + 0) ≤ 0) (f3 : (styleKind_0 = 0) → (styleOne_0 ≤ 23)) (f4 : 1 * opened_0 + 0 ≤ 13) (f5 : (-1) * opened_0 + 0 ≤ (-13)) (f6 : (-1) * fault_0 + 0 ≤ (-1)) (f7 : fault_0 = x2) (f8 : opened_0 = x3) (hK_0_160 : ∀ j : Int, 0 ≤ j → j < 2010 → 0 ≤ tokenKind_0 j ∧ tokenKind_0 j ≤ 4) (kz_0_8 : 0 ≤ fault_0 ∧ fault_0 ≤ 5) (kz_0_157 : 0 ≤ tokens_0 ∧ tokens_0 ≤ 2010) (kz_0_158 : 0 ≤ cur_0 ∧ cur_0 ≤ 2009) (kz_0_159 : 0 ≤ opened_0 ∧ opened_0 ≤ 13) (kz_0_164 : 0 ≤ styleKind_0 ∧ styleKind_0 ≤ 1) (kz_0_165 : (-1) ≤ styleOne_0 ∧ styleOne_0 ≤ 47) (ex2 : gx = cur_0) (ex3 : 0 ≤ gx ∧ gx ≤ 2009) (ey2 : gy = fault_0) (ey3 : 0 ≤ gy ∧ gy ≤ 5) (eu2 : gu = opened_0) (eu3 : 0 ≤ gu ∧ gu ≤ 13) : opened_0 = gu := by
  first | assumption | (clear f0 f3 hK_0_160; omega) | (clear hK_0_160; grind) | omega | grind
set_option maxHeartbeats 4000000 in
theorem vc_Mo_both_at_f13_0_11 (x1 : Int) (x2 : Int) (x3 : Int) (tokenKind_0 : Int → Int) (cur_0 : Int) (tokens_0 : Int) (styleKind_0 : Int) (styleOne_0 : Int) (opened_0 : Int) (fault_0 : Int) (gx : Int) (gy : Int) (gu : Int) (k1 : 0 ≤ x1 ∧ x1 ≤ 2009) (k2 : 0 ≤ x2 ∧ x2 ≤ 5) (k3 : 0 ≤ x3 ∧ x3 ≤ 13) (f0 : ((cur_0 + 1) ≤ tokens_0) ∧ ((tokens_0 ≤ 2010) ∧ ((tokenKind_0 ((tokens_0 - 1)) = 0) ∨ (tokenKind_0 ((tokens_0 - 1)) = 4)))) (f1 : 1 * cur_0 + ((-1) * x1 + 0) ≤ 0) (f2 : (-1) * cur_0 + (1 * x1 + 0) ≤ 0) (f3 : (styleKind_0 = 0) → (styleOne_0 ≤ 23)) (f4 : 1 * opened_0 + 0 ≤ 13) (f5 : (-1) * opened_0 + 0 ≤ (-13)) (f6 : (-1) * fault_0 + 0 ≤ (-1)) (f7 : fault_0 = x2) (f8 : opened_0 = x3) (hK_0_160 : ∀ j : Int, 0 ≤ j → j < 2010 → 0 ≤ tokenKind_0 j ∧ tokenKind_0 j ≤ 4) (kz_0_8 : 0 ≤ fault_0 ∧ fault_0 ≤ 5) (kz_0_157 : 0 ≤ tokens_0 ∧ tokens_0 ≤ 2010) (kz_0_158 : 0 ≤ cur_0 ∧ cur_0 ≤ 2009) (kz_0_159 : 0 ≤ opened_0 ∧ opened_0 ≤ 13) (kz_0_164 : 0 ≤ styleKind_0 ∧ styleKind_0 ≤ 1) (kz_0_165 : (-1) ≤ styleOne_0 ∧ styleOne_0 ≤ 47) (ex2 : gx = cur_0) (ex3 : 0 ≤ gx ∧ gx ≤ 2009) (ey2 : gy = fault_0) (ey3 : 0 ≤ gy ∧ gy ≤ 5) (eu2 : gu = opened_0) (eu3 : 0 ≤ gu ∧ gu ≤ 13) : 1 * x1 + ((-1) * gx + 0) ≤ 0 := by
  first | assumption | (clear f0 f3 hK_0_160; omega) | (clear hK_0_160; grind) | omega | grind
set_option maxHeartbeats 4000000 in
theorem vc_Mo_both_at_f13_0_12 (x1 : Int) (x2 : Int) (x3 : Int) (tokenKind_0 : Int → Int) (cur_0 : Int) (tokens_0 : Int) (styleKind_0 : Int) (styleOne_0 : Int) (opened_0 : Int) (fault_0 : Int) (gx : Int) (gy : Int) (gu : Int) (k1 : 0 ≤ x1 ∧ x1 ≤ 2009) (k2 : 0 ≤ x2 ∧ x2 ≤ 5) (k3 : 0 ≤ x3 ∧ x3 ≤ 13) (f0 : ((cur_0 + 1) ≤ tokens_0) ∧ ((tokens_0 ≤ 2010) ∧ ((tokenKind_0 ((tokens_0 - 1)) = 0) ∨ (tokenKind_0 ((tokens_0 - 1)) = 4)))) (f1 : 1 * cur_0 + ((-1) * x1 + 0) ≤ 0) (f2 : (-1) * cur_0 + (1 * x1 + 0) ≤ 0) (f3 : (styleKind_0 = 0) → (styleOne_0 ≤ 23)) (f4 : 1 * opened_0 + 0 ≤ 13) (f5 : (-1) * opened_0 + 0 ≤ (-13)) (f6 : (-1) * fault_0 + 0 ≤ (-1)) (f7 : fault_0 = x2) (f8 : opened_0 = x3) (hK_0_160 : ∀ j : Int, 0 ≤ j → j < 2010 → 0 ≤ tokenKind_0 j ∧ tokenKind_0 j ≤ 4) (kz_0_8 : 0 ≤ fault_0 ∧ fault_0 ≤ 5) (kz_0_157 : 0 ≤ tokens_0 ∧ tokens_0 ≤ 2010) (kz_0_158 : 0 ≤ cur_0 ∧ cur_0 ≤ 2009) (kz_0_159 : 0 ≤ opened_0 ∧ opened_0 ≤ 13) (kz_0_164 : 0 ≤ styleKind_0 ∧ styleKind_0 ≤ 1) (kz_0_165 : (-1) ≤ styleOne_0 ∧ styleOne_0 ≤ 47) (ex2 : gx = cur_0) (ex3 : 0 ≤ gx ∧ gx ≤ 2009) (ey2 : gy = fault_0) (ey3 : 0 ≤ gy ∧ gy ≤ 5) (eu2 : gu = opened_0) (eu3 : 0 ≤ gu ∧ gu ≤ 13) : gx = x1 := by
  first | assumption | (clear f0 f3 hK_0_160; omega) | (clear hK_0_160; grind) | omega | grind
set_option maxHeartbeats 4000000 in
theorem vc_Mo_both_at_f13_0_13 (x1 : Int) (x2 : Int) (x3 : Int) (tokenKind_0 : Int → Int) (cur_0 : Int) (tokens_0 : Int) (styleKind_0 : Int) (styleOne_0 : Int) (opened_0 : Int) (fault_0 : Int) (gx : Int) (gy : Int) (gu : Int) (k1 : 0 ≤ x1 ∧ x1 ≤ 2009) (k2 : 0 ≤ x2 ∧ x2 ≤ 5) (k3 : 0 ≤ x3 ∧ x3 ≤ 13) (f0 : ((cur_0 + 1) ≤ tokens_0) ∧ ((tokens_0 ≤ 2010) ∧ ((tokenKind_0 ((tokens_0 - 1)) = 0) ∨ (tokenKind_0 ((tokens_0 - 1)) = 4)))) (f1 : 1 * cur_0 + ((-1) * x1 + 0) ≤ 0) (f2 : (-1) * cur_0 + (1 * x1 + 0) ≤ 0) (f3 : (styleKind_0 = 0) → (styleOne_0 ≤ 23)) (f4 : 1 * opened_0 + 0 ≤ 13) (f5 : (-1) * opened_0 + 0 ≤ (-13)) (f6 : (-1) * fault_0 + 0 ≤ (-1)) (f7 : fault_0 = x2) (f8 : opened_0 = x3) (hK_0_160 : ∀ j : Int, 0 ≤ j → j < 2010 → 0 ≤ tokenKind_0 j ∧ tokenKind_0 j ≤ 4) (kz_0_8 : 0 ≤ fault_0 ∧ fault_0 ≤ 5) (kz_0_157 : 0 ≤ tokens_0 ∧ tokens_0 ≤ 2010) (kz_0_158 : 0 ≤ cur_0 ∧ cur_0 ≤ 2009) (kz_0_159 : 0 ≤ opened_0 ∧ opened_0 ≤ 13) (kz_0_164 : 0 ≤ styleKind_0 ∧ styleKind_0 ≤ 1) (kz_0_165 : (-1) ≤ styleOne_0 ∧ styleOne_0 ≤ 47) (ex2 : gx = cur_0) (ex3 : 0 ≤ gx ∧ gx ≤ 2009) (ey2 : gy = fault_0) (ey3 : 0 ≤ gy ∧ gy ≤ 5) (eu2 : gu = opened_0) (eu3 : 0 ≤ gu ∧ gu ≤ 13) : gy = x2 := by
  first | assumption | (clear f0 f3 hK_0_160; omega) | (clear hK_0_160; grind) | omega | grind
set_option maxHeartbeats 4000000 in
theorem vc_Mo_both_at_f13_0_14 (x1 : Int) (x2 : Int) (x3 : Int) (tokenKind_0 : Int → Int) (cur_0 : Int) (tokens_0 : Int) (styleKind_0 : Int) (styleOne_0 : Int) (opened_0 : Int) (fault_0 : Int) (gx : Int) (gy : Int) (gu : Int) (k1 : 0 ≤ x1 ∧ x1 ≤ 2009) (k2 : 0 ≤ x2 ∧ x2 ≤ 5) (k3 : 0 ≤ x3 ∧ x3 ≤ 13) (f0 : ((cur_0 + 1) ≤ tokens_0) ∧ ((tokens_0 ≤ 2010) ∧ ((tokenKind_0 ((tokens_0 - 1)) = 0) ∨ (tokenKind_0 ((tokens_0 - 1)) = 4)))) (f1 : 1 * cur_0 + ((-1) * x1 + 0) ≤ 0) (f2 : (-1) * cur_0 + (1 * x1 + 0) ≤ 0) (f3 : (styleKind_0 = 0) → (styleOne_0 ≤ 23)) (f4 : 1 * opened_0 + 0 ≤ 13) (f5 : (-1) * opened_0 + 0 ≤ (-13)) (f6 : (-1) * fault_0 + 0 ≤ (-1)) (f7 : fault_0 = x2) (f8 : opened_0 = x3) (hK_0_160 : ∀ j : Int, 0 ≤ j → j < 2010 → 0 ≤ tokenKind_0 j ∧ tokenKind_0 j ≤ 4) (kz_0_8 : 0 ≤ fault_0 ∧ fault_0 ≤ 5) (kz_0_157 : 0 ≤ tokens_0 ∧ tokens_0 ≤ 2010) (kz_0_158 : 0 ≤ cur_0 ∧ cur_0 ≤ 2009) (kz_0_159 : 0 ≤ opened_0 ∧ opened_0 ≤ 13) (kz_0_164 : 0 ≤ styleKind_0 ∧ styleKind_0 ≤ 1) (kz_0_165 : (-1) ≤ styleOne_0 ∧ styleOne_0 ≤ 47) (ex2 : gx = cur_0) (ex3 : 0 ≤ gx ∧ gx ≤ 2009) (ey2 : gy = fault_0) (ey3 : 0 ≤ gy ∧ gy ≤ 5) (eu2 : gu = opened_0) (eu3 : 0 ≤ gu ∧ gu ≤ 13) : gu = x3 := by
  first | assumption | (clear f0 f3 hK_0_160; omega) | (clear hK_0_160; grind) | omega | grind
def o_Mo_both_at_f13_0 : or_T := (1, 4, [(0, (2, 0, 0, [165])), (1, (0, 0, 2009, [])), (2, (0, 0, 5, [])), (3, (0, 0, 13, []))], [(20, [0], [50, 2, 1, 158, 157, 160, 2, 12, 0, 7, 4, 3, 2, 0, 158, 0, 1, 2, 0, 157, 2, 7, 0, 3, 2, 0, 157, 0, 2010, 3, 14, 1, 10, 3, 0, 160, 5, 3, 2, 0, 157, 0, 1, 0, 0, 1, 10, 3, 0, 160, 5, 3, 2, 0, 157, 0, 1, 0, 4]), (20, [0, 1], [30, 0, 1, 1, 158, -1, 0, 0]), (20, [0, 1], [30, 0, -1, 1, 158, 1, 0, 0]), (20, [0], [50, 2, 0, 164, 165, 4, 7, 1, 3, 2, 0, 164, 0, 0, 0, 3, 2, 0, 165, 0, 23]), (20, [0], [30, 13, 1, 1, 159]), (20, [0], [30, -13, -1, 1, 159]), (20, [0], [30, -1, -1, 1, 8]), (20, [0, 2], [50, 1, 0, 8, 1, 3, 2, 0, 8, 1, 1]), (20, [0, 3], [50, 1, 0, 159, 1, 3, 2, 0, 159, 1, 1])], [], [(0, 0, 2009, []), (0, 0, 5, []), (0, 0, 13, [])], [(23, [3], [13, 1]), (23, [3], [-13, -1]), (20, [0], [50, 2, 1, 158, 157, 160, 2, 12, 0, 7, 4, 3, 2, 0, 158, 0, 1, 2, 0, 157, 2, 7, 0, 3, 2, 0, 157, 0, 2010, 3, 14, 1, 10, 3, 0, 160, 5, 3, 2, 0, 157, 0, 1, 0, 0, 1, 10, 3, 0, 160, 5, 3, 2, 0, 157, 0, 1, 0, 4]), (20, [0, 4], [30, 0, 1, 1, 158, -1, 0, 0]), (20, [0, 4], [30, 0, -1, 1, 158, 1, 0, 0]), (20, [0], [50, 2, 0, 164, 165, 4, 7, 1, 3, 2, 0, 164, 0, 0, 0, 3, 2, 0, 165, 0, 23]), (20, [0], [30, 13, 1, 1, 159]), (20, [0], [30, -13, -1, 1, 159]), (20, [0], [30, -1, -1, 1, 8]), (20, [0, 5], [50, 1, 0, 8, 1, 3, 2, 0, 8, 1, 1]), (20, [0, 6], [50, 1, 0, 159, 1, 3, 2, 0, 159, 1, 1]), (23, [1, 4], [0, 1, -1]), (20, [4, 1], [50, 0, 0, 1, 2, 1, 0, 1, 1]), (20, [5, 2], [50, 0, 0, 1, 2, 1, 0, 1, 1]), (20, [6, 3], [50, 0, 0, 1, 2, 1, 0, 1, 1])], [], [])
theorem oo_Mo_both_at_f13_0 {kA : Nat → ClassId} : or_ok PRD kA GG o_Mo_both_at_f13_0 := by
  refine or_mk fun A ta ws vs hD hth hl => ?_
  intro t0 r0 t1 k1 t2 k2 t3 k3 f0 f1 f2 f3 f4 f5 f6 f7 f8
  replace f0 := shm_296 f0
  replace f1 := shm_297 f1
  replace f2 := shm_298 f2
  replace f3 := shm_299 f3
  replace f4 := shm_1005 f4
  replace f5 := shm_1006 f5
  replace f6 := shm_144 f6
  replace f7 := shm_302 f7
  replace f8 := shm_303 f8
  have cr_0_160 := fdq_41 hD hth r0
  have hK_0_160 := elq_5 hD hth cr_0_160
  have kz_0_8 := fdq_14 hD hth r0
  have kz_0_157 := fdq_42 hD hth r0
  have kz_0_158 := fdq_43 hD hth r0
  have kz_0_159 := fdq_44 hD hth r0
  have kz_0_164 := fdq_45 hD hth r0
  have kz_0_165 := fdq_35 hD hth r0
  obtain ⟨x, ex, hx⟩ := iv_ex (ta := ta) (lo := 0) (hi := 2009) (z := w_fi ws (n_v vs 0) 158) (by omega) (by omega) (by omega) (by omega)
  have ex2 : v_iv (Value.int x) = w_fi ws (n_v vs 0) 158 := ex
  have ex3 : 0 ≤ v_iv (Value.int x) ∧ v_iv (Value.int x) ≤ 2009 := tv_rng hx
  obtain ⟨y, ey, hy⟩ := iv_ex (ta := ta) (lo := 0) (hi := 5) (z := w_fi ws (n_v vs 0) 8) (by omega) (by omega) (by omega) (by omega)
  have ey2 : v_iv (Value.int y) = w_fi ws (n_v vs 0) 8 := ey
  have ey3 : 0 ≤ v_iv (Value.int y) ∧ v_iv (Value.int y) ≤ 5 := tv_rng hy
  obtain ⟨u, eu, hu⟩ := iv_ex (ta := ta) (lo := 0) (hi := 13) (z := w_fi ws (n_v vs 0) 159) (by omega) (by omega) (by omega) (by omega)
  have eu2 : v_iv (Value.int u) = w_fi ws (n_v vs 0) 159 := eu
  have eu3 : 0 ≤ v_iv (Value.int u) ∧ v_iv (Value.int u) ≤ 13 := tv_rng hu
  have e_0 : n_v (vs ++ [Value.int x, Value.int y, Value.int u]) 0 = n_v vs 0 := n_v_old (by rw [hl]; decide)
  have e_1 : n_v (vs ++ [Value.int x, Value.int y, Value.int u]) 1 = n_v vs 1 := n_v_old (by rw [hl]; decide)
  have e_2 : n_v (vs ++ [Value.int x, Value.int y, Value.int u]) 2 = n_v vs 2 := n_v_old (by rw [hl]; decide)
  have e_3 : n_v (vs ++ [Value.int x, Value.int y, Value.int u]) 3 = n_v vs 3 := n_v_old (by rw [hl]; decide)
  have e_4 : n_v (vs ++ [Value.int x, Value.int y, Value.int u]) 4 = Value.int x := n_v_newk (k := 0) hl rfl
  have e_5 : n_v (vs ++ [Value.int x, Value.int y, Value.int u]) 5 = Value.int y := n_v_newk (k := 1) hl rfl
  have e_6 : n_v (vs ++ [Value.int x, Value.int y, Value.int u]) 6 = Value.int u := n_v_newk (k := 2) hl rfl
  have nf0 : fc_1 PRD (23, [3], [13, 1]) ws (vs ++ [Value.int x, Value.int y, Value.int u]) := by
    refine ⟨nf_inA hl rfl, sgq_2014 ?_⟩
    · show 1 * v_iv (n_v (vs ++ [Value.int x, Value.int y, Value.int u]) 3) + 0 ≤ 13
      rw [e_3]
      exact vc_Mo_both_at_f13_0_0 (v_iv (n_v vs 1)) (v_iv (n_v vs 2)) (v_iv (n_v vs 3)) (w_ei ws (w_ar ws (n_v vs 0) 160)) (w_fi ws (n_v vs 0) 158) (w_fi ws (n_v vs 0) 157) (w_fi ws (n_v vs 0) 164) (w_fi ws (n_v vs 0) 165) (w_fi ws (n_v vs 0) 159) (w_fi ws (n_v vs 0) 8) (v_iv (Value.int x)) (v_iv (Value.int y)) (v_iv (Value.int u)) k1 k2 k3 f0 f1 f2 f3 f4 f5 f6 f7 f8 hK_0_160 kz_0_8 kz_0_157 kz_0_158 kz_0_159 kz_0_164 kz_0_165 ex2 ex3 ey2 ey3 eu2 eu3
  have nf1 : fc_1 PRD (23, [3], [-13, -1]) ws (vs ++ [Value.int x, Value.int y, Value.int u]) := by
    refine ⟨nf_inA hl rfl, sgq_2015 ?_⟩
    · show (-1) * v_iv (n_v (vs ++ [Value.int x, Value.int y, Value.int u]) 3) + 0 ≤ (-13)
      rw [e_3]
      exact vc_Mo_both_at_f13_0_1 (v_iv (n_v vs 1)) (v_iv (n_v vs 2)) (v_iv (n_v vs 3)) (w_ei ws (w_ar ws (n_v vs 0) 160)) (w_fi ws (n_v vs 0) 158) (w_fi ws (n_v vs 0) 157) (w_fi ws (n_v vs 0) 164) (w_fi ws (n_v vs 0) 165) (w_fi ws (n_v vs 0) 159) (w_fi ws (n_v vs 0) 8) (v_iv (Value.int x)) (v_iv (Value.int y)) (v_iv (Value.int u)) k1 k2 k3 f0 f1 f2 f3 f4 f5 f6 f7 f8 hK_0_160 kz_0_8 kz_0_157 kz_0_158 kz_0_159 kz_0_164 kz_0_165 ex2 ex3 ey2 ey3 eu2 eu3
  have nf2 : fc_1 PRD (20, [0], [50, 2, 1, 158, 157, 160, 2, 12, 0, 7, 4, 3, 2, 0, 158, 0, 1, 2, 0, 157, 2, 7, 0, 3, 2, 0, 157, 0, 2010, 3, 14, 1, 10, 3, 0, 160, 5, 3, 2, 0, 157, 0, 1, 0, 0, 1, 10, 3, 0, 160, 5, 3, 2, 0, 157, 0, 1, 0, 4]) ws (vs ++ [Value.int x, Value.int y, Value.int u]) := by
    refine ⟨nf_inA hl rfl, sgq_296 ?_⟩
    · show ((w_fi ws (n_v (vs ++ [Value.int x, Value.int y, Value.int u]) 0) 158 + 1) ≤ w_fi ws (n_v (vs ++ [Value.int x, Value.int y, Value.int u]) 0) 157) ∧ ((w_fi ws (n_v (vs ++ [Value.int x, Value.int y, Value.int u]) 0) 157 ≤ 2010) ∧ ((w_ei ws (w_ar ws (n_v (vs ++ [Value.int x, Value.int y, Value.int u]) 0) 160) ((w_fi ws (n_v (vs ++ [Value.int x, Value.int y, Value.int u]) 0) 157 - 1)) = 0) ∨ (w_ei ws (w_ar ws (n_v (vs ++ [Value.int x, Value.int y, Value.int u]) 0) 160) ((w_fi ws (n_v (vs ++ [Value.int x, Value.int y, Value.int u]) 0) 157 - 1)) = 4)))
      rw [e_0]
      exact vc_Mo_both_at_f13_0_2 (v_iv (n_v vs 1)) (v_iv (n_v vs 2)) (v_iv (n_v vs 3)) (w_ei ws (w_ar ws (n_v vs 0) 160)) (w_fi ws (n_v vs 0) 158) (w_fi ws (n_v vs 0) 157) (w_fi ws (n_v vs 0) 164) (w_fi ws (n_v vs 0) 165) (w_fi ws (n_v vs 0) 159) (w_fi ws (n_v vs 0) 8) (v_iv (Value.int x)) (v_iv (Value.int y)) (v_iv (Value.int u)) k1 k2 k3 f0 f1 f2 f3 f4 f5 f6 f7 f8 hK_0_160 kz_0_8 kz_0_157 kz_0_158 kz_0_159 kz_0_164 kz_0_165 ex2 ex3 ey2 ey3 eu2 eu3
  have nf3 : fc_1 PRD (20, [0, 4], [30, 0, 1, 1, 158, -1, 0, 0]) ws (vs ++ [Value.int x, Value.int y, Value.int u]) := by
    refine ⟨nf_inA hl rfl, sgq_297 ?_⟩
    · show 1 * w_fi ws (n_v (vs ++ [Value.int x, Value.int y, Value.int u]) 0) 158 + ((-1) * v_iv (n_v (vs ++ [Value.int x, Value.int y, Value.int u]) 4) + 0) ≤ 0
      simp only [e_0, e_4]
      exact vc_Mo_both_at_f13_0_3 (v_iv (n_v vs 1)) (v_iv (n_v vs 2)) (v_iv (n_v vs 3)) (w_ei ws (w_ar ws (n_v vs 0) 160)) (w_fi ws (n_v vs 0) 158) (w_fi ws (n_v vs 0) 157) (w_fi ws (n_v vs 0) 164) (w_fi ws (n_v vs 0) 165) (w_fi ws (n_v vs 0) 159) (w_fi ws (n_v vs 0) 8) (v_iv (Value.int x)) (v_iv (Value.int y)) (v_iv (Value.int u)) k1 k2 k3 f0 f1 f2 f3 f4 f5 f6 f7 f8 hK_0_160 kz_0_8 kz_0_157 kz_0_158 kz_0_159 kz_0_164 kz_0_165 ex2 ex3 ey2 ey3 eu2 eu3
  have nf4 : fc_1 PRD (20, [0, 4], [30, 0, -1, 1, 158, 1, 0, 0]) ws (vs ++ [Value.int x, Value.int y, Value.int u]) := by
    refine ⟨nf_inA hl rfl, sgq_298 ?_⟩
    · show (-1) * w_fi ws (n_v (vs ++ [Value.int x, Value.int y, Value.int u]) 0) 158 + (1 * v_iv (n_v (vs ++ [Value.int x, Value.int y, Value.int u]) 4) + 0) ≤ 0
      simp only [e_0, e_4]
      exact vc_Mo_both_at_f13_0_4 (v_iv (n_v vs 1)) (v_iv (n_v vs 2)) (v_iv (n_v vs 3)) (w_ei ws (w_ar ws (n_v vs 0) 160)) (w_fi ws (n_v vs 0) 158) (w_fi ws (n_v vs 0) 157) (w_fi ws (n_v vs 0) 164) (w_fi ws (n_v vs 0) 165) (w_fi ws (n_v vs 0) 159) (w_fi ws (n_v vs 0) 8) (v_iv (Value.int x)) (v_iv (Value.int y)) (v_iv (Value.int u)) k1 k2 k3 f0 f1 f2 f3 f4 f5 f6 f7 f8 hK_0_160 kz_0_8 kz_0_157 kz_0_158 kz_0_159 kz_0_164 kz_0_165 ex2 ex3 ey2 ey3 eu2 eu3
  have nf5 : fc_1 PRD (20, [0], [50, 2, 0, 164, 165, 4, 7, 1, 3, 2, 0, 164, 0, 0, 0, 3, 2, 0, 165, 0, 23]) ws (vs ++ [Value.int x, Value.int y, Value.int u]) := by
    refine ⟨nf_inA hl rfl, sgq_299 ?_⟩
    · show (w_fi ws (n_v (vs ++ [Value.int x, Value.int y, Value.int u]) 0) 164 = 0) → (w_fi ws (n_v (vs ++ [Value.int x, Value.int y, Value.int u]) 0) 165 ≤ 23)
      rw [e_0]
      exact vc_Mo_both_at_f13_0_5 (v_iv (n_v vs 1)) (v_iv (n_v vs 2)) (v_iv (n_v vs 3)) (w_ei ws (w_ar ws (n_v vs 0) 160)) (w_fi ws (n_v vs 0) 158) (w_fi ws (n_v vs 0) 157) (w_fi ws (n_v vs 0) 164) (w_fi ws (n_v vs 0) 165) (w_fi ws (n_v vs 0) 159) (w_fi ws (n_v vs 0) 8) (v_iv (Value.int x)) (v_iv (Value.int y)) (v_iv (Value.int u)) k1 k2 k3 f0 f1 f2 f3 f4 f5 f6 f7 f8 hK_0_160 kz_0_8 kz_0_157 kz_0_158 kz_0_159 kz_0_164 kz_0_165 ex2 ex3 ey2 ey3 eu2 eu3
  have nf6 : fc_1 PRD (20, [0], [30, 13, 1, 1, 159]) ws (vs ++ [Value.int x, Value.int y, Value.int u]) := by
    refine ⟨nf_inA hl rfl, sgq_1005 ?_⟩
    · show 1 * w_fi ws (n_v (vs ++ [Value.int x, Value.int y, Value.int u]) 0) 159 + 0 ≤ 13
      rw [e_0]
      exact vc_Mo_both_at_f13_0_6 (v_iv (n_v vs 1)) (v_iv (n_v vs 2)) (v_iv (n_v vs 3)) (w_ei ws (w_ar ws (n_v vs 0) 160)) (w_fi ws (n_v vs 0) 158) (w_fi ws (n_v vs 0) 157) (w_fi ws (n_v vs 0) 164) (w_fi ws (n_v vs 0) 165) (w_fi ws (n_v vs 0) 159) (w_fi ws (n_v vs 0) 8) (v_iv (Value.int x)) (v_iv (Value.int y)) (v_iv (Value.int u)) k1 k2 k3 f0 f1 f2 f3 f4 f5 f6 f7 f8 hK_0_160 kz_0_8 kz_0_157 kz_0_158 kz_0_159 kz_0_164 kz_0_165 ex2 ex3 ey2 ey3 eu2 eu3
  have nf7 : fc_1 PRD (20, [0], [30, -13, -1, 1, 159]) ws (vs ++ [Value.int x, Value.int y, Value.int u]) := by
    refine ⟨nf_inA hl rfl, sgq_1006 ?_⟩
    · show (-1) * w_fi ws (n_v (vs ++ [Value.int x, Value.int y, Value.int u]) 0) 159 + 0 ≤ (-13)
      rw [e_0]
      exact vc_Mo_both_at_f13_0_7 (v_iv (n_v vs 1)) (v_iv (n_v vs 2)) (v_iv (n_v vs 3)) (w_ei ws (w_ar ws (n_v vs 0) 160)) (w_fi ws (n_v vs 0) 158) (w_fi ws (n_v vs 0) 157) (w_fi ws (n_v vs 0) 164) (w_fi ws (n_v vs 0) 165) (w_fi ws (n_v vs 0) 159) (w_fi ws (n_v vs 0) 8) (v_iv (Value.int x)) (v_iv (Value.int y)) (v_iv (Value.int u)) k1 k2 k3 f0 f1 f2 f3 f4 f5 f6 f7 f8 hK_0_160 kz_0_8 kz_0_157 kz_0_158 kz_0_159 kz_0_164 kz_0_165 ex2 ex3 ey2 ey3 eu2 eu3
  have nf8 : fc_1 PRD (20, [0], [30, -1, -1, 1, 8]) ws (vs ++ [Value.int x, Value.int y, Value.int u]) := by
    refine ⟨nf_inA hl rfl, sgq_144 ?_⟩
    · show (-1) * w_fi ws (n_v (vs ++ [Value.int x, Value.int y, Value.int u]) 0) 8 + 0 ≤ (-1)
      rw [e_0]
      exact vc_Mo_both_at_f13_0_8 (v_iv (n_v vs 1)) (v_iv (n_v vs 2)) (v_iv (n_v vs 3)) (w_ei ws (w_ar ws (n_v vs 0) 160)) (w_fi ws (n_v vs 0) 158) (w_fi ws (n_v vs 0) 157) (w_fi ws (n_v vs 0) 164) (w_fi ws (n_v vs 0) 165) (w_fi ws (n_v vs 0) 159) (w_fi ws (n_v vs 0) 8) (v_iv (Value.int x)) (v_iv (Value.int y)) (v_iv (Value.int u)) k1 k2 k3 f0 f1 f2 f3 f4 f5 f6 f7 f8 hK_0_160 kz_0_8 kz_0_157 kz_0_158 kz_0_159 kz_0_164 kz_0_165 ex2 ex3 ey2 ey3 eu2 eu3
  have nf9 : fc_1 PRD (20, [0, 5], [50, 1, 0, 8, 1, 3, 2, 0, 8, 1, 1]) ws (vs ++ [Value.int x, Value.int y, Value.int u]) := by
    refine ⟨nf_inA hl rfl, sgq_302 ?_⟩
    · show w_fi ws (n_v (vs ++ [Value.int x, Value.int y, Value.int u]) 0) 8 = v_iv (n_v (vs ++ [Value.int x, Value.int y, Value.int u]) 5)
      simp only [e_0, e_5]
      exact vc_Mo_both_at_f13_0_9 (v_iv (n_v vs 1)) (v_iv (n_v vs 2)) (v_iv (n_v vs 3)) (w_ei ws (w_ar ws (n_v vs 0) 160)) (w_fi ws (n_v vs 0) 158) (w_fi ws (n_v vs 0) 157) (w_fi ws (n_v vs 0) 164) (w_fi ws (n_v vs 0) 165) (w_fi ws (n_v vs 0) 159) (w_fi ws (n_v vs 0) 8) (v_iv (Value.int x)) (v_iv (Value.int y)) (v_iv (Value.int u)) k1 k2 k3 f0 f1 f2 f3 f4 f5 f6 f7 f8 hK_0_160 kz_0_8 kz_0_157 kz_0_158 kz_0_159 kz_0_164 kz_0_165 ex2 ex3 ey2 ey3 eu2 eu3
  have nf10 : fc_1 PRD (20, [0, 6], [50, 1, 0, 159, 1, 3, 2, 0, 159, 1, 1]) ws (vs ++ [Value.int x, Value.int y, Value.int u]) := by
    refine ⟨nf_inA hl rfl, sgq_303 ?_⟩
    · show w_fi ws (n_v (vs ++ [Value.int x, Value.int y, Value.int u]) 0) 159 = v_iv (n_v (vs ++ [Value.int x, Value.int y, Value.int u]) 6)
      simp only [e_0, e_6]
      exact vc_Mo_both_at_f13_0_10 (v_iv (n_v vs 1)) (v_iv (n_v vs 2)) (v_iv (n_v vs 3)) (w_ei ws (w_ar ws (n_v vs 0) 160)) (w_fi ws (n_v vs 0) 158) (w_fi ws (n_v vs 0) 157) (w_fi ws (n_v vs 0) 164) (w_fi ws (n_v vs 0) 165) (w_fi ws (n_v vs 0) 159) (w_fi ws (n_v vs 0) 8) (v_iv (Value.int x)) (v_iv (Value.int y)) (v_iv (Value.int u)) k1 k2 k3 f0 f1 f2 f3 f4 f5 f6 f7 f8 hK_0_160 kz_0_8 kz_0_157 kz_0_158 kz_0_159 kz_0_164 kz_0_165 ex2 ex3 ey2 ey3 eu2 eu3
  have nf11 : fc_1 PRD (23, [1, 4], [0, 1, -1]) ws (vs ++ [Value.int x, Value.int y, Value.int u]) := by
    refine ⟨nf_inA hl rfl, sgq_7 ?_⟩
    · show 1 * v_iv (n_v (vs ++ [Value.int x, Value.int y, Value.int u]) 1) + ((-1) * v_iv (n_v (vs ++ [Value.int x, Value.int y, Value.int u]) 4) + 0) ≤ 0
      simp only [e_1, e_4]
      exact vc_Mo_both_at_f13_0_11 (v_iv (n_v vs 1)) (v_iv (n_v vs 2)) (v_iv (n_v vs 3)) (w_ei ws (w_ar ws (n_v vs 0) 160)) (w_fi ws (n_v vs 0) 158) (w_fi ws (n_v vs 0) 157) (w_fi ws (n_v vs 0) 164) (w_fi ws (n_v vs 0) 165) (w_fi ws (n_v vs 0) 159) (w_fi ws (n_v vs 0) 8) (v_iv (Value.int x)) (v_iv (Value.int y)) (v_iv (Value.int u)) k1 k2 k3 f0 f1 f2 f3 f4 f5 f6 f7 f8 hK_0_160 kz_0_8 kz_0_157 kz_0_158 kz_0_159 kz_0_164 kz_0_165 ex2 ex3 ey2 ey3 eu2 eu3
  have nf12 : fc_1 PRD (20, [4, 1], [50, 0, 0, 1, 2, 1, 0, 1, 1]) ws (vs ++ [Value.int x, Value.int y, Value.int u]) := by
    refine ⟨nf_inA hl rfl, sgq_48 ?_⟩
    · show v_iv (n_v (vs ++ [Value.int x, Value.int y, Value.int u]) 4) = v_iv (n_v (vs ++ [Value.int x, Value.int y, Value.int u]) 1)
      simp only [e_1, e_4]
      exact vc_Mo_both_at_f13_0_12 (v_iv (n_v vs 1)) (v_iv (n_v vs 2)) (v_iv (n_v vs 3)) (w_ei ws (w_ar ws (n_v vs 0) 160)) (w_fi ws (n_v vs 0) 158) (w_fi ws (n_v vs 0) 157) (w_fi ws (n_v vs 0) 164) (w_fi ws (n_v vs 0) 165) (w_fi ws (n_v vs 0) 159) (w_fi ws (n_v vs 0) 8) (v_iv (Value.int x)) (v_iv (Value.int y)) (v_iv (Value.int u)) k1 k2 k3 f0 f1 f2 f3 f4 f5 f6 f7 f8 hK_0_160 kz_0_8 kz_0_157 kz_0_158 kz_0_159 kz_0_164 kz_0_165 ex2 ex3 ey2 ey3 eu2 eu3
  have nf13 : fc_1 PRD (20, [5, 2], [50, 0, 0, 1, 2, 1, 0, 1, 1]) ws (vs ++ [Value.int x, Value.int y, Value.int u]) := by
    refine ⟨nf_inA hl rfl, sgq_48 ?_⟩
    · show v_iv (n_v (vs ++ [Value.int x, Value.int y, Value.int u]) 5) = v_iv (n_v (vs ++ [Value.int x, Value.int y, Value.int u]) 2)
      simp only [e_2, e_5]
      exact vc_Mo_both_at_f13_0_13 (v_iv (n_v vs 1)) (v_iv (n_v vs 2)) (v_iv (n_v vs 3)) (w_ei ws (w_ar ws (n_v vs 0) 160)) (w_fi ws (n_v vs 0) 158) (w_fi ws (n_v vs 0) 157) (w_fi ws (n_v vs 0) 164) (w_fi ws (n_v vs 0) 165) (w_fi ws (n_v vs 0) 159) (w_fi ws (n_v vs 0) 8) (v_iv (Value.int x)) (v_iv (Value.int y)) (v_iv (Value.int u)) k1 k2 k3 f0 f1 f2 f3 f4 f5 f6 f7 f8 hK_0_160 kz_0_8 kz_0_157 kz_0_158 kz_0_159 kz_0_164 kz_0_165 ex2 ex3 ey2 ey3 eu2 eu3
  have nf14 : fc_1 PRD (20, [6, 3], [50, 0, 0, 1, 2, 1, 0, 1, 1]) ws (vs ++ [Value.int x, Value.int y, Value.int u]) := by
    refine ⟨nf_inA hl rfl, sgq_48 ?_⟩
    · show v_iv (n_v (vs ++ [Value.int x, Value.int y, Value.int u]) 6) = v_iv (n_v (vs ++ [Value.int x, Value.int y, Value.int u]) 3)
      simp only [e_3, e_6]
      exact vc_Mo_both_at_f13_0_14 (v_iv (n_v vs 1)) (v_iv (n_v vs 2)) (v_iv (n_v vs 3)) (w_ei ws (w_ar ws (n_v vs 0) 160)) (w_fi ws (n_v vs 0) 158) (w_fi ws (n_v vs 0) 157) (w_fi ws (n_v vs 0) 164) (w_fi ws (n_v vs 0) 165) (w_fi ws (n_v vs 0) 159) (w_fi ws (n_v vs 0) 8) (v_iv (Value.int x)) (v_iv (Value.int y)) (v_iv (Value.int u)) k1 k2 k3 f0 f1 f2 f3 f4 f5 f6 f7 f8 hK_0_160 kz_0_8 kz_0_157 kz_0_158 kz_0_159 kz_0_164 kz_0_165 ex2 ex3 ey2 ey3 eu2 eu3
  exact ⟨(fun _ h => (by cases h)), [Value.int x, Value.int y, Value.int u], ag_three hx hy hu, List.forall_mem_cons.mpr ⟨⟨show (23 : Nat) < 100 from by decide, nf0⟩, List.forall_mem_cons.mpr ⟨⟨show (23 : Nat) < 100 from by decide, nf1⟩, List.forall_mem_cons.mpr ⟨⟨show (20 : Nat) < 100 from by decide, nf2⟩, List.forall_mem_cons.mpr ⟨⟨show (20 : Nat) < 100 from by decide, nf3⟩, List.forall_mem_cons.mpr ⟨⟨show (20 : Nat) < 100 from by decide, nf4⟩, List.forall_mem_cons.mpr ⟨⟨show (20 : Nat) < 100 from by decide, nf5⟩, List.forall_mem_cons.mpr ⟨⟨show (20 : Nat) < 100 from by decide, nf6⟩, List.forall_mem_cons.mpr ⟨⟨show (20 : Nat) < 100 from by decide, nf7⟩, List.forall_mem_cons.mpr ⟨⟨show (20 : Nat) < 100 from by decide, nf8⟩, List.forall_mem_cons.mpr ⟨⟨show (20 : Nat) < 100 from by decide, nf9⟩, List.forall_mem_cons.mpr ⟨⟨show (20 : Nat) < 100 from by decide, nf10⟩, List.forall_mem_cons.mpr ⟨⟨show (23 : Nat) < 100 from by decide, nf11⟩, List.forall_mem_cons.mpr ⟨⟨show (20 : Nat) < 100 from by decide, nf12⟩, List.forall_mem_cons.mpr ⟨⟨show (20 : Nat) < 100 from by decide, nf13⟩, List.forall_mem_cons.mpr ⟨⟨show (20 : Nat) < 100 from by decide, nf14⟩, (fun _ h => (by cases h))⟩⟩⟩⟩⟩⟩⟩⟩⟩⟩⟩⟩⟩⟩⟩, (fun _ h => (by cases h))⟩
set_option maxHeartbeats 4000000 in
theorem vc_Mo_both_at_f13_1_0 (x1 : Int) (x2 : Int) (x3 : Int) (x4 : Int) (x5 : Int) (x6 : Int) (cur_0 : Int) (styleKind_0 : Int) (styleOne_0 : Int) (fault_0 : Int) (opened_0 : Int) (tokenKind_0 : Int → Int) (tokens_0 : Int) (tokenValue_0 : Int → Int) (tokenPlace_0 : Int → Int) (tokenEnd_0 : Int → Int) (tape_0 : Int → Int) (limit_0 : Int) (gx : Int) (k1 : 0 ≤ x1 ∧ x1 ≤ 2009) (k2 : 0 ≤ x2 ∧ x2 ≤ 5) (k3 : 0 ≤ x3 ∧ x3 ≤ 13) (k4 : 0 ≤ x4 ∧ x4 ≤ 2009) (k5 : 0 ≤ x5 ∧ x5 ≤ 5) (k6 : 0 ≤ x6 ∧ x6 ≤ 13) (f0 : 1 * x3 + 0 ≤ 13) (f1 : (-1) * x3 + 0 ≤ (-13)) (f2 : 1 * cur_0 + ((-1) * x4 + 0) ≤ 0) (f3 : (-1) * cur_0 + (1 * x4 + 0) ≤ 0) (f4 : (styleKind_0 = 0) → (styleOne_0 ≤ 23)) (f5 : fault_0 = x5) (f6 : opened_0 = x6) (f7 : 1 * x1 + ((-1) * x4 + 0) ≤ 0) (f8 : x4 = x1) (f9 : x5 = x2) (f10 : x6 = x3) (f11 : 1 * cur_0 + ((-1) * x1 + 0) ≤ 0) (f12 : (-1) * cur_0 + (1 * x1 + 0) ≤ 0) (f13 : (styleKind_0 = 0) → (styleOne_0 ≤ 23)) (f14 : fault_0 = x2) (f15 : opened_0 = x3) (f16 : ((cur_0 + 1) ≤ tokens_0) ∧ ((tokens_0 ≤ 2010) ∧ ((tokenKind_0 ((tokens_0 - 1)) = 0) ∨ (tokenKind_0 ((tokens_0 - 1)) = 4)))) (f17 : 1 * x4 + ((-1) * cur_0 + 0) ≤ 0) (f18 : 1 * opened_0 + 0 ≤ 13) (f19 : (-1) * opened_0 + 0 ≤ (-13)) (f20 : (-1) * fault_0 + 0 ≤ (-1)) (f21 : SON (fault_0) (cur_0) (styleKind_0) (limit_0) (tokenKind_0) (tokenValue_0) (tokenPlace_0) (tokenEnd_0) (tape_0) (x4) (x5) (x6)) (f23 : 1 * x3 + 0 ≤ 13) (f24 : (-1) * x3 + 0 ≤ (-13)) (f25 : 1 * x1 + ((-1) * x4 + 0) ≤ 0) (hK_0_1 : ∀ j : Int, 0 ≤ j → j < 2000 → (-128) ≤ tape_0 j ∧ tape_0 j ≤ 127) (hK_0_160 : ∀ j : Int, 0 ≤ j → j < 2010 → 0 ≤ tokenKind_0 j ∧ tokenKind_0 j ≤ 4) (hK_0_162 : ∀ j : Int, 0 ≤ j → j < 2010 → 0 ≤ tokenPlace_0 j ∧ tokenPlace_0 j ≤ 2000) (hK_0_163 : ∀ j : Int, 0 ≤ j → j < 2010 → 0 ≤ tokenEnd_0 j ∧ tokenEnd_0 j ≤ 2000) (kz_0_8 : 0 ≤ fault_0 ∧ fault_0 ≤ 5) (kz_0_10 : 0 ≤ limit_0 ∧ limit_0 ≤ 2000) (kz_0_157 : 0 ≤ tokens_0 ∧ tokens_0 ≤ 2010) (kz_0_158 : 0 ≤ cur_0 ∧ cur_0 ≤ 2009) (kz_0_159 : 0 ≤ opened_0 ∧ opened_0 ≤ 13) (kz_0_164 : 0 ≤ styleKind_0 ∧ styleKind_0 ≤ 1) (kz_0_165 : (-1) ≤ styleOne_0 ∧ styleOne_0 ≤ 47) (ex2 : gx = 2010 + ((-1) * cur_0 + 0)) (ex3 : 0 ≤ gx ∧ gx ≤ 2010) : ((cur_0 + 1) ≤ tokens_0) ∧ ((tokens_0 ≤ 2010) ∧ ((tokenKind_0 ((tokens_0 - 1)) = 0) ∨ (tokenKind_0 ((tokens_0 - 1)) = 4))) := by
  first | assumption | (clear f4 f13 f16 hK_0_1 hK_0_160 hK_0_162 hK_0_163; omega) | (clear hK_0_1 hK_0_160 hK_0_162 hK_0_163; grind) | omega | grind
set_option maxHeartbeats 4000000 in
theorem vc_Mo_both_at_f13_1_1 (x1 : Int) (x2 : Int) (x3 : Int) (x4 : Int) (x5 : Int) (x6 : Int) (cur_0 : Int) (styleKind_0 : Int) (styleOne_0 : Int) (fault_0 : Int) (opened_0 : Int) (tokenKind_0 : Int → Int) (tokens_0 : Int) (tokenValue_0 : Int → Int) (tokenPlace_0 : Int → Int) (tokenEnd_0 : Int → Int) (tape_0 : Int → Int) (limit_0 : Int) (gx : Int) (k1 : 0 ≤ x1 ∧ x1 ≤ 2009) (k2 : 0 ≤ x2 ∧ x2 ≤ 5) (k3 : 0 ≤ x3 ∧ x3 ≤ 13) (k4 : 0 ≤ x4 ∧ x4 ≤ 2009) (k5 : 0 ≤ x5 ∧ x5 ≤ 5) (k6 : 0 ≤ x6 ∧ x6 ≤ 13) (f0 : 1 * x3 + 0 ≤ 13) (f1 : (-1) * x3 + 0 ≤ (-13)) (f2 : 1 * cur_0 + ((-1) * x4 + 0) ≤ 0) (f3 : (-1) * cur_0 + (1 * x4 + 0) ≤ 0) (f4 : (styleKind_0 = 0) → (styleOne_0 ≤ 23)) (f5 : fault_0 = x5) (f6 : opened_0 = x6) (f7 : 1 * x1 + ((-1) * x4 + 0) ≤ 0) (f8 : x4 = x1) (f9 : x5 = x2) (f10 : x6 = x3) (f11 : 1 * cur_0 + ((-1) * x1 + 0) ≤ 0) (f12 : (-1) * cur_0 + (1 * x1 + 0) ≤ 0) (f13 : (styleKind_0 = 0) → (styleOne_0 ≤ 23)) (f14 : fault_0 = x2) (f15 : opened_0 = x3) (f16 : ((cur_0 + 1) ≤ tokens_0) ∧ ((tokens_0 ≤ 2010) ∧ ((tokenKind_0 ((tokens_0 - 1)) = 0) ∨ (tokenKind_0 ((tokens_0 - 1)) = 4)))) (f17 : 1 * x4 + ((-1) * cur_0 + 0) ≤ 0) (f18 : 1 * opened_0 + 0 ≤ 13) (f19 : (-1) * opened_0 + 0 ≤ (-13)) (f20 : (-1) * fault_0 + 0 ≤ (-1)) (f21 : SON (fault_0) (cur_0) (styleKind_0) (limit_0) (tokenKind_0) (tokenValue_0) (tokenPlace_0) (tokenEnd_0) (tape_0) (x4) (x5) (x6)) (f23 : 1 * x3 + 0 ≤ 13) (f24 : (-1) * x3 + 0 ≤ (-13)) (f25 : 1 * x1 + ((-1) * x4 + 0) ≤ 0) (hK_0_1 : ∀ j : Int, 0 ≤ j → j < 2000 → (-128) ≤ tape_0 j ∧ tape_0 j ≤ 127) (hK_0_160 : ∀ j : Int, 0 ≤ j → j < 2010 → 0 ≤ tokenKind_0 j ∧ tokenKind_0 j ≤ 4) (hK_0_162 : ∀ j : Int, 0 ≤ j → j < 2010 → 0 ≤ tokenPlace_0 j ∧ tokenPlace_0 j ≤ 2000) (hK_0_163 : ∀ j : Int, 0 ≤ j → j < 2010 → 0 ≤ tokenEnd_0 j ∧ tokenEnd_0 j ≤ 2000) (kz_0_8 : 0 ≤ fault_0 ∧ fault_0 ≤ 5) (kz_0_10 : 0 ≤ limit_0 ∧ limit_0 ≤ 2000) (kz_0_157 : 0 ≤ tokens_0 ∧ tokens_0 ≤ 2010) (kz_0_158 : 0 ≤ cur_0 ∧ cur_0 ≤ 2009) (kz_0_159 : 0 ≤ opened_0 ∧ opened_0 ≤ 13) (kz_0_164 : 0 ≤ styleKind_0 ∧ styleKind_0 ≤ 1) (kz_0_165 : (-1) ≤ styleOne_0 ∧ styleOne_0 ≤ 47) (ex2 : gx = 2010 + ((-1) * cur_0 + 0)) (ex3 : 0 ≤ gx ∧ gx ≤ 2010) : 1 * x1 + ((-1) * cur_0 + 0) ≤ 0 := by
  first | assumption | (clear f4 f13 f16 hK_0_1 hK_0_160 hK_0_162 hK_0_163; omega) | (clear hK_0_1 hK_0_160 hK_0_162 hK_0_163; grind) | omega | grind
set_option maxHeartbeats 4000000 in
theorem vc_Mo_both_at_f13_1_2 (x1 : Int) (x2 : Int) (x3 : Int) (x4 : Int) (x5 : Int) (x6 : Int) (cur_0 : Int) (styleKind_0 : Int) (styleOne_0 : Int) (fault_0 : Int) (opened_0 : Int) (tokenKind_0 : Int → Int) (tokens_0 : Int) (tokenValue_0 : Int → Int) (tokenPlace_0 : Int → Int) (tokenEnd_0 : Int → Int) (tape_0 : Int → Int) (limit_0 : Int) (gx : Int) (k1 : 0 ≤ x1 ∧ x1 ≤ 2009) (k2 : 0 ≤ x2 ∧ x2 ≤ 5) (k3 : 0 ≤ x3 ∧ x3 ≤ 13) (k4 : 0 ≤ x4 ∧ x4 ≤ 2009) (k5 : 0 ≤ x5 ∧ x5 ≤ 5) (k6 : 0 ≤ x6 ∧ x6 ≤ 13) (f0 : 1 * x3 + 0 ≤ 13) (f1 : (-1) * x3 + 0 ≤ (-13)) (f2 : 1 * cur_0 + ((-1) * x4 + 0) ≤ 0) (f3 : (-1) * cur_0 + (1 * x4 + 0) ≤ 0) (f4 : (styleKind_0 = 0) → (styleOne_0 ≤ 23)) (f5 : fault_0 = x5) (f6 : opened_0 = x6) (f7 : 1 * x1 + ((-1) * x4 + 0) ≤ 0) (f8 : x4 = x1) (f9 : x5 = x2) (f10 : x6 = x3) (f11 : 1 * cur_0 + ((-1) * x1 + 0) ≤ 0) (f12 : (-1) * cur_0 + (1 * x1 + 0) ≤ 0) (f13 : (styleKind_0 = 0) → (styleOne_0 ≤ 23)) (f14 : fault_0 = x2) (f15 : opened_0 = x3) (f16 : ((cur_0 + 1) ≤ tokens_0) ∧ ((tokens_0 ≤ 2010) ∧ ((tokenKind_0 ((tokens_0 - 1)) = 0) ∨ (tokenKind_0 ((tokens_0 - 1)) = 4)))) (f17 : 1 * x4 + ((-1) * cur_0 + 0) ≤ 0) (f18 : 1 * opened_0 + 0 ≤ 13) (f19 : (-1) * opened_0 + 0 ≤ (-13)) (f20 : (-1) * fault_0 + 0 ≤ (-1)) (f21 : SON (fault_0) (cur_0) (styleKind_0) (limit_0) (tokenKind_0) (tokenValue_0) (tokenPlace_0) (tokenEnd_0) (tape_0) (x4) (x5) (x6)) (f23 : 1 * x3 + 0 ≤ 13) (f24 : (-1) * x3 + 0 ≤ (-13)) (f25 : 1 * x1 + ((-1) * x4 + 0) ≤ 0) (hK_0_1 : ∀ j : Int, 0 ≤ j → j < 2000 → (-128) ≤ tape_0 j ∧ tape_0 j ≤ 127) (hK_0_160 : ∀ j : Int, 0 ≤ j → j < 2010 → 0 ≤ tokenKind_0 j ∧ tokenKind_0 j ≤ 4) (hK_0_162 : ∀ j : Int, 0 ≤ j → j < 2010 → 0 ≤ tokenPlace_0 j ∧ tokenPlace_0 j ≤ 2000) (hK_0_163 : ∀ j : Int, 0 ≤ j → j < 2010 → 0 ≤ tokenEnd_0 j ∧ tokenEnd_0 j ≤ 2000) (kz_0_8 : 0 ≤ fault_0 ∧ fault_0 ≤ 5) (kz_0_10 : 0 ≤ limit_0 ∧ limit_0 ≤ 2000) (kz_0_157 : 0 ≤ tokens_0 ∧ tokens_0 ≤ 2010) (kz_0_158 : 0 ≤ cur_0 ∧ cur_0 ≤ 2009) (kz_0_159 : 0 ≤ opened_0 ∧ opened_0 ≤ 13) (kz_0_164 : 0 ≤ styleKind_0 ∧ styleKind_0 ≤ 1) (kz_0_165 : (-1) ≤ styleOne_0 ∧ styleOne_0 ≤ 47) (ex2 : gx = 2010 + ((-1) * cur_0 + 0)) (ex3 : 0 ≤ gx ∧ gx ≤ 2010) : (styleKind_0 = 0) → (styleOne_0 ≤ 23) := by
  first | assumption | (clear f4 f13 f16 hK_0_1 hK_0_160 hK_0_162 hK_0_163; omega) | (clear hK_0_1 hK_0_160 hK_0_162 hK_0_163; grind) | omega | grind
set_option maxHeartbeats 4000000 in
theorem vc_Mo_both_at_f13_1_3 (x1 : Int) (x2 : Int) (x3 : Int) (x4 : Int) (x5 : Int) (x6 : Int) (cur_0 : Int) (styleKind_0 : Int) (styleOne_0 : Int) (fault_0 : Int) (opened_0 : Int) (tokenKind_0 : Int → Int) (tokens_0 : Int) (tokenValue_0 : Int → Int) (tokenPlace_0 : Int → Int) (tokenEnd_0 : Int → Int) (tape_0 : Int → Int) (limit_0 : Int) (gx : Int) (k1 : 0 ≤ x1 ∧ x1 ≤ 2009) (k2 : 0 ≤ x2 ∧ x2 ≤ 5) (k3 : 0 ≤ x3 ∧ x3 ≤ 13) (k4 : 0 ≤ x4 ∧ x4 ≤ 2009) (k5 : 0 ≤ x5 ∧ x5 ≤ 5) (k6 : 0 ≤ x6 ∧ x6 ≤ 13) (f0 : 1 * x3 + 0 ≤ 13) (f1 : (-1) * x3 + 0 ≤ (-13)) (f2 : 1 * cur_0 + ((-1) * x4 + 0) ≤ 0) (f3 : (-1) * cur_0 + (1 * x4 + 0) ≤ 0) (f4 : (styleKind_0 = 0) → (styleOne_0 ≤ 23)) (f5 : fault_0 = x5) (f6 : opened_0 = x6) (f7 : 1 * x1 + ((-1) * x4 + 0) ≤ 0) (f8 : x4 = x1) (f9 : x5 = x2) (f10 : x6 = x3) (f11 : 1 * cur_0 + ((-1) * x1 + 0) ≤ 0) (f12 : (-1) * cur_0 + (1 * x1 + 0) ≤ 0) (f13 : (styleKind_0 = 0) → (styleOne_0 ≤ 23)) (f14 : fault_0 = x2) (f15 : opened_0 = x3) (f16 : ((cur_0 + 1) ≤ tokens_0) ∧ ((tokens_0 ≤ 2010) ∧ ((tokenKind_0 ((tokens_0 - 1)) = 0) ∨ (tokenKind_0 ((tokens_0 - 1)) = 4)))) (f17 : 1 * x4 + ((-1) * cur_0 + 0) ≤ 0) (f18 : 1 * opened_0 + 0 ≤ 13) (f19 : (-1) * opened_0 + 0 ≤ (-13)) (f20 : (-1) * fault_0 + 0 ≤ (-1)) (f21 : SON (fault_0) (cur_0) (styleKind_0) (limit_0) (tokenKind_0) (tokenValue_0) (tokenPlace_0) (tokenEnd_0) (tape_0) (x4) (x5) (x6)) (f23 : 1 * x3 + 0 ≤ 13) (f24 : (-1) * x3 + 0 ≤ (-13)) (f25 : 1 * x1 + ((-1) * x4 + 0) ≤ 0) (hK_0_1 : ∀ j : Int, 0 ≤ j → j < 2000 → (-128) ≤ tape_0 j ∧ tape_0 j ≤ 127) (hK_0_160 : ∀ j : Int, 0 ≤ j → j < 2010 → 0 ≤ tokenKind_0 j ∧ tokenKind_0 j ≤ 4) (hK_0_162 : ∀ j : Int, 0 ≤ j → j < 2010 → 0 ≤ tokenPlace_0 j ∧ tokenPlace_0 j ≤ 2000) (hK_0_163 : ∀ j : Int, 0 ≤ j → j < 2010 → 0 ≤ tokenEnd_0 j ∧ tokenEnd_0 j ≤ 2000) (kz_0_8 : 0 ≤ fault_0 ∧ fault_0 ≤ 5) (kz_0_10 : 0 ≤ limit_0 ∧ limit_0 ≤ 2000) (kz_0_157 : 0 ≤ tokens_0 ∧ tokens_0 ≤ 2010) (kz_0_158 : 0 ≤ cur_0 ∧ cur_0 ≤ 2009) (kz_0_159 : 0 ≤ opened_0 ∧ opened_0 ≤ 13) (kz_0_164 : 0 ≤ styleKind_0 ∧ styleKind_0 ≤ 1) (kz_0_165 : (-1) ≤ styleOne_0 ∧ styleOne_0 ≤ 47) (ex2 : gx = 2010 + ((-1) * cur_0 + 0)) (ex3 : 0 ≤ gx ∧ gx ≤ 2010) : 1 * opened_0 + 0 ≤ 13 := by
  first | assumption | (clear f4 f13 f16 hK_0_1 hK_0_160 hK_0_162 hK_0_163; omega) | (clear hK_0_1 hK_0_160 hK_0_162 hK_0_163; grind) | omega | grind
set_option maxHeartbeats 4000000 in
theorem vc_Mo_both_at_f13_1_4 (x1 : Int) (x2 : Int) (x3 : Int) (x4 : Int) (x5 : Int) (x6 : Int) (cur_0 : Int) (styleKind_0 : Int) (styleOne_0 : Int) (fault_0 : Int) (opened_0 : Int) (tokenKind_0 : Int → Int) (tokens_0 : Int) (tokenValue_0 : Int → Int) (tokenPlace_0 : Int → Int) (tokenEnd_0 : Int → Int) (tape_0 : Int → Int) (limit_0 : Int) (gx : Int) (k1 : 0 ≤ x1 ∧ x1 ≤ 2009) (k2 : 0 ≤ x2 ∧ x2 ≤ 5) (k3 : 0 ≤ x3 ∧ x3 ≤ 13) (k4 : 0 ≤ x4 ∧ x4 ≤ 2009) (k5 : 0 ≤ x5 ∧ x5 ≤ 5) (k6 : 0 ≤ x6 ∧ x6 ≤ 13) (f0 : 1 * x3 + 0 ≤ 13) (f1 : (-1) * x3 + 0 ≤ (-13)) (f2 : 1 * cur_0 + ((-1) * x4 + 0) ≤ 0) (f3 : (-1) * cur_0 + (1 * x4 + 0) ≤ 0) (f4 : (styleKind_0 = 0) → (styleOne_0 ≤ 23)) (f5 : fault_0 = x5) (f6 : opened_0 = x6) (f7 : 1 * x1 + ((-1) * x4 + 0) ≤ 0) (f8 : x4 = x1) (f9 : x5 = x2) (f10 : x6 = x3) (f11 : 1 * cur_0 + ((-1) * x1 + 0) ≤ 0) (f12 : (-1) * cur_0 + (1 * x1 + 0) ≤ 0) (f13 : (styleKind_0 = 0) → (styleOne_0 ≤ 23)) (f14 : fault_0 = x2) (f15 : opened_0 = x3) (f16 : ((cur_0 + 1) ≤ tokens_0) ∧ ((tokens_0 ≤ 2010) ∧ ((tokenKind_0 ((tokens_0 - 1)) = 0) ∨ (tokenKind_0 ((tokens_0 - 1)) = 4)))) (f17 : 1 * x4 + ((-1) * cur_0 + 0) ≤ 0) (f18 : 1 * opened_0 + 0 ≤ 13) (f19 : (-1) * opened_0 + 0 ≤ (-13)) (f20 : (-1) * fault_0 + 0 ≤ (-1)) (f21 : SON (fault_0) (cur_0) (styleKind_0) (limit_0) (tokenKind_0) (tokenValue_0) (tokenPlace_0) (tokenEnd_0) (tape_0) (x4) (x5) (x6)) (f23 : 1 * x3 + 0 ≤ 13) (f24 : (-1) * x3 + 0 ≤ (-13)) (f25 : 1 * x1 + ((-1) * x4 + 0) ≤ 0) (hK_0_1 : ∀ j : Int, 0 ≤ j → j < 2000 → (-128) ≤ tape_0 j ∧ tape_0 j ≤ 127) (hK_0_160 : ∀ j : Int, 0 ≤ j → j < 2010 → 0 ≤ tokenKind_0 j ∧ tokenKind_0 j ≤ 4) (hK_0_162 : ∀ j : Int, 0 ≤ j → j < 2010 → 0 ≤ tokenPlace_0 j ∧ tokenPlace_0 j ≤ 2000) (hK_0_163 : ∀ j : Int, 0 ≤ j → j < 2010 → 0 ≤ tokenEnd_0 j ∧ tokenEnd_0 j ≤ 2000) (kz_0_8 : 0 ≤ fault_0 ∧ fault_0 ≤ 5) (kz_0_10 : 0 ≤ limit_0 ∧ limit_0 ≤ 2000) (kz_0_157 : 0 ≤ tokens_0 ∧ tokens_0 ≤ 2010) (kz_0_158 : 0 ≤ cur_0 ∧ cur_0 ≤ 2009) (kz_0_159 : 0 ≤ opened_0 ∧ opened_0 ≤ 13) (kz_0_164 : 0 ≤ styleKind_0 ∧ styleKind_0 ≤ 1) (kz_0_165 : (-1) ≤ styleOne_0 ∧ styleOne_0 ≤ 47) (ex2 : gx = 2010 + ((-1) * cur_0 + 0)) (ex3 : 0 ≤ gx ∧ gx ≤ 2010) : (-1) * opened_0 + 0 ≤ (-13) := by
  first | assumption | (clear f4 f13 f16 hK_0_1 hK_0_160 hK_0_162 hK_0_163; omega) | (clear hK_0_1 hK_0_160 hK_0_162 hK_0_163; grind) | omega | grind
set_option maxHeartbeats 4000000 in
theorem vc_Mo_both_at_f13_1_5 (x1 : Int) (x2 : Int) (x3 : Int) (x4 : Int) (x5 : Int) (x6 : Int) (cur_0 : Int) (styleKind_0 : Int) (styleOne_0 : Int) (fault_0 : Int) (opened_0 : Int) (tokenKind_0 : Int → Int) (tokens_0 : Int) (tokenValue_0 : Int → Int) (tokenPlace_0 : Int → Int) (tokenEnd_0 : Int → Int) (tape_0 : Int → Int) (limit_0 : Int) (gx : Int) (k1 : 0 ≤ x1 ∧ x1 ≤ 2009) (k2 : 0 ≤ x2 ∧ x2 ≤ 5) (k3 : 0 ≤ x3 ∧ x3 ≤ 13) (k4 : 0 ≤ x4 ∧ x4 ≤ 2009) (k5 : 0 ≤ x5 ∧ x5 ≤ 5) (k6 : 0 ≤ x6 ∧ x6 ≤ 13) (f0 : 1 * x3 + 0 ≤ 13) (f1 : (-1) * x3 + 0 ≤ (-13)) (f2 : 1 * cur_0 + ((-1) * x4 + 0) ≤ 0) (f3 : (-1) * cur_0 + (1 * x4 + 0) ≤ 0) (f4 : (styleKind_0 = 0) → (styleOne_0 ≤ 23)) (f5 : fault_0 = x5) (f6 : opened_0 = x6) (f7 : 1 * x1 + ((-1) * x4 + 0) ≤ 0) (f8 : x4 = x1) (f9 : x5 = x2) (f10 : x6 = x3) (f11 : 1 * cur_0 + ((-1) * x1 + 0) ≤ 0) (f12 : (-1) * cur_0 + (1 * x1 + 0) ≤ 0) (f13 : (styleKind_0 = 0) → (styleOne_0 ≤ 23)) (f14 : fault_0 = x2) (f15 : opened_0 = x3) (f16 : ((cur_0 + 1) ≤ tokens_0) ∧ ((tokens_0 ≤ 2010) ∧ ((tokenKind_0 ((tokens_0 - 1)) = 0) ∨ (tokenKind_0 ((tokens_0 - 1)) = 4)))) (f17 : 1 * x4 + ((-1) * cur_0 + 0) ≤ 0) (f18 : 1 * opened_0 + 0 ≤ 13) (f19 : (-1) * opened_0 + 0 ≤ (-13)) (f20 : (-1) * fault_0 + 0 ≤ (-1)) (f21 : SON (fault_0) (cur_0) (styleKind_0) (limit_0) (tokenKind_0) (tokenValue_0) (tokenPlace_0) (tokenEnd_0) (tape_0) (x4) (x5) (x6)) (f23 : 1 * x3 + 0 ≤ 13) (f24 : (-1) * x3 + 0 ≤ (-13)) (f25 : 1 * x1 + ((-1) * x4 + 0) ≤ 0) (hK_0_1 : ∀ j : Int, 0 ≤ j → j < 2000 → (-128) ≤ tape_0 j ∧ tape_0 j ≤ 127) (hK_0_160 : ∀ j : Int, 0 ≤ j → j < 2010 → 0 ≤ tokenKind_0 j ∧ tokenKind_0 j ≤ 4) (hK_0_162 : ∀ j : Int, 0 ≤ j → j < 2010 → 0 ≤ tokenPlace_0 j ∧ tokenPlace_0 j ≤ 2000) (hK_0_163 : ∀ j : Int, 0 ≤ j → j < 2010 → 0 ≤ tokenEnd_0 j ∧ tokenEnd_0 j ≤ 2000) (kz_0_8 : 0 ≤ fault_0 ∧ fault_0 ≤ 5) (kz_0_10 : 0 ≤ limit_0 ∧ limit_0 ≤ 2000) (kz_0_157 : 0 ≤ tokens_0 ∧ tokens_0 ≤ 2010) (kz_0_158 : 0 ≤ cur_0 ∧ cur_0 ≤ 2009) (kz_0_159 : 0 ≤ opened_0 ∧ opened_0 ≤ 13) (kz_0_164 : 0 ≤ styleKind_0 ∧ styleKind_0 ≤ 1) (kz_0_165 : (-1) ≤ styleOne_0 ∧ styleOne_0 ≤ 47) (ex2 : gx = 2010 + ((-1) * cur_0 + 0)) (ex3 : 0 ≤ gx ∧ gx ≤ 2010) : (-1) * fault_0 + 0 ≤ (-1) := by
  first | assumption | (clear f4 f13 f16 hK_0_1 hK_0_160 hK_0_162 hK_0_163; omega) | (clear hK_0_1 hK_0_160 hK_0_162 hK_0_163; grind) | omega | grind
set_option maxHeartbeats 4000000 in
theorem vc_Mo_both_at_f13_1_6 (x1 : Int) (x2 : Int) (x3 : Int) (x4 : Int) (x5 : Int) (x6 : Int) (cur_0 : Int) (styleKind_0 : Int) (styleOne_0 : Int) (fault_0 : Int) (opened_0 : Int) (tokenKind_0 : Int → Int) (tokens_0 : Int) (tokenValue_0 : Int → Int) (tokenPlace_0 : Int → Int) (tokenEnd_0 : Int → Int) (tape_0 : Int → Int) (limit_0 : Int) (gx : Int) (k1 : 0 ≤ x1 ∧ x1 ≤ 2009) (k2 : 0 ≤ x2 ∧ x2 ≤ 5) (k3 : 0 ≤ x3 ∧ x3 ≤ 13) (k4 : 0 ≤ x4 ∧ x4 ≤ 2009) (k5 : 0 ≤ x5 ∧ x5 ≤ 5) (k6 : 0 ≤ x6 ∧ x6 ≤ 13) (f0 : 1 * x3 + 0 ≤ 13) (f1 : (-1) * x3 + 0 ≤ (-13)) (f2 : 1 * cur_0 + ((-1) * x4 + 0) ≤ 0) (f3 : (-1) * cur_0 + (1 * x4 + 0) ≤ 0) (f4 : (styleKind_0 = 0) → (styleOne_0 ≤ 23)) (f5 : fault_0 = x5) (f6 : opened_0 = x6) (f7 : 1 * x1 + ((-1) * x4 + 0) ≤ 0) (f8 : x4 = x1) (f9 : x5 = x2) (f10 : x6 = x3) (f11 : 1 * cur_0 + ((-1) * x1 + 0) ≤ 0) (f12 : (-1) * cur_0 + (1 * x1 + 0) ≤ 0) (f13 : (styleKind_0 = 0) → (styleOne_0 ≤ 23)) (f14 : fault_0 = x2) (f15 : opened_0 = x3) (f16 : ((cur_0 + 1) ≤ tokens_0) ∧ ((tokens_0 ≤ 2010) ∧ ((tokenKind_0 ((tokens_0 - 1)) = 0) ∨ (tokenKind_0 ((tokens_0 - 1)) = 4)))) (f17 : 1 * x4 + ((-1) * cur_0 + 0) ≤ 0) (f18 : 1 * opened_0 + 0 ≤ 13) (f19 : (-1) * opened_0 + 0 ≤ (-13)) (f20 : (-1) * fault_0 + 0 ≤ (-1)) (f21 : SON (fault_0) (cur_0) (styleKind_0) (limit_0) (tokenKind_0) (tokenValue_0) (tokenPlace_0) (tokenEnd_0) (tape_0) (x4) (x5) (x6)) (f23 : 1 * x3 + 0 ≤ 13) (f24 : (-1) * x3 + 0 ≤ (-13)) (f25 : 1 * x1 + ((-1) * x4 + 0) ≤ 0) (hK_0_1 : ∀ j : Int, 0 ≤ j → j < 2000 → (-128) ≤ tape_0 j ∧ tape_0 j ≤ 127) (hK_0_160 : ∀ j : Int, 0 ≤ j → j < 2010 → 0 ≤ tokenKind_0 j ∧ tokenKind_0 j ≤ 4) (hK_0_162 : ∀ j : Int, 0 ≤ j → j < 2010 → 0 ≤ tokenPlace_0 j ∧ tokenPlace_0 j ≤ 2000) (hK_0_163 : ∀ j : Int, 0 ≤ j → j < 2010 → 0 ≤ tokenEnd_0 j ∧ tokenEnd_0 j ≤ 2000) (kz_0_8 : 0 ≤ fault_0 ∧ fault_0 ≤ 5) (kz_0_10 : 0 ≤ limit_0 ∧ limit_0 ≤ 2000) (kz_0_157 : 0 ≤ tokens_0 ∧ tokens_0 ≤ 2010) (kz_0_158 : 0 ≤ cur_0 ∧ cur_0 ≤ 2009) (kz_0_159 : 0 ≤ opened_0 ∧ opened_0 ≤ 13) (kz_0_164 : 0 ≤ styleKind_0 ∧ styleKind_0 ≤ 1) (kz_0_165 : (-1) ≤ styleOne_0 ∧ styleOne_0 ≤ 47) (ex2 : gx = 2010 + ((-1) * cur_0 + 0)) (ex3 : 0 ≤ gx ∧ gx ≤ 2010) : SBL (fault_0) (cur_0) (styleKind_0) (limit_0) (tokenKind_0) (tokenValue_0) (tokenPlace_0) (tokenEnd_0) (tape_0) (x1) (x2) (x3) := by
  first
    | exact sbl_start (‹SON _ _ _ _ _ _ _ _ _ _ _ _›) (by omega) (by omega) (by omega) (by omega)
    | exact sbl_go (‹GBL _ _ _ _ _ _ _ _ _ _ _ _›) (‹SON _ _ _ _ _ _ _ _ _ _ _ _›) (by omega) (by omega) (by omega)
    | assumption
  
set_option maxHeartbeats 4000000 in
theorem vc_Mo_both_at_f13_1_7 (x1 : Int) (x2 : Int) (x3 : Int) (x4 : Int) (x5 : Int) (x6 : Int) (cur_0 : Int) (styleKind_0 : Int) (styleOne_0 : Int) (fault_0 : Int) (opened_0 : Int) (tokenKind_0 : Int → Int) (tokens_0 : Int) (tokenValue_0 : Int → Int) (tokenPlace_0 : Int → Int) (tokenEnd_0 : Int → Int) (tape_0 : Int → Int) (limit_0 : Int) (gx : Int) (k1 : 0 ≤ x1 ∧ x1 ≤ 2009) (k2 : 0 ≤ x2 ∧ x2 ≤ 5) (k3 : 0 ≤ x3 ∧ x3 ≤ 13) (k4 : 0 ≤ x4 ∧ x4 ≤ 2009) (k5 : 0 ≤ x5 ∧ x5 ≤ 5) (k6 : 0 ≤ x6 ∧ x6 ≤ 13) (f0 : 1 * x3 + 0 ≤ 13) (f1 : (-1) * x3 + 0 ≤ (-13)) (f2 : 1 * cur_0 + ((-1) * x4 + 0) ≤ 0) (f3 : (-1) * cur_0 + (1 * x4 + 0) ≤ 0) (f4 : (styleKind_0 = 0) → (styleOne_0 ≤ 23)) (f5 : fault_0 = x5) (f6 : opened_0 = x6) (f7 : 1 * x1 + ((-1) * x4 + 0) ≤ 0) (f8 : x4 = x1) (f9 : x5 = x2) (f10 : x6 = x3) (f11 : 1 * cur_0 + ((-1) * x1 + 0) ≤ 0) (f12 : (-1) * cur_0 + (1 * x1 + 0) ≤ 0) (f13 : (styleKind_0 = 0) → (styleOne_0 ≤ 23)) (f14 : fault_0 = x2) (f15 : opened_0 = x3) (f16 : ((cur_0 + 1) ≤ tokens_0) ∧ ((tokens_0 ≤ 2010) ∧ ((tokenKind_0 ((tokens_0 - 1)) = 0) ∨ (tokenKind_0 ((tokens_0 - 1)) = 4)))) (f17 : 1 * x4 + ((-1) * cur_0 + 0) ≤ 0) (f18 : 1 * opened_0 + 0 ≤ 13) (f19 : (-1) * opened_0 + 0 ≤ (-13)) (f20 : (-1) * fault_0 + 0 ≤ (-1)) (f21 : SON (fault_0) (cur_0) (styleKind_0) (limit_0) (tokenKind_0) (tokenValue_0) (tokenPlace_0) (tokenEnd_0) (tape_0) (x4) (x5) (x6)) (f23 : 1 * x3 + 0 ≤ 13) (f24 : (-1) * x3 + 0 ≤ (-13)) (f25 : 1 * x1 + ((-1) * x4 + 0) ≤ 0) (hK_0_1 : ∀ j : Int, 0 ≤ j → j < 2000 → (-128) ≤ tape_0 j ∧ tape_0 j ≤ 127) (hK_0_160 : ∀ j : Int, 0 ≤ j → j < 2010 → 0 ≤ tokenKind_0 j ∧ tokenKind_0 j ≤ 4) (hK_0_162 : ∀ j : Int, 0 ≤ j → j < 2010 → 0 ≤ tokenPlace_0 j ∧ tokenPlace_0 j ≤ 2000) (hK_0_163 : ∀ j : Int, 0 ≤ j → j < 2010 → 0 ≤ tokenEnd_0 j ∧ tokenEnd_0 j ≤ 2000) (kz_0_8 : 0 ≤ fault_0 ∧ fault_0 ≤ 5) (kz_0_10 : 0 ≤ limit_0 ∧ limit_0 ≤ 2000) (kz_0_157 : 0 ≤ tokens_0 ∧ tokens_0 ≤ 2010) (kz_0_158 : 0 ≤ cur_0 ∧ cur_0 ≤ 2009) (kz_0_159 : 0 ≤ opened_0 ∧ opened_0 ≤ 13) (kz_0_164 : 0 ≤ styleKind_0 ∧ styleKind_0 ≤ 1) (kz_0_165 : (-1) ≤ styleOne_0 ∧ styleOne_0 ≤ 47) (ex2 : gx = 2010 + ((-1) * cur_0 + 0)) (ex3 : 0 ≤ gx ∧ gx ≤ 2010) : 1 * x3 + 0 ≤ 13 := by
  first | assumption | (clear f4 f13 f16 hK_0_1 hK_0_160 hK_0_162 hK_0_163; omega) | (clear hK_0_1 hK_0_160 hK_0_162 hK_0_163; grind) | omega | grind
set_option maxHeartbeats 4000000 in
theorem vc_Mo_both_at_f13_1_8 (x1 : Int) (x2 : Int) (x3 : Int) (x4 : Int) (x5 : Int) (x6 : Int) (cur_0 : Int) (styleKind_0 : Int) (styleOne_0 : Int) (fault_0 : Int) (opened_0 : Int) (tokenKind_0 : Int → Int) (tokens_0 : Int) (tokenValue_0 : Int → Int) (tokenPlace_0 : Int → Int) (tokenEnd_0 : Int → Int) (tape_0 : Int → Int) (limit_0 : Int) (gx : Int) (k1 : 0 ≤ x1 ∧ x1 ≤ 2009) (k2 : 0 ≤ x2 ∧ x2 ≤ 5) (k3 : 0 ≤ x3 ∧ x3 ≤ 13) (k4 : 0 ≤ x4 ∧ x4 ≤ 2009) (k5 : 0 ≤ x5 ∧ x5 ≤ 5) (k6 : 0 ≤ x6 ∧ x6 ≤ 13) (f0 : 1 * x3 + 0 ≤ 13) (f1 : (-1) * x3 + 0 ≤ (-13)) (f2 : 1 * cur_0 + ((-1) * x4 + 0) ≤ 0) (f3 : (-1) * cur_0 + (1 * x4 + 0) ≤ 0) (f4 : (styleKind_0 = 0) → (styleOne_0 ≤ 23)) (f5 : fault_0 = x5) (f6 : opened_0 = x6) (f7 : 1 * x1 + ((-1) * x4 + 0) ≤ 0) (f8 : x4 = x1) (f9 : x5 = x2) (f10 : x6 = x3) (f11 : 1 * cur_0 + ((-1) * x1 + 0) ≤ 0) (f12 : (-1) * cur_0 + (1 * x1 + 0) ≤ 0) (f13 : (styleKind_0 = 0) → (styleOne_0 ≤ 23)) (f14 : fault_0 = x2) (f15 : opened_0 = x3) (f16 : ((cur_0 + 1) ≤ tokens_0) ∧ ((tokens_0 ≤ 2010) ∧ ((tokenKind_0 ((tokens_0 - 1)) = 0) ∨ (tokenKind_0 ((tokens_0 - 1)) = 4)))) (f17 : 1 * x4 + ((-1) * cur_0 + 0) ≤ 0) (f18 : 1 * opened_0 + 0 ≤ 13) (f19 : (-1) * opened_0 + 0 ≤ (-13)) (f20 : (-1) * fault_0 + 0 ≤ (-1)) (f21 : SON (fault_0) (cur_0) (styleKind_0) (limit_0) (tokenKind_0) (tokenValue_0) (tokenPlace_0) (tokenEnd_0) (tape_0) (x4) (x5) (x6)) (f23 : 1 * x3 + 0 ≤ 13) (f24 : (-1) * x3 + 0 ≤ (-13)) (f25 : 1 * x1 + ((-1) * x4 + 0) ≤ 0) (hK_0_1 : ∀ j : Int, 0 ≤ j → j < 2000 → (-128) ≤ tape_0 j ∧ tape_0 j ≤ 127) (hK_0_160 : ∀ j : Int, 0 ≤ j → j < 2010 → 0 ≤ tokenKind_0 j ∧ tokenKind_0 j ≤ 4) (hK_0_162 : ∀ j : Int, 0 ≤ j → j < 2010 → 0 ≤ tokenPlace_0 j ∧ tokenPlace_0 j ≤ 2000) (hK_0_163 : ∀ j : Int, 0 ≤ j → j < 2010 → 0 ≤ tokenEnd_0 j ∧ tokenEnd_0 j ≤ 2000) (kz_0_8 : 0 ≤ fault_0 ∧ fault_0 ≤ 5) (kz_0_10 : 0 ≤ limit_0 ∧ limit_0 ≤ 2000) (kz_0_157 : 0 ≤ tokens_0 ∧ tokens_0 ≤ 2010) (kz_0_158 : 0 ≤ cur_0 ∧ cur_0 ≤ 2009) (kz_0_159 : 0 ≤ opened_0 ∧ opened_0 ≤ 13) (kz_0_164 : 0 ≤ styleKind_0 ∧ styleKind_0 ≤ 1) (kz_0_165 : (-1) ≤ styleOne_0 ∧ styleOne_0 ≤ 47) (ex2 : gx = 2010 + ((-1) * cur_0 + 0)) (ex3 : 0 ≤ gx ∧ gx ≤ 2010) : (-1) * x3 + 0 ≤ (-13) := by
  first | assumption | (clear f4 f13 f16 hK_0_1 hK_0_160 hK_0_162 hK_0_163; omega) | (clear hK_0_1 hK_0_160 hK_0_162 hK_0_163; grind) | omega | grind
set_option maxHeartbeats 4000000 in
theorem vc_Mo_both_at_f13_1_10 (x1 : Int) (x2 : Int) (x3 : Int) (x4 : Int) (x5 : Int) (x6 : Int) (cur_0 : Int) (styleKind_0 : Int) (styleOne_0 : Int) (fault_0 : Int) (opened_0 : Int) (tokenKind_0 : Int → Int) (tokens_0 : Int) (tokenValue_0 : Int → Int) (tokenPlace_0 : Int → Int) (tokenEnd_0 : Int → Int) (tape_0 : Int → Int) (limit_0 : Int) (gx : Int) (k1 : 0 ≤ x1 ∧ x1 ≤ 2009) (k2 : 0 ≤ x2 ∧ x2 ≤ 5) (k3 : 0 ≤ x3 ∧ x3 ≤ 13) (k4 : 0 ≤ x4 ∧ x4 ≤ 2009) (k5 : 0 ≤ x5 ∧ x5 ≤ 5) (k6 : 0 ≤ x6 ∧ x6 ≤ 13) (f0 : 1 * x3 + 0 ≤ 13) (f1 : (-1) * x3 + 0 ≤ (-13)) (f2 : 1 * cur_0 + ((-1) * x4 + 0) ≤ 0) (f3 : (-1) * cur_0 + (1 * x4 + 0) ≤ 0) (f4 : (styleKind_0 = 0) → (styleOne_0 ≤ 23)) (f5 : fault_0 = x5) (f6 : opened_0 = x6) (f7 : 1 * x1 + ((-1) * x4 + 0) ≤ 0) (f8 : x4 = x1) (f9 : x5 = x2) (f10 : x6 = x3) (f11 : 1 * cur_0 + ((-1) * x1 + 0) ≤ 0) (f12 : (-1) * cur_0 + (1 * x1 + 0) ≤ 0) (f13 : (styleKind_0 = 0) → (styleOne_0 ≤ 23)) (f14 : fault_0 = x2) (f15 : opened_0 = x3) (f16 : ((cur_0 + 1) ≤ tokens_0) ∧ ((tokens_0 ≤ 2010) ∧ ((tokenKind_0 ((tokens_0 - 1)) = 0) ∨ (tokenKind_0 ((tokens_0 - 1)) = 4)))) (f17 : 1 * x4 + ((-1) * cur_0 + 0) ≤ 0) (f18 : 1 * opened_0 + 0 ≤ 13) (f19 : (-1) * opened_0 + 0 ≤ (-13)) (f20 : (-1) * fault_0 + 0 ≤ (-1)) (f21 : SON (fault_0) (cur_0) (styleKind_0) (limit_0) (tokenKind_0) (tokenValue_0) (tokenPlace_0) (tokenEnd_0) (tape_0) (x4) (x5) (x6)) (f23 : 1 * x3 + 0 ≤ 13) (f24 : (-1) * x3 + 0 ≤ (-13)) (f25 : 1 * x1 + ((-1) * x4 + 0) ≤ 0) (hK_0_1 : ∀ j : Int, 0 ≤ j → j < 2000 → (-128) ≤ tape_0 j ∧ tape_0 j ≤ 127) (hK_0_160 : ∀ j : Int, 0 ≤ j → j < 2010 → 0 ≤ tokenKind_0 j ∧ tokenKind_0 j ≤ 4) (hK_0_162 : ∀ j : Int, 0 ≤ j → j < 2010 → 0 ≤ tokenPlace_0 j ∧ tokenPlace_0 j ≤ 2000) (hK_0_163 : ∀ j : Int, 0 ≤ j → j < 2010 → 0 ≤ tokenEnd_0 j ∧ tokenEnd_0 j ≤ 2000) (kz_0_8 : 0 ≤ fault_0 ∧ fault_0 ≤ 5) (kz_0_10 : 0 ≤ limit_0 ∧ limit_0 ≤ 2000) (kz_0_157 : 0 ≤ tokens_0 ∧ tokens_0 ≤ 2010) (kz_0_158 : 0 ≤ cur_0 ∧ cur_0 ≤ 2009) (kz_0_159 : 0 ≤ opened_0 ∧ opened_0 ≤ 13) (kz_0_164 : 0 ≤ styleKind_0 ∧ styleKind_0 ≤ 1) (kz_0_165 : (-1) ≤ styleOne_0 ∧ styleOne_0 ≤ 47) (ex2 : gx = 2010 + ((-1) * cur_0 + 0)) (ex3 : 0 ≤ gx ∧ gx ≤ 2010) : 1 * gx + (1 * cur_0 + 0) ≤ 2010 := by
  first | assumption | (clear f4 f13 f16 hK_0_1 hK_0_160 hK_0_162 hK_0_163; omega) | (clear hK_0_1 hK_0_160 hK_0_162 hK_0_163; grind) | omega | grind
set_option maxHeartbeats 4000000 in
theorem vc_Mo_both_at_f13_1_11 (x1 : Int) (x2 : Int) (x3 : Int) (x4 : Int) (x5 : Int) (x6 : Int) (cur_0 : Int) (styleKind_0 : Int) (styleOne_0 : Int) (fault_0 : Int) (opened_0 : Int) (tokenKind_0 : Int → Int) (tokens_0 : Int) (tokenValue_0 : Int → Int) (tokenPlace_0 : Int → Int) (tokenEnd_0 : Int → Int) (tape_0 : Int → Int) (limit_0 : Int) (gx : Int) (k1 : 0 ≤ x1 ∧ x1 ≤ 2009) (k2 : 0 ≤ x2 ∧ x2 ≤ 5) (k3 : 0 ≤ x3 ∧ x3 ≤ 13) (k4 : 0 ≤ x4 ∧ x4 ≤ 2009) (k5 : 0 ≤ x5 ∧ x5 ≤ 5) (k6 : 0 ≤ x6 ∧ x6 ≤ 13) (f0 : 1 * x3 + 0 ≤ 13) (f1 : (-1) * x3 + 0 ≤ (-13)) (f2 : 1 * cur_0 + ((-1) * x4 + 0) ≤ 0) (f3 : (-1) * cur_0 + (1 * x4 + 0) ≤ 0) (f4 : (styleKind_0 = 0) → (styleOne_0 ≤ 23)) (f5 : fault_0 = x5) (f6 : opened_0 = x6) (f7 : 1 * x1 + ((-1) * x4 + 0) ≤ 0) (f8 : x4 = x1) (f9 : x5 = x2) (f10 : x6 = x3) (f11 : 1 * cur_0 + ((-1) * x1 + 0) ≤ 0) (f12 : (-1) * cur_0 + (1 * x1 + 0) ≤ 0) (f13 : (styleKind_0 = 0) → (styleOne_0 ≤ 23)) (f14 : fault_0 = x2) (f15 : opened_0 = x3) (f16 : ((cur_0 + 1) ≤ tokens_0) ∧ ((tokens_0 ≤ 2010) ∧ ((tokenKind_0 ((tokens_0 - 1)) = 0) ∨ (tokenKind_0 ((tokens_0 - 1)) = 4)))) (f17 : 1 * x4 + ((-1) * cur_0 + 0) ≤ 0) (f18 : 1 * opened_0 + 0 ≤ 13) (f19 : (-1) * opened_0 + 0 ≤ (-13)) (f20 : (-1) * fault_0 + 0 ≤ (-1)) (f21 : SON (fault_0) (cur_0) (styleKind_0) (limit_0) (tokenKind_0) (tokenValue_0) (tokenPlace_0) (tokenEnd_0) (tape_0) (x4) (x5) (x6)) (f23 : 1 * x3 + 0 ≤ 13) (f24 : (-1) * x3 + 0 ≤ (-13)) (f25 : 1 * x1 + ((-1) * x4 + 0) ≤ 0) (hK_0_1 : ∀ j : Int, 0 ≤ j → j < 2000 → (-128) ≤ tape_0 j ∧ tape_0 j ≤ 127) (hK_0_160 : ∀ j : Int, 0 ≤ j → j < 2010 → 0 ≤ tokenKind_0 j ∧ tokenKind_0 j ≤ 4) (hK_0_162 : ∀ j : Int, 0 ≤ j → j < 2010 → 0 ≤ tokenPlace_0 j ∧ tokenPlace_0 j ≤ 2000) (hK_0_163 : ∀ j : Int, 0 ≤ j → j < 2010 → 0 ≤ tokenEnd_0 j ∧ tokenEnd_0 j ≤ 2000) (kz_0_8 : 0 ≤ fault_0 ∧ fault_0 ≤ 5) (kz_0_10 : 0 ≤ limit_0 ∧ limit_0 ≤ 2000) (kz_0_157 : 0 ≤ tokens_0 ∧ tokens_0 ≤ 2010) (kz_0_158 : 0 ≤ cur_0 ∧ cur_0 ≤ 2009) (kz_0_159 : 0 ≤ opened_0 ∧ opened_0 ≤ 13) (kz_0_164 : 0 ≤ styleKind_0 ∧ styleKind_0 ≤ 1) (kz_0_165 : (-1) ≤ styleOne_0 ∧ styleOne_0 ≤ 47) (ex2 : gx = 2010 + ((-1) * cur_0 + 0)) (ex3 : 0 ≤ gx ∧ gx ≤ 2010) : (-1) * gx + ((-1) * cur_0 + 0) ≤ (-2010) := by
  first | assumption | (clear f4 f13 f16 hK_0_1 hK_0_160 hK_0_162 hK_0_163; omega) | (clear hK_0_1 hK_0_160 hK_0_162 hK_0_163; grind) | omega | grind
def o_Mo_both_at_f13_1 : or_T := (5, 8, [(0, (2, 0, 0, [165])), (1, (0, 0, 2009, [])), (2, (0, 0, 5, [])), (3, (0, 0, 13, [])), (4, (0, 0, 2009, [])), (5, (0, 0, 5, [])), (6, (0, 0, 13, []))], [(23, [3], [13, 1]), (23, [3], [-13, -1]), (20, [0, 4], [30, 0, 1, 1, 158, -1, 0, 0]), (20, [0, 4], [30, 0, -1, 1, 158, 1, 0, 0]), (20, [0], [50, 2, 0, 164, 165, 4, 7, 1, 3, 2, 0, 164, 0, 0, 0, 3, 2, 0, 165, 0, 23]), (20, [0, 5], [50, 1, 0, 8, 1, 3, 2, 0, 8, 1, 1]), (20, [0, 6], [50, 1, 0, 159, 1, 3, 2, 0, 159, 1, 1]), (23, [1, 4], [0, 1, -1]), (20, [4, 1], [50, 0, 0, 1, 2, 1, 0, 1, 1]), (20, [5, 2], [50, 0, 0, 1, 2, 1, 0, 1, 1]), (20, [6, 3], [50, 0, 0, 1, 2, 1, 0, 1, 1]), (20, [0, 1], [30, 0, 1, 1, 158, -1, 0, 0]), (20, [0, 1], [30, 0, -1, 1, 158, 1, 0, 0]), (20, [0], [50, 2, 0, 164, 165, 4, 7, 1, 3, 2, 0, 164, 0, 0, 0, 3, 2, 0, 165, 0, 23]), (20, [0, 2], [50, 1, 0, 8, 1, 3, 2, 0, 8, 1, 1]), (20, [0, 3], [50, 1, 0, 159, 1, 3, 2, 0, 159, 1, 1]), (20, [0], [50, 2, 1, 158, 157, 160, 2, 12, 0, 7, 4, 3, 2, 0, 158, 0, 1, 2, 0, 157, 2, 7, 0, 3, 2, 0, 157, 0, 2010, 3, 14, 1, 10, 3, 0, 160, 5, 3, 2, 0, 157, 0, 1, 0, 0, 1, 10, 3, 0, 160, 5, 3, 2, 0, 157, 0, 1, 0, 4]), (20, [4, 0], [30, 0, 1, 0, 0, -1, 1, 158]), (20, [0], [30, 13, 1, 1, 159]), (20, [0], [30, -13, -1, 1, 159]), (20, [0], [30, -1, -1, 1, 8]), (20, [0, 4, 5, 6], [60, 4, 5, 3, 8, 158, 164, 10, 160, 161, 162, 163, 1]), (102, [6], [0]), (23, [3], [13, 1]), (23, [3], [-13, -1]), (23, [1, 4], [0, 1, -1])], [], [(0, 0, 2010, [])], [(20, [0], [50, 2, 1, 158, 157, 160, 2, 12, 0, 7, 4, 3, 2, 0, 158, 0, 1, 2, 0, 157, 2, 7, 0, 3, 2, 0, 157, 0, 2010, 3, 14, 1, 10, 3, 0, 160, 5, 3, 2, 0, 157, 0, 1, 0, 0, 1, 10, 3, 0, 160, 5, 3, 2, 0, 157, 0, 1, 0, 4]), (20, [1, 0], [30, 0, 1, 0, 0, -1, 1, 158]), (20, [0], [50, 2, 0, 164, 165, 4, 7, 1, 3, 2, 0, 164, 0, 0, 0, 3, 2, 0, 165, 0, 23]), (20, [0], [30, 13, 1, 1, 159]), (20, [0], [30, -13, -1, 1, 159]), (20, [0], [30, -1, -1, 1, 8]), (20, [0, 1, 2, 3], [60, 4, 5, 8, 8, 158, 164, 10, 160, 161, 162, 163, 1]), (23, [3], [13, 1]), (23, [3], [-13, -1]), (24, [0, 0], []), (20, [8, 0], [30, 2010, 1, 0, 0, 1, 1, 158]), (20, [8, 0], [30, -2010, -1, 0, 0, -1, 1, 158])], [], [])
theorem oo_Mo_both_at_f13_1 {kA : Nat → ClassId} : or_ok PRD kA GG o_Mo_both_at_f13_1 := by
  refine or_mk fun A ta ws vs hD hth hl => ?_
  intro t0 r0 t1 k1 t2 k2 t3 k3 t4 k4 t5 k5 t6 k6 f0 f1 f2 f3 f4 f5 f6 f7 f8 f9 f10 f11 f12 f13 f14 f15 f16 f17 f18 f19 f20 f21 ta1 w1 le1 s1 f23 f24 f25
  replace f0 := shm_2014 f0
  replace f1 := shm_2015 f1
  replace f2 := shm_297 f2
  replace f3 := shm_298 f3
  replace f4 := shm_299 f4
  replace f5 := shm_302 f5
  replace f6 := shm_303 f6
  replace f7 := shm_7 f7
  replace f8 := shm_48 f8
  replace f9 := shm_48 f9
  replace f10 := shm_48 f10
  replace f11 := shm_297 f11
  replace f12 := shm_298 f12
  replace f13 := shm_299 f13
  replace f14 := shm_302 f14
  replace f15 := shm_303 f15
  replace f16 := shm_296 f16
  replace f17 := shm_306 f17
  replace f18 := shm_1005 f18
  replace f19 := shm_1006 f19
  replace f20 := shm_144 f20
  replace f21 := shm_307 f21
  replace f23 := shm_2014 f23
  replace f24 := shm_2015 f24
  replace f25 := shm_7 f25
  have cr_0_1 := fdq_46 hD hth r0
  have cr_0_160 := fdq_41 hD hth r0
  have cr_0_162 := fdq_48 hD hth r0
  have cr_0_163 := fdq_49 hD hth r0
  have hK_0_1 := elq_6 hD hth cr_0_1
  have hK_0_160 := elq_5 hD hth cr_0_160
  have hK_0_162 := elq_7 hD hth cr_0_162
  have hK_0_163 := elq_8 hD hth cr_0_163
  have kz_0_8 := fdq_14 hD hth r0
  have kz_0_10 := fdq_50 hD hth r0
  have kz_0_157 := fdq_42 hD hth r0
  have kz_0_158 := fdq_43 hD hth r0
  have kz_0_159 := fdq_44 hD hth r0
  have kz_0_164 := fdq_45 hD hth r0
  have kz_0_165 := fdq_35 hD hth r0
  obtain ⟨x, ex, hx⟩ := iv_ex (ta := ta) (lo := 0) (hi := 2010) (z := 2010 + ((-1) * w_fi ws (n_v vs 0) 158 + 0)) (by omega) (by omega) (by omega) (by omega)
  have ex2 : v_iv (Value.int x) = 2010 + ((-1) * w_fi ws (n_v vs 0) 158 + 0) := ex
  have ex3 : 0 ≤ v_iv (Value.int x) ∧ v_iv (Value.int x) ≤ 2010 := tv_rng hx
  have e_0 : n_v (vs ++ [Value.int x]) 0 = n_v vs 0 := n_v_old (by rw [hl]; decide)
  have e_1 : n_v (vs ++ [Value.int x]) 1 = n_v vs 1 := n_v_old (by rw [hl]; decide)
  have e_2 : n_v (vs ++ [Value.int x]) 2 = n_v vs 2 := n_v_old (by rw [hl]; decide)
  have e_3 : n_v (vs ++ [Value.int x]) 3 = n_v vs 3 := n_v_old (by rw [hl]; decide)
  have e_8 : n_v (vs ++ [Value.int x]) 8 = Value.int x := n_v_new hl
  have nf0 : fc_1 PRD (20, [0], [50, 2, 1, 158, 157, 160, 2, 12, 0, 7, 4, 3, 2, 0, 158, 0, 1, 2, 0, 157, 2, 7, 0, 3, 2, 0, 157, 0, 2010, 3, 14, 1, 10, 3, 0, 160, 5, 3, 2, 0, 157, 0, 1, 0, 0, 1, 10, 3, 0, 160, 5, 3, 2, 0, 157, 0, 1, 0, 4]) ws (vs ++ [Value.int x]) := by
    refine ⟨nf_inA hl rfl, sgq_296 ?_⟩
    · show ((w_fi ws (n_v (vs ++ [Value.int x]) 0) 158 + 1) ≤ w_fi ws (n_v (vs ++ [Value.int x]) 0) 157) ∧ ((w_fi ws (n_v (vs ++ [Value.int x]) 0) 157 ≤ 2010) ∧ ((w_ei ws (w_ar ws (n_v (vs ++ [Value.int x]) 0) 160) ((w_fi ws (n_v (vs ++ [Value.int x]) 0) 157 - 1)) = 0) ∨ (w_ei ws (w_ar ws (n_v (vs ++ [Value.int x]) 0) 160) ((w_fi ws (n_v (vs ++ [Value.int x]) 0) 157 - 1)) = 4)))
      rw [e_0]
      exact vc_Mo_both_at_f13_1_0 (v_iv (n_v vs 1)) (v_iv (n_v vs 2)) (v_iv (n_v vs 3)) (v_iv (n_v vs 4)) (v_iv (n_v vs 5)) (v_iv (n_v vs 6)) (w_fi ws (n_v vs 0) 158) (w_fi ws (n_v vs 0) 164) (w_fi ws (n_v vs 0) 165) (w_fi ws (n_v vs 0) 8) (w_fi ws (n_v vs 0) 159) (w_ei ws (w_ar ws (n_v vs 0) 160)) (w_fi ws (n_v vs 0) 157) (w_ei ws (w_ar ws (n_v vs 0) 161)) (w_ei ws (w_ar ws (n_v vs 0) 162)) (w_ei ws (w_ar ws (n_v vs 0) 163)) (w_ei ws (w_ar ws (n_v vs 0) 1)) (w_fi ws (n_v vs 0) 10) (v_iv (Value.int x)) k1 k2 k3 k4 k5 k6 f0 f1 f2 f3 f4 f5 f6 f7 f8 f9 f10 f11 f12 f13 f14 f15 f16 f17 f18 f19 f20 f21 f23 f24 f25 hK_0_1 hK_0_160 hK_0_162 hK_0_163 kz_0_8 kz_0_10 kz_0_157 kz_0_158 kz_0_159 kz_0_164 kz_0_165 ex2 ex3
  have nf1 : fc_1 PRD (20, [1, 0], [30, 0, 1, 0, 0, -1, 1, 158]) ws (vs ++ [Value.int x]) := by
    refine ⟨nf_inA hl rfl, sgq_306 ?_⟩
    · show 1 * v_iv (n_v (vs ++ [Value.int x]) 1) + ((-1) * w_fi ws (n_v (vs ++ [Value.int x]) 0) 158 + 0) ≤ 0
      simp only [e_0, e_1]
      exact vc_Mo_both_at_f13_1_1 (v_iv (n_v vs 1)) (v_iv (n_v vs 2)) (v_iv (n_v vs 3)) (v_iv (n_v vs 4)) (v_iv (n_v vs 5)) (v_iv (n_v vs 6)) (w_fi ws (n_v vs 0) 158) (w_fi ws (n_v vs 0) 164) (w_fi ws (n_v vs 0) 165) (w_fi ws (n_v vs 0) 8) (w_fi ws (n_v vs 0) 159) (w_ei ws (w_ar ws (n_v vs 0) 160)) (w_fi ws (n_v vs 0) 157) (w_ei ws (w_ar ws (n_v vs 0) 161)) (w_ei ws (w_ar ws (n_v vs 0) 162)) (w_ei ws (w_ar ws (n_v vs 0) 163)) (w_ei ws (w_ar ws (n_v vs 0) 1)) (w_fi ws (n_v vs 0) 10) (v_iv (Value.int x)) k1 k2 k3 k4 k5 k6 f0 f1 f2 f3 f4 f5 f6 f7 f8 f9 f10 f11 f12 f13 f14 f15 f16 f17 f18 f19 f20 f21 f23 f24 f25 hK_0_1 hK_0_160 hK_0_162 hK_0_163 kz_0_8 kz_0_10 kz_0_157 kz_0_158 kz_0_159 kz_0_164 kz_0_165 ex2 ex3
  have nf2 : fc_1 PRD (20, [0], [50, 2, 0, 164, 165, 4, 7, 1, 3, 2, 0, 164, 0, 0, 0, 3, 2, 0, 165, 0, 23]) ws (vs ++ [Value.int x]) := by
    refine ⟨nf_inA hl rfl, sgq_299 ?_⟩
    · show (w_fi ws (n_v (vs ++ [Value.int x]) 0) 164 = 0) → (w_fi ws (n_v (vs ++ [Value.int x]) 0) 165 ≤ 23)
      rw [e_0]
      exact vc_Mo_both_at_f13_1_2 (v_iv (n_v vs 1)) (v_iv (n_v vs 2)) (v_iv (n_v vs 3)) (v_iv (n_v vs 4)) (v_iv (n_v vs 5)) (v_iv (n_v vs 6)) (w_fi ws (n_v vs 0) 158) (w_fi ws (n_v vs 0) 164) (w_fi ws (n_v vs 0) 165) (w_fi ws (n_v vs 0) 8) (w_fi ws (n_v vs 0) 159) (w_ei ws (w_ar ws (n_v vs 0) 160)) (w_fi ws (n_v vs 0) 157) (w_ei ws (w_ar ws (n_v vs 0) 161)) (w_ei ws (w_ar ws (n_v vs 0) 162)) (w_ei ws (w_ar ws (n_v vs 0) 163)) (w_ei ws (w_ar ws (n_v vs 0) 1)) (w_fi ws (n_v vs 0) 10) (v_iv (Value.int x)) k1 k2 k3 k4 k5 k6 f0 f1 f2 f3 f4 f5 f6 f7 f8 f9 f10 f11 f12 f13 f14 f15 f16 f17 f18 f19 f20 f21 f23 f24 f25 hK_0_1 hK_0_160 hK_0_162 hK_0_163 kz_0_8 kz_0_10 kz_0_157 kz_0_158 kz_0_159 kz_0_164 kz_0_165 ex2 ex3
  have nf3 : fc_1 PRD (20, [0], [30, 13, 1, 1, 159]) ws (vs ++ [Value.int x]) := by
    refine ⟨nf_inA hl rfl, sgq_1005 ?_⟩
    · show 1 * w_fi ws (n_v (vs ++ [Value.int x]) 0) 159 + 0 ≤ 13
      rw [e_0]
      exact vc_Mo_both_at_f13_1_3 (v_iv (n_v vs 1)) (v_iv (n_v vs 2)) (v_iv (n_v vs 3)) (v_iv (n_v vs 4)) (v_iv (n_v vs 5)) (v_iv (n_v vs 6)) (w_fi ws (n_v vs 0) 158) (w_fi ws (n_v vs 0) 164) (w_fi ws (n_v vs 0) 165) (w_fi ws (n_v vs 0) 8) (w_fi ws (n_v vs 0) 159) (w_ei ws (w_ar ws (n_v vs 0) 160)) (w_fi ws (n_v vs 0) 157) (w_ei ws (w_ar ws (n_v vs 0) 161)) (w_ei ws (w_ar ws (n_v vs 0) 162)) (w_ei ws (w_ar ws (n_v vs 0) 163)) (w_ei ws (w_ar ws (n_v vs 0) 1)) (w_fi ws (n_v vs 0) 10) (v_iv (Value.int x)) k1 k2 k3 k4 k5 k6 f0 f1 f2 f3 f4 f5 f6 f7 f8 f9 f10 f11 f12 f13 f14 f15 f16 f17 f18 f19 f20 f21 f23 f24 f25 hK_0_1 hK_0_160 hK_0_162 hK_0_163 kz_0_8 kz_0_10 kz_0_157 kz_0_158 kz_0_159 kz_0_164 kz_0_165 ex2 ex3
  have nf4 : fc_1 PRD (20, [0], [30, -13, -1, 1, 159]) ws (vs ++ [Value.int x]) := by
    refine ⟨nf_inA hl rfl, sgq_1006 ?_⟩
    · show (-1) * w_fi ws (n_v (vs ++ [Value.int x]) 0) 159 + 0 ≤ (-13)
      rw [e_0]
      exact vc_Mo_both_at_f13_1_4 (v_iv (n_v vs 1)) (v_iv (n_v vs 2)) (v_iv (n_v vs 3)) (v_iv (n_v vs 4)) (v_iv (n_v vs 5)) (v_iv (n_v vs 6)) (w_fi ws (n_v vs 0) 158) (w_fi ws (n_v vs 0) 164) (w_fi ws (n_v vs 0) 165) (w_fi ws (n_v vs 0) 8) (w_fi ws (n_v vs 0) 159) (w_ei ws (w_ar ws (n_v vs 0) 160)) (w_fi ws (n_v vs 0) 157) (w_ei ws (w_ar ws (n_v vs 0) 161)) (w_ei ws (w_ar ws (n_v vs 0) 162)) (w_ei ws (w_ar ws (n_v vs 0) 163)) (w_ei ws (w_ar ws (n_v vs 0) 1)) (w_fi ws (n_v vs 0) 10) (v_iv (Value.int x)) k1 k2 k3 k4 k5 k6 f0 f1 f2 f3 f4 f5 f6 f7 f8 f9 f10 f11 f12 f13 f14 f15 f16 f17 f18 f19 f20 f21 f23 f24 f25 hK_0_1 hK_0_160 hK_0_162 hK_0_163 kz_0_8 kz_0_10 kz_0_157 kz_0_158 kz_0_159 kz_0_164 kz_0_165 ex2 ex3
  have nf5 : fc_1 PRD (20, [0], [30, -1, -1, 1, 8]) ws (vs ++ [Value.int x]) := by
    refine ⟨nf_inA hl rfl, sgq_144 ?_⟩
    · show (-1) * w_fi ws (n_v (vs ++ [Value.int x]) 0) 8 + 0 ≤ (-1)
      rw [e_0]
      exact vc_Mo_both_at_f13_1_5 (v_iv (n_v vs 1)) (v_iv (n_v vs 2)) (v_iv (n_v vs 3)) (v_iv (n_v vs 4)) (v_iv (n_v vs 5)) (v_iv (n_v vs 6)) (w_fi ws (n_v vs 0) 158) (w_fi ws (n_v vs 0) 164) (w_fi ws (n_v vs 0) 165) (w_fi ws (n_v vs 0) 8) (w_fi ws (n_v vs 0) 159) (w_ei ws (w_ar ws (n_v vs 0) 160)) (w_fi ws (n_v vs 0) 157) (w_ei ws (w_ar ws (n_v vs 0) 161)) (w_ei ws (w_ar ws (n_v vs 0) 162)) (w_ei ws (w_ar ws (n_v vs 0) 163)) (w_ei ws (w_ar ws (n_v vs 0) 1)) (w_fi ws (n_v vs 0) 10) (v_iv (Value.int x)) k1 k2 k3 k4 k5 k6 f0 f1 f2 f3 f4 f5 f6 f7 f8 f9 f10 f11 f12 f13 f14 f15 f16 f17 f18 f19 f20 f21 f23 f24 f25 hK_0_1 hK_0_160 hK_0_162 hK_0_163 kz_0_8 kz_0_10 kz_0_157 kz_0_158 kz_0_159 kz_0_164 kz_0_165 ex2 ex3
  have nf6 : fc_1 PRD (20, [0, 1, 2, 3], [60, 4, 5, 8, 8, 158, 164, 10, 160, 161, 162, 163, 1]) ws (vs ++ [Value.int x]) := by
    refine ⟨nf_inA hl rfl, sgq_308 ?_⟩
    · show SBL (w_fi ws (n_v (vs ++ [Value.int x]) 0) 8) (w_fi ws (n_v (vs ++ [Value.int x]) 0) 158) (w_fi ws (n_v (vs ++ [Value.int x]) 0) 164) (w_fi ws (n_v (vs ++ [Value.int x]) 0) 10) (w_ei ws (w_ar ws (n_v (vs ++ [Value.int x]) 0) 160)) (w_ei ws (w_ar ws (n_v (vs ++ [Value.int x]) 0) 161)) (w_ei ws (w_ar ws (n_v (vs ++ [Value.int x]) 0) 162)) (w_ei ws (w_ar ws (n_v (vs ++ [Value.int x]) 0) 163)) (w_ei ws (w_ar ws (n_v (vs ++ [Value.int x]) 0) 1)) (v_iv (n_v (vs ++ [Value.int x]) 1)) (v_iv (n_v (vs ++ [Value.int x]) 2)) (v_iv (n_v (vs ++ [Value.int x]) 3))
      simp only [e_0, e_1, e_2, e_3]
      exact vc_Mo_both_at_f13_1_6 (v_iv (n_v vs 1)) (v_iv (n_v vs 2)) (v_iv (n_v vs 3)) (v_iv (n_v vs 4)) (v_iv (n_v vs 5)) (v_iv (n_v vs 6)) (w_fi ws (n_v vs 0) 158) (w_fi ws (n_v vs 0) 164) (w_fi ws (n_v vs 0) 165) (w_fi ws (n_v vs 0) 8) (w_fi ws (n_v vs 0) 159) (w_ei ws (w_ar ws (n_v vs 0) 160)) (w_fi ws (n_v vs 0) 157) (w_ei ws (w_ar ws (n_v vs 0) 161)) (w_ei ws (w_ar ws (n_v vs 0) 162)) (w_ei ws (w_ar ws (n_v vs 0) 163)) (w_ei ws (w_ar ws (n_v vs 0) 1)) (w_fi ws (n_v vs 0) 10) (v_iv (Value.int x)) k1 k2 k3 k4 k5 k6 f0 f1 f2 f3 f4 f5 f6 f7 f8 f9 f10 f11 f12 f13 f14 f15 f16 f17 f18 f19 f20 f21 f23 f24 f25 hK_0_1 hK_0_160 hK_0_162 hK_0_163 kz_0_8 kz_0_10 kz_0_157 kz_0_158 kz_0_159 kz_0_164 kz_0_165 ex2 ex3
  have nf7 : fc_1 PRD (23, [3], [13, 1]) ws (vs ++ [Value.int x]) := by
    refine ⟨nf_inA hl rfl, sgq_2014 ?_⟩
    · show 1 * v_iv (n_v (vs ++ [Value.int x]) 3) + 0 ≤ 13
      rw [e_3]
      exact vc_Mo_both_at_f13_1_7 (v_iv (n_v vs 1)) (v_iv (n_v vs 2)) (v_iv (n_v vs 3)) (v_iv (n_v vs 4)) (v_iv (n_v vs 5)) (v_iv (n_v vs 6)) (w_fi ws (n_v vs 0) 158) (w_fi ws (n_v vs 0) 164) (w_fi ws (n_v vs 0) 165) (w_fi ws (n_v vs 0) 8) (w_fi ws (n_v vs 0) 159) (w_ei ws (w_ar ws (n_v vs 0) 160)) (w_fi ws (n_v vs 0) 157) (w_ei ws (w_ar ws (n_v vs 0) 161)) (w_ei ws (w_ar ws (n_v vs 0) 162)) (w_ei ws (w_ar ws (n_v vs 0) 163)) (w_ei ws (w_ar ws (n_v vs 0) 1)) (w_fi ws (n_v vs 0) 10) (v_iv (Value.int x)) k1 k2 k3 k4 k5 k6 f0 f1 f2 f3 f4 f5 f6 f7 f8 f9 f10 f11 f12 f13 f14 f15 f16 f17 f18 f19 f20 f21 f23 f24 f25 hK_0_1 hK_0_160 hK_0_162 hK_0_163 kz_0_8 kz_0_10 kz_0_157 kz_0_158 kz_0_159 kz_0_164 kz_0_165 ex2 ex3
  have nf8 : fc_1 PRD (23, [3], [-13, -1]) ws (vs ++ [Value.int x]) := by
    refine ⟨nf_inA hl rfl, sgq_2015 ?_⟩
    · show (-1) * v_iv (n_v (vs ++ [Value.int x]) 3) + 0 ≤ (-13)
      rw [e_3]
      exact vc_Mo_both_at_f13_1_8 (v_iv (n_v vs 1)) (v_iv (n_v vs 2)) (v_iv (n_v vs 3)) (v_iv (n_v vs 4)) (v_iv (n_v vs 5)) (v_iv (n_v vs 6)) (w_fi ws (n_v vs 0) 158) (w_fi ws (n_v vs 0) 164) (w_fi ws (n_v vs 0) 165) (w_fi ws (n_v vs 0) 8) (w_fi ws (n_v vs 0) 159) (w_ei ws (w_ar ws (n_v vs 0) 160)) (w_fi ws (n_v vs 0) 157) (w_ei ws (w_ar ws (n_v vs 0) 161)) (w_ei ws (w_ar ws (n_v vs 0) 162)) (w_ei ws (w_ar ws (n_v vs 0) 163)) (w_ei ws (w_ar ws (n_v vs 0) 1)) (w_fi ws (n_v vs 0) 10) (v_iv (Value.int x)) k1 k2 k3 k4 k5 k6 f0 f1 f2 f3 f4 f5 f6 f7 f8 f9 f10 f11 f12 f13 f14 f15 f16 f17 f18 f19 f20 f21 f23 f24 f25 hK_0_1 hK_0_160 hK_0_162 hK_0_163 kz_0_8 kz_0_10 kz_0_157 kz_0_158 kz_0_159 kz_0_164 kz_0_165 ex2 ex3
  have nf9 : fc_1 PRD (24, [0, 0], []) ws (vs ++ [Value.int x]) := by
    refine ⟨nf_inA hl rfl, sgq_1 ?_⟩
    · show n_v (vs ++ [Value.int x]) 0 = n_v (vs ++ [Value.int x]) 0
      first | rfl | simp only [e_0]
  have nf10 : fc_1 PRD (20, [8, 0], [30, 2010, 1, 0, 0, 1, 1, 158]) ws (vs ++ [Value.int x]) := by
    refine ⟨nf_inA hl rfl, sgq_309 ?_⟩
    · show 1 * v_iv (n_v (vs ++ [Value.int x]) 8) + (1 * w_fi ws (n_v (vs ++ [Value.int x]) 0) 158 + 0) ≤ 2010
      simp only [e_0, e_8]
      exact vc_Mo_both_at_f13_1_10 (v_iv (n_v vs 1)) (v_iv (n_v vs 2)) (v_iv (n_v vs 3)) (v_iv (n_v vs 4)) (v_iv (n_v vs 5)) (v_iv (n_v vs 6)) (w_fi ws (n_v vs 0) 158) (w_fi ws (n_v vs 0) 164) (w_fi ws (n_v vs 0) 165) (w_fi ws (n_v vs 0) 8) (w_fi ws (n_v vs 0) 159) (w_ei ws (w_ar ws (n_v vs 0) 160)) (w_fi ws (n_v vs 0) 157) (w_ei ws (w_ar ws (n_v vs 0) 161)) (w_ei ws (w_ar ws (n_v vs 0) 162)) (w_ei ws (w_ar ws (n_v vs 0) 163)) (w_ei ws (w_ar ws (n_v vs 0) 1)) (w_fi ws (n_v vs 0) 10) (v_iv (Value.int x)) k1 k2 k3 k4 k5 k6 f0 f1 f2 f3 f4 f5 f6 f7 f8 f9 f10 f11 f12 f13 f14 f15 f16 f17 f18 f19 f20 f21 f23 f24 f25 hK_0_1 hK_0_160 hK_0_162 hK_0_163 kz_0_8 kz_0_10 kz_0_157 kz_0_158 kz_0_159 kz_0_164 kz_0_165 ex2 ex3
  have nf11 : fc_1 PRD (20, [8, 0], [30, -2010, -1, 0, 0, -1, 1, 158]) ws (vs ++ [Value.int x]) := by
    refine ⟨nf_inA hl rfl, sgq_310 ?_⟩
    · show (-1) * v_iv (n_v (vs ++ [Value.int x]) 8) + ((-1) * w_fi ws (n_v (vs ++ [Value.int x]) 0) 158 + 0) ≤ (-2010)
      simp only [e_0, e_8]
      exact vc_Mo_both_at_f13_1_11 (v_iv (n_v vs 1)) (v_iv (n_v vs 2)) (v_iv (n_v vs 3)) (v_iv (n_v vs 4)) (v_iv (n_v vs 5)) (v_iv (n_v vs 6)) (w_fi ws (n_v vs 0) 158) (w_fi ws (n_v vs 0) 164) (w_fi ws (n_v vs 0) 165) (w_fi ws (n_v vs 0) 8) (w_fi ws (n_v vs 0) 159) (w_ei ws (w_ar ws (n_v vs 0) 160)) (w_fi ws (n_v vs 0) 157) (w_ei ws (w_ar ws (n_v vs 0) 161)) (w_ei ws (w_ar ws (n_v vs 0) 162)) (w_ei ws (w_ar ws (n_v vs 0) 163)) (w_ei ws (w_ar ws (n_v vs 0) 1)) (w_fi ws (n_v vs 0) 10) (v_iv (Value.int x)) k1 k2 k3 k4 k5 k6 f0 f1 f2 f3 f4 f5 f6 f7 f8 f9 f10 f11 f12 f13 f14 f15 f16 f17 f18 f19 f20 f21 f23 f24 f25 hK_0_1 hK_0_160 hK_0_162 hK_0_163 kz_0_8 kz_0_10 kz_0_157 kz_0_158 kz_0_159 kz_0_164 kz_0_165 ex2 ex3
  exact ⟨(fun _ h => (by cases h)), [Value.int x], ag_one hx, List.forall_mem_cons.mpr ⟨⟨show (20 : Nat) < 100 from by decide, nf0⟩, List.forall_mem_cons.mpr ⟨⟨show (20 : Nat) < 100 from by decide, nf1⟩, List.forall_mem_cons.mpr ⟨⟨show (20 : Nat) < 100 from by decide, nf2⟩, List.forall_mem_cons.mpr ⟨⟨show (20 : Nat) < 100 from by decide, nf3⟩, List.forall_mem_cons.mpr ⟨⟨show (20 : Nat) < 100 from by decide, nf4⟩, List.forall_mem_cons.mpr ⟨⟨show (20 : Nat) < 100 from by decide, nf5⟩, List.forall_mem_cons.mpr ⟨⟨show (20 : Nat) < 100 from by decide, nf6⟩, List.forall_mem_cons.mpr ⟨⟨show (23 : Nat) < 100 from by decide, nf7⟩, List.forall_mem_cons.mpr ⟨⟨show (23 : Nat) < 100 from by decide, nf8⟩, List.forall_mem_cons.mpr ⟨⟨show (24 : Nat) < 100 from by decide, nf9⟩, List.forall_mem_cons.mpr ⟨⟨show (20 : Nat) < 100 from by decide, nf10⟩, List.forall_mem_cons.mpr ⟨⟨show (20 : Nat) < 100 from by decide, nf11⟩, (fun _ h => (by cases h))⟩⟩⟩⟩⟩⟩⟩⟩⟩⟩⟩⟩, (fun _ h => (by cases h))⟩
set_option maxHeartbeats 4000000 in
theorem vc_Mo_both_at_f13_2_0 (x1 : Int) (x2 : Int) (x3 : Int) (x6 : Int) (x7 : Int) (x9 : Int) (cur_0 : Int) (tokenKind_0 : Int → Int) (tokens_0 : Int) (styleKind_0 : Int) (styleOne_0 : Int) (opened_0 : Int) (fault_0 : Int) (tokenValue_0 : Int → Int) (tokenPlace_0 : Int → Int) (tokenEnd_0 : Int → Int) (tape_0 : Int → Int) (limit_0 : Int) (k1 : 0 ≤ x1 ∧ x1 ≤ 2009) (k2 : 0 ≤ x2 ∧ x2 ≤ 5) (k3 : 0 ≤ x3 ∧ x3 ≤ 13) (k6 : 0 ≤ x6 ∧ x6 ≤ 2009) (k7 : 0 ≤ x7 ∧ x7 ≤ 2010) (k9 : 0 ≤ x9 ∧ x9 ≤ 0) (g0 : x6 = cur_0) (f1 : x9 = 0) (f2 : ((cur_0 + 1) ≤ tokens_0) ∧ ((tokens_0 ≤ 2010) ∧ ((tokenKind_0 ((tokens_0 - 1)) = 0) ∨ (tokenKind_0 ((tokens_0 - 1)) = 4)))) (f3 : 1 * x1 + ((-1) * cur_0 + 0) ≤ 0) (f4 : (styleKind_0 = 0) → (styleOne_0 ≤ 23)) (f5 : 1 * opened_0 + 0 ≤ 13) (f6 : (-1) * opened_0 + 0 ≤ (-13)) (f7 : (-1) * fault_0 + 0 ≤ (-1)) (f8 : SBL (fault_0) (cur_0) (styleKind_0) (limit_0) (tokenKind_0) (tokenValue_0) (tokenPlace_0) (tokenEnd_0) (tape_0) (x1) (x2) (x3)) (f9 : 1 * x3 + 0 ≤ 13) (f10 : (-1) * x3 + 0 ≤ (-13)) (f12 : 1 * x7 + (1 * cur_0 + 0) ≤ 2010) (f13 : (-1) * x7 + ((-1) * cur_0 + 0) ≤ (-2010)) (f14 : (x9 = 1) → (tokenKind_0 (cur_0) = 1)) (f15 : Wqand (fault_0) (cur_0) (limit_0) (tokenKind_0) (tokenPlace_0) (tokenEnd_0) (tape_0) (x9)) (f17 : 1 * x3 + 0 ≤ 13) (f18 : (-1) * x3 + 0 ≤ (-13)) (hK_0_1 : ∀ j : Int, 0 ≤ j → j < 2000 → (-128) ≤ tape_0 j ∧ tape_0 j ≤ 127) (hK_0_160 : ∀ j : Int, 0 ≤ j → j < 2010 → 0 ≤ tokenKind_0 j ∧ tokenKind_0 j ≤ 4) (hK_0_162 : ∀ j : Int, 0 ≤ j → j < 2010 → 0 ≤ tokenPlace_0 j ∧ tokenPlace_0 j ≤ 2000) (hK_0_163 : ∀ j : Int, 0 ≤ j → j < 2010 → 0 ≤ tokenEnd_0 j ∧ tokenEnd_0 j ≤ 2000) (kz_0_8 : 0 ≤ fault_0 ∧ fault_0 ≤ 5) (kz_0_10 : 0 ≤ limit_0 ∧ limit_0 ≤ 2000) (kz_0_157 : 0 ≤ tokens_0 ∧ tokens_0 ≤ 2010) (kz_0_158 : 0 ≤ cur_0 ∧ cur_0 ≤ 2009) (kz_0_159 : 0 ≤ opened_0 ∧ opened_0 ≤ 13) (kz_0_164 : 0 ≤ styleKind_0 ∧ styleKind_0 ≤ 1) (kz_0_165 : (-1) ≤ styleOne_0 ∧ styleOne_0 ≤ 47) : ((cur_0 + 1) ≤ tokens_0) ∧ ((tokens_0 ≤ 2010) ∧ ((tokenKind_0 ((tokens_0 - 1)) = 0) ∨ (tokenKind_0 ((tokens_0 - 1)) = 4))) := by
  first | assumption | (clear f2 f4 f14 hK_0_1 hK_0_160 hK_0_162 hK_0_163; omega) | (clear hK_0_1 hK_0_160 hK_0_162 hK_0_163; grind) | omega | grind
set_option maxHeartbeats 4000000 in
theorem vc_Mo_both_at_f13_2_1 (x1 : Int) (x2 : Int) (x3 : Int) (x6 : Int) (x7 : Int) (x9 : Int) (cur_0 : Int) (tokenKind_0 : Int → Int) (tokens_0 : Int) (styleKind_0 : Int) (styleOne_0 : Int) (opened_0 : Int) (fault_0 : Int) (tokenValue_0 : Int → Int) (tokenPlace_0 : Int → Int) (tokenEnd_0 : Int → Int) (tape_0 : Int → Int) (limit_0 : Int) (k1 : 0 ≤ x1 ∧ x1 ≤ 2009) (k2 : 0 ≤ x2 ∧ x2 ≤ 5) (k3 : 0 ≤ x3 ∧ x3 ≤ 13) (k6 : 0 ≤ x6 ∧ x6 ≤ 2009) (k7 : 0 ≤ x7 ∧ x7 ≤ 2010) (k9 : 0 ≤ x9 ∧ x9 ≤ 0) (g0 : x6 = cur_0) (f1 : x9 = 0) (f2 : ((cur_0 + 1) ≤ tokens_0) ∧ ((tokens_0 ≤ 2010) ∧ ((tokenKind_0 ((tokens_0 - 1)) = 0) ∨ (tokenKind_0 ((tokens_0 - 1)) = 4)))) (f3 : 1 * x1 + ((-1) * cur_0 + 0) ≤ 0) (f4 : (styleKind_0 = 0) → (styleOne_0 ≤ 23)) (f5 : 1 * opened_0 + 0 ≤ 13) (f6 : (-1) * opened_0 + 0 ≤ (-13)) (f7 : (-1) * fault_0 + 0 ≤ (-1)) (f8 : SBL (fault_0) (cur_0) (styleKind_0) (limit_0) (tokenKind_0) (tokenValue_0) (tokenPlace_0) (tokenEnd_0) (tape_0) (x1) (x2) (x3)) (f9 : 1 * x3 + 0 ≤ 13) (f10 : (-1) * x3 + 0 ≤ (-13)) (f12 : 1 * x7 + (1 * cur_0 + 0) ≤ 2010) (f13 : (-1) * x7 + ((-1) * cur_0 + 0) ≤ (-2010)) (f14 : (x9 = 1) → (tokenKind_0 (cur_0) = 1)) (f15 : Wqand (fault_0) (cur_0) (limit_0) (tokenKind_0) (tokenPlace_0) (tokenEnd_0) (tape_0) (x9)) (f17 : 1 * x3 + 0 ≤ 13) (f18 : (-1) * x3 + 0 ≤ (-13)) (hK_0_1 : ∀ j : Int, 0 ≤ j → j < 2000 → (-128) ≤ tape_0 j ∧ tape_0 j ≤ 127) (hK_0_160 : ∀ j : Int, 0 ≤ j → j < 2010 → 0 ≤ tokenKind_0 j ∧ tokenKind_0 j ≤ 4) (hK_0_162 : ∀ j : Int, 0 ≤ j → j < 2010 → 0 ≤ tokenPlace_0 j ∧ tokenPlace_0 j ≤ 2000) (hK_0_163 : ∀ j : Int, 0 ≤ j → j < 2010 → 0 ≤ tokenEnd_0 j ∧ tokenEnd_0 j ≤ 2000) (kz_0_8 : 0 ≤ fault_0 ∧ fault_0 ≤ 5) (kz_0_10 : 0 ≤ limit_0 ∧ limit_0 ≤ 2000) (kz_0_157 : 0 ≤ tokens_0 ∧ tokens_0 ≤ 2010) (kz_0_158 : 0 ≤ cur_0 ∧ cur_0 ≤ 2009) (kz_0_159 : 0 ≤ opened_0 ∧ opened_0 ≤ 13) (kz_0_164 : 0 ≤ styleKind_0 ∧ styleKind_0 ≤ 1) (kz_0_165 : (-1) ≤ styleOne_0 ∧ styleOne_0 ≤ 47) : 1 * x1 + ((-1) * cur_0 + 0) ≤ 0 := by
  first | assumption | (clear f2 f4 f14 hK_0_1 hK_0_160 hK_0_162 hK_0_163; omega) | (clear hK_0_1 hK_0_160 hK_0_162 hK_0_163; grind) | omega | grind
set_option maxHeartbeats 4000000 in
theorem vc_Mo_both_at_f13_2_2 (x1 : Int) (x2 : Int) (x3 : Int) (x6 : Int) (x7 : Int) (x9 : Int) (cur_0 : Int) (tokenKind_0 : Int → Int) (tokens_0 : Int) (styleKind_0 : Int) (styleOne_0 : Int) (opened_0 : Int) (fault_0 : Int) (tokenValue_0 : Int → Int) (tokenPlace_0 : Int → Int) (tokenEnd_0 : Int → Int) (tape_0 : Int → Int) (limit_0 : Int) (k1 : 0 ≤ x1 ∧ x1 ≤ 2009) (k2 : 0 ≤ x2 ∧ x2 ≤ 5) (k3 : 0 ≤ x3 ∧ x3 ≤ 13) (k6 : 0 ≤ x6 ∧ x6 ≤ 2009) (k7 : 0 ≤ x7 ∧ x7 ≤ 2010) (k9 : 0 ≤ x9 ∧ x9 ≤ 0) (g0 : x6 = cur_0) (f1 : x9 = 0) (f2 : ((cur_0 + 1) ≤ tokens_0) ∧ ((tokens_0 ≤ 2010) ∧ ((tokenKind_0 ((tokens_0 - 1)) = 0) ∨ (tokenKind_0 ((tokens_0 - 1)) = 4)))) (f3 : 1 * x1 + ((-1) * cur_0 + 0) ≤ 0) (f4 : (styleKind_0 = 0) → (styleOne_0 ≤ 23)) (f5 : 1 * opened_0 + 0 ≤ 13) (f6 : (-1) * opened_0 + 0 ≤ (-13)) (f7 : (-1) * fault_0 + 0 ≤ (-1)) (f8 : SBL (fault_0) (cur_0) (styleKind_0) (limit_0) (tokenKind_0) (tokenValue_0) (tokenPlace_0) (tokenEnd_0) (tape_0) (x1) (x2) (x3)) (f9 : 1 * x3 + 0 ≤ 13) (f10 : (-1) * x3 + 0 ≤ (-13)) (f12 : 1 * x7 + (1 * cur_0 + 0) ≤ 2010) (f13 : (-1) * x7 + ((-1) * cur_0 + 0) ≤ (-2010)) (f14 : (x9 = 1) → (tokenKind_0 (cur_0) = 1)) (f15 : Wqand (fault_0) (cur_0) (limit_0) (tokenKind_0) (tokenPlace_0) (tokenEnd_0) (tape_0) (x9)) (f17 : 1 * x3 + 0 ≤ 13) (f18 : (-1) * x3 + 0 ≤ (-13)) (hK_0_1 : ∀ j : Int, 0 ≤ j → j < 2000 → (-128) ≤ tape_0 j ∧ tape_0 j ≤ 127) (hK_0_160 : ∀ j : Int, 0 ≤ j → j < 2010 → 0 ≤ tokenKind_0 j ∧ tokenKind_0 j ≤ 4) (hK_0_162 : ∀ j : Int, 0 ≤ j → j < 2010 → 0 ≤ tokenPlace_0 j ∧ tokenPlace_0 j ≤ 2000) (hK_0_163 : ∀ j : Int, 0 ≤ j → j < 2010 → 0 ≤ tokenEnd_0 j ∧ tokenEnd_0 j ≤ 2000) (kz_0_8 : 0 ≤ fault_0 ∧ fault_0 ≤ 5) (kz_0_10 : 0 ≤ limit_0 ∧ limit_0 ≤ 2000) (kz_0_157 : 0 ≤ tokens_0 ∧ tokens_0 ≤ 2010) (kz_0_158 : 0 ≤ cur_0 ∧ cur_0 ≤ 2009) (kz_0_159 : 0 ≤ opened_0 ∧ opened_0 ≤ 13) (kz_0_164 : 0 ≤ styleKind_0 ∧ styleKind_0 ≤ 1) (kz_0_165 : (-1) ≤ styleOne_0 ∧ styleOne_0 ≤ 47) : 1 * opened_0 + 0 ≤ 13 := by
  first | assumption | (clear f2 f4 f14 hK_0_1 hK_0_160 hK_0_162 hK_0_163; omega) | (clear hK_0_1 hK_0_160 hK_0_162 hK_0_163; grind) | omega | grind
set_option maxHeartbeats 4000000 in
theorem vc_Mo_both_at_f13_2_3 (x1 : Int) (x2 : Int) (x3 : Int) (x6 : Int) (x7 : Int) (x9 : Int) (cur_0 : Int) (tokenKind_0 : Int → Int) (tokens_0 : Int) (styleKind_0 : Int) (styleOne_0 : Int) (opened_0 : Int) (fault_0 : Int) (tokenValue_0 : Int → Int) (tokenPlace_0 : Int → Int) (tokenEnd_0 : Int → Int) (tape_0 : Int → Int) (limit_0 : Int) (k1 : 0 ≤ x1 ∧ x1 ≤ 2009) (k2 : 0 ≤ x2 ∧ x2 ≤ 5) (k3 : 0 ≤ x3 ∧ x3 ≤ 13) (k6 : 0 ≤ x6 ∧ x6 ≤ 2009) (k7 : 0 ≤ x7 ∧ x7 ≤ 2010) (k9 : 0 ≤ x9 ∧ x9 ≤ 0) (g0 : x6 = cur_0) (f1 : x9 = 0) (f2 : ((cur_0 + 1) ≤ tokens_0) ∧ ((tokens_0 ≤ 2010) ∧ ((tokenKind_0 ((tokens_0 - 1)) = 0) ∨ (tokenKind_0 ((tokens_0 - 1)) = 4)))) (f3 : 1 * x1 + ((-1) * cur_0 + 0) ≤ 0) (f4 : (styleKind_0 = 0) → (styleOne_0 ≤ 23)) (f5 : 1 * opened_0 + 0 ≤ 13) (f6 : (-1) * opened_0 + 0 ≤ (-13)) (f7 : (-1) * fault_0 + 0 ≤ (-1)) (f8 : SBL (fault_0) (cur_0) (styleKind_0) (limit_0) (tokenKind_0) (tokenValue_0) (tokenPlace_0) (tokenEnd_0) (tape_0) (x1) (x2) (x3)) (f9 : 1 * x3 + 0 ≤ 13) (f10 : (-1) * x3 + 0 ≤ (-13)) (f12 : 1 * x7 + (1 * cur_0 + 0) ≤ 2010) (f13 : (-1) * x7 + ((-1) * cur_0 + 0) ≤ (-2010)) (f14 : (x9 = 1) → (tokenKind_0 (cur_0) = 1)) (f15 : Wqand (fault_0) (cur_0) (limit_0) (tokenKind_0) (tokenPlace_0) (tokenEnd_0) (tape_0) (x9)) (f17 : 1 * x3 + 0 ≤ 13) (f18 : (-1) * x3 + 0 ≤ (-13)) (hK_0_1 : ∀ j : Int, 0 ≤ j → j < 2000 → (-128) ≤ tape_0 j ∧ tape_0 j ≤ 127) (hK_0_160 : ∀ j : Int, 0 ≤ j → j < 2010 → 0 ≤ tokenKind_0 j ∧ tokenKind_0 j ≤ 4) (hK_0_162 : ∀ j : Int, 0 ≤ j → j < 2010 → 0 ≤ tokenPlace_0 j ∧ tokenPlace_0 j ≤ 2000) (hK_0_163 : ∀ j : Int, 0 ≤ j → j < 2010 → 0 ≤ tokenEnd_0 j ∧ tokenEnd_0 j ≤ 2000) (kz_0_8 : 0 ≤ fault_0 ∧ fault_0 ≤ 5) (kz_0_10 : 0 ≤ limit_0 ∧ limit_0 ≤ 2000) (kz_0_157 : 0 ≤ tokens_0 ∧ tokens_0 ≤ 2010) (kz_0_158 : 0 ≤ cur_0 ∧ cur_0 ≤ 2009) (kz_0_159 : 0 ≤ opened_0 ∧ opened_0 ≤ 13) (kz_0_164 : 0 ≤ styleKind_0 ∧ styleKind_0 ≤ 1) (kz_0_165 : (-1) ≤ styleOne_0 ∧ styleOne_0 ≤ 47) : (-1) * opened_0 + 0 ≤ (-13) := by
  first | assumption | (clear f2 f4 f14 hK_0_1 hK_0_160 hK_0_162 hK_0_163; omega) | (clear hK_0_1 hK_0_160 hK_0_162 hK_0_163; grind) | omega | grind
set_option maxHeartbeats 4000000 in
theorem vc_Mo_both_at_f13_2_4 (x1 : Int) (x2 : Int) (x3 : Int) (x6 : Int) (x7 : Int) (x9 : Int) (cur_0 : Int) (tokenKind_0 : Int → Int) (tokens_0 : Int) (styleKind_0 : Int) (styleOne_0 : Int) (opened_0 : Int) (fault_0 : Int) (tokenValue_0 : Int → Int) (tokenPlace_0 : Int → Int) (tokenEnd_0 : Int → Int) (tape_0 : Int → Int) (limit_0 : Int) (k1 : 0 ≤ x1 ∧ x1 ≤ 2009) (k2 : 0 ≤ x2 ∧ x2 ≤ 5) (k3 : 0 ≤ x3 ∧ x3 ≤ 13) (k6 : 0 ≤ x6 ∧ x6 ≤ 2009) (k7 : 0 ≤ x7 ∧ x7 ≤ 2010) (k9 : 0 ≤ x9 ∧ x9 ≤ 0) (g0 : x6 = cur_0) (f1 : x9 = 0) (f2 : ((cur_0 + 1) ≤ tokens_0) ∧ ((tokens_0 ≤ 2010) ∧ ((tokenKind_0 ((tokens_0 - 1)) = 0) ∨ (tokenKind_0 ((tokens_0 - 1)) = 4)))) (f3 : 1 * x1 + ((-1) * cur_0 + 0) ≤ 0) (f4 : (styleKind_0 = 0) → (styleOne_0 ≤ 23)) (f5 : 1 * opened_0 + 0 ≤ 13) (f6 : (-1) * opened_0 + 0 ≤ (-13)) (f7 : (-1) * fault_0 + 0 ≤ (-1)) (f8 : SBL (fault_0) (cur_0) (styleKind_0) (limit_0) (tokenKind_0) (tokenValue_0) (tokenPlace_0) (tokenEnd_0) (tape_0) (x1) (x2) (x3)) (f9 : 1 * x3 + 0 ≤ 13) (f10 : (-1) * x3 + 0 ≤ (-13)) (f12 : 1 * x7 + (1 * cur_0 + 0) ≤ 2010) (f13 : (-1) * x7 + ((-1) * cur_0 + 0) ≤ (-2010)) (f14 : (x9 = 1) → (tokenKind_0 (cur_0) = 1)) (f15 : Wqand (fault_0) (cur_0) (limit_0) (tokenKind_0) (tokenPlace_0) (tokenEnd_0) (tape_0) (x9)) (f17 : 1 * x3 + 0 ≤ 13) (f18 : (-1) * x3 + 0 ≤ (-13)) (hK_0_1 : ∀ j : Int, 0 ≤ j → j < 2000 → (-128) ≤ tape_0 j ∧ tape_0 j ≤ 127) (hK_0_160 : ∀ j : Int, 0 ≤ j → j < 2010 → 0 ≤ tokenKind_0 j ∧ tokenKind_0 j ≤ 4) (hK_0_162 : ∀ j : Int, 0 ≤ j → j < 2010 → 0 ≤ tokenPlace_0 j ∧ tokenPlace_0 j ≤ 2000) (hK_0_163 : ∀ j : Int, 0 ≤ j → j < 2010 → 0 ≤ tokenEnd_0 j ∧ tokenEnd_0 j ≤ 2000) (kz_0_8 : 0 ≤ fault_0 ∧ fault_0 ≤ 5) (kz_0_10 : 0 ≤ limit_0 ∧ limit_0 ≤ 2000) (kz_0_157 : 0 ≤ tokens_0 ∧ tokens_0 ≤ 2010) (kz_0_158 : 0 ≤ cur_0 ∧ cur_0 ≤ 2009) (kz_0_159 : 0 ≤ opened_0 ∧ opened_0 ≤ 13) (kz_0_164 : 0 ≤ styleKind_0 ∧ styleKind_0 ≤ 1) (kz_0_165 : (-1) ≤ styleOne_0 ∧ styleOne_0 ≤ 47) : (-1) * fault_0 + 0 ≤ (-1) := by
  first | assumption | (clear f2 f4 f14 hK_0_1 hK_0_160 hK_0_162 hK_0_163; omega) | (clear hK_0_1 hK_0_160 hK_0_162 hK_0_163; grind) | omega | grind
set_option maxHeartbeats 4000000 in
theorem vc_Mo_both_at_f13_2_5 (x1 : Int) (x2 : Int) (x3 : Int) (x6 : Int) (x9 : Int) (cur_0 : Int) (tokenKind_0 : Int → Int) (styleKind_0 : Int) (fault_0 : Int) (tokenValue_0 : Int → Int) (tokenPlace_0 : Int → Int) (tokenEnd_0 : Int → Int) (tape_0 : Int → Int) (limit_0 : Int) (k1 : 0 ≤ x1 ∧ x1 ≤ 2009) (k2 : 0 ≤ x2 ∧ x2 ≤ 5) (k3 : 0 ≤ x3 ∧ x3 ≤ 13) (k6 : 0 ≤ x6 ∧ x6 ≤ 2009) (k9 : 0 ≤ x9 ∧ x9 ≤ 0) (g0 : x6 = cur_0) (f7 : (-1) * fault_0 + 0 ≤ (-1)) (f8 : SBL (fault_0) (cur_0) (styleKind_0) (limit_0) (tokenKind_0) (tokenValue_0) (tokenPlace_0) (tokenEnd_0) (tape_0) (x1) (x2) (x3)) (f15 : Wqand (fault_0) (cur_0) (limit_0) (tokenKind_0) (tokenPlace_0) (tokenEnd_0) (tape_0) (x9)) (kz_0_8 : 0 ≤ fault_0 ∧ fault_0 ≤ 5) (kz_0_10 : 0 ≤ limit_0 ∧ limit_0 ≤ 2000) (kz_0_158 : 0 ≤ cur_0 ∧ cur_0 ≤ 2009) (kz_0_164 : 0 ≤ styleKind_0 ∧ styleKind_0 ≤ 1) : SBO (fault_0) (cur_0) (styleKind_0) (limit_0) (tokenKind_0) (tokenValue_0) (tokenPlace_0) (tokenEnd_0) (tape_0) (x1) (x2) (x3) := by
  first
    | exact sbo_of (‹SBL _ _ _ _ _ _ _ _ _ _ _ _›) (fun z y => wdq_n (‹Wqand _ _ _ _ _ _ _ _›) (by omega) ⟨z, y⟩) (by omega)
  
def o_Mo_both_at_f13_2 : or_T := (48, 10, [(0, (2, 0, 0, [165])), (1, (0, 0, 2009, [])), (2, (0, 0, 5, [])), (3, (0, 0, 13, [])), (6, (0, 0, 2009, [])), (7, (0, 0, 2010, [])), (9, (0, 0, 0, []))], [(9, [6, 4], [158]), (8, [9], [0]), (20, [4], [50, 2, 1, 158, 157, 160, 2, 12, 0, 7, 4, 3, 2, 0, 158, 0, 1, 2, 0, 157, 2, 7, 0, 3, 2, 0, 157, 0, 2010, 3, 14, 1, 10, 3, 0, 160, 5, 3, 2, 0, 157, 0, 1, 0, 0, 1, 10, 3, 0, 160, 5, 3, 2, 0, 157, 0, 1, 0, 4]), (20, [1, 4], [30, 0, 1, 0, 0, -1, 1, 158]), (20, [4], [50, 2, 0, 164, 165, 4, 7, 1, 3, 2, 0, 164, 0, 0, 0, 3, 2, 0, 165, 0, 23]), (20, [4], [30, 13, 1, 1, 159]), (20, [4], [30, -13, -1, 1, 159]), (20, [4], [30, -1, -1, 1, 8]), (20, [4, 1, 2, 3], [60, 4, 5, 8, 8, 158, 164, 10, 160, 161, 162, 163, 1]), (23, [3], [13, 1]), (23, [3], [-13, -1]), (24, [0, 4], []), (20, [7, 4], [30, 2010, 1, 0, 0, 1, 1, 158]), (20, [7, 4], [30, -2010, -1, 0, 0, -1, 1, 158]), (20, [9, 4], [50, 1, 1, 1158, 1160, 4, 6, 1, 2, 1, 0, 0, 1, 1, 6, 3, 1, 160, 2, 1, 158, 0, 1]), (20, [4, 9], [60, 3, 4, 26, 8, 158, 10, 160, 162, 163, 1]), (102, [8], [0]), (23, [3], [13, 1]), (23, [3], [-13, -1])], [], [], [(20, [0], [50, 2, 1, 158, 157, 160, 2, 12, 0, 7, 4, 3, 2, 0, 158, 0, 1, 2, 0, 157, 2, 7, 0, 3, 2, 0, 157, 0, 2010, 3, 14, 1, 10, 3, 0, 160, 5, 3, 2, 0, 157, 0, 1, 0, 0, 1, 10, 3, 0, 160, 5, 3, 2, 0, 157, 0, 1, 0, 4]), (20, [1, 0], [30, 0, 1, 0, 0, -1, 1, 158]), (20, [0], [30, 13, 1, 1, 159]), (20, [0], [30, -13, -1, 1, 159]), (20, [0], [30, -1, -1, 1, 8]), (20, [0, 1, 2, 3], [60, 4, 5, 4, 8, 158, 164, 10, 160, 161, 162, 163, 1])], [], [])
theorem oo_Mo_both_at_f13_2 {kA : Nat → ClassId} : or_ok PRD kA GG o_Mo_both_at_f13_2 := by
  refine or_mk fun A ta ws vs hD hth hl => ?_
  intro t0 r0 t1 k1 t2 k2 t3 k3 t6 k6 t7 k7 t9 k9 f0 f1 f2 f3 f4 f5 f6 f7 f8 f9 f10 f11 f12 f13 f14 f15 ta1 w1 le1 s1 f17 f18
  replace f0 := shm_311 f0
  replace f2 := shm_296 f2
  replace f3 := shm_306 f3
  replace f4 := shm_299 f4
  replace f5 := shm_1005 f5
  replace f6 := shm_1006 f6
  replace f7 := shm_144 f7
  replace f8 := shm_308 f8
  replace f11 := shm_5 f11
  replace f12 := shm_309 f12
  replace f13 := shm_310 f13
  replace f14 := shm_312 f14
  replace f15 := shm_313 f15
  have q4 : n_v vs 4 = n_v vs 0 := f11.symm
  simp only [q4] at f0 f2 f3 f4 f5 f6 f7 f8 f12 f13 f14 f15
  have cr_0_1 := fdq_46 hD hth r0
  have cr_0_160 := fdq_41 hD hth r0
  have cr_0_162 := fdq_48 hD hth r0
  have cr_0_163 := fdq_49 hD hth r0
  have g0 : v_iv (n_v vs 6) = w_fi ws (n_v vs 0) 158 := congrArg v_iv f0
  have hK_0_1 := elq_6 hD hth cr_0_1
  have hK_0_160 := elq_5 hD hth cr_0_160
  have hK_0_162 := elq_7 hD hth cr_0_162
  have hK_0_163 := elq_8 hD hth cr_0_163
  have kz_0_8 := fdq_14 hD hth r0
  have kz_0_10 := fdq_50 hD hth r0
  have kz_0_157 := fdq_42 hD hth r0
  have kz_0_158 := fdq_43 hD hth r0
  have kz_0_159 := fdq_44 hD hth r0
  have kz_0_164 := fdq_45 hD hth r0
  have kz_0_165 := fdq_35 hD hth r0
  have nf0 : fc_1 PRD (20, [0], [50, 2, 1, 158, 157, 160, 2, 12, 0, 7, 4, 3, 2, 0, 158, 0, 1, 2, 0, 157, 2, 7, 0, 3, 2, 0, 157, 0, 2010, 3, 14, 1, 10, 3, 0, 160, 5, 3, 2, 0, 157, 0, 1, 0, 0, 1, 10, 3, 0, 160, 5, 3, 2, 0, 157, 0, 1, 0, 4]) ws (vs) := ⟨nf_in hl rfl, sgq_296 (vc_Mo_both_at_f13_2_0 (v_iv (n_v vs 1)) (v_iv (n_v vs 2)) (v_iv (n_v vs 3)) (v_iv (n_v vs 6)) (v_iv (n_v vs 7)) (v_iv (n_v vs 9)) (w_fi ws (n_v vs 0) 158) (w_ei ws (w_ar ws (n_v vs 0) 160)) (w_fi ws (n_v vs 0) 157) (w_fi ws (n_v vs 0) 164) (w_fi ws (n_v vs 0) 165) (w_fi ws (n_v vs 0) 159) (w_fi ws (n_v vs 0) 8) (w_ei ws (w_ar ws (n_v vs 0) 161)) (w_ei ws (w_ar ws (n_v vs 0) 162)) (w_ei ws (w_ar ws (n_v vs 0) 163)) (w_ei ws (w_ar ws (n_v vs 0) 1)) (w_fi ws (n_v vs 0) 10) k1 k2 k3 k6 k7 k9 g0 (shm_210 f1) f2 f3 f4 f5 f6 f7 f8 (shm_2014 f9) (shm_2015 f10) f12 f13 f14 f15 (shm_2014 f17) (shm_2015 f18) hK_0_1 hK_0_160 hK_0_162 hK_0_163 kz_0_8 kz_0_10 kz_0_157 kz_0_158 kz_0_159 kz_0_164 kz_0_165)⟩
  have nf1 : fc_1 PRD (20, [1, 0], [30, 0, 1, 0, 0, -1, 1, 158]) ws (vs) := ⟨nf_in hl rfl, sgq_306 (vc_Mo_both_at_f13_2_1 (v_iv (n_v vs 1)) (v_iv (n_v vs 2)) (v_iv (n_v vs 3)) (v_iv (n_v vs 6)) (v_iv (n_v vs 7)) (v_iv (n_v vs 9)) (w_fi ws (n_v vs 0) 158) (w_ei ws (w_ar ws (n_v vs 0) 160)) (w_fi ws (n_v vs 0) 157) (w_fi ws (n_v vs 0) 164) (w_fi ws (n_v vs 0) 165) (w_fi ws (n_v vs 0) 159) (w_fi ws (n_v vs 0) 8) (w_ei ws (w_ar ws (n_v vs 0) 161)) (w_ei ws (w_ar ws (n_v vs 0) 162)) (w_ei ws (w_ar ws (n_v vs 0) 163)) (w_ei ws (w_ar ws (n_v vs 0) 1)) (w_fi ws (n_v vs 0) 10) k1 k2 k3 k6 k7 k9 g0 (shm_210 f1) f2 f3 f4 f5 f6 f7 f8 (shm_2014 f9) (shm_2015 f10) f12 f13 f14 f15 (shm_2014 f17) (shm_2015 f18) hK_0_1 hK_0_160 hK_0_162 hK_0_163 kz_0_8 kz_0_10 kz_0_157 kz_0_158 kz_0_159 kz_0_164 kz_0_165)⟩
  have nf2 : fc_1 PRD (20, [0], [30, 13, 1, 1, 159]) ws (vs) := ⟨nf_in hl rfl, sgq_1005 (vc_Mo_both_at_f13_2_2 (v_iv (n_v vs 1)) (v_iv (n_v vs 2)) (v_iv (n_v vs 3)) (v_iv (n_v vs 6)) (v_iv (n_v vs 7)) (v_iv (n_v vs 9)) (w_fi ws (n_v vs 0) 158) (w_ei ws (w_ar ws (n_v vs 0) 160)) (w_fi ws (n_v vs 0) 157) (w_fi ws (n_v vs 0) 164) (w_fi ws (n_v vs 0) 165) (w_fi ws (n_v vs 0) 159) (w_fi ws (n_v vs 0) 8) (w_ei ws (w_ar ws (n_v vs 0) 161)) (w_ei ws (w_ar ws (n_v vs 0) 162)) (w_ei ws (w_ar ws (n_v vs 0) 163)) (w_ei ws (w_ar ws (n_v vs 0) 1)) (w_fi ws (n_v vs 0) 10) k1 k2 k3 k6 k7 k9 g0 (shm_210 f1) f2 f3 f4 f5 f6 f7 f8 (shm_2014 f9) (shm_2015 f10) f12 f13 f14 f15 (shm_2014 f17) (shm_2015 f18) hK_0_1 hK_0_160 hK_0_162 hK_0_163 kz_0_8 kz_0_10 kz_0_157 kz_0_158 kz_0_159 kz_0_164 kz_0_165)⟩
  have nf3 : fc_1 PRD (20, [0], [30, -13, -1, 1, 159]) ws (vs) := ⟨nf_in hl rfl, sgq_1006 (vc_Mo_both_at_f13_2_3 (v_iv (n_v vs 1)) (v_iv (n_v vs 2)) (v_iv (n_v vs 3)) (v_iv (n_v vs 6)) (v_iv (n_v vs 7)) (v_iv (n_v vs 9)) (w_fi ws (n_v vs 0) 158) (w_ei ws (w_ar ws (n_v vs 0) 160)) (w_fi ws (n_v vs 0) 157) (w_fi ws (n_v vs 0) 164) (w_fi ws (n_v vs 0) 165) (w_fi ws (n_v vs 0) 159) (w_fi ws (n_v vs 0) 8) (w_ei ws (w_ar ws (n_v vs 0) 161)) (w_ei ws (w_ar ws (n_v vs 0) 162)) (w_ei ws (w_ar ws (n_v vs 0) 163)) (w_ei ws (w_ar ws (n_v vs 0) 1)) (w_fi ws (n_v vs 0) 10) k1 k2 k3 k6 k7 k9 g0 (shm_210 f1) f2 f3 f4 f5 f6 f7 f8 (shm_2014 f9) (shm_2015 f10) f12 f13 f14 f15 (shm_2014 f17) (shm_2015 f18) hK_0_1 hK_0_160 hK_0_162 hK_0_163 kz_0_8 kz_0_10 kz_0_157 kz_0_158 kz_0_159 kz_0_164 kz_0_165)⟩
  have nf4 : fc_1 PRD (20, [0], [30, -1, -1, 1, 8]) ws (vs) := ⟨nf_in hl rfl, sgq_144 (vc_Mo_both_at_f13_2_4 (v_iv (n_v vs 1)) (v_iv (n_v vs 2)) (v_iv (n_v vs 3)) (v_iv (n_v vs 6)) (v_iv (n_v vs 7)) (v_iv (n_v vs 9)) (w_fi ws (n_v vs 0) 158) (w_ei ws (w_ar ws (n_v vs 0) 160)) (w_fi ws (n_v vs 0) 157) (w_fi ws (n_v vs 0) 164) (w_fi ws (n_v vs 0) 165) (w_fi ws (n_v vs 0) 159) (w_fi ws (n_v vs 0) 8) (w_ei ws (w_ar ws (n_v vs 0) 161)) (w_ei ws (w_ar ws (n_v vs 0) 162)) (w_ei ws (w_ar ws (n_v vs 0) 163)) (w_ei ws (w_ar ws (n_v vs 0) 1)) (w_fi ws (n_v vs 0) 10) k1 k2 k3 k6 k7 k9 g0 (shm_210 f1) f2 f3 f4 f5 f6 f7 f8 (shm_2014 f9) (shm_2015 f10) f12 f13 f14 f15 (shm_2014 f17) (shm_2015 f18) hK_0_1 hK_0_160 hK_0_162 hK_0_163 kz_0_8 kz_0_10 kz_0_157 kz_0_158 kz_0_159 kz_0_164 kz_0_165)⟩
  have nf5 : fc_1 PRD (20, [0, 1, 2, 3], [60, 4, 5, 4, 8, 158, 164, 10, 160, 161, 162, 163, 1]) ws (vs) := ⟨nf_in hl rfl, sgq_314 (vc_Mo_both_at_f13_2_5 (v_iv (n_v vs 1)) (v_iv (n_v vs 2)) (v_iv (n_v vs 3)) (v_iv (n_v vs 6)) (v_iv (n_v vs 9)) (w_fi ws (n_v vs 0) 158) (w_ei ws (w_ar ws (n_v vs 0) 160)) (w_fi ws (n_v vs 0) 164) (w_fi ws (n_v vs 0) 8) (w_ei ws (w_ar ws (n_v vs 0) 161)) (w_ei ws (w_ar ws (n_v vs 0) 162)) (w_ei ws (w_ar ws (n_v vs 0) 163)) (w_ei ws (w_ar ws (n_v vs 0) 1)) (w_fi ws (n_v vs 0) 10) k1 k2 k3 k6 k9 g0 f7 f8 f15 kz_0_8 kz_0_10 kz_0_158 kz_0_164)⟩
  refine ⟨(fun _ h => (by cases h)), [], trivial, ?_, (fun _ h => (by cases h))⟩
  rw [List.append_nil]
  exact List.forall_mem_cons.mpr ⟨⟨show (20 : Nat) < 100 from by decide, nf0⟩, List.forall_mem_cons.mpr ⟨⟨show (20 : Nat) < 100 from by decide, nf1⟩, List.forall_mem_cons.mpr ⟨⟨show (20 : Nat) < 100 from by decide, nf2⟩, List.forall_mem_cons.mpr ⟨⟨show (20 : Nat) < 100 from by decide, nf3⟩, List.forall_mem_cons.mpr ⟨⟨show (20 : Nat) < 100 from by decide, nf4⟩, List.forall_mem_cons.mpr ⟨⟨show (20 : Nat) < 100 from by decide, nf5⟩, (fun _ h => (by cases h))⟩⟩⟩⟩⟩⟩
set_option maxHeartbeats 4000000 in
theorem vc_Mo_both_at_f13_3_r0 (x1 : Int) (x2 : Int) (x3 : Int) (x6 : Int) (x7 : Int) (x9 : Int) (x10 : Int) (x11 : Int) (cur_0 : Int) (tokenKind_0 : Int → Int) (tokens_0 : Int) (styleKind_0 : Int) (styleOne_0 : Int) (fault_0 : Int) (tokenValue_0 : Int → Int) (tokenPlace_0 : Int → Int) (tokenEnd_0 : Int → Int) (tape_0 : Int → Int) (limit_0 : Int) (k1 : 0 ≤ x1 ∧ x1 ≤ 2009) (k2 : 0 ≤ x2 ∧ x2 ≤ 5) (k3 : 0 ≤ x3 ∧ x3 ≤ 13) (k6 : 0 ≤ x6 ∧ x6 ≤ 2009) (k7 : 0 ≤ x7 ∧ x7 ≤ 2010) (k9 : 1 ≤ x9 ∧ x9 ≤ 1) (k10 : 1 ≤ x10 ∧ x10 ≤ 1) (k11 : 1 ≤ x11 ∧ x11 ≤ 2010) (d0 : x6 + 1 ≤ x11 ∧ x11 ≤ x6 + 1) (f0 : x11 = x6 + x10) (g1 : x6 = cur_0) (f2 : x9 ≠ 0) (f3 : ((cur_0 + 1) ≤ tokens_0) ∧ ((tokens_0 ≤ 2010) ∧ ((tokenKind_0 ((tokens_0 - 1)) = 0) ∨ (tokenKind_0 ((tokens_0 - 1)) = 4)))) (f4 : 1 * x1 + ((-1) * cur_0 + 0) ≤ 0) (f5 : (styleKind_0 = 0) → (styleOne_0 ≤ 23)) (f6 : (-1) * fault_0 + 0 ≤ (-1)) (f7 : SBL (fault_0) (cur_0) (styleKind_0) (limit_0) (tokenKind_0) (tokenValue_0) (tokenPlace_0) (tokenEnd_0) (tape_0) (x1) (x2) (x3)) (f8 : 1 * x3 + 0 ≤ 13) (f9 : (-1) * x3 + 0 ≤ (-13)) (f11 : 1 * x7 + (1 * cur_0 + 0) ≤ 2010) (f12 : (-1) * x7 + ((-1) * cur_0 + 0) ≤ (-2010)) (f13 : (x9 = 1) → (tokenKind_0 (cur_0) = 1)) (f14 : Wqand (fault_0) (cur_0) (limit_0) (tokenKind_0) (tokenPlace_0) (tokenEnd_0) (tape_0) (x9)) (f16 : 1 * x3 + 0 ≤ 13) (f17 : (-1) * x3 + 0 ≤ (-13)) (hK_0_1 : ∀ j : Int, 0 ≤ j → j < 2000 → (-128) ≤ tape_0 j ∧ tape_0 j ≤ 127) (hK_0_160 : ∀ j : Int, 0 ≤ j → j < 2010 → 0 ≤ tokenKind_0 j ∧ tokenKind_0 j ≤ 4) (hK_0_162 : ∀ j : Int, 0 ≤ j → j < 2010 → 0 ≤ tokenPlace_0 j ∧ tokenPlace_0 j ≤ 2000) (hK_0_163 : ∀ j : Int, 0 ≤ j → j < 2010 → 0 ≤ tokenEnd_0 j ∧ tokenEnd_0 j ≤ 2000) (kz_0_8 : 0 ≤ fault_0 ∧ fault_0 ≤ 5) (kz_0_10 : 0 ≤ limit_0 ∧ limit_0 ≤ 2000) (kz_0_157 : 0 ≤ tokens_0 ∧ tokens_0 ≤ 2010) (kz_0_158 : 0 ≤ cur_0 ∧ cur_0 ≤ 2009) (kz_0_164 : 0 ≤ styleKind_0 ∧ styleKind_0 ≤ 1) (kz_0_165 : (-1) ≤ styleOne_0 ∧ styleOne_0 ≤ 47) : 1 ≤ x11 ∧ x11 ≤ 2009 := by
  first | assumption | (clear f3 f5 f13 hK_0_1 hK_0_160 hK_0_162 hK_0_163; omega) | (clear hK_0_1 hK_0_160 hK_0_162 hK_0_163; grind) | omega | grind
def o_Mo_both_at_f13_3 : or_T := (22, 12, [(0, (2, 0, 0, [165])), (1, (0, 0, 2009, [])), (2, (0, 0, 5, [])), (3, (0, 0, 13, [])), (4, (2, 0, 0, [165])), (6, (0, 0, 2009, [])), (7, (0, 0, 2010, [])), (9, (0, 1, 1, [])), (10, (0, 1, 1, [])), (11, (0, 1, 2010, []))], [(1, [11, 6, 10], []), (9, [6, 4], [158]), (8, [9], [1]), (20, [4], [50, 2, 1, 158, 157, 160, 2, 12, 0, 7, 4, 3, 2, 0, 158, 0, 1, 2, 0, 157, 2, 7, 0, 3, 2, 0, 157, 0, 2010, 3, 14, 1, 10, 3, 0, 160, 5, 3, 2, 0, 157, 0, 1, 0, 0, 1, 10, 3, 0, 160, 5, 3, 2, 0, 157, 0, 1, 0, 4]), (20, [1, 4], [30, 0, 1, 0, 0, -1, 1, 158]), (20, [4], [50, 2, 0, 164, 165, 4, 7, 1, 3, 2, 0, 164, 0, 0, 0, 3, 2, 0, 165, 0, 23]), (20, [4], [30, -1, -1, 1, 8]), (20, [4, 1, 2, 3], [60, 4, 5, 8, 8, 158, 164, 10, 160, 161, 162, 163, 1]), (23, [3], [13, 1]), (23, [3], [-13, -1]), (24, [0, 4], []), (20, [7, 4], [30, 2010, 1, 0, 0, 1, 1, 158]), (20, [7, 4], [30, -2010, -1, 0, 0, -1, 1, 158]), (20, [9, 4], [50, 1, 1, 1158, 1160, 4, 6, 1, 2, 1, 0, 0, 1, 1, 6, 3, 1, 160, 2, 1, 158, 0, 1]), (20, [4, 9], [60, 3, 4, 26, 8, 158, 10, 160, 162, 163, 1]), (102, [8], [0]), (23, [3], [13, 1]), (23, [3], [-13, -1])], [(11, (0, 1, 2009, []))], [], [], [], [(11, 6, 1, 1)])
theorem oo_Mo_both_at_f13_3 {kA : Nat → ClassId} : or_ok PRD kA GG o_Mo_both_at_f13_3 := by
  refine or_mk fun A ta ws vs hD hth hl => ?_
  intro t0 r0 t1 k1 t2 k2 t3 k3 t4 r4 t6 k6 t7 k7 t9 k9 t10 k10 t11 k11 d0 f0 f1 f2 f3 f4 f5 f6 f7 f8 f9 f10 f11 f12 f13 f14 ta1 w1 le1 s1 f16 f17
  replace f1 := shm_311 f1
  replace f3 := shm_296 f3
  replace f4 := shm_306 f4
  replace f5 := shm_299 f5
  replace f6 := shm_144 f6
  replace f7 := shm_308 f7
  replace f10 := shm_5 f10
  replace f11 := shm_309 f11
  replace f12 := shm_310 f12
  replace f13 := shm_312 f13
  replace f14 := shm_313 f14
  have q4 : n_v vs 4 = n_v vs 0 := f10.symm
  simp only [q4] at f1 f3 f4 f5 f6 f7 f11 f12 f13 f14
  have cr_0_1 := fdq_46 hD hth r0
  have cr_0_160 := fdq_41 hD hth r0
  have cr_0_162 := fdq_48 hD hth r0
  have cr_0_163 := fdq_49 hD hth r0
  have g1 : v_iv (n_v vs 6) = w_fi ws (n_v vs 0) 158 := congrArg v_iv f1
  have hK_0_1 := elq_6 hD hth cr_0_1
  have hK_0_160 := elq_5 hD hth cr_0_160
  have hK_0_162 := elq_7 hD hth cr_0_162
  have hK_0_163 := elq_8 hD hth cr_0_163
  have kz_0_8 := fdq_14 hD hth r0
  have kz_0_10 := fdq_50 hD hth r0
  have kz_0_157 := fdq_42 hD hth r0
  have kz_0_158 := fdq_43 hD hth r0
  have kz_0_164 := fdq_45 hD hth r0
  have kz_0_165 := fdq_35 hD hth r0
  have hrf0 : 1 ≤ v_iv (n_v vs 11) ∧ v_iv (n_v vs 11) ≤ 2009 := vc_Mo_both_at_f13_3_r0 (v_iv (n_v vs 1)) (v_iv (n_v vs 2)) (v_iv (n_v vs 3)) (v_iv (n_v vs 6)) (v_iv (n_v vs 7)) (v_iv (n_v vs 9)) (v_iv (n_v vs 10)) (v_iv (n_v vs 11)) (w_fi ws (n_v vs 0) 158) (w_ei ws (w_ar ws (n_v vs 0) 160)) (w_fi ws (n_v vs 0) 157) (w_fi ws (n_v vs 0) 164) (w_fi ws (n_v vs 0) 165) (w_fi ws (n_v vs 0) 8) (w_ei ws (w_ar ws (n_v vs 0) 161)) (w_ei ws (w_ar ws (n_v vs 0) 162)) (w_ei ws (w_ar ws (n_v vs 0) 163)) (w_ei ws (w_ar ws (n_v vs 0) 1)) (w_fi ws (n_v vs 0) 10) k1 k2 k3 k6 k7 k9 k10 k11 d0 (shm_12 f0) g1 (shm_154 f2) f3 f4 f5 f6 f7 (shm_2014 f8) (shm_2015 f9) f11 f12 f13 f14 (shm_2014 f16) (shm_2015 f17) hK_0_1 hK_0_160 hK_0_162 hK_0_163 kz_0_8 kz_0_10 kz_0_157 kz_0_158 kz_0_164 kz_0_165
  have rf11 : tv_ok ta (0, 1, 2009, []) (n_v vs 11) := tv_in t11 (by first | omega | grind) (by first | omega | grind)
  refine ⟨List.forall_mem_cons.mpr ⟨rf11, (fun _ h => (by cases h))⟩, [], trivial, ?_, (fun _ h => (by cases h))⟩
  rw [List.append_nil]
  exact (fun _ h => (by cases h))
set_option maxHeartbeats 4000000 in
theorem vc_Mo_both_at_f13_4_0 (x1 : Int) (x2 : Int) (x3 : Int) (x6 : Int) (x7 : Int) (x9 : Int) (x10 : Int) (x11 : Int) (cur_0 : Int) (styleKind_0 : Int) (styleOne_0 : Int) (opened_0 : Int) (fault_0 : Int) (cur_1 : Int) (tokenKind_1 : Int → Int) (tokens_1 : Int) (styleKind_1 : Int) (styleOne_1 : Int) (opened_1 : Int) (fault_1 : Int) (tokenValue_1 : Int → Int) (tokenPlace_1 : Int → Int) (tokenEnd_1 : Int → Int) (tape_1 : Int → Int) (limit_1 : Int) (limit_0 : Int) (tokens_0 : Int) (tape_0 : Int → Int) (tokenKind_0 : Int → Int) (tokenValue_0 : Int → Int) (tokenPlace_0 : Int → Int) (tokenEnd_0 : Int → Int) (gx : Int) (gy : Int) (gu : Int) (k1 : 0 ≤ x1 ∧ x1 ≤ 2009) (k2 : 0 ≤ x2 ∧ x2 ≤ 5) (k3 : 0 ≤ x3 ∧ x3 ≤ 13) (k6 : 0 ≤ x6 ∧ x6 ≤ 2009) (k7 : 0 ≤ x7 ∧ x7 ≤ 2010) (k9 : 1 ≤ x9 ∧ x9 ≤ 1) (k10 : 1 ≤ x10 ∧ x10 ≤ 1) (k11 : 1 ≤ x11 ∧ x11 ≤ 2009) (d0 : x6 + 1 ≤ x11 ∧ x11 ≤ x6 + 1) (g0 : x11 = cur_0) (f1 : (styleKind_0 = 0) → (styleOne_0 ≤ 23)) (f2 : 1 * opened_0 + 0 ≤ 13) (f3 : (-1) * opened_0 + 0 ≤ (-13)) (f4 : (-1) * fault_0 + 0 ≤ (-1)) (f5 : 1 * x3 + 0 ≤ 13) (f6 : (-1) * x3 + 0 ≤ (-13)) (f9 : x11 = x6 + x10) (g10 : x6 = cur_1) (f11 : x9 ≠ 0) (f12 : ((cur_1 + 1) ≤ tokens_1) ∧ ((tokens_1 ≤ 2010) ∧ ((tokenKind_1 ((tokens_1 - 1)) = 0) ∨ (tokenKind_1 ((tokens_1 - 1)) = 4)))) (f13 : 1 * x1 + ((-1) * cur_1 + 0) ≤ 0) (f14 : (styleKind_1 = 0) → (styleOne_1 ≤ 23)) (f15 : 1 * opened_1 + 0 ≤ 13) (f16 : (-1) * opened_1 + 0 ≤ (-13)) (f17 : (-1) * fault_1 + 0 ≤ (-1)) (f18 : SBL (fault_1) (cur_1) (styleKind_1) (limit_1) (tokenKind_1) (tokenValue_1) (tokenPlace_1) (tokenEnd_1) (tape_1) (x1) (x2) (x3)) (f19 : 1 * x3 + 0 ≤ 13) (f20 : (-1) * x3 + 0 ≤ (-13)) (f21 : 1 * x7 + (1 * cur_1 + 0) ≤ 2010) (f22 : (-1) * x7 + ((-1) * cur_1 + 0) ≤ (-2010)) (f23 : (x9 = 1) → (tokenKind_1 (cur_1) = 1)) (f24 : Wqand (fault_1) (cur_1) (limit_1) (tokenKind_1) (tokenPlace_1) (tokenEnd_1) (tape_1) (x9)) (f26 : 1 * x3 + 0 ≤ 13) (f27 : (-1) * x3 + 0 ≤ (-13)) (fe_0_8_1 : fault_0 = fault_1) (fe_0_10_1 : limit_0 = limit_1) (fe_0_157_1 : tokens_0 = tokens_1) (fe_0_158_1 : cur_0 = x11) (fe_0_159_1 : opened_0 = opened_1) (fe_0_164_1 : styleKind_0 = styleKind_1) (fe_0_165_1 : styleOne_0 = styleOne_1) (hE_0_1_1 : ∀ j : Int, tape_0 j = tape_1 j) (hK_0_1 : ∀ j : Int, 0 ≤ j → j < 2000 → (-128) ≤ tape_0 j ∧ tape_0 j ≤ 127) (hE_0_160_1 : ∀ j : Int, tokenKind_0 j = tokenKind_1 j) (hK_0_160 : ∀ j : Int, 0 ≤ j → j < 2010 → 0 ≤ tokenKind_0 j ∧ tokenKind_0 j ≤ 4) (hE_0_161_1 : ∀ j : Int, tokenValue_0 j = tokenValue_1 j) (hE_0_162_1 : ∀ j : Int, tokenPlace_0 j = tokenPlace_1 j) (hK_0_162 : ∀ j : Int, 0 ≤ j → j < 2010 → 0 ≤ tokenPlace_0 j ∧ tokenPlace_0 j ≤ 2000) (hE_0_163_1 : ∀ j : Int, tokenEnd_0 j = tokenEnd_1 j) (hK_0_163 : ∀ j : Int, 0 ≤ j → j < 2010 → 0 ≤ tokenEnd_0 j ∧ tokenEnd_0 j ≤ 2000) (kz_0_8 : 0 ≤ fault_0 ∧ fault_0 ≤ 5) (kz_0_10 : 0 ≤ limit_0 ∧ limit_0 ≤ 2000) (kz_0_157 : 0 ≤ tokens_0 ∧ tokens_0 ≤ 2010) (kz_0_158 : 0 ≤ cur_0 ∧ cur_0 ≤ 2009) (kz_0_159 : 0 ≤ opened_0 ∧ opened_0 ≤ 13) (kz_0_164 : 0 ≤ styleKind_0 ∧ styleKind_0 ≤ 1) (kz_0_165 : (-1) ≤ styleOne_0 ∧ styleOne_0 ≤ 47) (ex2 : gx = cur_0) (ex3 : 0 ≤ gx ∧ gx ≤ 2009) (ey2 : gy = fault_0) (ey3 : 0 ≤ gy ∧ gy ≤ 5) (eu2 : gu = opened_0) (eu3 : 0 ≤ gu ∧ gu ≤ 13) : ((cur_0 + 1) ≤ tokens_0) ∧ ((tokens_0 ≤ 2010) ∧ ((tokenKind_0 ((tokens_0 - 1)) = 0) ∨ (tokenKind_0 ((tokens_0 - 1)) = 4))) := by
  subst fe_0_8_1
  subst fe_0_10_1
  subst fe_0_157_1
  subst fe_0_159_1
  subst fe_0_164_1
  subst fe_0_165_1
  have e_hE_0_1_1 := funext hE_0_1_1; subst e_hE_0_1_1
  have e_hE_0_160_1 := funext hE_0_160_1; subst e_hE_0_160_1
  have e_hE_0_161_1 := funext hE_0_161_1; subst e_hE_0_161_1
  have e_hE_0_162_1 := funext hE_0_162_1; subst e_hE_0_162_1
  have e_hE_0_163_1 := funext hE_0_163_1; subst e_hE_0_163_1
  first | assumption | (clear f1 f12 f14 f23 hE_0_1_1 hK_0_1 hE_0_160_1 hK_0_160 hE_0_161_1 hE_0_162_1 hK_0_162 hE_0_163_1 hK_0_163; omega) | (clear hE_0_1_1 hK_0_1 hE_0_160_1 hK_0_160 hE_0_161_1 hE_0_162_1 hK_0_162 hE_0_163_1 hK_0_163; grind) | omega | grind
set_option maxHeartbeats 4000000 in
theorem vc_Mo_both_at_f13_4_1 (x1 : Int) (x2 : Int) (x3 : Int) (x6 : Int) (x7 : Int) (x9 : Int) (x10 : Int) (x11 : Int) (cur_0 : Int) (styleKind_0 : Int) (styleOne_0 : Int) (opened_0 : Int) (fault_0 : Int) (cur_1 : Int) (tokenKind_1 : Int → Int) (tokens_1 : Int) (styleKind_1 : Int) (styleOne_1 : Int) (opened_1 : Int) (fault_1 : Int) (tokenValue_1 : Int → Int) (tokenPlace_1 : Int → Int) (tokenEnd_1 : Int → Int) (tape_1 : Int → Int) (limit_1 : Int) (limit_0 : Int) (tokens_0 : Int) (tape_0 : Int → Int) (tokenKind_0 : Int → Int) (tokenValue_0 : Int → Int) (tokenPlace_0 : Int → Int) (tokenEnd_0 : Int → Int) (gx : Int) (gy : Int) (gu : Int) (k1 : 0 ≤ x1 ∧ x1 ≤ 2009) (k2 : 0 ≤ x2 ∧ x2 ≤ 5) (k3 : 0 ≤ x3 ∧ x3 ≤ 13) (k6 : 0 ≤ x6 ∧ x6 ≤ 2009) (k7 : 0 ≤ x7 ∧ x7 ≤ 2010) (k9 : 1 ≤ x9 ∧ x9 ≤ 1) (k10 : 1 ≤ x10 ∧ x10 ≤ 1) (k11 : 1 ≤ x11 ∧ x11 ≤ 2009) (d0 : x6 + 1 ≤ x11 ∧ x11 ≤ x6 + 1) (g0 : x11 = cur_0) (f1 : (styleKind_0 = 0) → (styleOne_0 ≤ 23)) (f2 : 1 * opened_0 + 0 ≤ 13) (f3 : (-1) * opened_0 + 0 ≤ (-13)) (f4 : (-1) * fault_0 + 0 ≤ (-1)) (f5 : 1 * x3 + 0 ≤ 13) (f6 : (-1) * x3 + 0 ≤ (-13)) (f9 : x11 = x6 + x10) (g10 : x6 = cur_1) (f11 : x9 ≠ 0) (f12 : ((cur_1 + 1) ≤ tokens_1) ∧ ((tokens_1 ≤ 2010) ∧ ((tokenKind_1 ((tokens_1 - 1)) = 0) ∨ (tokenKind_1 ((tokens_1 - 1)) = 4)))) (f13 : 1 * x1 + ((-1) * cur_1 + 0) ≤ 0) (f14 : (styleKind_1 = 0) → (styleOne_1 ≤ 23)) (f15 : 1 * opened_1 + 0 ≤ 13) (f16 : (-1) * opened_1 + 0 ≤ (-13)) (f17 : (-1) * fault_1 + 0 ≤ (-1)) (f18 : SBL (fault_1) (cur_1) (styleKind_1) (limit_1) (tokenKind_1) (tokenValue_1) (tokenPlace_1) (tokenEnd_1) (tape_1) (x1) (x2) (x3)) (f19 : 1 * x3 + 0 ≤ 13) (f20 : (-1) * x3 + 0 ≤ (-13)) (f21 : 1 * x7 + (1 * cur_1 + 0) ≤ 2010) (f22 : (-1) * x7 + ((-1) * cur_1 + 0) ≤ (-2010)) (f23 : (x9 = 1) → (tokenKind_1 (cur_1) = 1)) (f24 : Wqand (fault_1) (cur_1) (limit_1) (tokenKind_1) (tokenPlace_1) (tokenEnd_1) (tape_1) (x9)) (f26 : 1 * x3 + 0 ≤ 13) (f27 : (-1) * x3 + 0 ≤ (-13)) (fe_0_8_1 : fault_0 = fault_1) (fe_0_10_1 : limit_0 = limit_1) (fe_0_157_1 : tokens_0 = tokens_1) (fe_0_158_1 : cur_0 = x11) (fe_0_159_1 : opened_0 = opened_1) (fe_0_164_1 : styleKind_0 = styleKind_1) (fe_0_165_1 : styleOne_0 = styleOne_1) (hE_0_1_1 : ∀ j : Int, tape_0 j = tape_1 j) (hK_0_1 : ∀ j : Int, 0 ≤ j → j < 2000 → (-128) ≤ tape_0 j ∧ tape_0 j ≤ 127) (hE_0_160_1 : ∀ j : Int, tokenKind_0 j = tokenKind_1 j) (hK_0_160 : ∀ j : Int, 0 ≤ j → j < 2010 → 0 ≤ tokenKind_0 j ∧ tokenKind_0 j ≤ 4) (hE_0_161_1 : ∀ j : Int, tokenValue_0 j = tokenValue_1 j) (hE_0_162_1 : ∀ j : Int, tokenPlace_0 j = tokenPlace_1 j) (hK_0_162 : ∀ j : Int, 0 ≤ j → j < 2010 → 0 ≤ tokenPlace_0 j ∧ tokenPlace_0 j ≤ 2000) (hE_0_163_1 : ∀ j : Int, tokenEnd_0 j = tokenEnd_1 j) (hK_0_163 : ∀ j : Int, 0 ≤ j → j < 2010 → 0 ≤ tokenEnd_0 j ∧ tokenEnd_0 j ≤ 2000) (kz_0_8 : 0 ≤ fault_0 ∧ fault_0 ≤ 5) (kz_0_10 : 0 ≤ limit_0 ∧ limit_0 ≤ 2000) (kz_0_157 : 0 ≤ tokens_0 ∧ tokens_0 ≤ 2010) (kz_0_158 : 0 ≤ cur_0 ∧ cur_0 ≤ 2009) (kz_0_159 : 0 ≤ opened_0 ∧ opened_0 ≤ 13) (kz_0_164 : 0 ≤ styleKind_0 ∧ styleKind_0 ≤ 1) (kz_0_165 : (-1) ≤ styleOne_0 ∧ styleOne_0 ≤ 47) (ex2 : gx = cur_0) (ex3 : 0 ≤ gx ∧ gx ≤ 2009) (ey2 : gy = fault_0) (ey3 : 0 ≤ gy ∧ gy ≤ 5) (eu2 : gu = opened_0) (eu3 : 0 ≤ gu ∧ gu ≤ 13) : 1 * cur_0 + ((-1) * gx + 0) ≤ 0 := by
  subst fe_0_8_1
  subst fe_0_10_1
  subst fe_0_157_1
  subst fe_0_159_1
  subst fe_0_164_1
  subst fe_0_165_1
  have e_hE_0_1_1 := funext hE_0_1_1; subst e_hE_0_1_1
  have e_hE_0_160_1 := funext hE_0_160_1; subst e_hE_0_160_1
  have e_hE_0_161_1 := funext hE_0_161_1; subst e_hE_0_161_1
  have e_hE_0_162_1 := funext hE_0_162_1; subst e_hE_0_162_1
  have e_hE_0_163_1 := funext hE_0_163_1; subst e_hE_0_163_1
  first | assumption | (clear f1 f12 f14 f23 hE_0_1_1 hK_0_1 hE_0_160_1 hK_0_160 hE_0_161_1 hE_0_162_1 hK_0_162 hE_0_163_1 hK_0_163; omega) | (clear hE_0_1_1 hK_0_1 hE_0_160_1 hK_0_160 hE_0_161_1 hE_0_162_1 hK_0_162 hE_0_163_1 hK_0_163; grind) | omega | grind
set_option maxHeartbeats 4000000 in
theorem vc_Mo_both_at_f13_4_2 (x1 : Int) (x2 : Int) (x3 : Int) (x6 : Int) (x7 : Int) (x9 : Int) (x10 : Int) (x11 : Int) (cur_0 : Int) (styleKind_0 : Int) (styleOne_0 : Int) (opened_0 : Int) (fault_0 : Int) (cur_1 : Int) (tokenKind_1 : Int → Int) (tokens_1 : Int) (styleKind_1 : Int) (styleOne_1 : Int) (opened_1 : Int) (fault_1 : Int) (tokenValue_1 : Int → Int) (tokenPlace_1 : Int → Int) (tokenEnd_1 : Int → Int) (tape_1 : Int → Int) (limit_1 : Int) (limit_0 : Int) (tokens_0 : Int) (tape_0 : Int → Int) (tokenKind_0 : Int → Int) (tokenValue_0 : Int → Int) (tokenPlace_0 : Int → Int) (tokenEnd_0 : Int → Int) (gx : Int) (gy : Int) (gu : Int) (k1 : 0 ≤ x1 ∧ x1 ≤ 2009) (k2 : 0 ≤ x2 ∧ x2 ≤ 5) (k3 : 0 ≤ x3 ∧ x3 ≤ 13) (k6 : 0 ≤ x6 ∧ x6 ≤ 2009) (k7 : 0 ≤ x7 ∧ x7 ≤ 2010) (k9 : 1 ≤ x9 ∧ x9 ≤ 1) (k10 : 1 ≤ x10 ∧ x10 ≤ 1) (k11 : 1 ≤ x11 ∧ x11 ≤ 2009) (d0 : x6 + 1 ≤ x11 ∧ x11 ≤ x6 + 1) (g0 : x11 = cur_0) (f1 : (styleKind_0 = 0) → (styleOne_0 ≤ 23)) (f2 : 1 * opened_0 + 0 ≤ 13) (f3 : (-1) * opened_0 + 0 ≤ (-13)) (f4 : (-1) * fault_0 + 0 ≤ (-1)) (f5 : 1 * x3 + 0 ≤ 13) (f6 : (-1) * x3 + 0 ≤ (-13)) (f9 : x11 = x6 + x10) (g10 : x6 = cur_1) (f11 : x9 ≠ 0) (f12 : ((cur_1 + 1) ≤ tokens_1) ∧ ((tokens_1 ≤ 2010) ∧ ((tokenKind_1 ((tokens_1 - 1)) = 0) ∨ (tokenKind_1 ((tokens_1 - 1)) = 4)))) (f13 : 1 * x1 + ((-1) * cur_1 + 0) ≤ 0) (f14 : (styleKind_1 = 0) → (styleOne_1 ≤ 23)) (f15 : 1 * opened_1 + 0 ≤ 13) (f16 : (-1) * opened_1 + 0 ≤ (-13)) (f17 : (-1) * fault_1 + 0 ≤ (-1)) (f18 : SBL (fault_1) (cur_1) (styleKind_1) (limit_1) (tokenKind_1) (tokenValue_1) (tokenPlace_1) (tokenEnd_1) (tape_1) (x1) (x2) (x3)) (f19 : 1 * x3 + 0 ≤ 13) (f20 : (-1) * x3 + 0 ≤ (-13)) (f21 : 1 * x7 + (1 * cur_1 + 0) ≤ 2010) (f22 : (-1) * x7 + ((-1) * cur_1 + 0) ≤ (-2010)) (f23 : (x9 = 1) → (tokenKind_1 (cur_1) = 1)) (f24 : Wqand (fault_1) (cur_1) (limit_1) (tokenKind_1) (tokenPlace_1) (tokenEnd_1) (tape_1) (x9)) (f26 : 1 * x3 + 0 ≤ 13) (f27 : (-1) * x3 + 0 ≤ (-13)) (fe_0_8_1 : fault_0 = fault_1) (fe_0_10_1 : limit_0 = limit_1) (fe_0_157_1 : tokens_0 = tokens_1) (fe_0_158_1 : cur_0 = x11) (fe_0_159_1 : opened_0 = opened_1) (fe_0_164_1 : styleKind_0 = styleKind_1) (fe_0_165_1 : styleOne_0 = styleOne_1) (hE_0_1_1 : ∀ j : Int, tape_0 j = tape_1 j) (hK_0_1 : ∀ j : Int, 0 ≤ j → j < 2000 → (-128) ≤ tape_0 j ∧ tape_0 j ≤ 127) (hE_0_160_1 : ∀ j : Int, tokenKind_0 j = tokenKind_1 j) (hK_0_160 : ∀ j : Int, 0 ≤ j → j < 2010 → 0 ≤ tokenKind_0 j ∧ tokenKind_0 j ≤ 4) (hE_0_161_1 : ∀ j : Int, tokenValue_0 j = tokenValue_1 j) (hE_0_162_1 : ∀ j : Int, tokenPlace_0 j = tokenPlace_1 j) (hK_0_162 : ∀ j : Int, 0 ≤ j → j < 2010 → 0 ≤ tokenPlace_0 j ∧ tokenPlace_0 j ≤ 2000) (hE_0_163_1 : ∀ j : Int, tokenEnd_0 j = tokenEnd_1 j) (hK_0_163 : ∀ j : Int, 0 ≤ j → j < 2010 → 0 ≤ tokenEnd_0 j ∧ tokenEnd_0 j ≤ 2000) (kz_0_8 : 0 ≤ fault_0 ∧ fault_0 ≤ 5) (kz_0_10 : 0 ≤ limit_0 ∧ limit_0 ≤ 2000) (kz_0_157 : 0 ≤ tokens_0 ∧ tokens_0 ≤ 2010) (kz_0_158 : 0 ≤ cur_0 ∧ cur_0 ≤ 2009) (kz_0_159 : 0 ≤ opened_0 ∧ opened_0 ≤ 13) (kz_0_164 : 0 ≤ styleKind_0 ∧ styleKind_0 ≤ 1) (kz_0_165 : (-1) ≤ styleOne_0 ∧ styleOne_0 ≤ 47) (ex2 : gx = cur_0) (ex3 : 0 ≤ gx ∧ gx ≤ 2009) (ey2 : gy = fault_0) (ey3 : 0 ≤ gy ∧ gy ≤ 5) (eu2 : gu = opened_0) (eu3 : 0 ≤ gu ∧ gu ≤ 13) : (-1) * cur_0 + (1 * gx + 0) ≤ 0 := by
  subst fe_0_8_1
  subst fe_0_10_1
  subst fe_0_157_1
  subst fe_0_159_1
  subst fe_0_164_1
  subst fe_0_165_1
  have e_hE_0_1_1 := funext hE_0_1_1; subst e_hE_0_1_1
  have e_hE_0_160_1 := funext hE_0_160_1; subst e_hE_0_160_1
  have e_hE_0_161_1 := funext hE_0_161_1; subst e_hE_0_161_1
  have e_hE_0_162_1 := funext hE_0_162_1; subst e_hE_0_162_1
  have e_hE_0_163_1 := funext hE_0_163_1; subst e_hE_0_163_1
  first | assumption | (clear f1 f12 f14 f23 hE_0_1_1 hK_0_1 hE_0_160_1 hK_0_160 hE_0_161_1 hE_0_162_1 hK_0_162 hE_0_163_1 hK_0_163; omega) | (clear hE_0_1_1 hK_0_1 hE_0_160_1 hK_0_160 hE_0_161_1 hE_0_162_1 hK_0_162 hE_0_163_1 hK_0_163; grind) | omega | grind
set_option maxHeartbeats 4000000 in
theorem vc_Mo_both_at_f13_4_3 (x1 : Int) (x2 : Int) (x3 : Int) (x6 : Int) (x7 : Int) (x9 : Int) (x10 : Int) (x11 : Int) (cur_0 : Int) (styleKind_0 : Int) (styleOne_0 : Int) (opened_0 : Int) (fault_0 : Int) (cur_1 : Int) (tokenKind_1 : Int → Int) (tokens_1 : Int) (styleKind_1 : Int) (styleOne_1 : Int) (opened_1 : Int) (fault_1 : Int) (tokenValue_1 : Int → Int) (tokenPlace_1 : Int → Int) (tokenEnd_1 : Int → Int) (tape_1 : Int → Int) (limit_1 : Int) (limit_0 : Int) (tokens_0 : Int) (tape_0 : Int → Int) (tokenKind_0 : Int → Int) (tokenValue_0 : Int → Int) (tokenPlace_0 : Int → Int) (tokenEnd_0 : Int → Int) (gx : Int) (gy : Int) (gu : Int) (k1 : 0 ≤ x1 ∧ x1 ≤ 2009) (k2 : 0 ≤ x2 ∧ x2 ≤ 5) (k3 : 0 ≤ x3 ∧ x3 ≤ 13) (k6 : 0 ≤ x6 ∧ x6 ≤ 2009) (k7 : 0 ≤ x7 ∧ x7 ≤ 2010) (k9 : 1 ≤ x9 ∧ x9 ≤ 1) (k10 : 1 ≤ x10 ∧ x10 ≤ 1) (k11 : 1 ≤ x11 ∧ x11 ≤ 2009) (d0 : x6 + 1 ≤ x11 ∧ x11 ≤ x6 + 1) (g0 : x11 = cur_0) (f1 : (styleKind_0 = 0) → (styleOne_0 ≤ 23)) (f2 : 1 * opened_0 + 0 ≤ 13) (f3 : (-1) * opened_0 + 0 ≤ (-13)) (f4 : (-1) * fault_0 + 0 ≤ (-1)) (f5 : 1 * x3 + 0 ≤ 13) (f6 : (-1) * x3 + 0 ≤ (-13)) (f9 : x11 = x6 + x10) (g10 : x6 = cur_1) (f11 : x9 ≠ 0) (f12 : ((cur_1 + 1) ≤ tokens_1) ∧ ((tokens_1 ≤ 2010) ∧ ((tokenKind_1 ((tokens_1 - 1)) = 0) ∨ (tokenKind_1 ((tokens_1 - 1)) = 4)))) (f13 : 1 * x1 + ((-1) * cur_1 + 0) ≤ 0) (f14 : (styleKind_1 = 0) → (styleOne_1 ≤ 23)) (f15 : 1 * opened_1 + 0 ≤ 13) (f16 : (-1) * opened_1 + 0 ≤ (-13)) (f17 : (-1) * fault_1 + 0 ≤ (-1)) (f18 : SBL (fault_1) (cur_1) (styleKind_1) (limit_1) (tokenKind_1) (tokenValue_1) (tokenPlace_1) (tokenEnd_1) (tape_1) (x1) (x2) (x3)) (f19 : 1 * x3 + 0 ≤ 13) (f20 : (-1) * x3 + 0 ≤ (-13)) (f21 : 1 * x7 + (1 * cur_1 + 0) ≤ 2010) (f22 : (-1) * x7 + ((-1) * cur_1 + 0) ≤ (-2010)) (f23 : (x9 = 1) → (tokenKind_1 (cur_1) = 1)) (f24 : Wqand (fault_1) (cur_1) (limit_1) (tokenKind_1) (tokenPlace_1) (tokenEnd_1) (tape_1) (x9)) (f26 : 1 * x3 + 0 ≤ 13) (f27 : (-1) * x3 + 0 ≤ (-13)) (fe_0_8_1 : fault_0 = fault_1) (fe_0_10_1 : limit_0 = limit_1) (fe_0_157_1 : tokens_0 = tokens_1) (fe_0_158_1 : cur_0 = x11) (fe_0_159_1 : opened_0 = opened_1) (fe_0_164_1 : styleKind_0 = styleKind_1) (fe_0_165_1 : styleOne_0 = styleOne_1) (hE_0_1_1 : ∀ j : Int, tape_0 j = tape_1 j) (hK_0_1 : ∀ j : Int, 0 ≤ j → j < 2000 → (-128) ≤ tape_0 j ∧ tape_0 j ≤ 127) (hE_0_160_1 : ∀ j : Int, tokenKind_0 j = tokenKind_1 j) (hK_0_160 : ∀ j : Int, 0 ≤ j → j < 2010 → 0 ≤ tokenKind_0 j ∧ tokenKind_0 j ≤ 4) (hE_0_161_1 : ∀ j : Int, tokenValue_0 j = tokenValue_1 j) (hE_0_162_1 : ∀ j : Int, tokenPlace_0 j = tokenPlace_1 j) (hK_0_162 : ∀ j : Int, 0 ≤ j → j < 2010 → 0 ≤ tokenPlace_0 j ∧ tokenPlace_0 j ≤ 2000) (hE_0_163_1 : ∀ j : Int, tokenEnd_0 j = tokenEnd_1 j) (hK_0_163 : ∀ j : Int, 0 ≤ j → j < 2010 → 0 ≤ tokenEnd_0 j ∧ tokenEnd_0 j ≤ 2000) (kz_0_8 : 0 ≤ fault_0 ∧ fault_0 ≤ 5) (kz_0_10 : 0 ≤ limit_0 ∧ limit_0 ≤ 2000) (kz_0_157 : 0 ≤ tokens_0 ∧ tokens_0 ≤ 2010) (kz_0_158 : 0 ≤ cur_0 ∧ cur_0 ≤ 2009) (kz_0_159 : 0 ≤ opened_0 ∧ opened_0 ≤ 13) (kz_0_164 : 0 ≤ styleKind_0 ∧ styleKind_0 ≤ 1) (kz_0_165 : (-1) ≤ styleOne_0 ∧ styleOne_0 ≤ 47) (ex2 : gx = cur_0) (ex3 : 0 ≤ gx ∧ gx ≤ 2009) (ey2 : gy = fault_0) (ey3 : 0 ≤ gy ∧ gy ≤ 5) (eu2 : gu = opened_0) (eu3 : 0 ≤ gu ∧ gu ≤ 13) : (styleKind_0 = 0) → (styleOne_0 ≤ 23) := by
  subst fe_0_8_1
  subst fe_0_10_1
  subst fe_0_157_1
  subst fe_0_159_1
  subst fe_0_164_1
  subst fe_0_165_1
  have e_hE_0_1_1 := funext hE_0_1_1; subst e_hE_0_1_1
  have e_hE_0_160_1 := funext hE_0_160_1; subst e_hE_0_160_1
  have e_hE_0_161_1 := funext hE_0_161_1; subst e_hE_0_161_1
  have e_hE_0_162_1 := funext hE_0_162_1; subst e_hE_0_162_1
  have e_hE_0_163_1 := funext hE_0_163_1; subst e_hE_0_163_1
  first | assumption | (clear f1 f12 f14 f23 hE_0_1_1 hK_0_1 hE_0_160_1 hK_0_160 hE_0_161_1 hE_0_162_1 hK_0_162 hE_0_163_1 hK_0_163; omega) | (clear hE_0_1_1 hK_0_1 hE_0_160_1 hK_0_160 hE_0_161_1 hE_0_162_1 hK_0_162 hE_0_163_1 hK_0_163; grind) | omega | grind
set_option maxHeartbeats 4000000 in
theorem vc_Mo_both_at_f13_4_4 (x1 : Int) (x2 : Int) (x3 : Int) (x6 : Int) (x7 : Int) (x9 : Int) (x10 : Int) (x11 : Int) (cur_0 : Int) (styleKind_0 : Int) (styleOne_0 : Int) (opened_0 : Int) (fault_0 : Int) (cur_1 : Int) (tokenKind_1 : Int → Int) (tokens_1 : Int) (styleKind_1 : Int) (styleOne_1 : Int) (opened_1 : Int) (fault_1 : Int) (tokenValue_1 : Int → Int) (tokenPlace_1 : Int → Int) (tokenEnd_1 : Int → Int) (tape_1 : Int → Int) (limit_1 : Int) (limit_0 : Int) (tokens_0 : Int) (tape_0 : Int → Int) (tokenKind_0 : Int → Int) (tokenValue_0 : Int → Int) (tokenPlace_0 : Int → Int) (tokenEnd_0 : Int → Int) (gx : Int) (gy : Int) (gu : Int) (k1 : 0 ≤ x1 ∧ x1 ≤ 2009) (k2 : 0 ≤ x2 ∧ x2 ≤ 5) (k3 : 0 ≤ x3 ∧ x3 ≤ 13) (k6 : 0 ≤ x6 ∧ x6 ≤ 2009) (k7 : 0 ≤ x7 ∧ x7 ≤ 2010) (k9 : 1 ≤ x9 ∧ x9 ≤ 1) (k10 : 1 ≤ x10 ∧ x10 ≤ 1) (k11 : 1 ≤ x11 ∧ x11 ≤ 2009) (d0 : x6 + 1 ≤ x11 ∧ x11 ≤ x6 + 1) (g0 : x11 = cur_0) (f1 : (styleKind_0 = 0) → (styleOne_0 ≤ 23)) (f2 : 1 * opened_0 + 0 ≤ 13) (f3 : (-1) * opened_0 + 0 ≤ (-13)) (f4 : (-1) * fault_0 + 0 ≤ (-1)) (f5 : 1 * x3 + 0 ≤ 13) (f6 : (-1) * x3 + 0 ≤ (-13)) (f9 : x11 = x6 + x10) (g10 : x6 = cur_1) (f11 : x9 ≠ 0) (f12 : ((cur_1 + 1) ≤ tokens_1) ∧ ((tokens_1 ≤ 2010) ∧ ((tokenKind_1 ((tokens_1 - 1)) = 0) ∨ (tokenKind_1 ((tokens_1 - 1)) = 4)))) (f13 : 1 * x1 + ((-1) * cur_1 + 0) ≤ 0) (f14 : (styleKind_1 = 0) → (styleOne_1 ≤ 23)) (f15 : 1 * opened_1 + 0 ≤ 13) (f16 : (-1) * opened_1 + 0 ≤ (-13)) (f17 : (-1) * fault_1 + 0 ≤ (-1)) (f18 : SBL (fault_1) (cur_1) (styleKind_1) (limit_1) (tokenKind_1) (tokenValue_1) (tokenPlace_1) (tokenEnd_1) (tape_1) (x1) (x2) (x3)) (f19 : 1 * x3 + 0 ≤ 13) (f20 : (-1) * x3 + 0 ≤ (-13)) (f21 : 1 * x7 + (1 * cur_1 + 0) ≤ 2010) (f22 : (-1) * x7 + ((-1) * cur_1 + 0) ≤ (-2010)) (f23 : (x9 = 1) → (tokenKind_1 (cur_1) = 1)) (f24 : Wqand (fault_1) (cur_1) (limit_1) (tokenKind_1) (tokenPlace_1) (tokenEnd_1) (tape_1) (x9)) (f26 : 1 * x3 + 0 ≤ 13) (f27 : (-1) * x3 + 0 ≤ (-13)) (fe_0_8_1 : fault_0 = fault_1) (fe_0_10_1 : limit_0 = limit_1) (fe_0_157_1 : tokens_0 = tokens_1) (fe_0_158_1 : cur_0 = x11) (fe_0_159_1 : opened_0 = opened_1) (fe_0_164_1 : styleKind_0 = styleKind_1) (fe_0_165_1 : styleOne_0 = styleOne_1) (hE_0_1_1 : ∀ j : Int, tape_0 j = tape_1 j) (hK_0_1 : ∀ j : Int, 0 ≤ j → j < 2000 → (-128) ≤ tape_0 j ∧ tape_0 j ≤ 127) (hE_0_160_1 : ∀ j : Int, tokenKind_0 j = tokenKind_1 j) (hK_0_160 : ∀ j : Int, 0 ≤ j → j < 2010 → 0 ≤ tokenKind_0 j ∧ tokenKind_0 j ≤ 4) (hE_0_161_1 : ∀ j : Int, tokenValue_0 j = tokenValue_1 j) (hE_0_162_1 : ∀ j : Int, tokenPlace_0 j = tokenPlace_1 j) (hK_0_162 : ∀ j : Int, 0 ≤ j → j < 2010 → 0 ≤ tokenPlace_0 j ∧ tokenPlace_0 j ≤ 2000) (hE_0_163_1 : ∀ j : Int, tokenEnd_0 j = tokenEnd_1 j) (hK_0_163 : ∀ j : Int, 0 ≤ j → j < 2010 → 0 ≤ tokenEnd_0 j ∧ tokenEnd_0 j ≤ 2000) (kz_0_8 : 0 ≤ fault_0 ∧ fault_0 ≤ 5) (kz_0_10 : 0 ≤ limit_0 ∧ limit_0 ≤ 2000) (kz_0_157 : 0 ≤ tokens_0 ∧ tokens_0 ≤ 2010) (kz_0_158 : 0 ≤ cur_0 ∧ cur_0 ≤ 2009) (kz_0_159 : 0 ≤ opened_0 ∧ opened_0 ≤ 13) (kz_0_164 : 0 ≤ styleKind_0 ∧ styleKind_0 ≤ 1) (kz_0_165 : (-1) ≤ styleOne_0 ∧ styleOne_0 ≤ 47) (ex2 : gx = cur_0) (ex3 : 0 ≤ gx ∧ gx ≤ 2009) (ey2 : gy = fault_0) (ey3 : 0 ≤ gy ∧ gy ≤ 5) (eu2 : gu = opened_0) (eu3 : 0 ≤ gu ∧ gu ≤ 13) : 1 * opened_0 + 0 ≤ 13 := by
  subst fe_0_8_1
  subst fe_0_10_1
  subst fe_0_157_1
  subst fe_0_159_1
  subst fe_0_164_1
  subst fe_0_165_1
  have e_hE_0_1_1 := funext hE_0_1_1; subst e_hE_0_1_1
  have e_hE_0_160_1 := funext hE_0_160_1; subst e_hE_0_160_1
  have e_hE_0_161_1 := funext hE_0_161_1; subst e_hE_0_161_1
  have e_hE_0_162_1 := funext hE_0_162_1; subst e_hE_0_162_1
  have e_hE_0_163_1 := funext hE_0_163_1; subst e_hE_0_163_1
  first | assumption | (clear f1 f12 f14 f23 hE_0_1_1 hK_0_1 hE_0_160_1 hK_0_160 hE_0_161_1 hE_0_162_1 hK_0_162 hE_0_163_1 hK_0_163; omega) | (clear hE_0_1_1 hK_0_1 hE_0_160_1 hK_0_160 hE_0_161_1 hE_0_162_1 hK_0_162 hE_0_163_1 hK_0_163; grind) | omega | grind
set_option maxHeartbeats 4000000 in
theorem vc_Mo_both_at_f13_4_5 (x1 : Int) (x2 : Int) (x3 : Int) (x6 : Int) (x7 : Int) (x9 : Int) (x10 : Int) (x11 : Int) (cur_0 : Int) (styleKind_0 : Int) (styleOne_0 : Int) (opened_0 : Int) (fault_0 : Int) (cur_1 : Int) (tokenKind_1 : Int → Int) (tokens_1 : Int) (styleKind_1 : Int) (styleOne_1 : Int) (opened_1 : Int) (fault_1 : Int) (tokenValue_1 : Int → Int) (tokenPlace_1 : Int → Int) (tokenEnd_1 : Int → Int) (tape_1 : Int → Int) (limit_1 : Int) (limit_0 : Int) (tokens_0 : Int) (tape_0 : Int → Int) (tokenKind_0 : Int → Int) (tokenValue_0 : Int → Int) (tokenPlace_0 : Int → Int) (tokenEnd_0 : Int → Int) (gx : Int) (gy : Int) (gu : Int) (k1 : 0 ≤ x1 ∧ x1 ≤ 2009) (k2 : 0 ≤ x2 ∧ x2 ≤ 5) (k3 : 0 ≤ x3 ∧ x3 ≤ 13) (k6 : 0 ≤ x6 ∧ x6 ≤ 2009) (k7 : 0 ≤ x7 ∧ x7 ≤ 2010) (k9 : 1 ≤ x9 ∧ x9 ≤ 1) (k10 : 1 ≤ x10 ∧ x10 ≤ 1) (k11 : 1 ≤ x11 ∧ x11 ≤ 2009) (d0 : x6 + 1 ≤ x11 ∧ x11 ≤ x6 + 1) (g0 : x11 = cur_0) (f1 : (styleKind_0 = 0) → (styleOne_0 ≤ 23)) (f2 : 1 * opened_0 + 0 ≤ 13) (f3 : (-1) * opened_0 + 0 ≤ (-13)) (f4 : (-1) * fault_0 + 0 ≤ (-1)) (f5 : 1 * x3 + 0 ≤ 13) (f6 : (-1) * x3 + 0 ≤ (-13)) (f9 : x11 = x6 + x10) (g10 : x6 = cur_1) (f11 : x9 ≠ 0) (f12 : ((cur_1 + 1) ≤ tokens_1) ∧ ((tokens_1 ≤ 2010) ∧ ((tokenKind_1 ((tokens_1 - 1)) = 0) ∨ (tokenKind_1 ((tokens_1 - 1)) = 4)))) (f13 : 1 * x1 + ((-1) * cur_1 + 0) ≤ 0) (f14 : (styleKind_1 = 0) → (styleOne_1 ≤ 23)) (f15 : 1 * opened_1 + 0 ≤ 13) (f16 : (-1) * opened_1 + 0 ≤ (-13)) (f17 : (-1) * fault_1 + 0 ≤ (-1)) (f18 : SBL (fault_1) (cur_1) (styleKind_1) (limit_1) (tokenKind_1) (tokenValue_1) (tokenPlace_1) (tokenEnd_1) (tape_1) (x1) (x2) (x3)) (f19 : 1 * x3 + 0 ≤ 13) (f20 : (-1) * x3 + 0 ≤ (-13)) (f21 : 1 * x7 + (1 * cur_1 + 0) ≤ 2010) (f22 : (-1) * x7 + ((-1) * cur_1 + 0) ≤ (-2010)) (f23 : (x9 = 1) → (tokenKind_1 (cur_1) = 1)) (f24 : Wqand (fault_1) (cur_1) (limit_1) (tokenKind_1) (tokenPlace_1) (tokenEnd_1) (tape_1) (x9)) (f26 : 1 * x3 + 0 ≤ 13) (f27 : (-1) * x3 + 0 ≤ (-13)) (fe_0_8_1 : fault_0 = fault_1) (fe_0_10_1 : limit_0 = limit_1) (fe_0_157_1 : tokens_0 = tokens_1) (fe_0_158_1 : cur_0 = x11) (fe_0_159_1 : opened_0 = opened_1) (fe_0_164_1 : styleKind_0 = styleKind_1) (fe_0_165_1 : styleOne_0 = styleOne_1) (hE_0_1_1 : ∀ j : Int, tape_0 j = tape_1 j) (hK_0_1 : ∀ j : Int, 0 ≤ j → j < 2000 → (-128) ≤ tape_0 j ∧ tape_0 j ≤ 127) (hE_0_160_1 : ∀ j : Int, tokenKind_0 j = tokenKind_1 j) (hK_0_160 : ∀ j : Int, 0 ≤ j → j < 2010 → 0 ≤ tokenKind_0 j ∧ tokenKind_0 j ≤ 4) (hE_0_161_1 : ∀ j : Int, tokenValue_0 j = tokenValue_1 j) (hE_0_162_1 : ∀ j : Int, tokenPlace_0 j = tokenPlace_1 j) (hK_0_162 : ∀ j : Int, 0 ≤ j → j < 2010 → 0 ≤ tokenPlace_0 j ∧ tokenPlace_0 j ≤ 2000) (hE_0_163_1 : ∀ j : Int, tokenEnd_0 j = tokenEnd_1 j) (hK_0_163 : ∀ j : Int, 0 ≤ j → j < 2010 → 0 ≤ tokenEnd_0 j ∧ tokenEnd_0 j ≤ 2000) (kz_0_8 : 0 ≤ fault_0 ∧ fault_0 ≤ 5) (kz_0_10 : 0 ≤ limit_0 ∧ limit_0 ≤ 2000) (kz_0_157 : 0 ≤ tokens_0 ∧ tokens_0 ≤ 2010) (kz_0_158 : 0 ≤ cur_0 ∧ cur_0 ≤ 2009) (kz_0_159 : 0 ≤ opened_0 ∧ opened_0 ≤ 13) (kz_0_164 : 0 ≤ styleKind_0 ∧ styleKind_0 ≤ 1) (kz_0_165 : (-1) ≤ styleOne_0 ∧ styleOne_0 ≤ 47) (ex2 : gx = cur_0) (ex3 : 0 ≤ gx ∧ gx ≤ 2009) (ey2 : gy = fault_0) (ey3 : 0 ≤ gy ∧ gy ≤ 5) (eu2 : gu = opened_0) (eu3 : 0 ≤ gu ∧ gu ≤ 13) : (-1) * opened_0 + 0 ≤ (-13) := by
  subst fe_0_8_1
  subst fe_0_10_1
  subst fe_0_157_1
  subst fe_0_159_1
  subst fe_0_164_1
  subst fe_0_165_1
  have e_hE_0_1_1 := funext hE_0_1_1; subst e_hE_0_1_1
  have e_hE_0_160_1 := funext hE_0_160_1; subst e_hE_0_160_1
  have e_hE_0_161_1 := funext hE_0_161_1; subst e_hE_0_161_1
  have e_hE_0_162_1 := funext hE_0_162_1; subst e_hE_0_162_1
  have e_hE_0_163_1 := funext hE_0_163_1; subst e_hE_0_163_1
  first | assumption | (clear f1 f12 f14 f23 hE_0_1_1 hK_0_1 hE_0_160_1 hK_0_160 hE_0_161_1 hE_0_162_1 hK_0_162 hE_0_163_1 hK_0_163; omega) | (clear hE_0_1_1 hK_0_1 hE_0_160_1 hK_0_160 hE_0_161_1 hE_0_162_1 hK_0_162 hE_0_163_1 hK_0_163; grind) | omega | grind
set_option maxHeartbeats 4000000 in
theorem vc_Mo_both_at_f13_4_6 (x1 : Int) (x2 : Int) (x3 : Int) (x6 : Int) (x7 : Int) (x9 : Int) (x10 : Int) (x11 : Int) (cur_0 : Int) (styleKind_0 : Int) (styleOne_0 : Int) (opened_0 : Int) (fault_0 : Int) (cur_1 : Int) (tokenKind_1 : Int → Int) (tokens_1 : Int) (styleKind_1 : Int) (styleOne_1 : Int) (opened_1 : Int) (fault_1 : Int) (tokenValue_1 : Int → Int) (tokenPlace_1 : Int → Int) (tokenEnd_1 : Int → Int) (tape_1 : Int → Int) (limit_1 : Int) (limit_0 : Int) (tokens_0 : Int) (tape_0 : Int → Int) (tokenKind_0 : Int → Int) (tokenValue_0 : Int → Int) (tokenPlace_0 : Int → Int) (tokenEnd_0 : Int → Int) (gx : Int) (gy : Int) (gu : Int) (k1 : 0 ≤ x1 ∧ x1 ≤ 2009) (k2 : 0 ≤ x2 ∧ x2 ≤ 5) (k3 : 0 ≤ x3 ∧ x3 ≤ 13) (k6 : 0 ≤ x6 ∧ x6 ≤ 2009) (k7 : 0 ≤ x7 ∧ x7 ≤ 2010) (k9 : 1 ≤ x9 ∧ x9 ≤ 1) (k10 : 1 ≤ x10 ∧ x10 ≤ 1) (k11 : 1 ≤ x11 ∧ x11 ≤ 2009) (d0 : x6 + 1 ≤ x11 ∧ x11 ≤ x6 + 1) (g0 : x11 = cur_0) (f1 : (styleKind_0 = 0) → (styleOne_0 ≤ 23)) (f2 : 1 * opened_0 + 0 ≤ 13) (f3 : (-1) * opened_0 + 0 ≤ (-13)) (f4 : (-1) * fault_0 + 0 ≤ (-1)) (f5 : 1 * x3 + 0 ≤ 13) (f6 : (-1) * x3 + 0 ≤ (-13)) (f9 : x11 = x6 + x10) (g10 : x6 = cur_1) (f11 : x9 ≠ 0) (f12 : ((cur_1 + 1) ≤ tokens_1) ∧ ((tokens_1 ≤ 2010) ∧ ((tokenKind_1 ((tokens_1 - 1)) = 0) ∨ (tokenKind_1 ((tokens_1 - 1)) = 4)))) (f13 : 1 * x1 + ((-1) * cur_1 + 0) ≤ 0) (f14 : (styleKind_1 = 0) → (styleOne_1 ≤ 23)) (f15 : 1 * opened_1 + 0 ≤ 13) (f16 : (-1) * opened_1 + 0 ≤ (-13)) (f17 : (-1) * fault_1 + 0 ≤ (-1)) (f18 : SBL (fault_1) (cur_1) (styleKind_1) (limit_1) (tokenKind_1) (tokenValue_1) (tokenPlace_1) (tokenEnd_1) (tape_1) (x1) (x2) (x3)) (f19 : 1 * x3 + 0 ≤ 13) (f20 : (-1) * x3 + 0 ≤ (-13)) (f21 : 1 * x7 + (1 * cur_1 + 0) ≤ 2010) (f22 : (-1) * x7 + ((-1) * cur_1 + 0) ≤ (-2010)) (f23 : (x9 = 1) → (tokenKind_1 (cur_1) = 1)) (f24 : Wqand (fault_1) (cur_1) (limit_1) (tokenKind_1) (tokenPlace_1) (tokenEnd_1) (tape_1) (x9)) (f26 : 1 * x3 + 0 ≤ 13) (f27 : (-1) * x3 + 0 ≤ (-13)) (fe_0_8_1 : fault_0 = fault_1) (fe_0_10_1 : limit_0 = limit_1) (fe_0_157_1 : tokens_0 = tokens_1) (fe_0_158_1 : cur_0 = x11) (fe_0_159_1 : opened_0 = opened_1) (fe_0_164_1 : styleKind_0 = styleKind_1) (fe_0_165_1 : styleOne_0 = styleOne_1) (hE_0_1_1 : ∀ j : Int, tape_0 j = tape_1 j) (hK_0_1 : ∀ j : Int, 0 ≤ j → j < 2000 → (-128) ≤ tape_0 j ∧ tape_0 j ≤ 127) (hE_0_160_1 : ∀ j : Int, tokenKind_0 j = tokenKind_1 j) (hK_0_160 : ∀ j : Int, 0 ≤ j → j < 2010 → 0 ≤ tokenKind_0 j ∧ tokenKind_0 j ≤ 4) (hE_0_161_1 : ∀ j : Int, tokenValue_0 j = tokenValue_1 j) (hE_0_162_1 : ∀ j : Int, tokenPlace_0 j = tokenPlace_1 j) (hK_0_162 : ∀ j : Int, 0 ≤ j → j < 2010 → 0 ≤ tokenPlace_0 j ∧ tokenPlace_0 j ≤ 2000) (hE_0_163_1 : ∀ j : Int, tokenEnd_0 j = tokenEnd_1 j) (hK_0_163 : ∀ j : Int, 0 ≤ j → j < 2010 → 0 ≤ tokenEnd_0 j ∧ tokenEnd_0 j ≤ 2000) (kz_0_8 : 0 ≤ fault_0 ∧ fault_0 ≤ 5) (kz_0_10 : 0 ≤ limit_0 ∧ limit_0 ≤ 2000) (kz_0_157 : 0 ≤ tokens_0 ∧ tokens_0 ≤ 2010) (kz_0_158 : 0 ≤ cur_0 ∧ cur_0 ≤ 2009) (kz_0_159 : 0 ≤ opened_0 ∧ opened_0 ≤ 13) (kz_0_164 : 0 ≤ styleKind_0 ∧ styleKind_0 ≤ 1) (kz_0_165 : (-1) ≤ styleOne_0 ∧ styleOne_0 ≤ 47) (ex2 : gx = cur_0) (ex3 : 0 ≤ gx ∧ gx ≤ 2009) (ey2 : gy = fault_0) (ey3 : 0 ≤ gy ∧ gy ≤ 5) (eu2 : gu = opened_0) (eu3 : 0 ≤ gu ∧ gu ≤ 13) : (-1) * fault_0 + 0 ≤ (-1) := by
  subst fe_0_8_1
  subst fe_0_10_1
  subst fe_0_157_1
  subst fe_0_159_1
  subst fe_0_164_1
  subst fe_0_165_1
  have e_hE_0_1_1 := funext hE_0_1_1; subst e_hE_0_1_1
  have e_hE_0_160_1 := funext hE_0_160_1; subst e_hE_0_160_1
  have e_hE_0_161_1 := funext hE_0_161_1; subst e_hE_0_161_1
  have e_hE_0_162_1 := funext hE_0_162_1; subst e_hE_0_162_1
  have e_hE_0_163_1 := funext hE_0_163_1; subst e_hE_0_163_1
  first | assumption | (clear f1 f12 f14 f23 hE_0_1_1 hK_0_1 hE_0_160_1 hK_0_160 hE_0_161_1 hE_0_162_1 hK_0_162 hE_0_163_1 hK_0_163; omega) | (clear hE_0_1_1 hK_0_1 hE_0_160_1 hK_0_160 hE_0_161_1 hE_0_162_1 hK_0_162 hE_0_163_1 hK_0_163; grind) | omega | grind
set_option maxHeartbeats 4000000 in
theorem vc_Mo_both_at_f13_4_7 (x1 : Int) (x2 : Int) (x3 : Int) (x6 : Int) (x7 : Int) (x9 : Int) (x10 : Int) (x11 : Int) (cur_0 : Int) (styleKind_0 : Int) (styleOne_0 : Int) (opened_0 : Int) (fault_0 : Int) (cur_1 : Int) (tokenKind_1 : Int → Int) (tokens_1 : Int) (styleKind_1 : Int) (styleOne_1 : Int) (opened_1 : Int) (fault_1 : Int) (tokenValue_1 : Int → Int) (tokenPlace_1 : Int → Int) (tokenEnd_1 : Int → Int) (tape_1 : Int → Int) (limit_1 : Int) (limit_0 : Int) (tokens_0 : Int) (tape_0 : Int → Int) (tokenKind_0 : Int → Int) (tokenValue_0 : Int → Int) (tokenPlace_0 : Int → Int) (tokenEnd_0 : Int → Int) (gx : Int) (gy : Int) (gu : Int) (k1 : 0 ≤ x1 ∧ x1 ≤ 2009) (k2 : 0 ≤ x2 ∧ x2 ≤ 5) (k3 : 0 ≤ x3 ∧ x3 ≤ 13) (k6 : 0 ≤ x6 ∧ x6 ≤ 2009) (k7 : 0 ≤ x7 ∧ x7 ≤ 2010) (k9 : 1 ≤ x9 ∧ x9 ≤ 1) (k10 : 1 ≤ x10 ∧ x10 ≤ 1) (k11 : 1 ≤ x11 ∧ x11 ≤ 2009) (d0 : x6 + 1 ≤ x11 ∧ x11 ≤ x6 + 1) (g0 : x11 = cur_0) (f1 : (styleKind_0 = 0) → (styleOne_0 ≤ 23)) (f2 : 1 * opened_0 + 0 ≤ 13) (f3 : (-1) * opened_0 + 0 ≤ (-13)) (f4 : (-1) * fault_0 + 0 ≤ (-1)) (f5 : 1 * x3 + 0 ≤ 13) (f6 : (-1) * x3 + 0 ≤ (-13)) (f9 : x11 = x6 + x10) (g10 : x6 = cur_1) (f11 : x9 ≠ 0) (f12 : ((cur_1 + 1) ≤ tokens_1) ∧ ((tokens_1 ≤ 2010) ∧ ((tokenKind_1 ((tokens_1 - 1)) = 0) ∨ (tokenKind_1 ((tokens_1 - 1)) = 4)))) (f13 : 1 * x1 + ((-1) * cur_1 + 0) ≤ 0) (f14 : (styleKind_1 = 0) → (styleOne_1 ≤ 23)) (f15 : 1 * opened_1 + 0 ≤ 13) (f16 : (-1) * opened_1 + 0 ≤ (-13)) (f17 : (-1) * fault_1 + 0 ≤ (-1)) (f18 : SBL (fault_1) (cur_1) (styleKind_1) (limit_1) (tokenKind_1) (tokenValue_1) (tokenPlace_1) (tokenEnd_1) (tape_1) (x1) (x2) (x3)) (f19 : 1 * x3 + 0 ≤ 13) (f20 : (-1) * x3 + 0 ≤ (-13)) (f21 : 1 * x7 + (1 * cur_1 + 0) ≤ 2010) (f22 : (-1) * x7 + ((-1) * cur_1 + 0) ≤ (-2010)) (f23 : (x9 = 1) → (tokenKind_1 (cur_1) = 1)) (f24 : Wqand (fault_1) (cur_1) (limit_1) (tokenKind_1) (tokenPlace_1) (tokenEnd_1) (tape_1) (x9)) (f26 : 1 * x3 + 0 ≤ 13) (f27 : (-1) * x3 + 0 ≤ (-13)) (fe_0_8_1 : fault_0 = fault_1) (fe_0_10_1 : limit_0 = limit_1) (fe_0_157_1 : tokens_0 = tokens_1) (fe_0_158_1 : cur_0 = x11) (fe_0_159_1 : opened_0 = opened_1) (fe_0_164_1 : styleKind_0 = styleKind_1) (fe_0_165_1 : styleOne_0 = styleOne_1) (hE_0_1_1 : ∀ j : Int, tape_0 j = tape_1 j) (hK_0_1 : ∀ j : Int, 0 ≤ j → j < 2000 → (-128) ≤ tape_0 j ∧ tape_0 j ≤ 127) (hE_0_160_1 : ∀ j : Int, tokenKind_0 j = tokenKind_1 j) (hK_0_160 : ∀ j : Int, 0 ≤ j → j < 2010 → 0 ≤ tokenKind_0 j ∧ tokenKind_0 j ≤ 4) (hE_0_161_1 : ∀ j : Int, tokenValue_0 j = tokenValue_1 j) (hE_0_162_1 : ∀ j : Int, tokenPlace_0 j = tokenPlace_1 j) (hK_0_162 : ∀ j : Int, 0 ≤ j → j < 2010 → 0 ≤ tokenPlace_0 j ∧ tokenPlace_0 j ≤ 2000) (hE_0_163_1 : ∀ j : Int, tokenEnd_0 j = tokenEnd_1 j) (hK_0_163 : ∀ j : Int, 0 ≤ j → j < 2010 → 0 ≤ tokenEnd_0 j ∧ tokenEnd_0 j ≤ 2000) (kz_0_8 : 0 ≤ fault_0 ∧ fault_0 ≤ 5) (kz_0_10 : 0 ≤ limit_0 ∧ limit_0 ≤ 2000) (kz_0_157 : 0 ≤ tokens_0 ∧ tokens_0 ≤ 2010) (kz_0_158 : 0 ≤ cur_0 ∧ cur_0 ≤ 2009) (kz_0_159 : 0 ≤ opened_0 ∧ opened_0 ≤ 13) (kz_0_164 : 0 ≤ styleKind_0 ∧ styleKind_0 ≤ 1) (kz_0_165 : (-1) ≤ styleOne_0 ∧ styleOne_0 ≤ 47) (ex2 : gx = cur_0) (ex3 : 0 ≤ gx ∧ gx ≤ 2009) (ey2 : gy = fault_0) (ey3 : 0 ≤ gy ∧ gy ≤ 5) (eu2 : gu = opened_0) (eu3 : 0 ≤ gu ∧ gu ≤ 13) : fault_0 = gy := by
  subst fe_0_8_1
  subst fe_0_10_1
  subst fe_0_157_1
  subst fe_0_159_1
  subst fe_0_164_1
  subst fe_0_165_1
  have e_hE_0_1_1 := funext hE_0_1_1; subst e_hE_0_1_1
  have e_hE_0_160_1 := funext hE_0_160_1; subst e_hE_0_160_1
  have e_hE_0_161_1 := funext hE_0_161_1; subst e_hE_0_161_1
  have e_hE_0_162_1 := funext hE_0_162_1; subst e_hE_0_162_1
  have e_hE_0_163_1 := funext hE_0_163_1; subst e_hE_0_163_1
  first | assumption | (clear f1 f12 f14 f23 hE_0_1_1 hK_0_1 hE_0_160_1 hK_0_160 hE_0_161_1 hE_0_162_1 hK_0_162 hE_0_163_1 hK_0_163; omega) | (clear hE_0_1_1 hK_0_1 hE_0_160_1 hK_0_160 hE_0_161_1 hE_0_162_1 hK_0_162 hE_0_163_1 hK_0_163; grind) | omega | grind
set_option maxHeartbeats 4000000 in
theorem vc_Mo_both_at_f13_4_8 (x1 : Int) (x2 : Int) (x3 : Int) (x6 : Int) (x7 : Int) (x9 : Int) (x10 : Int) (x11 : Int) (cur_0 : Int) (styleKind_0 : Int) (styleOne_0 : Int) (opened_0 : Int) (fault_0 : Int) (cur_1 : Int) (tokenKind_1 : Int → Int) (tokens_1 : Int) (styleKind_1 : Int) (styleOne_1 : Int) (opened_1 : Int) (fault_1 : Int) (tokenValue_1 : Int → Int) (tokenPlace_1 : Int → Int) (tokenEnd_1 : Int → Int) (tape_1 : Int → Int) (limit_1 : Int) (limit_0 : Int) (tokens_0 : Int) (tape_0 : Int → Int) (tokenKind_0 : Int → Int) (tokenValue_0 : Int → Int) (tokenPlace_0 : Int → Int) (tokenEnd_0 : Int → Int) (gx : Int) (gy : Int) (gu : Int) (k1 : 0 ≤ x1 ∧ x1 ≤ 2009) (k2 : 0 ≤ x2 ∧ x2 ≤ 5) (k3 : 0 ≤ x3 ∧ x3 ≤ 13) (k6 : 0 ≤ x6 ∧ x6 ≤ 2009) (k7 : 0 ≤ x7 ∧ x7 ≤ 2010) (k9 : 1 ≤ x9 ∧ x9 ≤ 1) (k10 : 1 ≤ x10 ∧ x10 ≤ 1) (k11 : 1 ≤ x11 ∧ x11 ≤ 2009) (d0 : x6 + 1 ≤ x11 ∧ x11 ≤ x6 + 1) (g0 : x11 = cur_0) (f1 : (styleKind_0 = 0) → (styleOne_0 ≤ 23)) (f2 : 1 * opened_0 + 0 ≤ 13) (f3 : (-1) * opened_0 + 0 ≤ (-13)) (f4 : (-1) * fault_0 + 0 ≤ (-1)) (f5 : 1 * x3 + 0 ≤ 13) (f6 : (-1) * x3 + 0 ≤ (-13)) (f9 : x11 = x6 + x10) (g10 : x6 = cur_1) (f11 : x9 ≠ 0) (f12 : ((cur_1 + 1) ≤ tokens_1) ∧ ((tokens_1 ≤ 2010) ∧ ((tokenKind_1 ((tokens_1 - 1)) = 0) ∨ (tokenKind_1 ((tokens_1 - 1)) = 4)))) (f13 : 1 * x1 + ((-1) * cur_1 + 0) ≤ 0) (f14 : (styleKind_1 = 0) → (styleOne_1 ≤ 23)) (f15 : 1 * opened_1 + 0 ≤ 13) (f16 : (-1) * opened_1 + 0 ≤ (-13)) (f17 : (-1) * fault_1 + 0 ≤ (-1)) (f18 : SBL (fault_1) (cur_1) (styleKind_1) (limit_1) (tokenKind_1) (tokenValue_1) (tokenPlace_1) (tokenEnd_1) (tape_1) (x1) (x2) (x3)) (f19 : 1 * x3 + 0 ≤ 13) (f20 : (-1) * x3 + 0 ≤ (-13)) (f21 : 1 * x7 + (1 * cur_1 + 0) ≤ 2010) (f22 : (-1) * x7 + ((-1) * cur_1 + 0) ≤ (-2010)) (f23 : (x9 = 1) → (tokenKind_1 (cur_1) = 1)) (f24 : Wqand (fault_1) (cur_1) (limit_1) (tokenKind_1) (tokenPlace_1) (tokenEnd_1) (tape_1) (x9)) (f26 : 1 * x3 + 0 ≤ 13) (f27 : (-1) * x3 + 0 ≤ (-13)) (fe_0_8_1 : fault_0 = fault_1) (fe_0_10_1 : limit_0 = limit_1) (fe_0_157_1 : tokens_0 = tokens_1) (fe_0_158_1 : cur_0 = x11) (fe_0_159_1 : opened_0 = opened_1) (fe_0_164_1 : styleKind_0 = styleKind_1) (fe_0_165_1 : styleOne_0 = styleOne_1) (hE_0_1_1 : ∀ j : Int, tape_0 j = tape_1 j) (hK_0_1 : ∀ j : Int, 0 ≤ j → j < 2000 → (-128) ≤ tape_0 j ∧ tape_0 j ≤ 127) (hE_0_160_1 : ∀ j : Int, tokenKind_0 j = tokenKind_1 j) (hK_0_160 : ∀ j : Int, 0 ≤ j → j < 2010 → 0 ≤ tokenKind_0 j ∧ tokenKind_0 j ≤ 4) (hE_0_161_1 : ∀ j : Int, tokenValue_0 j = tokenValue_1 j) (hE_0_162_1 : ∀ j : Int, tokenPlace_0 j = tokenPlace_1 j) (hK_0_162 : ∀ j : Int, 0 ≤ j → j < 2010 → 0 ≤ tokenPlace_0 j ∧ tokenPlace_0 j ≤ 2000) (hE_0_163_1 : ∀ j : Int, tokenEnd_0 j = tokenEnd_1 j) (hK_0_163 : ∀ j : Int, 0 ≤ j → j < 2010 → 0 ≤ tokenEnd_0 j ∧ tokenEnd_0 j ≤ 2000) (kz_0_8 : 0 ≤ fault_0 ∧ fault_0 ≤ 5) (kz_0_10 : 0 ≤ limit_0 ∧ limit_0 ≤ 2000) (kz_0_157 : 0 ≤ tokens_0 ∧ tokens_0 ≤ 2010) (kz_0_158 : 0 ≤ cur_0 ∧ cur_0 ≤ 2009) (kz_0_159 : 0 ≤ opened_0 ∧ opened_0 ≤ 13) (kz_0_164 : 0 ≤ styleKind_0 ∧ styleKind_0 ≤ 1) (kz_0_165 : (-1) ≤ styleOne_0 ∧ styleOne_0 ≤ 47) (ex2 : gx = cur_0) (ex3 : 0 ≤ gx ∧ gx ≤ 2009) (ey2 : gy = fault_0) (ey3 : 0 ≤ gy ∧ gy ≤ 5) (eu2 : gu = opened_0) (eu3 : 0 ≤ gu ∧ gu ≤ 13) : opened_0 = gu := by
  subst fe_0_8_1
  subst fe_0_10_1
  subst fe_0_157_1
  subst fe_0_159_1
  subst fe_0_164_1
  subst fe_0_165_1
  have e_hE_0_1_1 := funext hE_0_1_1; subst e_hE_0_1_1
  have e_hE_0_160_1 := funext hE_0_160_1; subst e_hE_0_160_1
  have e_hE_0_161_1 := funext hE_0_161_1; subst e_hE_0_161_1
  have e_hE_0_162_1 := funext hE_0_162_1; subst e_hE_0_162_1
  have e_hE_0_163_1 := funext hE_0_163_1; subst e_hE_0_163_1
  first | assumption | (clear f1 f12 f14 f23 hE_0_1_1 hK_0_1 hE_0_160_1 hK_0_160 hE_0_161_1 hE_0_162_1 hK_0_162 hE_0_163_1 hK_0_163; omega) | (clear hE_0_1_1 hK_0_1 hE_0_160_1 hK_0_160 hE_0_161_1 hE_0_162_1 hK_0_162 hE_0_163_1 hK_0_163; grind) | omega | grind
set_option maxHeartbeats 4000000 in
theorem vc_Mo_both_at_f13_4_9 (x1 : Int) (x2 : Int) (x3 : Int) (x6 : Int) (x7 : Int) (x9 : Int) (x10 : Int) (x11 : Int) (cur_0 : Int) (styleKind_0 : Int) (styleOne_0 : Int) (opened_0 : Int) (fault_0 : Int) (cur_1 : Int) (tokenKind_1 : Int → Int) (tokens_1 : Int) (styleKind_1 : Int) (styleOne_1 : Int) (opened_1 : Int) (fault_1 : Int) (tokenValue_1 : Int → Int) (tokenPlace_1 : Int → Int) (tokenEnd_1 : Int → Int) (tape_1 : Int → Int) (limit_1 : Int) (limit_0 : Int) (tokens_0 : Int) (tape_0 : Int → Int) (tokenKind_0 : Int → Int) (tokenValue_0 : Int → Int) (tokenPlace_0 : Int → Int) (tokenEnd_0 : Int → Int) (gx : Int) (gy : Int) (gu : Int) (k1 : 0 ≤ x1 ∧ x1 ≤ 2009) (k2 : 0 ≤ x2 ∧ x2 ≤ 5) (k3 : 0 ≤ x3 ∧ x3 ≤ 13) (k6 : 0 ≤ x6 ∧ x6 ≤ 2009) (k7 : 0 ≤ x7 ∧ x7 ≤ 2010) (k9 : 1 ≤ x9 ∧ x9 ≤ 1) (k10 : 1 ≤ x10 ∧ x10 ≤ 1) (k11 : 1 ≤ x11 ∧ x11 ≤ 2009) (d0 : x6 + 1 ≤ x11 ∧ x11 ≤ x6 + 1) (g0 : x11 = cur_0) (f1 : (styleKind_0 = 0) → (styleOne_0 ≤ 23)) (f2 : 1 * opened_0 + 0 ≤ 13) (f3 : (-1) * opened_0 + 0 ≤ (-13)) (f4 : (-1) * fault_0 + 0 ≤ (-1)) (f5 : 1 * x3 + 0 ≤ 13) (f6 : (-1) * x3 + 0 ≤ (-13)) (f9 : x11 = x6 + x10) (g10 : x6 = cur_1) (f11 : x9 ≠ 0) (f12 : ((cur_1 + 1) ≤ tokens_1) ∧ ((tokens_1 ≤ 2010) ∧ ((tokenKind_1 ((tokens_1 - 1)) = 0) ∨ (tokenKind_1 ((tokens_1 - 1)) = 4)))) (f13 : 1 * x1 + ((-1) * cur_1 + 0) ≤ 0) (f14 : (styleKind_1 = 0) → (styleOne_1 ≤ 23)) (f15 : 1 * opened_1 + 0 ≤ 13) (f16 : (-1) * opened_1 + 0 ≤ (-13)) (f17 : (-1) * fault_1 + 0 ≤ (-1)) (f18 : SBL (fault_1) (cur_1) (styleKind_1) (limit_1) (tokenKind_1) (tokenValue_1) (tokenPlace_1) (tokenEnd_1) (tape_1) (x1) (x2) (x3)) (f19 : 1 * x3 + 0 ≤ 13) (f20 : (-1) * x3 + 0 ≤ (-13)) (f21 : 1 * x7 + (1 * cur_1 + 0) ≤ 2010) (f22 : (-1) * x7 + ((-1) * cur_1 + 0) ≤ (-2010)) (f23 : (x9 = 1) → (tokenKind_1 (cur_1) = 1)) (f24 : Wqand (fault_1) (cur_1) (limit_1) (tokenKind_1) (tokenPlace_1) (tokenEnd_1) (tape_1) (x9)) (f26 : 1 * x3 + 0 ≤ 13) (f27 : (-1) * x3 + 0 ≤ (-13)) (fe_0_8_1 : fault_0 = fault_1) (fe_0_10_1 : limit_0 = limit_1) (fe_0_157_1 : tokens_0 = tokens_1) (fe_0_158_1 : cur_0 = x11) (fe_0_159_1 : opened_0 = opened_1) (fe_0_164_1 : styleKind_0 = styleKind_1) (fe_0_165_1 : styleOne_0 = styleOne_1) (hE_0_1_1 : ∀ j : Int, tape_0 j = tape_1 j) (hK_0_1 : ∀ j : Int, 0 ≤ j → j < 2000 → (-128) ≤ tape_0 j ∧ tape_0 j ≤ 127) (hE_0_160_1 : ∀ j : Int, tokenKind_0 j = tokenKind_1 j) (hK_0_160 : ∀ j : Int, 0 ≤ j → j < 2010 → 0 ≤ tokenKind_0 j ∧ tokenKind_0 j ≤ 4) (hE_0_161_1 : ∀ j : Int, tokenValue_0 j = tokenValue_1 j) (hE_0_162_1 : ∀ j : Int, tokenPlace_0 j = tokenPlace_1 j) (hK_0_162 : ∀ j : Int, 0 ≤ j → j < 2010 → 0 ≤ tokenPlace_0 j ∧ tokenPlace_0 j ≤ 2000) (hE_0_163_1 : ∀ j : Int, tokenEnd_0 j = tokenEnd_1 j) (hK_0_163 : ∀ j : Int, 0 ≤ j → j < 2010 → 0 ≤ tokenEnd_0 j ∧ tokenEnd_0 j ≤ 2000) (kz_0_8 : 0 ≤ fault_0 ∧ fault_0 ≤ 5) (kz_0_10 : 0 ≤ limit_0 ∧ limit_0 ≤ 2000) (kz_0_157 : 0 ≤ tokens_0 ∧ tokens_0 ≤ 2010) (kz_0_158 : 0 ≤ cur_0 ∧ cur_0 ≤ 2009) (kz_0_159 : 0 ≤ opened_0 ∧ opened_0 ≤ 13) (kz_0_164 : 0 ≤ styleKind_0 ∧ styleKind_0 ≤ 1) (kz_0_165 : (-1) ≤ styleOne_0 ∧ styleOne_0 ≤ 47) (ex2 : gx = cur_0) (ex3 : 0 ≤ gx ∧ gx ≤ 2009) (ey2 : gy = fault_0) (ey3 : 0 ≤ gy ∧ gy ≤ 5) (eu2 : gu = opened_0) (eu3 : 0 ≤ gu ∧ gu ≤ 13) : 1 * x1 + ((-1) * gx + 0) ≤ 0 := by
  subst fe_0_8_1
  subst fe_0_10_1
  subst fe_0_157_1
  subst fe_0_159_1
  subst fe_0_164_1
  subst fe_0_165_1
  have e_hE_0_1_1 := funext hE_0_1_1; subst e_hE_0_1_1
  have e_hE_0_160_1 := funext hE_0_160_1; subst e_hE_0_160_1
  have e_hE_0_161_1 := funext hE_0_161_1; subst e_hE_0_161_1
  have e_hE_0_162_1 := funext hE_0_162_1; subst e_hE_0_162_1
  have e_hE_0_163_1 := funext hE_0_163_1; subst e_hE_0_163_1
  first | assumption | (clear f1 f12 f14 f23 hE_0_1_1 hK_0_1 hE_0_160_1 hK_0_160 hE_0_161_1 hE_0_162_1 hK_0_162 hE_0_163_1 hK_0_163; omega) | (clear hE_0_1_1 hK_0_1 hE_0_160_1 hK_0_160 hE_0_161_1 hE_0_162_1 hK_0_162 hE_0_163_1 hK_0_163; grind) | omega | grind
set_option maxHeartbeats 4000000 in
theorem vc_Mo_both_at_f13_4_10 (x1 : Int) (x2 : Int) (x3 : Int) (x6 : Int) (x7 : Int) (x9 : Int) (x10 : Int) (x11 : Int) (cur_0 : Int) (styleKind_0 : Int) (styleOne_0 : Int) (opened_0 : Int) (fault_0 : Int) (cur_1 : Int) (tokenKind_1 : Int → Int) (tokens_1 : Int) (styleKind_1 : Int) (styleOne_1 : Int) (opened_1 : Int) (fault_1 : Int) (tokenValue_1 : Int → Int) (tokenPlace_1 : Int → Int) (tokenEnd_1 : Int → Int) (tape_1 : Int → Int) (limit_1 : Int) (limit_0 : Int) (tokens_0 : Int) (tape_0 : Int → Int) (tokenKind_0 : Int → Int) (tokenValue_0 : Int → Int) (tokenPlace_0 : Int → Int) (tokenEnd_0 : Int → Int) (gx : Int) (gy : Int) (gu : Int) (k1 : 0 ≤ x1 ∧ x1 ≤ 2009) (k2 : 0 ≤ x2 ∧ x2 ≤ 5) (k3 : 0 ≤ x3 ∧ x3 ≤ 13) (k6 : 0 ≤ x6 ∧ x6 ≤ 2009) (k7 : 0 ≤ x7 ∧ x7 ≤ 2010) (k9 : 1 ≤ x9 ∧ x9 ≤ 1) (k10 : 1 ≤ x10 ∧ x10 ≤ 1) (k11 : 1 ≤ x11 ∧ x11 ≤ 2009) (d0 : x6 + 1 ≤ x11 ∧ x11 ≤ x6 + 1) (g0 : x11 = cur_0) (f1 : (styleKind_0 = 0) → (styleOne_0 ≤ 23)) (f2 : 1 * opened_0 + 0 ≤ 13) (f3 : (-1) * opened_0 + 0 ≤ (-13)) (f4 : (-1) * fault_0 + 0 ≤ (-1)) (f5 : 1 * x3 + 0 ≤ 13) (f6 : (-1) * x3 + 0 ≤ (-13)) (f9 : x11 = x6 + x10) (g10 : x6 = cur_1) (f11 : x9 ≠ 0) (f12 : ((cur_1 + 1) ≤ tokens_1) ∧ ((tokens_1 ≤ 2010) ∧ ((tokenKind_1 ((tokens_1 - 1)) = 0) ∨ (tokenKind_1 ((tokens_1 - 1)) = 4)))) (f13 : 1 * x1 + ((-1) * cur_1 + 0) ≤ 0) (f14 : (styleKind_1 = 0) → (styleOne_1 ≤ 23)) (f15 : 1 * opened_1 + 0 ≤ 13) (f16 : (-1) * opened_1 + 0 ≤ (-13)) (f17 : (-1) * fault_1 + 0 ≤ (-1)) (f18 : SBL (fault_1) (cur_1) (styleKind_1) (limit_1) (tokenKind_1) (tokenValue_1) (tokenPlace_1) (tokenEnd_1) (tape_1) (x1) (x2) (x3)) (f19 : 1 * x3 + 0 ≤ 13) (f20 : (-1) * x3 + 0 ≤ (-13)) (f21 : 1 * x7 + (1 * cur_1 + 0) ≤ 2010) (f22 : (-1) * x7 + ((-1) * cur_1 + 0) ≤ (-2010)) (f23 : (x9 = 1) → (tokenKind_1 (cur_1) = 1)) (f24 : Wqand (fault_1) (cur_1) (limit_1) (tokenKind_1) (tokenPlace_1) (tokenEnd_1) (tape_1) (x9)) (f26 : 1 * x3 + 0 ≤ 13) (f27 : (-1) * x3 + 0 ≤ (-13)) (fe_0_8_1 : fault_0 = fault_1) (fe_0_10_1 : limit_0 = limit_1) (fe_0_157_1 : tokens_0 = tokens_1) (fe_0_158_1 : cur_0 = x11) (fe_0_159_1 : opened_0 = opened_1) (fe_0_164_1 : styleKind_0 = styleKind_1) (fe_0_165_1 : styleOne_0 = styleOne_1) (hE_0_1_1 : ∀ j : Int, tape_0 j = tape_1 j) (hK_0_1 : ∀ j : Int, 0 ≤ j → j < 2000 → (-128) ≤ tape_0 j ∧ tape_0 j ≤ 127) (hE_0_160_1 : ∀ j : Int, tokenKind_0 j = tokenKind_1 j) (hK_0_160 : ∀ j : Int, 0 ≤ j → j < 2010 → 0 ≤ tokenKind_0 j ∧ tokenKind_0 j ≤ 4) (hE_0_161_1 : ∀ j : Int, tokenValue_0 j = tokenValue_1 j) (hE_0_162_1 : ∀ j : Int, tokenPlace_0 j = tokenPlace_1 j) (hK_0_162 : ∀ j : Int, 0 ≤ j → j < 2010 → 0 ≤ tokenPlace_0 j ∧ tokenPlace_0 j ≤ 2000) (hE_0_163_1 : ∀ j : Int, tokenEnd_0 j = tokenEnd_1 j) (hK_0_163 : ∀ j : Int, 0 ≤ j → j < 2010 → 0 ≤ tokenEnd_0 j ∧ tokenEnd_0 j ≤ 2000) (kz_0_8 : 0 ≤ fault_0 ∧ fault_0 ≤ 5) (kz_0_10 : 0 ≤ limit_0 ∧ limit_0 ≤ 2000) (kz_0_157 : 0 ≤ tokens_0 ∧ tokens_0 ≤ 2010) (kz_0_158 : 0 ≤ cur_0 ∧ cur_0 ≤ 2009) (kz_0_159 : 0 ≤ opened_0 ∧ opened_0 ≤ 13) (kz_0_164 : 0 ≤ styleKind_0 ∧ styleKind_0 ≤ 1) (kz_0_165 : (-1) ≤ styleOne_0 ∧ styleOne_0 ≤ 47) (ex2 : gx = cur_0) (ex3 : 0 ≤ gx ∧ gx ≤ 2009) (ey2 : gy = fault_0) (ey3 : 0 ≤ gy ∧ gy ≤ 5) (eu2 : gu = opened_0) (eu3 : 0 ≤ gu ∧ gu ≤ 13) : (-1) * x7 + ((-1) * gx + 0) ≤ (-2011) := by
  subst fe_0_8_1
  subst fe_0_10_1
  subst fe_0_157_1
  subst fe_0_159_1
  subst fe_0_164_1
  subst fe_0_165_1
  have e_hE_0_1_1 := funext hE_0_1_1; subst e_hE_0_1_1
  have e_hE_0_160_1 := funext hE_0_160_1; subst e_hE_0_160_1
  have e_hE_0_161_1 := funext hE_0_161_1; subst e_hE_0_161_1
  have e_hE_0_162_1 := funext hE_0_162_1; subst e_hE_0_162_1
  have e_hE_0_163_1 := funext hE_0_163_1; subst e_hE_0_163_1
  first | assumption | (clear f1 f12 f14 f23 hE_0_1_1 hK_0_1 hE_0_160_1 hK_0_160 hE_0_161_1 hE_0_162_1 hK_0_162 hE_0_163_1 hK_0_163; omega) | (clear hE_0_1_1 hK_0_1 hE_0_160_1 hK_0_160 hE_0_161_1 hE_0_162_1 hK_0_162 hE_0_163_1 hK_0_163; grind) | omega | grind
set_option maxHeartbeats 4000000 in
theorem vc_Mo_both_at_f13_4_11 (x1 : Int) (x2 : Int) (x3 : Int) (x9 : Int) (styleKind_0 : Int) (styleOne_0 : Int) (opened_0 : Int) (fault_0 : Int) (cur_1 : Int) (tokenKind_1 : Int → Int) (tokens_1 : Int) (styleKind_1 : Int) (styleOne_1 : Int) (opened_1 : Int) (fault_1 : Int) (tokenValue_1 : Int → Int) (tokenPlace_1 : Int → Int) (tokenEnd_1 : Int → Int) (tape_1 : Int → Int) (limit_1 : Int) (limit_0 : Int) (tokens_0 : Int) (tape_0 : Int → Int) (tokenKind_0 : Int → Int) (tokenValue_0 : Int → Int) (tokenPlace_0 : Int → Int) (tokenEnd_0 : Int → Int) (gx : Int) (gy : Int) (k1 : 0 ≤ x1 ∧ x1 ≤ 2009) (k2 : 0 ≤ x2 ∧ x2 ≤ 5) (k3 : 0 ≤ x3 ∧ x3 ≤ 13) (k9 : 1 ≤ x9 ∧ x9 ≤ 1) (f4 : (-1) * fault_0 + 0 ≤ (-1)) (f18 : SBL (fault_1) (cur_1) (styleKind_1) (limit_1) (tokenKind_1) (tokenValue_1) (tokenPlace_1) (tokenEnd_1) (tape_1) (x1) (x2) (x3)) (f24 : Wqand (fault_1) (cur_1) (limit_1) (tokenKind_1) (tokenPlace_1) (tokenEnd_1) (tape_1) (x9)) (fe_0_8_1 : fault_0 = fault_1) (fe_0_10_1 : limit_0 = limit_1) (fe_0_157_1 : tokens_0 = tokens_1) (fe_0_159_1 : opened_0 = opened_1) (fe_0_164_1 : styleKind_0 = styleKind_1) (fe_0_165_1 : styleOne_0 = styleOne_1) (hE_0_1_1 : ∀ j : Int, tape_0 j = tape_1 j) (hE_0_160_1 : ∀ j : Int, tokenKind_0 j = tokenKind_1 j) (hE_0_161_1 : ∀ j : Int, tokenValue_0 j = tokenValue_1 j) (hE_0_162_1 : ∀ j : Int, tokenPlace_0 j = tokenPlace_1 j) (hE_0_163_1 : ∀ j : Int, tokenEnd_0 j = tokenEnd_1 j) (kz_0_8 : 0 ≤ fault_0 ∧ fault_0 ≤ 5) (kz_0_10 : 0 ≤ limit_0 ∧ limit_0 ≤ 2000) (kz_0_157 : 0 ≤ tokens_0 ∧ tokens_0 ≤ 2010) (kz_0_159 : 0 ≤ opened_0 ∧ opened_0 ≤ 13) (kz_0_164 : 0 ≤ styleKind_0 ∧ styleKind_0 ≤ 1) (kz_0_165 : (-1) ≤ styleOne_0 ∧ styleOne_0 ≤ 47) (ey2 : gy = fault_0) : GBL (styleKind_0) (limit_0) (tokenKind_0) (tokenValue_0) (tokenPlace_0) (tokenEnd_0) (tape_0) (gx) (gy) (x1) (x2) (x3) := by
  subst fe_0_8_1
  subst fe_0_10_1
  subst fe_0_157_1
  subst fe_0_159_1
  subst fe_0_164_1
  subst fe_0_165_1
  have e_hE_0_1_1 := funext hE_0_1_1; subst e_hE_0_1_1
  have e_hE_0_160_1 := funext hE_0_160_1; subst e_hE_0_160_1
  have e_hE_0_161_1 := funext hE_0_161_1; subst e_hE_0_161_1
  have e_hE_0_162_1 := funext hE_0_162_1; subst e_hE_0_162_1
  have e_hE_0_163_1 := funext hE_0_163_1; subst e_hE_0_163_1
  first
    | (have h := (wdq_y (‹Wqand _ _ _ _ _ _ _ _›) (by omega))
       have h1 := h.1
       exact gbl_of (‹SBL _ _ _ _ _ _ _ _ _ _ _ _›) (by omega) h.2 (by omega) (by omega))
  
set_option maxHeartbeats 4000000 in
theorem vc_Mo_both_at_f13_4_12 (x1 : Int) (x2 : Int) (x3 : Int) (x6 : Int) (x7 : Int) (x9 : Int) (x10 : Int) (x11 : Int) (cur_0 : Int) (styleKind_0 : Int) (styleOne_0 : Int) (opened_0 : Int) (fault_0 : Int) (cur_1 : Int) (tokenKind_1 : Int → Int) (tokens_1 : Int) (styleKind_1 : Int) (styleOne_1 : Int) (opened_1 : Int) (fault_1 : Int) (tokenValue_1 : Int → Int) (tokenPlace_1 : Int → Int) (tokenEnd_1 : Int → Int) (tape_1 : Int → Int) (limit_1 : Int) (limit_0 : Int) (tokens_0 : Int) (tape_0 : Int → Int) (tokenKind_0 : Int → Int) (tokenValue_0 : Int → Int) (tokenPlace_0 : Int → Int) (tokenEnd_0 : Int → Int) (gx : Int) (gy : Int) (gu : Int) (k1 : 0 ≤ x1 ∧ x1 ≤ 2009) (k2 : 0 ≤ x2 ∧ x2 ≤ 5) (k3 : 0 ≤ x3 ∧ x3 ≤ 13) (k6 : 0 ≤ x6 ∧ x6 ≤ 2009) (k7 : 0 ≤ x7 ∧ x7 ≤ 2010) (k9 : 1 ≤ x9 ∧ x9 ≤ 1) (k10 : 1 ≤ x10 ∧ x10 ≤ 1) (k11 : 1 ≤ x11 ∧ x11 ≤ 2009) (d0 : x6 + 1 ≤ x11 ∧ x11 ≤ x6 + 1) (g0 : x11 = cur_0) (f1 : (styleKind_0 = 0) → (styleOne_0 ≤ 23)) (f2 : 1 * opened_0 + 0 ≤ 13) (f3 : (-1) * opened_0 + 0 ≤ (-13)) (f4 : (-1) * fault_0 + 0 ≤ (-1)) (f5 : 1 * x3 + 0 ≤ 13) (f6 : (-1) * x3 + 0 ≤ (-13)) (f9 : x11 = x6 + x10) (g10 : x6 = cur_1) (f11 : x9 ≠ 0) (f12 : ((cur_1 + 1) ≤ tokens_1) ∧ ((tokens_1 ≤ 2010) ∧ ((tokenKind_1 ((tokens_1 - 1)) = 0) ∨ (tokenKind_1 ((tokens_1 - 1)) = 4)))) (f13 : 1 * x1 + ((-1) * cur_1 + 0) ≤ 0) (f14 : (styleKind_1 = 0) → (styleOne_1 ≤ 23)) (f15 : 1 * opened_1 + 0 ≤ 13) (f16 : (-1) * opened_1 + 0 ≤ (-13)) (f17 : (-1) * fault_1 + 0 ≤ (-1)) (f18 : SBL (fault_1) (cur_1) (styleKind_1) (limit_1) (tokenKind_1) (tokenValue_1) (tokenPlace_1) (tokenEnd_1) (tape_1) (x1) (x2) (x3)) (f19 : 1 * x3 + 0 ≤ 13) (f20 : (-1) * x3 + 0 ≤ (-13)) (f21 : 1 * x7 + (1 * cur_1 + 0) ≤ 2010) (f22 : (-1) * x7 + ((-1) * cur_1 + 0) ≤ (-2010)) (f23 : (x9 = 1) → (tokenKind_1 (cur_1) = 1)) (f24 : Wqand (fault_1) (cur_1) (limit_1) (tokenKind_1) (tokenPlace_1) (tokenEnd_1) (tape_1) (x9)) (f26 : 1 * x3 + 0 ≤ 13) (f27 : (-1) * x3 + 0 ≤ (-13)) (fe_0_8_1 : fault_0 = fault_1) (fe_0_10_1 : limit_0 = limit_1) (fe_0_157_1 : tokens_0 = tokens_1) (fe_0_158_1 : cur_0 = x11) (fe_0_159_1 : opened_0 = opened_1) (fe_0_164_1 : styleKind_0 = styleKind_1) (fe_0_165_1 : styleOne_0 = styleOne_1) (hE_0_1_1 : ∀ j : Int, tape_0 j = tape_1 j) (hK_0_1 : ∀ j : Int, 0 ≤ j → j < 2000 → (-128) ≤ tape_0 j ∧ tape_0 j ≤ 127) (hE_0_160_1 : ∀ j : Int, tokenKind_0 j = tokenKind_1 j) (hK_0_160 : ∀ j : Int, 0 ≤ j → j < 2010 → 0 ≤ tokenKind_0 j ∧ tokenKind_0 j ≤ 4) (hE_0_161_1 : ∀ j : Int, tokenValue_0 j = tokenValue_1 j) (hE_0_162_1 : ∀ j : Int, tokenPlace_0 j = tokenPlace_1 j) (hK_0_162 : ∀ j : Int, 0 ≤ j → j < 2010 → 0 ≤ tokenPlace_0 j ∧ tokenPlace_0 j ≤ 2000) (hE_0_163_1 : ∀ j : Int, tokenEnd_0 j = tokenEnd_1 j) (hK_0_163 : ∀ j : Int, 0 ≤ j → j < 2010 → 0 ≤ tokenEnd_0 j ∧ tokenEnd_0 j ≤ 2000) (kz_0_8 : 0 ≤ fault_0 ∧ fault_0 ≤ 5) (kz_0_10 : 0 ≤ limit_0 ∧ limit_0 ≤ 2000) (kz_0_157 : 0 ≤ tokens_0 ∧ tokens_0 ≤ 2010) (kz_0_158 : 0 ≤ cur_0 ∧ cur_0 ≤ 2009) (kz_0_159 : 0 ≤ opened_0 ∧ opened_0 ≤ 13) (kz_0_164 : 0 ≤ styleKind_0 ∧ styleKind_0 ≤ 1) (kz_0_165 : (-1) ≤ styleOne_0 ∧ styleOne_0 ≤ 47) (ex2 : gx = cur_0) (ex3 : 0 ≤ gx ∧ gx ≤ 2009) (ey2 : gy = fault_0) (ey3 : 0 ≤ gy ∧ gy ≤ 5) (eu2 : gu = opened_0) (eu3 : 0 ≤ gu ∧ gu ≤ 13) : 1 * gu + 0 ≤ 13 := by
  subst fe_0_8_1
  subst fe_0_10_1
  subst fe_0_157_1
  subst fe_0_159_1
  subst fe_0_164_1
  subst fe_0_165_1
  have e_hE_0_1_1 := funext hE_0_1_1; subst e_hE_0_1_1
  have e_hE_0_160_1 := funext hE_0_160_1; subst e_hE_0_160_1
  have e_hE_0_161_1 := funext hE_0_161_1; subst e_hE_0_161_1
  have e_hE_0_162_1 := funext hE_0_162_1; subst e_hE_0_162_1
  have e_hE_0_163_1 := funext hE_0_163_1; subst e_hE_0_163_1
  first | assumption | (clear f1 f12 f14 f23 hE_0_1_1 hK_0_1 hE_0_160_1 hK_0_160 hE_0_161_1 hE_0_162_1 hK_0_162 hE_0_163_1 hK_0_163; omega) | (clear hE_0_1_1 hK_0_1 hE_0_160_1 hK_0_160 hE_0_161_1 hE_0_162_1 hK_0_162 hE_0_163_1 hK_0_163; grind) | omega | grind
set_option maxHeartbeats 4000000 in
theorem vc_Mo_both_at_f13_4_13 (x1 : Int) (x2 : Int) (x3 : Int) (x6 : Int) (x7 : Int) (x9 : Int) (x10 : Int) (x11 : Int) (cur_0 : Int) (styleKind_0 : Int) (styleOne_0 : Int) (opened_0 : Int) (fault_0 : Int) (cur_1 : Int) (tokenKind_1 : Int → Int) (tokens_1 : Int) (styleKind_1 : Int) (styleOne_1 : Int) (opened_1 : Int) (fault_1 : Int) (tokenValue_1 : Int → Int) (tokenPlace_1 : Int → Int) (tokenEnd_1 : Int → Int) (tape_1 : Int → Int) (limit_1 : Int) (limit_0 : Int) (tokens_0 : Int) (tape_0 : Int → Int) (tokenKind_0 : Int → Int) (tokenValue_0 : Int → Int) (tokenPlace_0 : Int → Int) (tokenEnd_0 : Int → Int) (gx : Int) (gy : Int) (gu : Int) (k1 : 0 ≤ x1 ∧ x1 ≤ 2009) (k2 : 0 ≤ x2 ∧ x2 ≤ 5) (k3 : 0 ≤ x3 ∧ x3 ≤ 13) (k6 : 0 ≤ x6 ∧ x6 ≤ 2009) (k7 : 0 ≤ x7 ∧ x7 ≤ 2010) (k9 : 1 ≤ x9 ∧ x9 ≤ 1) (k10 : 1 ≤ x10 ∧ x10 ≤ 1) (k11 : 1 ≤ x11 ∧ x11 ≤ 2009) (d0 : x6 + 1 ≤ x11 ∧ x11 ≤ x6 + 1) (g0 : x11 = cur_0) (f1 : (styleKind_0 = 0) → (styleOne_0 ≤ 23)) (f2 : 1 * opened_0 + 0 ≤ 13) (f3 : (-1) * opened_0 + 0 ≤ (-13)) (f4 : (-1) * fault_0 + 0 ≤ (-1)) (f5 : 1 * x3 + 0 ≤ 13) (f6 : (-1) * x3 + 0 ≤ (-13)) (f9 : x11 = x6 + x10) (g10 : x6 = cur_1) (f11 : x9 ≠ 0) (f12 : ((cur_1 + 1) ≤ tokens_1) ∧ ((tokens_1 ≤ 2010) ∧ ((tokenKind_1 ((tokens_1 - 1)) = 0) ∨ (tokenKind_1 ((tokens_1 - 1)) = 4)))) (f13 : 1 * x1 + ((-1) * cur_1 + 0) ≤ 0) (f14 : (styleKind_1 = 0) → (styleOne_1 ≤ 23)) (f15 : 1 * opened_1 + 0 ≤ 13) (f16 : (-1) * opened_1 + 0 ≤ (-13)) (f17 : (-1) * fault_1 + 0 ≤ (-1)) (f18 : SBL (fault_1) (cur_1) (styleKind_1) (limit_1) (tokenKind_1) (tokenValue_1) (tokenPlace_1) (tokenEnd_1) (tape_1) (x1) (x2) (x3)) (f19 : 1 * x3 + 0 ≤ 13) (f20 : (-1) * x3 + 0 ≤ (-13)) (f21 : 1 * x7 + (1 * cur_1 + 0) ≤ 2010) (f22 : (-1) * x7 + ((-1) * cur_1 + 0) ≤ (-2010)) (f23 : (x9 = 1) → (tokenKind_1 (cur_1) = 1)) (f24 : Wqand (fault_1) (cur_1) (limit_1) (tokenKind_1) (tokenPlace_1) (tokenEnd_1) (tape_1) (x9)) (f26 : 1 * x3 + 0 ≤ 13) (f27 : (-1) * x3 + 0 ≤ (-13)) (fe_0_8_1 : fault_0 = fault_1) (fe_0_10_1 : limit_0 = limit_1) (fe_0_157_1 : tokens_0 = tokens_1) (fe_0_158_1 : cur_0 = x11) (fe_0_159_1 : opened_0 = opened_1) (fe_0_164_1 : styleKind_0 = styleKind_1) (fe_0_165_1 : styleOne_0 = styleOne_1) (hE_0_1_1 : ∀ j : Int, tape_0 j = tape_1 j) (hK_0_1 : ∀ j : Int, 0 ≤ j → j < 2000 → (-128) ≤ tape_0 j ∧ tape_0 j ≤ 127) (hE_0_160_1 : ∀ j : Int, tokenKind_0 j = tokenKind_1 j) (hK_0_160 : ∀ j : Int, 0 ≤ j → j < 2010 → 0 ≤ tokenKind_0 j ∧ tokenKind_0 j ≤ 4) (hE_0_161_1 : ∀ j : Int, tokenValue_0 j = tokenValue_1 j) (hE_0_162_1 : ∀ j : Int, tokenPlace_0 j = tokenPlace_1 j) (hK_0_162 : ∀ j : Int, 0 ≤ j → j < 2010 → 0 ≤ tokenPlace_0 j ∧ tokenPlace_0 j ≤ 2000) (hE_0_163_1 : ∀ j : Int, tokenEnd_0 j = tokenEnd_1 j) (hK_0_163 : ∀ j : Int, 0 ≤ j → j < 2010 → 0 ≤ tokenEnd_0 j ∧ tokenEnd_0 j ≤ 2000) (kz_0_8 : 0 ≤ fault_0 ∧ fault_0 ≤ 5) (kz_0_10 : 0 ≤ limit_0 ∧ limit_0 ≤ 2000) (kz_0_157 : 0 ≤ tokens_0 ∧ tokens_0 ≤ 2010) (kz_0_158 : 0 ≤ cur_0 ∧ cur_0 ≤ 2009) (kz_0_159 : 0 ≤ opened_0 ∧ opened_0 ≤ 13) (kz_0_164 : 0 ≤ styleKind_0 ∧ styleKind_0 ≤ 1) (kz_0_165 : (-1) ≤ styleOne_0 ∧ styleOne_0 ≤ 47) (ex2 : gx = cur_0) (ex3 : 0 ≤ gx ∧ gx ≤ 2009) (ey2 : gy = fault_0) (ey3 : 0 ≤ gy ∧ gy ≤ 5) (eu2 : gu = opened_0) (eu3 : 0 ≤ gu ∧ gu ≤ 13) : (-1) * gu + 0 ≤ (-13) := by
  subst fe_0_8_1
  subst fe_0_10_1
  subst fe_0_157_1
  subst fe_0_159_1
  subst fe_0_164_1
  subst fe_0_165_1
  have e_hE_0_1_1 := funext hE_0_1_1; subst e_hE_0_1_1
  have e_hE_0_160_1 := funext hE_0_160_1; subst e_hE_0_160_1
  have e_hE_0_161_1 := funext hE_0_161_1; subst e_hE_0_161_1
  have e_hE_0_162_1 := funext hE_0_162_1; subst e_hE_0_162_1
  have e_hE_0_163_1 := funext hE_0_163_1; subst e_hE_0_163_1
  first | assumption | (clear f1 f12 f14 f23 hE_0_1_1 hK_0_1 hE_0_160_1 hK_0_160 hE_0_161_1 hE_0_162_1 hK_0_162 hE_0_163_1 hK_0_163; omega) | (clear hE_0_1_1 hK_0_1 hE_0_160_1 hK_0_160 hE_0_161_1 hE_0_162_1 hK_0_162 hE_0_163_1 hK_0_163; grind) | omega | grind
def o_Mo_both_at_f13_4 : or_T := (26, 12, [(0, (2, 0, 0, [165])), (1, (0, 0, 2009, [])), (2, (0, 0, 5, [])), (3, (0, 0, 13, [])), (6, (0, 0, 2009, [])), (7, (0, 0, 2010, [])), (9, (0, 1, 1, [])), (10, (0, 1, 1, [])), (11, (0, 1, 2009, []))], [(9, [11, 4], [158]), (20, [4], [50, 2, 0, 164, 165, 4, 7, 1, 3, 2, 0, 164, 0, 0, 0, 3, 2, 0, 165, 0, 23]), (20, [4], [30, 13, 1, 1, 159]), (20, [4], [30, -13, -1, 1, 159]), (20, [4], [30, -1, -1, 1, 8]), (23, [3], [13, 1]), (23, [3], [-13, -1]), (24, [0, 4], []), (101, [4, 11], [158]), (1, [11, 6, 10], []), (9, [6, 4], [158]), (8, [9], [1]), (20, [4], [50, 2, 1, 158, 157, 160, 2, 12, 0, 7, 4, 3, 2, 0, 158, 0, 1, 2, 0, 157, 2, 7, 0, 3, 2, 0, 157, 0, 2010, 3, 14, 1, 10, 3, 0, 160, 5, 3, 2, 0, 157, 0, 1, 0, 0, 1, 10, 3, 0, 160, 5, 3, 2, 0, 157, 0, 1, 0, 4]), (20, [1, 4], [30, 0, 1, 0, 0, -1, 1, 158]), (20, [4], [50, 2, 0, 164, 165, 4, 7, 1, 3, 2, 0, 164, 0, 0, 0, 3, 2, 0, 165, 0, 23]), (20, [4], [30, 13, 1, 1, 159]), (20, [4], [30, -13, -1, 1, 159]), (20, [4], [30, -1, -1, 1, 8]), (20, [4, 1, 2, 3], [60, 4, 5, 8, 8, 158, 164, 10, 160, 161, 162, 163, 1]), (23, [3], [13, 1]), (23, [3], [-13, -1]), (20, [7, 4], [30, 2010, 1, 0, 0, 1, 1, 158]), (20, [7, 4], [30, -2010, -1, 0, 0, -1, 1, 158]), (20, [9, 4], [50, 1, 1, 1158, 1160, 4, 6, 1, 2, 1, 0, 0, 1, 1, 6, 3, 1, 160, 2, 1, 158, 0, 1]), (20, [4, 9], [60, 3, 4, 26, 8, 158, 10, 160, 162, 163, 1]), (102, [8], [0]), (23, [3], [13, 1]), (23, [3], [-13, -1])], [], [(0, 0, 2009, []), (0, 0, 5, []), (0, 0, 13, [])], [(20, [4], [50, 2, 1, 158, 157, 160, 2, 12, 0, 7, 4, 3, 2, 0, 158, 0, 1, 2, 0, 157, 2, 7, 0, 3, 2, 0, 157, 0, 2010, 3, 14, 1, 10, 3, 0, 160, 5, 3, 2, 0, 157, 0, 1, 0, 0, 1, 10, 3, 0, 160, 5, 3, 2, 0, 157, 0, 1, 0, 4]), (20, [4, 12], [30, 0, 1, 1, 158, -1, 0, 0]), (20, [4, 12], [30, 0, -1, 1, 158, 1, 0, 0]), (20, [4], [50, 2, 0, 164, 165, 4, 7, 1, 3, 2, 0, 164, 0, 0, 0, 3, 2, 0, 165, 0, 23]), (20, [4], [30, 13, 1, 1, 159]), (20, [4], [30, -13, -1, 1, 159]), (20, [4], [30, -1, -1, 1, 8]), (20, [4, 13], [50, 1, 0, 8, 1, 3, 2, 0, 8, 1, 1]), (20, [4, 14], [50, 1, 0, 159, 1, 3, 2, 0, 159, 1, 1]), (23, [1, 12], [0, 1, -1]), (23, [7, 12], [-2011, -1, -1]), (20, [4, 12, 13, 1, 2, 3], [60, 2, 5, 12, 164, 10, 160, 161, 162, 163, 1]), (23, [14], [13, 1]), (23, [14], [-13, -1])], [], [(11, 6, 1, 1)])
theorem oo_Mo_both_at_f13_4 {kA : Nat → ClassId} : or_ok PRD kA GG o_Mo_both_at_f13_4 := by
  refine or_mk fun A ta ws vs hD hth hl => ?_
  intro t0 r0 t1 k1 t2 k2 t3 k3 t6 k6 t7 k7 t9 k9 t10 k10 t11 k11 d0 f0 f1 f2 f3 f4 f5 f6 f7 ta1 w1 le1 s1 f9 f10 f11 f12 f13 f14 f15 f16 f17 f18 f19 f20 f21 f22 f23 f24 ta2 w2 le2 s2 f26 f27
  replace f0 := shm_311 f0
  replace f1 := shm_299 f1
  replace f2 := shm_1005 f2
  replace f3 := shm_1006 f3
  replace f4 := shm_144 f4
  replace f5 := shm_2014 f5
  replace f6 := shm_2015 f6
  replace f7 := shm_5 f7
  have s1 : (∀ b j, w_el ws b j = w_el w1 b j) ∧ ∀ b j, w_fd ws b j = if b = v_ad (n_v vs 4) ∧ j = 158 then n_v vs 11 else w_fd w1 b j := s1.2
  replace f9 := shm_12 f9
  replace f10 := shm_311 f10
  replace f11 := shm_154 f11
  replace f12 := shm_296 f12
  replace f13 := shm_306 f13
  replace f14 := shm_299 f14
  replace f15 := shm_1005 f15
  replace f16 := shm_1006 f16
  replace f17 := shm_144 f17
  replace f18 := shm_308 f18
  replace f19 := shm_2014 f19
  replace f20 := shm_2015 f20
  replace f21 := shm_309 f21
  replace f22 := shm_310 f22
  replace f23 := shm_312 f23
  replace f24 := shm_313 f24
  replace f26 := shm_2014 f26
  replace f27 := shm_2015 f27
  have q4 : n_v vs 4 = n_v vs 0 := f7.symm
  simp only [q4] at f0 f1 f2 f3 f4
  rw [q4] at s1
  simp only [q4] at f10 f12 f13 f14 f15 f16 f17 f18 f21 f22 f23 f24
  have ar_0_1_1 : w_ar w1 (n_v vs 0) 1 = w_ar ws (n_v vs 0) 1 := by show v_ad (w_fd w1 _ _) = v_ad (w_fd ws _ _); rw [s1.2, if_neg (fun e => absurd e.2 (by decide))]
  have cr_0_1 := fdq_46 hD hth r0
  have ar_0_160_1 : w_ar w1 (n_v vs 0) 160 = w_ar ws (n_v vs 0) 160 := by show v_ad (w_fd w1 _ _) = v_ad (w_fd ws _ _); rw [s1.2, if_neg (fun e => absurd e.2 (by decide))]
  have cr_0_160 := fdq_41 hD hth r0
  have ar_0_161_1 : w_ar w1 (n_v vs 0) 161 = w_ar ws (n_v vs 0) 161 := by show v_ad (w_fd w1 _ _) = v_ad (w_fd ws _ _); rw [s1.2, if_neg (fun e => absurd e.2 (by decide))]
  have ar_0_162_1 : w_ar w1 (n_v vs 0) 162 = w_ar ws (n_v vs 0) 162 := by show v_ad (w_fd w1 _ _) = v_ad (w_fd ws _ _); rw [s1.2, if_neg (fun e => absurd e.2 (by decide))]
  have cr_0_162 := fdq_48 hD hth r0
  have ar_0_163_1 : w_ar w1 (n_v vs 0) 163 = w_ar ws (n_v vs 0) 163 := by show v_ad (w_fd w1 _ _) = v_ad (w_fd ws _ _); rw [s1.2, if_neg (fun e => absurd e.2 (by decide))]
  have cr_0_163 := fdq_49 hD hth r0
  have g0 : v_iv (n_v vs 11) = w_fi ws (n_v vs 0) 158 := congrArg v_iv f0
  have g10 : v_iv (n_v vs 6) = w_fi w1 (n_v vs 0) 158 := congrArg v_iv f10
  simp only [ar_0_160_1, ar_0_1_1, ar_0_161_1, ar_0_162_1, ar_0_163_1] at f12 f18 f23 f24
  have fe_0_8_1 : w_fi ws (n_v vs 0) 8 = w_fi w1 (n_v vs 0) 8 := by show v_iv (w_fd _ _ _) = v_iv (w_fd _ _ _); rw [s1.2, if_neg (fun e => absurd e.2 (by decide))]
  have fe_0_10_1 : w_fi ws (n_v vs 0) 10 = w_fi w1 (n_v vs 0) 10 := by show v_iv (w_fd _ _ _) = v_iv (w_fd _ _ _); rw [s1.2, if_neg (fun e => absurd e.2 (by decide))]
  have fe_0_157_1 : w_fi ws (n_v vs 0) 157 = w_fi w1 (n_v vs 0) 157 := by show v_iv (w_fd _ _ _) = v_iv (w_fd _ _ _); rw [s1.2, if_neg (fun e => absurd e.2 (by decide))]
  have fe_0_158_1 : w_fi ws (n_v vs 0) 158 = v_iv (n_v vs 11) := by show v_iv (w_fd _ _ _) = _; rw [s1.2, if_pos ⟨rfl, rfl⟩]
  have fe_0_159_1 : w_fi ws (n_v vs 0) 159 = w_fi w1 (n_v vs 0) 159 := by show v_iv (w_fd _ _ _) = v_iv (w_fd _ _ _); rw [s1.2, if_neg (fun e => absurd e.2 (by decide))]
  have fe_0_164_1 : w_fi ws (n_v vs 0) 164 = w_fi w1 (n_v vs 0) 164 := by show v_iv (w_fd _ _ _) = v_iv (w_fd _ _ _); rw [s1.2, if_neg (fun e => absurd e.2 (by decide))]
  have fe_0_165_1 : w_fi ws (n_v vs 0) 165 = w_fi w1 (n_v vs 0) 165 := by show v_iv (w_fd _ _ _) = v_iv (w_fd _ _ _); rw [s1.2, if_neg (fun e => absurd e.2 (by decide))]
  have hE_0_1_1 : ∀ j : Int, w_ei ws (w_ar ws (n_v vs 0) 1) j = w_ei w1 (w_ar ws (n_v vs 0) 1) j := fun j => s1.1 _ _
  have hK_0_1 := elq_6 hD hth cr_0_1
  have hE_0_160_1 : ∀ j : Int, w_ei ws (w_ar ws (n_v vs 0) 160) j = w_ei w1 (w_ar ws (n_v vs 0) 160) j := fun j => s1.1 _ _
  have hK_0_160 := elq_5 hD hth cr_0_160
  have hE_0_161_1 : ∀ j : Int, w_ei ws (w_ar ws (n_v vs 0) 161) j = w_ei w1 (w_ar ws (n_v vs 0) 161) j := fun j => s1.1 _ _
  have hE_0_162_1 : ∀ j : Int, w_ei ws (w_ar ws (n_v vs 0) 162) j = w_ei w1 (w_ar ws (n_v vs 0) 162) j := fun j => s1.1 _ _
  have hK_0_162 := elq_7 hD hth cr_0_162
  have hE_0_163_1 : ∀ j : Int, w_ei ws (w_ar ws (n_v vs 0) 163) j = w_ei w1 (w_ar ws (n_v vs 0) 163) j := fun j => s1.1 _ _
  have hK_0_163 := elq_8 hD hth cr_0_163
  have kz_0_8 := fdq_14 hD hth r0
  have kz_0_10 := fdq_50 hD hth r0
  have kz_0_157 := fdq_42 hD hth r0
  have kz_0_158 := fdq_43 hD hth r0
  have kz_0_159 := fdq_44 hD hth r0
  have kz_0_164 := fdq_45 hD hth r0
  have kz_0_165 := fdq_35 hD hth r0
  obtain ⟨x, ex, hx⟩ := iv_ex (ta := ta) (lo := 0) (hi := 2009) (z := w_fi ws (n_v vs 0) 158) (by omega) (by omega) (by omega) (by omega)
  have ex2 : v_iv (Value.int x) = w_fi ws (n_v vs 0) 158 := ex
  have ex3 : 0 ≤ v_iv (Value.int x) ∧ v_iv (Value.int x) ≤ 2009 := tv_rng hx
  obtain ⟨y, ey, hy⟩ := iv_ex (ta := ta) (lo := 0) (hi := 5) (z := w_fi ws (n_v vs 0) 8) (by omega) (by omega) (by omega) (by omega)
  have ey2 : v_iv (Value.int y) = w_fi ws (n_v vs 0) 8 := ey
  have ey3 : 0 ≤ v_iv (Value.int y) ∧ v_iv (Value.int y) ≤ 5 := tv_rng hy
  obtain ⟨u, eu, hu⟩ := iv_ex (ta := ta) (lo := 0) (hi := 13) (z := w_fi ws (n_v vs 0) 159) (by omega) (by omega) (by omega) (by omega)
  have eu2 : v_iv (Value.int u) = w_fi ws (n_v vs 0) 159 := eu
  have eu3 : 0 ≤ v_iv (Value.int u) ∧ v_iv (Value.int u) ≤ 13 := tv_rng hu
  have e_1 : n_v (vs ++ [Value.int x, Value.int y, Value.int u]) 1 = n_v vs 1 := n_v_old (by rw [hl]; decide)
  have e_2 : n_v (vs ++ [Value.int x, Value.int y, Value.int u]) 2 = n_v vs 2 := n_v_old (by rw [hl]; decide)
  have e_3 : n_v (vs ++ [Value.int x, Value.int y, Value.int u]) 3 = n_v vs 3 := n_v_old (by rw [hl]; decide)
  have e_4 : n_v (vs ++ [Value.int x, Value.int y, Value.int u]) 4 = n_v vs 4 := n_v_old (by rw [hl]; decide)
  have e_7 : n_v (vs ++ [Value.int x, Value.int y, Value.int u]) 7 = n_v vs 7 := n_v_old (by rw [hl]; decide)
  have e_12 : n_v (vs ++ [Value.int x, Value.int y, Value.int u]) 12 = Value.int x := n_v_newk (k := 0) hl rfl
  have e_13 : n_v (vs ++ [Value.int x, Value.int y, Value.int u]) 13 = Value.int y := n_v_newk (k := 1) hl rfl
  have e_14 : n_v (vs ++ [Value.int x, Value.int y, Value.int u]) 14 = Value.int u := n_v_newk (k := 2) hl rfl
  have nf0 : fc_1 PRD (20, [4], [50, 2, 1, 158, 157, 160, 2, 12, 0, 7, 4, 3, 2, 0, 158, 0, 1, 2, 0, 157, 2, 7, 0, 3, 2, 0, 157, 0, 2010, 3, 14, 1, 10, 3, 0, 160, 5, 3, 2, 0, 157, 0, 1, 0, 0, 1, 10, 3, 0, 160, 5, 3, 2, 0, 157, 0, 1, 0, 4]) ws (vs ++ [Value.int x, Value.int y, Value.int u]) := by
    refine ⟨nf_inA hl rfl, sgq_296 ?_⟩
    · show ((w_fi ws (n_v (vs ++ [Value.int x, Value.int y, Value.int u]) 4) 158 + 1) ≤ w_fi ws (n_v (vs ++ [Value.int x, Value.int y, Value.int u]) 4) 157) ∧ ((w_fi ws (n_v (vs ++ [Value.int x, Value.int y, Value.int u]) 4) 157 ≤ 2010) ∧ ((w_ei ws (w_ar ws (n_v (vs ++ [Value.int x, Value.int y, Value.int u]) 4) 160) ((w_fi ws (n_v (vs ++ [Value.int x, Value.int y, Value.int u]) 4) 157 - 1)) = 0) ∨ (w_ei ws (w_ar ws (n_v (vs ++ [Value.int x, Value.int y, Value.int u]) 4) 160) ((w_fi ws (n_v (vs ++ [Value.int x, Value.int y, Value.int u]) 4) 157 - 1)) = 4)))
      simp only [e_4, q4]
      exact vc_Mo_both_at_f13_4_0 (v_iv (n_v vs 1)) (v_iv (n_v vs 2)) (v_iv (n_v vs 3)) (v_iv (n_v vs 6)) (v_iv (n_v vs 7)) (v_iv (n_v vs 9)) (v_iv (n_v vs 10)) (v_iv (n_v vs 11)) (w_fi ws (n_v vs 0) 158) (w_fi ws (n_v vs 0) 164) (w_fi ws (n_v vs 0) 165) (w_fi ws (n_v vs 0) 159) (w_fi ws (n_v vs 0) 8) (w_fi w1 (n_v vs 0) 158) (w_ei w1 (w_ar ws (n_v vs 0) 160)) (w_fi w1 (n_v vs 0) 157) (w_fi w1 (n_v vs 0) 164) (w_fi w1 (n_v vs 0) 165) (w_fi w1 (n_v vs 0) 159) (w_fi w1 (n_v vs 0) 8) (w_ei w1 (w_ar ws (n_v vs 0) 161)) (w_ei w1 (w_ar ws (n_v vs 0) 162)) (w_ei w1 (w_ar ws (n_v vs 0) 163)) (w_ei w1 (w_ar ws (n_v vs 0) 1)) (w_fi w1 (n_v vs 0) 10) (w_fi ws (n_v vs 0) 10) (w_fi ws (n_v vs 0) 157) (w_ei ws (w_ar ws (n_v vs 0) 1)) (w_ei ws (w_ar ws (n_v vs 0) 160)) (w_ei ws (w_ar ws (n_v vs 0) 161)) (w_ei ws (w_ar ws (n_v vs 0) 162)) (w_ei ws (w_ar ws (n_v vs 0) 163)) (v_iv (Value.int x)) (v_iv (Value.int y)) (v_iv (Value.int u)) k1 k2 k3 k6 k7 k9 k10 k11 d0 g0 f1 f2 f3 f4 f5 f6 f9 g10 f11 f12 f13 f14 f15 f16 f17 f18 f19 f20 f21 f22 f23 f24 f26 f27 fe_0_8_1 fe_0_10_1 fe_0_157_1 fe_0_158_1 fe_0_159_1 fe_0_164_1 fe_0_165_1 hE_0_1_1 hK_0_1 hE_0_160_1 hK_0_160 hE_0_161_1 hE_0_162_1 hK_0_162 hE_0_163_1 hK_0_163 kz_0_8 kz_0_10 kz_0_157 kz_0_158 kz_0_159 kz_0_164 kz_0_165 ex2 ex3 ey2 ey3 eu2 eu3
  have nf1 : fc_1 PRD (20, [4, 12], [30, 0, 1, 1, 158, -1, 0, 0]) ws (vs ++ [Value.int x, Value.int y, Value.int u]) := by
    refine ⟨nf_inA hl rfl, sgq_297 ?_⟩
    · show 1 * w_fi ws (n_v (vs ++ [Value.int x, Value.int y, Value.int u]) 4) 158 + ((-1) * v_iv (n_v (vs ++ [Value.int x, Value.int y, Value.int u]) 12) + 0) ≤ 0
      simp only [e_4, e_12, q4]
      exact vc_Mo_both_at_f13_4_1 (v_iv (n_v vs 1)) (v_iv (n_v vs 2)) (v_iv (n_v vs 3)) (v_iv (n_v vs 6)) (v_iv (n_v vs 7)) (v_iv (n_v vs 9)) (v_iv (n_v vs 10)) (v_iv (n_v vs 11)) (w_fi ws (n_v vs 0) 158) (w_fi ws (n_v vs 0) 164) (w_fi ws (n_v vs 0) 165) (w_fi ws (n_v vs 0) 159) (w_fi ws (n_v vs 0) 8) (w_fi w1 (n_v vs 0) 158) (w_ei w1 (w_ar ws (n_v vs 0) 160)) (w_fi w1 (n_v vs 0) 157) (w_fi w1 (n_v vs 0) 164) (w_fi w1 (n_v vs 0) 165) (w_fi w1 (n_v vs 0) 159) (w_fi w1 (n_v vs 0) 8) (w_ei w1 (w_ar ws (n_v vs 0) 161)) (w_ei w1 (w_ar ws (n_v vs 0) 162)) (w_ei w1 (w_ar ws (n_v vs 0) 163)) (w_ei w1 (w_ar ws (n_v vs 0) 1)) (w_fi w1 (n_v vs 0) 10) (w_fi ws (n_v vs 0) 10) (w_fi ws (n_v vs 0) 157) (w_ei ws (w_ar ws (n_v vs 0) 1)) (w_ei ws (w_ar ws (n_v vs 0) 160)) (w_ei ws (w_ar ws (n_v vs 0) 161)) (w_ei ws (w_ar ws (n_v vs 0) 162)) (w_ei ws (w_ar ws (n_v vs 0) 163)) (v_iv (Value.int x)) (v_iv (Value.int y)) (v_iv (Value.int u)) k1 k2 k3 k6 k7 k9 k10 k11 d0 g0 f1 f2 f3 f4 f5 f6 f9 g10 f11 f12 f13 f14 f15 f16 f17 f18 f19 f20 f21 f22 f23 f24 f26 f27 fe_0_8_1 fe_0_10_1 fe_0_157_1 fe_0_158_1 fe_0_159_1 fe_0_164_1 fe_0_165_1 hE_0_1_1 hK_0_1 hE_0_160_1 hK_0_160 hE_0_161_1 hE_0_162_1 hK_0_162 hE_0_163_1 hK_0_163 kz_0_8 kz_0_10 kz_0_157 kz_0_158 kz_0_159 kz_0_164 kz_0_165 ex2 ex3 ey2 ey3 eu2 eu3
  have nf2 : fc_1 PRD (20, [4, 12], [30, 0, -1, 1, 158, 1, 0, 0]) ws (vs ++ [Value.int x, Value.int y, Value.int u]) := by
    refine ⟨nf_inA hl rfl, sgq_298 ?_⟩
    · show (-1) * w_fi ws (n_v (vs ++ [Value.int x, Value.int y, Value.int u]) 4) 158 + (1 * v_iv (n_v (vs ++ [Value.int x, Value.int y, Value.int u]) 12) + 0) ≤ 0
      simp only [e_4, e_12, q4]
      exact vc_Mo_both_at_f13_4_2 (v_iv (n_v vs 1)) (v_iv (n_v vs 2)) (v_iv (n_v vs 3)) (v_iv (n_v vs 6)) (v_iv (n_v vs 7)) (v_iv (n_v vs 9)) (v_iv (n_v vs 10)) (v_iv (n_v vs 11)) (w_fi ws (n_v vs 0) 158) (w_fi ws (n_v vs 0) 164) (w_fi ws (n_v vs 0) 165) (w_fi ws (n_v vs 0) 159) (w_fi ws (n_v vs 0) 8) (w_fi w1 (n_v vs 0) 158) (w_ei w1 (w_ar ws (n_v vs 0) 160)) (w_fi w1 (n_v vs 0) 157) (w_fi w1 (n_v vs 0) 164) (w_fi w1 (n_v vs 0) 165) (w_fi w1 (n_v vs 0) 159) (w_fi w1 (n_v vs 0) 8) (w_ei w1 (w_ar ws (n_v vs 0) 161)) (w_ei w1 (w_ar ws (n_v vs 0) 162)) (w_ei w1 (w_ar ws (n_v vs 0) 163)) (w_ei w1 (w_ar ws (n_v vs 0) 1)) (w_fi w1 (n_v vs 0) 10) (w_fi ws (n_v vs 0) 10) (w_fi ws (n_v vs 0) 157) (w_ei ws (w_ar ws (n_v vs 0) 1)) (w_ei ws (w_ar ws (n_v vs 0) 160)) (w_ei ws (w_ar ws (n_v vs 0) 161)) (w_ei ws (w_ar ws (n_v vs 0) 162)) (w_ei ws (w_ar ws (n_v vs 0) 163)) (v_iv (Value.int x)) (v_iv (Value.int y)) (v_iv (Value.int u)) k1 k2 k3 k6 k7 k9 k10 k11 d0 g0 f1 f2 f3 f4 f5 f6 f9 g10 f11 f12 f13 f14 f15 f16 f17 f18 f19 f20 f21 f22 f23 f24 f26 f27 fe_0_8_1 fe_0_10_1 fe_0_157_1 fe_0_158_1 fe_0_159_1 fe_0_164_1 fe_0_165_1 hE_0_1_1 hK_0_1 hE_0_160_1 hK_0_160 hE_0_161_1 hE_0_162_1 hK_0_162 hE_0_163_1 hK_0_163 kz_0_8 kz_0_10 kz_0_157 kz_0_158 kz_0_159 kz_0_164 kz_0_165 ex2 ex3 ey2 ey3 eu2 eu3
  have nf3 : fc_1 PRD (20, [4], [50, 2, 0, 164, 165, 4, 7, 1, 3, 2, 0, 164, 0, 0, 0, 3, 2, 0, 165, 0, 23]) ws (vs ++ [Value.int x, Value.int y, Value.int u]) := by
    refine ⟨nf_inA hl rfl, sgq_299 ?_⟩
    · show (w_fi ws (n_v (vs ++ [Value.int x, Value.int y, Value.int u]) 4) 164 = 0) → (w_fi ws (n_v (vs ++ [Value.int x, Value.int y, Value.int u]) 4) 165 ≤ 23)
      simp only [e_4, q4]
      exact vc_Mo_both_at_f13_4_3 (v_iv (n_v vs 1)) (v_iv (n_v vs 2)) (v_iv (n_v vs 3)) (v_iv (n_v vs 6)) (v_iv (n_v vs 7)) (v_iv (n_v vs 9)) (v_iv (n_v vs 10)) (v_iv (n_v vs 11)) (w_fi ws (n_v vs 0) 158) (w_fi ws (n_v vs 0) 164) (w_fi ws (n_v vs 0) 165) (w_fi ws (n_v vs 0) 159) (w_fi ws (n_v vs 0) 8) (w_fi w1 (n_v vs 0) 158) (w_ei w1 (w_ar ws (n_v vs 0) 160)) (w_fi w1 (n_v vs 0) 157) (w_fi w1 (n_v vs 0) 164) (w_fi w1 (n_v vs 0) 165) (w_fi w1 (n_v vs 0) 159) (w_fi w1 (n_v vs 0) 8) (w_ei w1 (w_ar ws (n_v vs 0) 161)) (w_ei w1 (w_ar ws (n_v vs 0) 162)) (w_ei w1 (w_ar ws (n_v vs 0) 163)) (w_ei w1 (w_ar ws (n_v vs 0) 1)) (w_fi w1 (n_v vs 0) 10) (w_fi ws (n_v vs 0) 10) (w_fi ws (n_v vs 0) 157) (w_ei ws (w_ar ws (n_v vs 0) 1)) (w_ei ws (w_ar ws (n_v vs 0) 160)) (w_ei ws (w_ar ws (n_v vs 0) 161)) (w_ei ws (w_ar ws (n_v vs 0) 162)) (w_ei ws (w_ar ws (n_v vs 0) 163)) (v_iv (Value.int x)) (v_iv (Value.int y)) (v_iv (Value.int u)) k1 k2 k3 k6 k7 k9 k10 k11 d0 g0 f1 f2 f3 f4 f5 f6 f9 g10 f11 f12 f13 f14 f15 f16 f17 f18 f19 f20 f21 f22 f23 f24 f26 f27 fe_0_8_1 fe_0_10_1 fe_0_157_1 fe_0_158_1 fe_0_159_1 fe_0_164_1 fe_0_165_1 hE_0_1_1 hK_0_1 hE_0_160_1 hK_0_160 hE_0_161_1 hE_0_162_1 hK_0_162 hE_0_163_1 hK_0_163 kz_0_8 kz_0_10 kz_0_157 kz_0_158 kz_0_159 kz_0_164 kz_0_165 ex2 ex3 ey2 ey3 eu2 eu3
  have nf4 : fc_1 PRD (20, [4], [30, 13, 1, 1, 159]) ws (vs ++ [Value.int x, Value.int y, Value.int u]) := by
    refine ⟨nf_inA hl rfl, sgq_1005 ?_⟩
    · show 1 * w_fi ws (n_v (vs ++ [Value.int x, Value.int y, Value.int u]) 4) 159 + 0 ≤ 13
      simp only [e_4, q4]
      exact vc_Mo_both_at_f13_4_4 (v_iv (n_v vs 1)) (v_iv (n_v vs 2)) (v_iv (n_v vs 3)) (v_iv (n_v vs 6)) (v_iv (n_v vs 7)) (v_iv (n_v vs 9)) (v_iv (n_v vs 10)) (v_iv (n_v vs 11)) (w_fi ws (n_v vs 0) 158) (w_fi ws (n_v vs 0) 164) (w_fi ws (n_v vs 0) 165) (w_fi ws (n_v vs 0) 159) (w_fi ws (n_v vs 0) 8) (w_fi w1 (n_v vs 0) 158) (w_ei w1 (w_ar ws (n_v vs 0) 160)) (w_fi w1 (n_v vs 0) 157) (w_fi w1 (n_v vs 0) 164) (w_fi w1 (n_v vs 0) 165) (w_fi w1 (n_v vs 0) 159) (w_fi w1 (n_v vs 0) 8) (w_ei w1 (w_ar ws (n_v vs 0) 161)) (w_ei w1 (w_ar ws (n_v vs 0) 162)) (w_ei w1 (w_ar ws (n_v vs 0) 163)) (w_ei w1 (w_ar ws (n_v vs 0) 1)) (w_fi w1 (n_v vs 0) 10) (w_fi ws (n_v vs 0) 10) (w_fi ws (n_v vs 0) 157) (w_ei ws (w_ar ws (n_v vs 0) 1)) (w_ei ws (w_ar ws (n_v vs 0) 160)) (w_ei ws (w_ar ws (n_v vs 0) 161)) (w_ei ws (w_ar ws (n_v vs 0) 162)) (w_ei ws (w_ar ws (n_v vs 0) 163)) (v_iv (Value.int x)) (v_iv (Value.int y)) (v_iv (Value.int u)) k1 k2 k3 k6 k7 k9 k10 k11 d0 g0 f1 f2 f3 f4 f5 f6 f9 g10 f11 f12 f13 f14 f15 f16 f17 f18 f19 f20 f21 f22 f23 f24 f26 f27 fe_0_8_1 fe_0_10_1 fe_0_157_1 fe_0_158_1 fe_0_159_1 fe_0_164_1 fe_0_165_1 hE_0_1_1 hK_0_1 hE_0_160_1 hK_0_160 hE_0_161_1 hE_0_162_1 hK_0_162 hE_0_163_1 hK_0_163 kz_0_8 kz_0_10 kz_0_157 kz_0_158 kz_0_159 kz_0_164 kz_0_165 ex2 ex3 ey2 ey3 eu2 eu3
  have nf5 : fc_1 PRD (20, [4], [30, -13, -1, 1, 159]) ws (vs ++ [Value.int x, Value.int y, Value.int u]) := by
    refine ⟨nf_inA hl rfl, sgq_1006 ?_⟩
    · show (-1) * w_fi ws (n_v (vs ++ [Value.int x, Value.int y, Value.int u]) 4) 159 + 0 ≤ (-13)
      simp only [e_4, q4]
      exact vc_Mo_both_at_f13_4_5 (v_iv (n_v vs 1)) (v_iv (n_v vs 2)) (v_iv (n_v vs 3)) (v_iv (n_v vs 6)) (v_iv (n_v vs 7)) (v_iv (n_v vs 9)) (v_iv (n_v vs 10)) (v_iv (n_v vs 11)) (w_fi ws (n_v vs 0) 158) (w_fi ws (n_v vs 0) 164) (w_fi ws (n_v vs 0) 165) (w_fi ws (n_v vs 0) 159) (w_fi ws (n_v vs 0) 8) (w_fi w1 (n_v vs 0) 158) (w_ei w1 (w_ar ws (n_v vs 0) 160)) (w_fi w1 (n_v vs 0) 157) (w_fi w1 (n_v vs 0) 164) (w_fi w1 (n_v vs 0) 165) (w_fi w1 (n_v vs 0) 159) (w_fi w1 (n_v vs 0) 8) (w_ei w1 (w_ar ws (n_v vs 0) 161)) (w_ei w1 (w_ar ws (n_v vs 0) 162)) (w_ei w1 (w_ar ws (n_v vs 0) 163)) (w_ei w1 (w_ar ws (n_v vs 0) 1)) (w_fi w1 (n_v vs 0) 10) (w_fi ws (n_v vs 0) 10) (w_fi ws (n_v vs 0) 157) (w_ei ws (w_ar ws (n_v vs 0) 1)) (w_ei ws (w_ar ws (n_v vs 0) 160)) (w_ei ws (w_ar ws (n_v vs 0) 161)) (w_ei ws (w_ar ws (n_v vs 0) 162)) (w_ei ws (w_ar ws (n_v vs 0) 163)) (v_iv (Value.int x)) (v_iv (Value.int y)) (v_iv (Value.int u)) k1 k2 k3 k6 k7 k9 k10 k11 d0 g0 f1 f2 f3 f4 f5 f6 f9 g10 f11 f12 f13 f14 f15 f16 f17 f18 f19 f20 f21 f22 f23 f24 f26 f27 fe_0_8_1 fe_0_10_1 fe_0_157_1 fe_0_158_1 fe_0_159_1 fe_0_164_1 fe_0_165_1 hE_0_1_1 hK_0_1 hE_0_160_1 hK_0_160 hE_0_161_1 hE_0_162_1 hK_0_162 hE_0_163_1 hK_0_163 kz_0_8 kz_0_10 kz_0_157 kz_0_158 kz_0_159 kz_0_164 kz_0_165 ex2 ex3 ey2 ey3 eu2 eu3
  have nf6 : fc_1 PRD (20, [4], [30, -1, -1, 1, 8]) ws (vs ++ [Value.int x, Value.int y, Value.int u]) := by
    refine ⟨nf_inA hl rfl, sgq_144 ?_⟩
    · show (-1) * w_fi ws (n_v (vs ++ [Value.int x, Value.int y, Value.int u]) 4) 8 + 0 ≤ (-1)
      simp only [e_4, q4]
      exact vc_Mo_both_at_f13_4_6 (v_iv (n_v vs 1)) (v_iv (n_v vs 2)) (v_iv (n_v vs 3)) (v_iv (n_v vs 6)) (v_iv (n_v vs 7)) (v_iv (n_v vs 9)) (v_iv (n_v vs 10)) (v_iv (n_v vs 11)) (w_fi ws (n_v vs 0) 158) (w_fi ws (n_v vs 0) 164) (w_fi ws (n_v vs 0) 165) (w_fi ws (n_v vs 0) 159) (w_fi ws (n_v vs 0) 8) (w_fi w1 (n_v vs 0) 158) (w_ei w1 (w_ar ws (n_v vs 0) 160)) (w_fi w1 (n_v vs 0) 157) (w_fi w1 (n_v vs 0) 164) (w_fi w1 (n_v vs 0) 165) (w_fi w1 (n_v vs 0) 159) (w_fi w1 (n_v vs 0) 8) (w_ei w1 (w_ar ws (n_v vs 0) 161)) (w_ei w1 (w_ar ws (n_v vs 0) 162)) (w_ei w1 (w_ar ws (n_v vs 0) 163)) (w_ei w1 (w_ar ws (n_v vs 0) 1)) (w_fi w1 (n_v vs 0) 10) (w_fi ws (n_v vs 0) 10) (w_fi ws (n_v vs 0) 157) (w_ei ws (w_ar ws (n_v vs 0) 1)) (w_ei ws (w_ar ws (n_v vs 0) 160)) (w_ei ws (w_ar ws (n_v vs 0) 161)) (w_ei ws (w_ar ws (n_v vs 0) 162)) (w_ei ws (w_ar ws (n_v vs 0) 163)) (v_iv (Value.int x)) (v_iv (Value.int y)) (v_iv (Value.int u)) k1 k2 k3 k6 k7 k9 k10 k11 d0 g0 f1 f2 f3 f4 f5 f6 f9 g10 f11 f12 f13 f14 f15 f16 f17 f18 f19 f20 f21 f22 f23 f24 f26 f27 fe_0_8_1 fe_0_10_1 fe_0_157_1 fe_0_158_1 fe_0_159_1 fe_0_164_1 fe_0_165_1 hE_0_1_1 hK_0_1 hE_0_160_1 hK_0_160 hE_0_161_1 hE_0_162_1 hK_0_162 hE_0_163_1 hK_0_163 kz_0_8 kz_0_10 kz_0_157 kz_0_158 kz_0_159 kz_0_164 kz_0_165 ex2 ex3 ey2 ey3 eu2 eu3
  have nf7 : fc_1 PRD (20, [4, 13], [50, 1, 0, 8, 1, 3, 2, 0, 8, 1, 1]) ws (vs ++ [Value.int x, Value.int y, Value.int u]) := by
    refine ⟨nf_inA hl rfl, sgq_302 ?_⟩
    · show w_fi ws (n_v (vs ++ [Value.int x, Value.int y, Value.int u]) 4) 8 = v_iv (n_v (vs ++ [Value.int x, Value.int y, Value.int u]) 13)
      simp only [e_4, e_13, q4]
      exact vc_Mo_both_at_f13_4_7 (v_iv (n_v vs 1)) (v_iv (n_v vs 2)) (v_iv (n_v vs 3)) (v_iv (n_v vs 6)) (v_iv (n_v vs 7)) (v_iv (n_v vs 9)) (v_iv (n_v vs 10)) (v_iv (n_v vs 11)) (w_fi ws (n_v vs 0) 158) (w_fi ws (n_v vs 0) 164) (w_fi ws (n_v vs 0) 165) (w_fi ws (n_v vs 0) 159) (w_fi ws (n_v vs 0) 8) (w_fi w1 (n_v vs 0) 158) (w_ei w1 (w_ar ws (n_v vs 0) 160)) (w_fi w1 (n_v vs 0) 157) (w_fi w1 (n_v vs 0) 164) (w_fi w1 (n_v vs 0) 165) (w_fi w1 (n_v vs 0) 159) (w_fi w1 (n_v vs 0) 8) (w_ei w1 (w_ar ws (n_v vs 0) 161)) (w_ei w1 (w_ar ws (n_v vs 0) 162)) (w_ei w1 (w_ar ws (n_v vs 0) 163)) (w_ei w1 (w_ar ws (n_v vs 0) 1)) (w_fi w1 (n_v vs 0) 10) (w_fi ws (n_v vs 0) 10) (w_fi ws (n_v vs 0) 157) (w_ei ws (w_ar ws (n_v vs 0) 1)) (w_ei ws (w_ar ws (n_v vs 0) 160)) (w_ei ws (w_ar ws (n_v vs 0) 161)) (w_ei ws (w_ar ws (n_v vs 0) 162)) (w_ei ws (w_ar ws (n_v vs 0) 163)) (v_iv (Value.int x)) (v_iv (Value.int y)) (v_iv (Value.int u)) k1 k2 k3 k6 k7 k9 k10 k11 d0 g0 f1 f2 f3 f4 f5 f6 f9 g10 f11 f12 f13 f14 f15 f16 f17 f18 f19 f20 f21 f22 f23 f24 f26 f27 fe_0_8_1 fe_0_10_1 fe_0_157_1 fe_0_158_1 fe_0_159_1 fe_0_164_1 fe_0_165_1 hE_0_1_1 hK_0_1 hE_0_160_1 hK_0_160 hE_0_161_1 hE_0_162_1 hK_0_162 hE_0_163_1 hK_0_163 kz_0_8 kz_0_10 kz_0_157 kz_0_158 kz_0_159 kz_0_164 kz_0_165 ex2 ex3 ey2 ey3 eu2 eu3
  have nf8 : fc_1 PRD (20, [4, 14], [50, 1, 0, 159, 1, 3, 2, 0, 159, 1, 1]) ws (vs ++ [Value.int x, Value.int y, Value.int u]) := by
    refine ⟨nf_inA hl rfl, sgq_303 ?_⟩
    · show w_fi ws (n_v (vs ++ [Value.int x, Value.int y, Value.int u]) 4) 159 = v_iv (n_v (vs ++ [Value.int x, Value.int y, Value.int u]) 14)
      simp only [e_4, e_14, q4]
      exact vc_Mo_both_at_f13_4_8 (v_iv (n_v vs 1)) (v_iv (n_v vs 2)) (v_iv (n_v vs 3)) (v_iv (n_v vs 6)) (v_iv (n_v vs 7)) (v_iv (n_v vs 9)) (v_iv (n_v vs 10)) (v_iv (n_v vs 11)) (w_fi ws (n_v vs 0) 158) (w_fi ws (n_v vs 0) 164) (w_fi ws (n_v vs 0) 165) (w_fi ws (n_v vs 0) 159) (w_fi ws (n_v vs 0) 8) (w_fi w1 (n_v vs 0) 158) (w_ei w1 (w_ar ws (n_v vs 0) 160)) (w_fi w1 (n_v vs 0) 157) (w_fi w1 (n_v vs 0) 164) (w_fi w1 (n_v vs 0) 165) (w_fi w1 (n_v vs 0) 159) (w_fi w1 (n_v vs 0) 8) (w_ei w1 (w_ar ws (n_v vs 0) 161)) (w_ei w1 (w_ar ws (n_v vs 0) 162)) (w_ei w1 (w_ar ws (n_v vs 0) 163)) (w_ei w1 (w_ar ws (n_v vs 0) 1)) (w_fi w1 (n_v vs 0) 10) (w_fi ws (n_v vs 0) 10) (w_fi ws (n_v vs 0) 157) (w_ei ws (w_ar ws (n_v vs 0) 1)) (w_ei ws (w_ar ws (n_v vs 0) 160)) (w_ei ws (w_ar ws (n_v vs 0) 161)) (w_ei ws (w_ar ws (n_v vs 0) 162)) (w_ei ws (w_ar ws (n_v vs 0) 163)) (v_iv (Value.int x)) (v_iv (Value.int y)) (v_iv (Value.int u)) k1 k2 k3 k6 k7 k9 k10 k11 d0 g0 f1 f2 f3 f4 f5 f6 f9 g10 f11 f12 f13 f14 f15 f16 f17 f18 f19 f20 f21 f22 f23 f24 f26 f27 fe_0_8_1 fe_0_10_1 fe_0_157_1 fe_0_158_1 fe_0_159_1 fe_0_164_1 fe_0_165_1 hE_0_1_1 hK_0_1 hE_0_160_1 hK_0_160 hE_0_161_1 hE_0_162_1 hK_0_162 hE_0_163_1 hK_0_163 kz_0_8 kz_0_10 kz_0_157 kz_0_158 kz_0_159 kz_0_164 kz_0_165 ex2 ex3 ey2 ey3 eu2 eu3
  have nf9 : fc_1 PRD (23, [1, 12], [0, 1, -1]) ws (vs ++ [Value.int x, Value.int y, Value.int u]) := by
    refine ⟨nf_inA hl rfl, sgq_7 ?_⟩
    · show 1 * v_iv (n_v (vs ++ [Value.int x, Value.int y, Value.int u]) 1) + ((-1) * v_iv (n_v (vs ++ [Value.int x, Value.int y, Value.int u]) 12) + 0) ≤ 0
      simp only [e_1, e_12]
      exact vc_Mo_both_at_f13_4_9 (v_iv (n_v vs 1)) (v_iv (n_v vs 2)) (v_iv (n_v vs 3)) (v_iv (n_v vs 6)) (v_iv (n_v vs 7)) (v_iv (n_v vs 9)) (v_iv (n_v vs 10)) (v_iv (n_v vs 11)) (w_fi ws (n_v vs 0) 158) (w_fi ws (n_v vs 0) 164) (w_fi ws (n_v vs 0) 165) (w_fi ws (n_v vs 0) 159) (w_fi ws (n_v vs 0) 8) (w_fi w1 (n_v vs 0) 158) (w_ei w1 (w_ar ws (n_v vs 0) 160)) (w_fi w1 (n_v vs 0) 157) (w_fi w1 (n_v vs 0) 164) (w_fi w1 (n_v vs 0) 165) (w_fi w1 (n_v vs 0) 159) (w_fi w1 (n_v vs 0) 8) (w_ei w1 (w_ar ws (n_v vs 0) 161)) (w_ei w1 (w_ar ws (n_v vs 0) 162)) (w_ei w1 (w_ar ws (n_v vs 0) 163)) (w_ei w1 (w_ar ws (n_v vs 0) 1)) (w_fi w1 (n_v vs 0) 10) (w_fi ws (n_v vs 0) 10) (w_fi ws (n_v vs 0) 157) (w_ei ws (w_ar ws (n_v vs 0) 1)) (w_ei ws (w_ar ws (n_v vs 0) 160)) (w_ei ws (w_ar ws (n_v vs 0) 161)) (w_ei ws (w_ar ws (n_v vs 0) 162)) (w_ei ws (w_ar ws (n_v vs 0) 163)) (v_iv (Value.int x)) (v_iv (Value.int y)) (v_iv (Value.int u)) k1 k2 k3 k6 k7 k9 k10 k11 d0 g0 f1 f2 f3 f4 f5 f6 f9 g10 f11 f12 f13 f14 f15 f16 f17 f18 f19 f20 f21 f22 f23 f24 f26 f27 fe_0_8_1 fe_0_10_1 fe_0_157_1 fe_0_158_1 fe_0_159_1 fe_0_164_1 fe_0_165_1 hE_0_1_1 hK_0_1 hE_0_160_1 hK_0_160 hE_0_161_1 hE_0_162_1 hK_0_162 hE_0_163_1 hK_0_163 kz_0_8 kz_0_10 kz_0_157 kz_0_158 kz_0_159 kz_0_164 kz_0_165 ex2 ex3 ey2 ey3 eu2 eu3
  have nf10 : fc_1 PRD (23, [7, 12], [-2011, -1, -1]) ws (vs ++ [Value.int x, Value.int y, Value.int u]) := by
    refine ⟨nf_inA hl rfl, sgq_315 ?_⟩
    · show (-1) * v_iv (n_v (vs ++ [Value.int x, Value.int y, Value.int u]) 7) + ((-1) * v_iv (n_v (vs ++ [Value.int x, Value.int y, Value.int u]) 12) + 0) ≤ (-2011)
      simp only [e_7, e_12]
      exact vc_Mo_both_at_f13_4_10 (v_iv (n_v vs 1)) (v_iv (n_v vs 2)) (v_iv (n_v vs 3)) (v_iv (n_v vs 6)) (v_iv (n_v vs 7)) (v_iv (n_v vs 9)) (v_iv (n_v vs 10)) (v_iv (n_v vs 11)) (w_fi ws (n_v vs 0) 158) (w_fi ws (n_v vs 0) 164) (w_fi ws (n_v vs 0) 165) (w_fi ws (n_v vs 0) 159) (w_fi ws (n_v vs 0) 8) (w_fi w1 (n_v vs 0) 158) (w_ei w1 (w_ar ws (n_v vs 0) 160)) (w_fi w1 (n_v vs 0) 157) (w_fi w1 (n_v vs 0) 164) (w_fi w1 (n_v vs 0) 165) (w_fi w1 (n_v vs 0) 159) (w_fi w1 (n_v vs 0) 8) (w_ei w1 (w_ar ws (n_v vs 0) 161)) (w_ei w1 (w_ar ws (n_v vs 0) 162)) (w_ei w1 (w_ar ws (n_v vs 0) 163)) (w_ei w1 (w_ar ws (n_v vs 0) 1)) (w_fi w1 (n_v vs 0) 10) (w_fi ws (n_v vs 0) 10) (w_fi ws (n_v vs 0) 157) (w_ei ws (w_ar ws (n_v vs 0) 1)) (w_ei ws (w_ar ws (n_v vs 0) 160)) (w_ei ws (w_ar ws (n_v vs 0) 161)) (w_ei ws (w_ar ws (n_v vs 0) 162)) (w_ei ws (w_ar ws (n_v vs 0) 163)) (v_iv (Value.int x)) (v_iv (Value.int y)) (v_iv (Value.int u)) k1 k2 k3 k6 k7 k9 k10 k11 d0 g0 f1 f2 f3 f4 f5 f6 f9 g10 f11 f12 f13 f14 f15 f16 f17 f18 f19 f20 f21 f22 f23 f24 f26 f27 fe_0_8_1 fe_0_10_1 fe_0_157_1 fe_0_158_1 fe_0_159_1 fe_0_164_1 fe_0_165_1 hE_0_1_1 hK_0_1 hE_0_160_1 hK_0_160 hE_0_161_1 hE_0_162_1 hK_0_162 hE_0_163_1 hK_0_163 kz_0_8 kz_0_10 kz_0_157 kz_0_158 kz_0_159 kz_0_164 kz_0_165 ex2 ex3 ey2 ey3 eu2 eu3
  have nf11 : fc_1 PRD (20, [4, 12, 13, 1, 2, 3], [60, 2, 5, 12, 164, 10, 160, 161, 162, 163, 1]) ws (vs ++ [Value.int x, Value.int y, Value.int u]) := by
    refine ⟨nf_inA hl rfl, sgq_316 ?_⟩
    · show GBL (w_fi ws (n_v (vs ++ [Value.int x, Value.int y, Value.int u]) 4) 164) (w_fi ws (n_v (vs ++ [Value.int x, Value.int y, Value.int u]) 4) 10) (w_ei ws (w_ar ws (n_v (vs ++ [Value.int x, Value.int y, Value.int u]) 4) 160)) (w_ei ws (w_ar ws (n_v (vs ++ [Value.int x, Value.int y, Value.int u]) 4) 161)) (w_ei ws (w_ar ws (n_v (vs ++ [Value.int x, Value.int y, Value.int u]) 4) 162)) (w_ei ws (w_ar ws (n_v (vs ++ [Value.int x, Value.int y, Value.int u]) 4) 163)) (w_ei ws (w_ar ws (n_v (vs ++ [Value.int x, Value.int y, Value.int u]) 4) 1)) (v_iv (n_v (vs ++ [Value.int x, Value.int y, Value.int u]) 12)) (v_iv (n_v (vs ++ [Value.int x, Value.int y, Value.int u]) 13)) (v_iv (n_v (vs ++ [Value.int x, Value.int y, Value.int u]) 1)) (v_iv (n_v (vs ++ [Value.int x, Value.int y, Value.int u]) 2)) (v_iv (n_v (vs ++ [Value.int x, Value.int y, Value.int u]) 3))
      simp only [e_1, e_2, e_3, e_4, e_12, e_13, q4]
      exact vc_Mo_both_at_f13_4_11 (v_iv (n_v vs 1)) (v_iv (n_v vs 2)) (v_iv (n_v vs 3)) (v_iv (n_v vs 9)) (w_fi ws (n_v vs 0) 164) (w_fi ws (n_v vs 0) 165) (w_fi ws (n_v vs 0) 159) (w_fi ws (n_v vs 0) 8) (w_fi w1 (n_v vs 0) 158) (w_ei w1 (w_ar ws (n_v vs 0) 160)) (w_fi w1 (n_v vs 0) 157) (w_fi w1 (n_v vs 0) 164) (w_fi w1 (n_v vs 0) 165) (w_fi w1 (n_v vs 0) 159) (w_fi w1 (n_v vs 0) 8) (w_ei w1 (w_ar ws (n_v vs 0) 161)) (w_ei w1 (w_ar ws (n_v vs 0) 162)) (w_ei w1 (w_ar ws (n_v vs 0) 163)) (w_ei w1 (w_ar ws (n_v vs 0) 1)) (w_fi w1 (n_v vs 0) 10) (w_fi ws (n_v vs 0) 10) (w_fi ws (n_v vs 0) 157) (w_ei ws (w_ar ws (n_v vs 0) 1)) (w_ei ws (w_ar ws (n_v vs 0) 160)) (w_ei ws (w_ar ws (n_v vs 0) 161)) (w_ei ws (w_ar ws (n_v vs 0) 162)) (w_ei ws (w_ar ws (n_v vs 0) 163)) (v_iv (Value.int x)) (v_iv (Value.int y)) k1 k2 k3 k9 f4 f18 f24 fe_0_8_1 fe_0_10_1 fe_0_157_1 fe_0_159_1 fe_0_164_1 fe_0_165_1 hE_0_1_1 hE_0_160_1 hE_0_161_1 hE_0_162_1 hE_0_163_1 kz_0_8 kz_0_10 kz_0_157 kz_0_159 kz_0_164 kz_0_165 ey2
  have nf12 : fc_1 PRD (23, [14], [13, 1]) ws (vs ++ [Value.int x, Value.int y, Value.int u]) := by
    refine ⟨nf_inA hl rfl, sgq_2014 ?_⟩
    · show 1 * v_iv (n_v (vs ++ [Value.int x, Value.int y, Value.int u]) 14) + 0 ≤ 13
      rw [e_14]
      exact vc_Mo_both_at_f13_4_12 (v_iv (n_v vs 1)) (v_iv (n_v vs 2)) (v_iv (n_v vs 3)) (v_iv (n_v vs 6)) (v_iv (n_v vs 7)) (v_iv (n_v vs 9)) (v_iv (n_v vs 10)) (v_iv (n_v vs 11)) (w_fi ws (n_v vs 0) 158) (w_fi ws (n_v vs 0) 164) (w_fi ws (n_v vs 0) 165) (w_fi ws (n_v vs 0) 159) (w_fi ws (n_v vs 0) 8) (w_fi w1 (n_v vs 0) 158) (w_ei w1 (w_ar ws (n_v vs 0) 160)) (w_fi w1 (n_v vs 0) 157) (w_fi w1 (n_v vs 0) 164) (w_fi w1 (n_v vs 0) 165) (w_fi w1 (n_v vs 0) 159) (w_fi w1 (n_v vs 0) 8) (w_ei w1 (w_ar ws (n_v vs 0) 161)) (w_ei w1 (w_ar ws (n_v vs 0) 162)) (w_ei w1 (w_ar ws (n_v vs 0) 163)) (w_ei w1 (w_ar ws (n_v vs 0) 1)) (w_fi w1 (n_v vs 0) 10) (w_fi ws (n_v vs 0) 10) (w_fi ws (n_v vs 0) 157) (w_ei ws (w_ar ws (n_v vs 0) 1)) (w_ei ws (w_ar ws (n_v vs 0) 160)) (w_ei ws (w_ar ws (n_v vs 0) 161)) (w_ei ws (w_ar ws (n_v vs 0) 162)) (w_ei ws (w_ar ws (n_v vs 0) 163)) (v_iv (Value.int x)) (v_iv (Value.int y)) (v_iv (Value.int u)) k1 k2 k3 k6 k7 k9 k10 k11 d0 g0 f1 f2 f3 f4 f5 f6 f9 g10 f11 f12 f13 f14 f15 f16 f17 f18 f19 f20 f21 f22 f23 f24 f26 f27 fe_0_8_1 fe_0_10_1 fe_0_157_1 fe_0_158_1 fe_0_159_1 fe_0_164_1 fe_0_165_1 hE_0_1_1 hK_0_1 hE_0_160_1 hK_0_160 hE_0_161_1 hE_0_162_1 hK_0_162 hE_0_163_1 hK_0_163 kz_0_8 kz_0_10 kz_0_157 kz_0_158 kz_0_159 kz_0_164 kz_0_165 ex2 ex3 ey2 ey3 eu2 eu3
  have nf13 : fc_1 PRD (23, [14], [-13, -1]) ws (vs ++ [Value.int x, Value.int y, Value.int u]) := by
    refine ⟨nf_inA hl rfl, sgq_2015 ?_⟩
    · show (-1) * v_iv (n_v (vs ++ [Value.int x, Value.int y, Value.int u]) 14) + 0 ≤ (-13)
      rw [e_14]
      exact vc_Mo_both_at_f13_4_13 (v_iv (n_v vs 1)) (v_iv (n_v vs 2)) (v_iv (n_v vs 3)) (v_iv (n_v vs 6)) (v_iv (n_v vs 7)) (v_iv (n_v vs 9)) (v_iv (n_v vs 10)) (v_iv (n_v vs 11)) (w_fi ws (n_v vs 0) 158) (w_fi ws (n_v vs 0) 164) (w_fi ws (n_v vs 0) 165) (w_fi ws (n_v vs 0) 159) (w_fi ws (n_v vs 0) 8) (w_fi w1 (n_v vs 0) 158) (w_ei w1 (w_ar ws (n_v vs 0) 160)) (w_fi w1 (n_v vs 0) 157) (w_fi w1 (n_v vs 0) 164) (w_fi w1 (n_v vs 0) 165) (w_fi w1 (n_v vs 0) 159) (w_fi w1 (n_v vs 0) 8) (w_ei w1 (w_ar ws (n_v vs 0) 161)) (w_ei w1 (w_ar ws (n_v vs 0) 162)) (w_ei w1 (w_ar ws (n_v vs 0) 163)) (w_ei w1 (w_ar ws (n_v vs 0) 1)) (w_fi w1 (n_v vs 0) 10) (w_fi ws (n_v vs 0) 10) (w_fi ws (n_v vs 0) 157) (w_ei ws (w_ar ws (n_v vs 0) 1)) (w_ei ws (w_ar ws (n_v vs 0) 160)) (w_ei ws (w_ar ws (n_v vs 0) 161)) (w_ei ws (w_ar ws (n_v vs 0) 162)) (w_ei ws (w_ar ws (n_v vs 0) 163)) (v_iv (Value.int x)) (v_iv (Value.int y)) (v_iv (Value.int u)) k1 k2 k3 k6 k7 k9 k10 k11 d0 g0 f1 f2 f3 f4 f5 f6 f9 g10 f11 f12 f13 f14 f15 f16 f17 f18 f19 f20 f21 f22 f23 f24 f26 f27 fe_0_8_1 fe_0_10_1 fe_0_157_1 fe_0_158_1 fe_0_159_1 fe_0_164_1 fe_0_165_1 hE_0_1_1 hK_0_1 hE_0_160_1 hK_0_160 hE_0_161_1 hE_0_162_1 hK_0_162 hE_0_163_1 hK_0_163 kz_0_8 kz_0_10 kz_0_157 kz_0_158 kz_0_159 kz_0_164 kz_0_165 ex2 ex3 ey2 ey3 eu2 eu3
  exact ⟨(fun _ h => (by cases h)), [Value.int x, Value.int y, Value.int u], ag_three hx hy hu, List.forall_mem_cons.mpr ⟨⟨show (20 : Nat) < 100 from by decide, nf0⟩, List.forall_mem_cons.mpr ⟨⟨show (20 : Nat) < 100 from by decide, nf1⟩, List.forall_mem_cons.mpr ⟨⟨show (20 : Nat) < 100 from by decide, nf2⟩, List.forall_mem_cons.mpr ⟨⟨show (20 : Nat) < 100 from by decide, nf3⟩, List.forall_mem_cons.mpr ⟨⟨show (20 : Nat) < 100 from by decide, nf4⟩, List.forall_mem_cons.mpr ⟨⟨show (20 : Nat) < 100 from by decide, nf5⟩, List.forall_mem_cons.mpr ⟨⟨show (20 : Nat) < 100 from by decide, nf6⟩, List.forall_mem_cons.mpr ⟨⟨show (20 : Nat) < 100 from by decide, nf7⟩, List.forall_mem_cons.mpr ⟨⟨show (20 : Nat) < 100 from by decide, nf8⟩, List.forall_mem_cons.mpr ⟨⟨show (23 : Nat) < 100 from by decide, nf9⟩, List.forall_mem_cons.mpr ⟨⟨show (23 : Nat) < 100 from by decide, nf10⟩, List.forall_mem_cons.mpr ⟨⟨show (20 : Nat) < 100 from by decide, nf11⟩, List.forall_mem_cons.mpr ⟨⟨show (23 : Nat) < 100 from by decide, nf12⟩, List.forall_mem_cons.mpr ⟨⟨show (23 : Nat) < 100 from by decide, nf13⟩, (fun _ h => (by cases h))⟩⟩⟩⟩⟩⟩⟩⟩⟩⟩⟩⟩⟩⟩, (fun _ h => (by cases h))⟩
set_option maxHeartbeats 4000000 in
theorem vc_Mo_both_at_f13_5_0 (x1 : Int) (x2 : Int) (x3 : Int) (x6 : Int) (x7 : Int) (x10 : Int) (x11 : Int) (x12 : Int) (x13 : Int) (x14 : Int) (cur_0 : Int) (styleKind_0 : Int) (styleOne_0 : Int) (fault_0 : Int) (opened_0 : Int) (tokenKind_0 : Int → Int) (tokenValue_0 : Int → Int) (tokenPlace_0 : Int → Int) (tokenEnd_0 : Int → Int) (tape_0 : Int → Int) (limit_0 : Int) (tokens_0 : Int) (gx : Int) (k1 : 0 ≤ x1 ∧ x1 ≤ 2009) (k2 : 0 ≤ x2 ∧ x2 ≤ 5) (k3 : 0 ≤ x3 ∧ x3 ≤ 13) (k6 : 0 ≤ x6 ∧ x6 ≤ 2009) (k7 : 0 ≤ x7 ∧ x7 ≤ 2010) (k10 : 1 ≤ x10 ∧ x10 ≤ 1) (k11 : 1 ≤ x11 ∧ x11 ≤ 2009) (k12 : 0 ≤ x12 ∧ x12 ≤ 2009) (k13 : 0 ≤ x13 ∧ x13 ≤ 5) (k14 : 0 ≤ x14 ∧ x14 ≤ 13) (d0 : x6 + 1 ≤ x11 ∧ x11 ≤ x6 + 1) (g0 : x11 = cur_0) (f1 : 1 * cur_0 + ((-1) * x12 + 0) ≤ 0) (f2 : (-1) * cur_0 + (1 * x12 + 0) ≤ 0) (f3 : (styleKind_0 = 0) → (styleOne_0 ≤ 23)) (f4 : fault_0 = x13) (f5 : opened_0 = x14) (f6 : 1 * x1 + ((-1) * x12 + 0) ≤ 0) (f7 : (-1) * x7 + ((-1) * x12 + 0) ≤ (-2011)) (f8 : GBL (styleKind_0) (limit_0) (tokenKind_0) (tokenValue_0) (tokenPlace_0) (tokenEnd_0) (tape_0) (x12) (x13) (x1) (x2) (x3)) (f9 : 1 * x14 + 0 ≤ 13) (f10 : (-1) * x14 + 0 ≤ (-13)) (f11 : (styleKind_0 = 0) → (styleOne_0 ≤ 23)) (f12 : 1 * x3 + 0 ≤ 13) (f13 : (-1) * x3 + 0 ≤ (-13)) (f15 : ((cur_0 + 1) ≤ tokens_0) ∧ ((tokens_0 ≤ 2010) ∧ ((tokenKind_0 ((tokens_0 - 1)) = 0) ∨ (tokenKind_0 ((tokens_0 - 1)) = 4)))) (f16 : 1 * x12 + ((-1) * cur_0 + 0) ≤ 0) (f17 : 1 * opened_0 + 0 ≤ 13) (f18 : (-1) * opened_0 + 0 ≤ (-13)) (f19 : (-1) * fault_0 + 0 ≤ (-1)) (f20 : SON (fault_0) (cur_0) (styleKind_0) (limit_0) (tokenKind_0) (tokenValue_0) (tokenPlace_0) (tokenEnd_0) (tape_0) (x12) (x13) (x14)) (f22 : 1 * x1 + ((-1) * x12 + 0) ≤ 0) (f23 : (-1) * x7 + ((-1) * x12 + 0) ≤ (-2011)) (f24 : 1 * x14 + 0 ≤ 13) (f25 : (-1) * x14 + 0 ≤ (-13)) (f26 : 1 * x3 + 0 ≤ 13) (f27 : (-1) * x3 + 0 ≤ (-13)) (f29 : x11 = x6 + x10) (f30 : 1 * x3 + 0 ≤ 13) (f31 : (-1) * x3 + 0 ≤ (-13)) (f33 : 1 * x3 + 0 ≤ 13) (f34 : (-1) * x3 + 0 ≤ (-13)) (hK_0_1 : ∀ j : Int, 0 ≤ j → j < 2000 → (-128) ≤ tape_0 j ∧ tape_0 j ≤ 127) (hK_0_160 : ∀ j : Int, 0 ≤ j → j < 2010 → 0 ≤ tokenKind_0 j ∧ tokenKind_0 j ≤ 4) (hK_0_162 : ∀ j : Int, 0 ≤ j → j < 2010 → 0 ≤ tokenPlace_0 j ∧ tokenPlace_0 j ≤ 2000) (hK_0_163 : ∀ j : Int, 0 ≤ j → j < 2010 → 0 ≤ tokenEnd_0 j ∧ tokenEnd_0 j ≤ 2000) (kz_0_8 : 0 ≤ fault_0 ∧ fault_0 ≤ 5) (kz_0_10 : 0 ≤ limit_0 ∧ limit_0 ≤ 2000) (kz_0_157 : 0 ≤ tokens_0 ∧ tokens_0 ≤ 2010) (kz_0_158 : 0 ≤ cur_0 ∧ cur_0 ≤ 2009) (kz_0_159 : 0 ≤ opened_0 ∧ opened_0 ≤ 13) (kz_0_164 : 0 ≤ styleKind_0 ∧ styleKind_0 ≤ 1) (kz_0_165 : (-1) ≤ styleOne_0 ∧ styleOne_0 ≤ 47) (ex2 : gx = 0 + (1 * x7 + 0)) (ex3 : 0 ≤ gx ∧ gx ≤ 2010) : ((cur_0 + 1) ≤ tokens_0) ∧ ((tokens_0 ≤ 2010) ∧ ((tokenKind_0 ((tokens_0 - 1)) = 0) ∨ (tokenKind_0 ((tokens_0 - 1)) = 4))) := by
  first | assumption | (clear f3 f11 f15 hK_0_1 hK_0_160 hK_0_162 hK_0_163; omega) | (clear hK_0_1 hK_0_160 hK_0_162 hK_0_163; grind) | omega | grind
set_option maxHeartbeats 4000000 in
theorem vc_Mo_both_at_f13_5_1 (x1 : Int) (x2 : Int) (x3 : Int) (x6 : Int) (x7 : Int) (x10 : Int) (x11 : Int) (x12 : Int) (x13 : Int) (x14 : Int) (cur_0 : Int) (styleKind_0 : Int) (styleOne_0 : Int) (fault_0 : Int) (opened_0 : Int) (tokenKind_0 : Int → Int) (tokenValue_0 : Int → Int) (tokenPlace_0 : Int → Int) (tokenEnd_0 : Int → Int) (tape_0 : Int → Int) (limit_0 : Int) (tokens_0 : Int) (gx : Int) (k1 : 0 ≤ x1 ∧ x1 ≤ 2009) (k2 : 0 ≤ x2 ∧ x2 ≤ 5) (k3 : 0 ≤ x3 ∧ x3 ≤ 13) (k6 : 0 ≤ x6 ∧ x6 ≤ 2009) (k7 : 0 ≤ x7 ∧ x7 ≤ 2010) (k10 : 1 ≤ x10 ∧ x10 ≤ 1) (k11 : 1 ≤ x11 ∧ x11 ≤ 2009) (k12 : 0 ≤ x12 ∧ x12 ≤ 2009) (k13 : 0 ≤ x13 ∧ x13 ≤ 5) (k14 : 0 ≤ x14 ∧ x14 ≤ 13) (d0 : x6 + 1 ≤ x11 ∧ x11 ≤ x6 + 1) (g0 : x11 = cur_0) (f1 : 1 * cur_0 + ((-1) * x12 + 0) ≤ 0) (f2 : (-1) * cur_0 + (1 * x12 + 0) ≤ 0) (f3 : (styleKind_0 = 0) → (styleOne_0 ≤ 23)) (f4 : fault_0 = x13) (f5 : opened_0 = x14) (f6 : 1 * x1 + ((-1) * x12 + 0) ≤ 0) (f7 : (-1) * x7 + ((-1) * x12 + 0) ≤ (-2011)) (f8 : GBL (styleKind_0) (limit_0) (tokenKind_0) (tokenValue_0) (tokenPlace_0) (tokenEnd_0) (tape_0) (x12) (x13) (x1) (x2) (x3)) (f9 : 1 * x14 + 0 ≤ 13) (f10 : (-1) * x14 + 0 ≤ (-13)) (f11 : (styleKind_0 = 0) → (styleOne_0 ≤ 23)) (f12 : 1 * x3 + 0 ≤ 13) (f13 : (-1) * x3 + 0 ≤ (-13)) (f15 : ((cur_0 + 1) ≤ tokens_0) ∧ ((tokens_0 ≤ 2010) ∧ ((tokenKind_0 ((tokens_0 - 1)) = 0) ∨ (tokenKind_0 ((tokens_0 - 1)) = 4)))) (f16 : 1 * x12 + ((-1) * cur_0 + 0) ≤ 0) (f17 : 1 * opened_0 + 0 ≤ 13) (f18 : (-1) * opened_0 + 0 ≤ (-13)) (f19 : (-1) * fault_0 + 0 ≤ (-1)) (f20 : SON (fault_0) (cur_0) (styleKind_0) (limit_0) (tokenKind_0) (tokenValue_0) (tokenPlace_0) (tokenEnd_0) (tape_0) (x12) (x13) (x14)) (f22 : 1 * x1 + ((-1) * x12 + 0) ≤ 0) (f23 : (-1) * x7 + ((-1) * x12 + 0) ≤ (-2011)) (f24 : 1 * x14 + 0 ≤ 13) (f25 : (-1) * x14 + 0 ≤ (-13)) (f26 : 1 * x3 + 0 ≤ 13) (f27 : (-1) * x3 + 0 ≤ (-13)) (f29 : x11 = x6 + x10) (f30 : 1 * x3 + 0 ≤ 13) (f31 : (-1) * x3 + 0 ≤ (-13)) (f33 : 1 * x3 + 0 ≤ 13) (f34 : (-1) * x3 + 0 ≤ (-13)) (hK_0_1 : ∀ j : Int, 0 ≤ j → j < 2000 → (-128) ≤ tape_0 j ∧ tape_0 j ≤ 127) (hK_0_160 : ∀ j : Int, 0 ≤ j → j < 2010 → 0 ≤ tokenKind_0 j ∧ tokenKind_0 j ≤ 4) (hK_0_162 : ∀ j : Int, 0 ≤ j → j < 2010 → 0 ≤ tokenPlace_0 j ∧ tokenPlace_0 j ≤ 2000) (hK_0_163 : ∀ j : Int, 0 ≤ j → j < 2010 → 0 ≤ tokenEnd_0 j ∧ tokenEnd_0 j ≤ 2000) (kz_0_8 : 0 ≤ fault_0 ∧ fault_0 ≤ 5) (kz_0_10 : 0 ≤ limit_0 ∧ limit_0 ≤ 2000) (kz_0_157 : 0 ≤ tokens_0 ∧ tokens_0 ≤ 2010) (kz_0_158 : 0 ≤ cur_0 ∧ cur_0 ≤ 2009) (kz_0_159 : 0 ≤ opened_0 ∧ opened_0 ≤ 13) (kz_0_164 : 0 ≤ styleKind_0 ∧ styleKind_0 ≤ 1) (kz_0_165 : (-1) ≤ styleOne_0 ∧ styleOne_0 ≤ 47) (ex2 : gx = 0 + (1 * x7 + 0)) (ex3 : 0 ≤ gx ∧ gx ≤ 2010) : 1 * x1 + ((-1) * cur_0 + 0) ≤ 0 := by
  first | assumption | (clear f3 f11 f15 hK_0_1 hK_0_160 hK_0_162 hK_0_163; omega) | (clear hK_0_1 hK_0_160 hK_0_162 hK_0_163; grind) | omega | grind
set_option maxHeartbeats 4000000 in
theorem vc_Mo_both_at_f13_5_2 (x1 : Int) (x2 : Int) (x3 : Int) (x6 : Int) (x7 : Int) (x10 : Int) (x11 : Int) (x12 : Int) (x13 : Int) (x14 : Int) (cur_0 : Int) (styleKind_0 : Int) (styleOne_0 : Int) (fault_0 : Int) (opened_0 : Int) (tokenKind_0 : Int → Int) (tokenValue_0 : Int → Int) (tokenPlace_0 : Int → Int) (tokenEnd_0 : Int → Int) (tape_0 : Int → Int) (limit_0 : Int) (tokens_0 : Int) (gx : Int) (k1 : 0 ≤ x1 ∧ x1 ≤ 2009) (k2 : 0 ≤ x2 ∧ x2 ≤ 5) (k3 : 0 ≤ x3 ∧ x3 ≤ 13) (k6 : 0 ≤ x6 ∧ x6 ≤ 2009) (k7 : 0 ≤ x7 ∧ x7 ≤ 2010) (k10 : 1 ≤ x10 ∧ x10 ≤ 1) (k11 : 1 ≤ x11 ∧ x11 ≤ 2009) (k12 : 0 ≤ x12 ∧ x12 ≤ 2009) (k13 : 0 ≤ x13 ∧ x13 ≤ 5) (k14 : 0 ≤ x14 ∧ x14 ≤ 13) (d0 : x6 + 1 ≤ x11 ∧ x11 ≤ x6 + 1) (g0 : x11 = cur_0) (f1 : 1 * cur_0 + ((-1) * x12 + 0) ≤ 0) (f2 : (-1) * cur_0 + (1 * x12 + 0) ≤ 0) (f3 : (styleKind_0 = 0) → (styleOne_0 ≤ 23)) (f4 : fault_0 = x13) (f5 : opened_0 = x14) (f6 : 1 * x1 + ((-1) * x12 + 0) ≤ 0) (f7 : (-1) * x7 + ((-1) * x12 + 0) ≤ (-2011)) (f8 : GBL (styleKind_0) (limit_0) (tokenKind_0) (tokenValue_0) (tokenPlace_0) (tokenEnd_0) (tape_0) (x12) (x13) (x1) (x2) (x3)) (f9 : 1 * x14 + 0 ≤ 13) (f10 : (-1) * x14 + 0 ≤ (-13)) (f11 : (styleKind_0 = 0) → (styleOne_0 ≤ 23)) (f12 : 1 * x3 + 0 ≤ 13) (f13 : (-1) * x3 + 0 ≤ (-13)) (f15 : ((cur_0 + 1) ≤ tokens_0) ∧ ((tokens_0 ≤ 2010) ∧ ((tokenKind_0 ((tokens_0 - 1)) = 0) ∨ (tokenKind_0 ((tokens_0 - 1)) = 4)))) (f16 : 1 * x12 + ((-1) * cur_0 + 0) ≤ 0) (f17 : 1 * opened_0 + 0 ≤ 13) (f18 : (-1) * opened_0 + 0 ≤ (-13)) (f19 : (-1) * fault_0 + 0 ≤ (-1)) (f20 : SON (fault_0) (cur_0) (styleKind_0) (limit_0) (tokenKind_0) (tokenValue_0) (tokenPlace_0) (tokenEnd_0) (tape_0) (x12) (x13) (x14)) (f22 : 1 * x1 + ((-1) * x12 + 0) ≤ 0) (f23 : (-1) * x7 + ((-1) * x12 + 0) ≤ (-2011)) (f24 : 1 * x14 + 0 ≤ 13) (f25 : (-1) * x14 + 0 ≤ (-13)) (f26 : 1 * x3 + 0 ≤ 13) (f27 : (-1) * x3 + 0 ≤ (-13)) (f29 : x11 = x6 + x10) (f30 : 1 * x3 + 0 ≤ 13) (f31 : (-1) * x3 + 0 ≤ (-13)) (f33 : 1 * x3 + 0 ≤ 13) (f34 : (-1) * x3 + 0 ≤ (-13)) (hK_0_1 : ∀ j : Int, 0 ≤ j → j < 2000 → (-128) ≤ tape_0 j ∧ tape_0 j ≤ 127) (hK_0_160 : ∀ j : Int, 0 ≤ j → j < 2010 → 0 ≤ tokenKind_0 j ∧ tokenKind_0 j ≤ 4) (hK_0_162 : ∀ j : Int, 0 ≤ j → j < 2010 → 0 ≤ tokenPlace_0 j ∧ tokenPlace_0 j ≤ 2000) (hK_0_163 : ∀ j : Int, 0 ≤ j → j < 2010 → 0 ≤ tokenEnd_0 j ∧ tokenEnd_0 j ≤ 2000) (kz_0_8 : 0 ≤ fault_0 ∧ fault_0 ≤ 5) (kz_0_10 : 0 ≤ limit_0 ∧ limit_0 ≤ 2000) (kz_0_157 : 0 ≤ tokens_0 ∧ tokens_0 ≤ 2010) (kz_0_158 : 0 ≤ cur_0 ∧ cur_0 ≤ 2009) (kz_0_159 : 0 ≤ opened_0 ∧ opened_0 ≤ 13) (kz_0_164 : 0 ≤ styleKind_0 ∧ styleKind_0 ≤ 1) (kz_0_165 : (-1) ≤ styleOne_0 ∧ styleOne_0 ≤ 47) (ex2 : gx = 0 + (1 * x7 + 0)) (ex3 : 0 ≤ gx ∧ gx ≤ 2010) : (styleKind_0 = 0) → (styleOne_0 ≤ 23) := by
  first | assumption | (clear f3 f11 f15 hK_0_1 hK_0_160 hK_0_162 hK_0_163; omega) | (clear hK_0_1 hK_0_160 hK_0_162 hK_0_163; grind) | omega | grind
set_option maxHeartbeats 4000000 in
theorem vc_Mo_both_at_f13_5_3 (x1 : Int) (x2 : Int) (x3 : Int) (x6 : Int) (x7 : Int) (x10 : Int) (x11 : Int) (x12 : Int) (x13 : Int) (x14 : Int) (cur_0 : Int) (styleKind_0 : Int) (styleOne_0 : Int) (fault_0 : Int) (opened_0 : Int) (tokenKind_0 : Int → Int) (tokenValue_0 : Int → Int) (tokenPlace_0 : Int → Int) (tokenEnd_0 : Int → Int) (tape_0 : Int → Int) (limit_0 : Int) (tokens_0 : Int) (gx : Int) (k1 : 0 ≤ x1 ∧ x1 ≤ 2009) (k2 : 0 ≤ x2 ∧ x2 ≤ 5) (k3 : 0 ≤ x3 ∧ x3 ≤ 13) (k6 : 0 ≤ x6 ∧ x6 ≤ 2009) (k7 : 0 ≤ x7 ∧ x7 ≤ 2010) (k10 : 1 ≤ x10 ∧ x10 ≤ 1) (k11 : 1 ≤ x11 ∧ x11 ≤ 2009) (k12 : 0 ≤ x12 ∧ x12 ≤ 2009) (k13 : 0 ≤ x13 ∧ x13 ≤ 5) (k14 : 0 ≤ x14 ∧ x14 ≤ 13) (d0 : x6 + 1 ≤ x11 ∧ x11 ≤ x6 + 1) (g0 : x11 = cur_0) (f1 : 1 * cur_0 + ((-1) * x12 + 0) ≤ 0) (f2 : (-1) * cur_0 + (1 * x12 + 0) ≤ 0) (f3 : (styleKind_0 = 0) → (styleOne_0 ≤ 23)) (f4 : fault_0 = x13) (f5 : opened_0 = x14) (f6 : 1 * x1 + ((-1) * x12 + 0) ≤ 0) (f7 : (-1) * x7 + ((-1) * x12 + 0) ≤ (-2011)) (f8 : GBL (styleKind_0) (limit_0) (tokenKind_0) (tokenValue_0) (tokenPlace_0) (tokenEnd_0) (tape_0) (x12) (x13) (x1) (x2) (x3)) (f9 : 1 * x14 + 0 ≤ 13) (f10 : (-1) * x14 + 0 ≤ (-13)) (f11 : (styleKind_0 = 0) → (styleOne_0 ≤ 23)) (f12 : 1 * x3 + 0 ≤ 13) (f13 : (-1) * x3 + 0 ≤ (-13)) (f15 : ((cur_0 + 1) ≤ tokens_0) ∧ ((tokens_0 ≤ 2010) ∧ ((tokenKind_0 ((tokens_0 - 1)) = 0) ∨ (tokenKind_0 ((tokens_0 - 1)) = 4)))) (f16 : 1 * x12 + ((-1) * cur_0 + 0) ≤ 0) (f17 : 1 * opened_0 + 0 ≤ 13) (f18 : (-1) * opened_0 + 0 ≤ (-13)) (f19 : (-1) * fault_0 + 0 ≤ (-1)) (f20 : SON (fault_0) (cur_0) (styleKind_0) (limit_0) (tokenKind_0) (tokenValue_0) (tokenPlace_0) (tokenEnd_0) (tape_0) (x12) (x13) (x14)) (f22 : 1 * x1 + ((-1) * x12 + 0) ≤ 0) (f23 : (-1) * x7 + ((-1) * x12 + 0) ≤ (-2011)) (f24 : 1 * x14 + 0 ≤ 13) (f25 : (-1) * x14 + 0 ≤ (-13)) (f26 : 1 * x3 + 0 ≤ 13) (f27 : (-1) * x3 + 0 ≤ (-13)) (f29 : x11 = x6 + x10) (f30 : 1 * x3 + 0 ≤ 13) (f31 : (-1) * x3 + 0 ≤ (-13)) (f33 : 1 * x3 + 0 ≤ 13) (f34 : (-1) * x3 + 0 ≤ (-13)) (hK_0_1 : ∀ j : Int, 0 ≤ j → j < 2000 → (-128) ≤ tape_0 j ∧ tape_0 j ≤ 127) (hK_0_160 : ∀ j : Int, 0 ≤ j → j < 2010 → 0 ≤ tokenKind_0 j ∧ tokenKind_0 j ≤ 4) (hK_0_162 : ∀ j : Int, 0 ≤ j → j < 2010 → 0 ≤ tokenPlace_0 j ∧ tokenPlace_0 j ≤ 2000) (hK_0_163 : ∀ j : Int, 0 ≤ j → j < 2010 → 0 ≤ tokenEnd_0 j ∧ tokenEnd_0 j ≤ 2000) (kz_0_8 : 0 ≤ fault_0 ∧ fault_0 ≤ 5) (kz_0_10 : 0 ≤ limit_0 ∧ limit_0 ≤ 2000) (kz_0_157 : 0 ≤ tokens_0 ∧ tokens_0 ≤ 2010) (kz_0_158 : 0 ≤ cur_0 ∧ cur_0 ≤ 2009) (kz_0_159 : 0 ≤ opened_0 ∧ opened_0 ≤ 13) (kz_0_164 : 0 ≤ styleKind_0 ∧ styleKind_0 ≤ 1) (kz_0_165 : (-1) ≤ styleOne_0 ∧ styleOne_0 ≤ 47) (ex2 : gx = 0 + (1 * x7 + 0)) (ex3 : 0 ≤ gx ∧ gx ≤ 2010) : 1 * opened_0 + 0 ≤ 13 := by
  first | assumption | (clear f3 f11 f15 hK_0_1 hK_0_160 hK_0_162 hK_0_163; omega) | (clear hK_0_1 hK_0_160 hK_0_162 hK_0_163; grind) | omega | grind
set_option maxHeartbeats 4000000 in
theorem vc_Mo_both_at_f13_5_4 (x1 : Int) (x2 : Int) (x3 : Int) (x6 : Int) (x7 : Int) (x10 : Int) (x11 : Int) (x12 : Int) (x13 : Int) (x14 : Int) (cur_0 : Int) (styleKind_0 : Int) (styleOne_0 : Int) (fault_0 : Int) (opened_0 : Int) (tokenKind_0 : Int → Int) (tokenValue_0 : Int → Int) (tokenPlace_0 : Int → Int) (tokenEnd_0 : Int → Int) (tape_0 : Int → Int) (limit_0 : Int) (tokens_0 : Int) (gx : Int) (k1 : 0 ≤ x1 ∧ x1 ≤ 2009) (k2 : 0 ≤ x2 ∧ x2 ≤ 5) (k3 : 0 ≤ x3 ∧ x3 ≤ 13) (k6 : 0 ≤ x6 ∧ x6 ≤ 2009) (k7 : 0 ≤ x7 ∧ x7 ≤ 2010) (k10 : 1 ≤ x10 ∧ x10 ≤ 1) (k11 : 1 ≤ x11 ∧ x11 ≤ 2009) (k12 : 0 ≤ x12 ∧ x12 ≤ 2009) (k13 : 0 ≤ x13 ∧ x13 ≤ 5) (k14 : 0 ≤ x14 ∧ x14 ≤ 13) (d0 : x6 + 1 ≤ x11 ∧ x11 ≤ x6 + 1) (g0 : x11 = cur_0) (f1 : 1 * cur_0 + ((-1) * x12 + 0) ≤ 0) (f2 : (-1) * cur_0 + (1 * x12 + 0) ≤ 0) (f3 : (styleKind_0 = 0) → (styleOne_0 ≤ 23)) (f4 : fault_0 = x13) (f5 : opened_0 = x14) (f6 : 1 * x1 + ((-1) * x12 + 0) ≤ 0) (f7 : (-1) * x7 + ((-1) * x12 + 0) ≤ (-2011)) (f8 : GBL (styleKind_0) (limit_0) (tokenKind_0) (tokenValue_0) (tokenPlace_0) (tokenEnd_0) (tape_0) (x12) (x13) (x1) (x2) (x3)) (f9 : 1 * x14 + 0 ≤ 13) (f10 : (-1) * x14 + 0 ≤ (-13)) (f11 : (styleKind_0 = 0) → (styleOne_0 ≤ 23)) (f12 : 1 * x3 + 0 ≤ 13) (f13 : (-1) * x3 + 0 ≤ (-13)) (f15 : ((cur_0 + 1) ≤ tokens_0) ∧ ((tokens_0 ≤ 2010) ∧ ((tokenKind_0 ((tokens_0 - 1)) = 0) ∨ (tokenKind_0 ((tokens_0 - 1)) = 4)))) (f16 : 1 * x12 + ((-1) * cur_0 + 0) ≤ 0) (f17 : 1 * opened_0 + 0 ≤ 13) (f18 : (-1) * opened_0 + 0 ≤ (-13)) (f19 : (-1) * fault_0 + 0 ≤ (-1)) (f20 : SON (fault_0) (cur_0) (styleKind_0) (limit_0) (tokenKind_0) (tokenValue_0) (tokenPlace_0) (tokenEnd_0) (tape_0) (x12) (x13) (x14)) (f22 : 1 * x1 + ((-1) * x12 + 0) ≤ 0) (f23 : (-1) * x7 + ((-1) * x12 + 0) ≤ (-2011)) (f24 : 1 * x14 + 0 ≤ 13) (f25 : (-1) * x14 + 0 ≤ (-13)) (f26 : 1 * x3 + 0 ≤ 13) (f27 : (-1) * x3 + 0 ≤ (-13)) (f29 : x11 = x6 + x10) (f30 : 1 * x3 + 0 ≤ 13) (f31 : (-1) * x3 + 0 ≤ (-13)) (f33 : 1 * x3 + 0 ≤ 13) (f34 : (-1) * x3 + 0 ≤ (-13)) (hK_0_1 : ∀ j : Int, 0 ≤ j → j < 2000 → (-128) ≤ tape_0 j ∧ tape_0 j ≤ 127) (hK_0_160 : ∀ j : Int, 0 ≤ j → j < 2010 → 0 ≤ tokenKind_0 j ∧ tokenKind_0 j ≤ 4) (hK_0_162 : ∀ j : Int, 0 ≤ j → j < 2010 → 0 ≤ tokenPlace_0 j ∧ tokenPlace_0 j ≤ 2000) (hK_0_163 : ∀ j : Int, 0 ≤ j → j < 2010 → 0 ≤ tokenEnd_0 j ∧ tokenEnd_0 j ≤ 2000) (kz_0_8 : 0 ≤ fault_0 ∧ fault_0 ≤ 5) (kz_0_10 : 0 ≤ limit_0 ∧ limit_0 ≤ 2000) (kz_0_157 : 0 ≤ tokens_0 ∧ tokens_0 ≤ 2010) (kz_0_158 : 0 ≤ cur_0 ∧ cur_0 ≤ 2009) (kz_0_159 : 0 ≤ opened_0 ∧ opened_0 ≤ 13) (kz_0_164 : 0 ≤ styleKind_0 ∧ styleKind_0 ≤ 1) (kz_0_165 : (-1) ≤ styleOne_0 ∧ styleOne_0 ≤ 47) (ex2 : gx = 0 + (1 * x7 + 0)) (ex3 : 0 ≤ gx ∧ gx ≤ 2010) : (-1) * opened_0 + 0 ≤ (-13) := by
  first | assumption | (clear f3 f11 f15 hK_0_1 hK_0_160 hK_0_162 hK_0_163; omega) | (clear hK_0_1 hK_0_160 hK_0_162 hK_0_163; grind) | omega | grind
set_option maxHeartbeats 4000000 in
theorem vc_Mo_both_at_f13_5_5 (x1 : Int) (x2 : Int) (x3 : Int) (x6 : Int) (x7 : Int) (x10 : Int) (x11 : Int) (x12 : Int) (x13 : Int) (x14 : Int) (cur_0 : Int) (styleKind_0 : Int) (styleOne_0 : Int) (fault_0 : Int) (opened_0 : Int) (tokenKind_0 : Int → Int) (tokenValue_0 : Int → Int) (tokenPlace_0 : Int → Int) (tokenEnd_0 : Int → Int) (tape_0 : Int → Int) (limit_0 : Int) (tokens_0 : Int) (gx : Int) (k1 : 0 ≤ x1 ∧ x1 ≤ 2009) (k2 : 0 ≤ x2 ∧ x2 ≤ 5) (k3 : 0 ≤ x3 ∧ x3 ≤ 13) (k6 : 0 ≤ x6 ∧ x6 ≤ 2009) (k7 : 0 ≤ x7 ∧ x7 ≤ 2010) (k10 : 1 ≤ x10 ∧ x10 ≤ 1) (k11 : 1 ≤ x11 ∧ x11 ≤ 2009) (k12 : 0 ≤ x12 ∧ x12 ≤ 2009) (k13 : 0 ≤ x13 ∧ x13 ≤ 5) (k14 : 0 ≤ x14 ∧ x14 ≤ 13) (d0 : x6 + 1 ≤ x11 ∧ x11 ≤ x6 + 1) (g0 : x11 = cur_0) (f1 : 1 * cur_0 + ((-1) * x12 + 0) ≤ 0) (f2 : (-1) * cur_0 + (1 * x12 + 0) ≤ 0) (f3 : (styleKind_0 = 0) → (styleOne_0 ≤ 23)) (f4 : fault_0 = x13) (f5 : opened_0 = x14) (f6 : 1 * x1 + ((-1) * x12 + 0) ≤ 0) (f7 : (-1) * x7 + ((-1) * x12 + 0) ≤ (-2011)) (f8 : GBL (styleKind_0) (limit_0) (tokenKind_0) (tokenValue_0) (tokenPlace_0) (tokenEnd_0) (tape_0) (x12) (x13) (x1) (x2) (x3)) (f9 : 1 * x14 + 0 ≤ 13) (f10 : (-1) * x14 + 0 ≤ (-13)) (f11 : (styleKind_0 = 0) → (styleOne_0 ≤ 23)) (f12 : 1 * x3 + 0 ≤ 13) (f13 : (-1) * x3 + 0 ≤ (-13)) (f15 : ((cur_0 + 1) ≤ tokens_0) ∧ ((tokens_0 ≤ 2010) ∧ ((tokenKind_0 ((tokens_0 - 1)) = 0) ∨ (tokenKind_0 ((tokens_0 - 1)) = 4)))) (f16 : 1 * x12 + ((-1) * cur_0 + 0) ≤ 0) (f17 : 1 * opened_0 + 0 ≤ 13) (f18 : (-1) * opened_0 + 0 ≤ (-13)) (f19 : (-1) * fault_0 + 0 ≤ (-1)) (f20 : SON (fault_0) (cur_0) (styleKind_0) (limit_0) (tokenKind_0) (tokenValue_0) (tokenPlace_0) (tokenEnd_0) (tape_0) (x12) (x13) (x14)) (f22 : 1 * x1 + ((-1) * x12 + 0) ≤ 0) (f23 : (-1) * x7 + ((-1) * x12 + 0) ≤ (-2011)) (f24 : 1 * x14 + 0 ≤ 13) (f25 : (-1) * x14 + 0 ≤ (-13)) (f26 : 1 * x3 + 0 ≤ 13) (f27 : (-1) * x3 + 0 ≤ (-13)) (f29 : x11 = x6 + x10) (f30 : 1 * x3 + 0 ≤ 13) (f31 : (-1) * x3 + 0 ≤ (-13)) (f33 : 1 * x3 + 0 ≤ 13) (f34 : (-1) * x3 + 0 ≤ (-13)) (hK_0_1 : ∀ j : Int, 0 ≤ j → j < 2000 → (-128) ≤ tape_0 j ∧ tape_0 j ≤ 127) (hK_0_160 : ∀ j : Int, 0 ≤ j → j < 2010 → 0 ≤ tokenKind_0 j ∧ tokenKind_0 j ≤ 4) (hK_0_162 : ∀ j : Int, 0 ≤ j → j < 2010 → 0 ≤ tokenPlace_0 j ∧ tokenPlace_0 j ≤ 2000) (hK_0_163 : ∀ j : Int, 0 ≤ j → j < 2010 → 0 ≤ tokenEnd_0 j ∧ tokenEnd_0 j ≤ 2000) (kz_0_8 : 0 ≤ fault_0 ∧ fault_0 ≤ 5) (kz_0_10 : 0 ≤ limit_0 ∧ limit_0 ≤ 2000) (kz_0_157 : 0 ≤ tokens_0 ∧ tokens_0 ≤ 2010) (kz_0_158 : 0 ≤ cur_0 ∧ cur_0 ≤ 2009) (kz_0_159 : 0 ≤ opened_0 ∧ opened_0 ≤ 13) (kz_0_164 : 0 ≤ styleKind_0 ∧ styleKind_0 ≤ 1) (kz_0_165 : (-1) ≤ styleOne_0 ∧ styleOne_0 ≤ 47) (ex2 : gx = 0 + (1 * x7 + 0)) (ex3 : 0 ≤ gx ∧ gx ≤ 2010) : (-1) * fault_0 + 0 ≤ (-1) := by
  first | assumption | (clear f3 f11 f15 hK_0_1 hK_0_160 hK_0_162 hK_0_163; omega) | (clear hK_0_1 hK_0_160 hK_0_162 hK_0_163; grind) | omega | grind
set_option maxHeartbeats 4000000 in
theorem vc_Mo_both_at_f13_5_6 (x1 : Int) (x2 : Int) (x3 : Int) (x6 : Int) (x7 : Int) (x10 : Int) (x11 : Int) (x12 : Int) (x13 : Int) (x14 : Int) (cur_0 : Int) (styleKind_0 : Int) (styleOne_0 : Int) (fault_0 : Int) (opened_0 : Int) (tokenKind_0 : Int → Int) (tokenValue_0 : Int → Int) (tokenPlace_0 : Int → Int) (tokenEnd_0 : Int → Int) (tape_0 : Int → Int) (limit_0 : Int) (tokens_0 : Int) (gx : Int) (k1 : 0 ≤ x1 ∧ x1 ≤ 2009) (k2 : 0 ≤ x2 ∧ x2 ≤ 5) (k3 : 0 ≤ x3 ∧ x3 ≤ 13) (k6 : 0 ≤ x6 ∧ x6 ≤ 2009) (k7 : 0 ≤ x7 ∧ x7 ≤ 2010) (k10 : 1 ≤ x10 ∧ x10 ≤ 1) (k11 : 1 ≤ x11 ∧ x11 ≤ 2009) (k12 : 0 ≤ x12 ∧ x12 ≤ 2009) (k13 : 0 ≤ x13 ∧ x13 ≤ 5) (k14 : 0 ≤ x14 ∧ x14 ≤ 13) (d0 : x6 + 1 ≤ x11 ∧ x11 ≤ x6 + 1) (g0 : x11 = cur_0) (f1 : 1 * cur_0 + ((-1) * x12 + 0) ≤ 0) (f2 : (-1) * cur_0 + (1 * x12 + 0) ≤ 0) (f3 : (styleKind_0 = 0) → (styleOne_0 ≤ 23)) (f4 : fault_0 = x13) (f5 : opened_0 = x14) (f6 : 1 * x1 + ((-1) * x12 + 0) ≤ 0) (f7 : (-1) * x7 + ((-1) * x12 + 0) ≤ (-2011)) (f8 : GBL (styleKind_0) (limit_0) (tokenKind_0) (tokenValue_0) (tokenPlace_0) (tokenEnd_0) (tape_0) (x12) (x13) (x1) (x2) (x3)) (f9 : 1 * x14 + 0 ≤ 13) (f10 : (-1) * x14 + 0 ≤ (-13)) (f11 : (styleKind_0 = 0) → (styleOne_0 ≤ 23)) (f12 : 1 * x3 + 0 ≤ 13) (f13 : (-1) * x3 + 0 ≤ (-13)) (f15 : ((cur_0 + 1) ≤ tokens_0) ∧ ((tokens_0 ≤ 2010) ∧ ((tokenKind_0 ((tokens_0 - 1)) = 0) ∨ (tokenKind_0 ((tokens_0 - 1)) = 4)))) (f16 : 1 * x12 + ((-1) * cur_0 + 0) ≤ 0) (f17 : 1 * opened_0 + 0 ≤ 13) (f18 : (-1) * opened_0 + 0 ≤ (-13)) (f19 : (-1) * fault_0 + 0 ≤ (-1)) (f20 : SON (fault_0) (cur_0) (styleKind_0) (limit_0) (tokenKind_0) (tokenValue_0) (tokenPlace_0) (tokenEnd_0) (tape_0) (x12) (x13) (x14)) (f22 : 1 * x1 + ((-1) * x12 + 0) ≤ 0) (f23 : (-1) * x7 + ((-1) * x12 + 0) ≤ (-2011)) (f24 : 1 * x14 + 0 ≤ 13) (f25 : (-1) * x14 + 0 ≤ (-13)) (f26 : 1 * x3 + 0 ≤ 13) (f27 : (-1) * x3 + 0 ≤ (-13)) (f29 : x11 = x6 + x10) (f30 : 1 * x3 + 0 ≤ 13) (f31 : (-1) * x3 + 0 ≤ (-13)) (f33 : 1 * x3 + 0 ≤ 13) (f34 : (-1) * x3 + 0 ≤ (-13)) (hK_0_1 : ∀ j : Int, 0 ≤ j → j < 2000 → (-128) ≤ tape_0 j ∧ tape_0 j ≤ 127) (hK_0_160 : ∀ j : Int, 0 ≤ j → j < 2010 → 0 ≤ tokenKind_0 j ∧ tokenKind_0 j ≤ 4) (hK_0_162 : ∀ j : Int, 0 ≤ j → j < 2010 → 0 ≤ tokenPlace_0 j ∧ tokenPlace_0 j ≤ 2000) (hK_0_163 : ∀ j : Int, 0 ≤ j → j < 2010 → 0 ≤ tokenEnd_0 j ∧ tokenEnd_0 j ≤ 2000) (kz_0_8 : 0 ≤ fault_0 ∧ fault_0 ≤ 5) (kz_0_10 : 0 ≤ limit_0 ∧ limit_0 ≤ 2000) (kz_0_157 : 0 ≤ tokens_0 ∧ tokens_0 ≤ 2010) (kz_0_158 : 0 ≤ cur_0 ∧ cur_0 ≤ 2009) (kz_0_159 : 0 ≤ opened_0 ∧ opened_0 ≤ 13) (kz_0_164 : 0 ≤ styleKind_0 ∧ styleKind_0 ≤ 1) (kz_0_165 : (-1) ≤ styleOne_0 ∧ styleOne_0 ≤ 47) (ex2 : gx = 0 + (1 * x7 + 0)) (ex3 : 0 ≤ gx ∧ gx ≤ 2010) : (-1) * gx + ((-1) * cur_0 + 0) ≤ (-2011) := by
  first | assumption | (clear f3 f11 f15 hK_0_1 hK_0_160 hK_0_162 hK_0_163; omega) | (clear hK_0_1 hK_0_160 hK_0_162 hK_0_163; grind) | omega | grind
set_option maxHeartbeats 4000000 in
theorem vc_Mo_both_at_f13_5_7 (x1 : Int) (x2 : Int) (x3 : Int) (x11 : Int) (x12 : Int) (x13 : Int) (x14 : Int) (cur_0 : Int) (styleKind_0 : Int) (fault_0 : Int) (opened_0 : Int) (tokenKind_0 : Int → Int) (tokenValue_0 : Int → Int) (tokenPlace_0 : Int → Int) (tokenEnd_0 : Int → Int) (tape_0 : Int → Int) (limit_0 : Int) (k1 : 0 ≤ x1 ∧ x1 ≤ 2009) (k2 : 0 ≤ x2 ∧ x2 ≤ 5) (k3 : 0 ≤ x3 ∧ x3 ≤ 13) (k11 : 1 ≤ x11 ∧ x11 ≤ 2009) (k12 : 0 ≤ x12 ∧ x12 ≤ 2009) (k13 : 0 ≤ x13 ∧ x13 ≤ 5) (k14 : 0 ≤ x14 ∧ x14 ≤ 13) (g0 : x11 = cur_0) (f1 : 1 * cur_0 + ((-1) * x12 + 0) ≤ 0) (f2 : (-1) * cur_0 + (1 * x12 + 0) ≤ 0) (f5 : opened_0 = x14) (f8 : GBL (styleKind_0) (limit_0) (tokenKind_0) (tokenValue_0) (tokenPlace_0) (tokenEnd_0) (tape_0) (x12) (x13) (x1) (x2) (x3)) (f10 : (-1) * x14 + 0 ≤ (-13)) (f13 : (-1) * x3 + 0 ≤ (-13)) (f20 : SON (fault_0) (cur_0) (styleKind_0) (limit_0) (tokenKind_0) (tokenValue_0) (tokenPlace_0) (tokenEnd_0) (tape_0) (x12) (x13) (x14)) (kz_0_8 : 0 ≤ fault_0 ∧ fault_0 ≤ 5) (kz_0_10 : 0 ≤ limit_0 ∧ limit_0 ≤ 2000) (kz_0_158 : 0 ≤ cur_0 ∧ cur_0 ≤ 2009) (kz_0_159 : 0 ≤ opened_0 ∧ opened_0 ≤ 13) (kz_0_164 : 0 ≤ styleKind_0 ∧ styleKind_0 ≤ 1) : SBL (fault_0) (cur_0) (styleKind_0) (limit_0) (tokenKind_0) (tokenValue_0) (tokenPlace_0) (tokenEnd_0) (tape_0) (x1) (x2) (x3) := by
  first
    | exact sbl_start (‹SON _ _ _ _ _ _ _ _ _ _ _ _›) (by omega) (by omega) (by omega) (by omega)
    | exact sbl_go (‹GBL _ _ _ _ _ _ _ _ _ _ _ _›) (‹SON _ _ _ _ _ _ _ _ _ _ _ _›) (by omega) (by omega) (by omega)
    | assumption
  
set_option maxHeartbeats 4000000 in
theorem vc_Mo_both_at_f13_5_8 (x1 : Int) (x2 : Int) (x3 : Int) (x6 : Int) (x7 : Int) (x10 : Int) (x11 : Int) (x12 : Int) (x13 : Int) (x14 : Int) (cur_0 : Int) (styleKind_0 : Int) (styleOne_0 : Int) (fault_0 : Int) (opened_0 : Int) (tokenKind_0 : Int → Int) (tokenValue_0 : Int → Int) (tokenPlace_0 : Int → Int) (tokenEnd_0 : Int → Int) (tape_0 : Int → Int) (limit_0 : Int) (tokens_0 : Int) (gx : Int) (k1 : 0 ≤ x1 ∧ x1 ≤ 2009) (k2 : 0 ≤ x2 ∧ x2 ≤ 5) (k3 : 0 ≤ x3 ∧ x3 ≤ 13) (k6 : 0 ≤ x6 ∧ x6 ≤ 2009) (k7 : 0 ≤ x7 ∧ x7 ≤ 2010) (k10 : 1 ≤ x10 ∧ x10 ≤ 1) (k11 : 1 ≤ x11 ∧ x11 ≤ 2009) (k12 : 0 ≤ x12 ∧ x12 ≤ 2009) (k13 : 0 ≤ x13 ∧ x13 ≤ 5) (k14 : 0 ≤ x14 ∧ x14 ≤ 13) (d0 : x6 + 1 ≤ x11 ∧ x11 ≤ x6 + 1) (g0 : x11 = cur_0) (f1 : 1 * cur_0 + ((-1) * x12 + 0) ≤ 0) (f2 : (-1) * cur_0 + (1 * x12 + 0) ≤ 0) (f3 : (styleKind_0 = 0) → (styleOne_0 ≤ 23)) (f4 : fault_0 = x13) (f5 : opened_0 = x14) (f6 : 1 * x1 + ((-1) * x12 + 0) ≤ 0) (f7 : (-1) * x7 + ((-1) * x12 + 0) ≤ (-2011)) (f8 : GBL (styleKind_0) (limit_0) (tokenKind_0) (tokenValue_0) (tokenPlace_0) (tokenEnd_0) (tape_0) (x12) (x13) (x1) (x2) (x3)) (f9 : 1 * x14 + 0 ≤ 13) (f10 : (-1) * x14 + 0 ≤ (-13)) (f11 : (styleKind_0 = 0) → (styleOne_0 ≤ 23)) (f12 : 1 * x3 + 0 ≤ 13) (f13 : (-1) * x3 + 0 ≤ (-13)) (f15 : ((cur_0 + 1) ≤ tokens_0) ∧ ((tokens_0 ≤ 2010) ∧ ((tokenKind_0 ((tokens_0 - 1)) = 0) ∨ (tokenKind_0 ((tokens_0 - 1)) = 4)))) (f16 : 1 * x12 + ((-1) * cur_0 + 0) ≤ 0) (f17 : 1 * opened_0 + 0 ≤ 13) (f18 : (-1) * opened_0 + 0 ≤ (-13)) (f19 : (-1) * fault_0 + 0 ≤ (-1)) (f20 : SON (fault_0) (cur_0) (styleKind_0) (limit_0) (tokenKind_0) (tokenValue_0) (tokenPlace_0) (tokenEnd_0) (tape_0) (x12) (x13) (x14)) (f22 : 1 * x1 + ((-1) * x12 + 0) ≤ 0) (f23 : (-1) * x7 + ((-1) * x12 + 0) ≤ (-2011)) (f24 : 1 * x14 + 0 ≤ 13) (f25 : (-1) * x14 + 0 ≤ (-13)) (f26 : 1 * x3 + 0 ≤ 13) (f27 : (-1) * x3 + 0 ≤ (-13)) (f29 : x11 = x6 + x10) (f30 : 1 * x3 + 0 ≤ 13) (f31 : (-1) * x3 + 0 ≤ (-13)) (f33 : 1 * x3 + 0 ≤ 13) (f34 : (-1) * x3 + 0 ≤ (-13)) (hK_0_1 : ∀ j : Int, 0 ≤ j → j < 2000 → (-128) ≤ tape_0 j ∧ tape_0 j ≤ 127) (hK_0_160 : ∀ j : Int, 0 ≤ j → j < 2010 → 0 ≤ tokenKind_0 j ∧ tokenKind_0 j ≤ 4) (hK_0_162 : ∀ j : Int, 0 ≤ j → j < 2010 → 0 ≤ tokenPlace_0 j ∧ tokenPlace_0 j ≤ 2000) (hK_0_163 : ∀ j : Int, 0 ≤ j → j < 2010 → 0 ≤ tokenEnd_0 j ∧ tokenEnd_0 j ≤ 2000) (kz_0_8 : 0 ≤ fault_0 ∧ fault_0 ≤ 5) (kz_0_10 : 0 ≤ limit_0 ∧ limit_0 ≤ 2000) (kz_0_157 : 0 ≤ tokens_0 ∧ tokens_0 ≤ 2010) (kz_0_158 : 0 ≤ cur_0 ∧ cur_0 ≤ 2009) (kz_0_159 : 0 ≤ opened_0 ∧ opened_0 ≤ 13) (kz_0_164 : 0 ≤ styleKind_0 ∧ styleKind_0 ≤ 1) (kz_0_165 : (-1) ≤ styleOne_0 ∧ styleOne_0 ≤ 47) (ex2 : gx = 0 + (1 * x7 + 0)) (ex3 : 0 ≤ gx ∧ gx ≤ 2010) : 1 * x3 + 0 ≤ 13 := by
  first | assumption | (clear f3 f11 f15 hK_0_1 hK_0_160 hK_0_162 hK_0_163; omega) | (clear hK_0_1 hK_0_160 hK_0_162 hK_0_163; grind) | omega | grind
set_option maxHeartbeats 4000000 in
theorem vc_Mo_both_at_f13_5_9 (x1 : Int) (x2 : Int) (x3 : Int) (x6 : Int) (x7 : Int) (x10 : Int) (x11 : Int) (x12 : Int) (x13 : Int) (x14 : Int) (cur_0 : Int) (styleKind_0 : Int) (styleOne_0 : Int) (fault_0 : Int) (opened_0 : Int) (tokenKind_0 : Int → Int) (tokenValue_0 : Int → Int) (tokenPlace_0 : Int → Int) (tokenEnd_0 : Int → Int) (tape_0 : Int → Int) (limit_0 : Int) (tokens_0 : Int) (gx : Int) (k1 : 0 ≤ x1 ∧ x1 ≤ 2009) (k2 : 0 ≤ x2 ∧ x2 ≤ 5) (k3 : 0 ≤ x3 ∧ x3 ≤ 13) (k6 : 0 ≤ x6 ∧ x6 ≤ 2009) (k7 : 0 ≤ x7 ∧ x7 ≤ 2010) (k10 : 1 ≤ x10 ∧ x10 ≤ 1) (k11 : 1 ≤ x11 ∧ x11 ≤ 2009) (k12 : 0 ≤ x12 ∧ x12 ≤ 2009) (k13 : 0 ≤ x13 ∧ x13 ≤ 5) (k14 : 0 ≤ x14 ∧ x14 ≤ 13) (d0 : x6 + 1 ≤ x11 ∧ x11 ≤ x6 + 1) (g0 : x11 = cur_0) (f1 : 1 * cur_0 + ((-1) * x12 + 0) ≤ 0) (f2 : (-1) * cur_0 + (1 * x12 + 0) ≤ 0) (f3 : (styleKind_0 = 0) → (styleOne_0 ≤ 23)) (f4 : fault_0 = x13) (f5 : opened_0 = x14) (f6 : 1 * x1 + ((-1) * x12 + 0) ≤ 0) (f7 : (-1) * x7 + ((-1) * x12 + 0) ≤ (-2011)) (f8 : GBL (styleKind_0) (limit_0) (tokenKind_0) (tokenValue_0) (tokenPlace_0) (tokenEnd_0) (tape_0) (x12) (x13) (x1) (x2) (x3)) (f9 : 1 * x14 + 0 ≤ 13) (f10 : (-1) * x14 + 0 ≤ (-13)) (f11 : (styleKind_0 = 0) → (styleOne_0 ≤ 23)) (f12 : 1 * x3 + 0 ≤ 13) (f13 : (-1) * x3 + 0 ≤ (-13)) (f15 : ((cur_0 + 1) ≤ tokens_0) ∧ ((tokens_0 ≤ 2010) ∧ ((tokenKind_0 ((tokens_0 - 1)) = 0) ∨ (tokenKind_0 ((tokens_0 - 1)) = 4)))) (f16 : 1 * x12 + ((-1) * cur_0 + 0) ≤ 0) (f17 : 1 * opened_0 + 0 ≤ 13) (f18 : (-1) * opened_0 + 0 ≤ (-13)) (f19 : (-1) * fault_0 + 0 ≤ (-1)) (f20 : SON (fault_0) (cur_0) (styleKind_0) (limit_0) (tokenKind_0) (tokenValue_0) (tokenPlace_0) (tokenEnd_0) (tape_0) (x12) (x13) (x14)) (f22 : 1 * x1 + ((-1) * x12 + 0) ≤ 0) (f23 : (-1) * x7 + ((-1) * x12 + 0) ≤ (-2011)) (f24 : 1 * x14 + 0 ≤ 13) (f25 : (-1) * x14 + 0 ≤ (-13)) (f26 : 1 * x3 + 0 ≤ 13) (f27 : (-1) * x3 + 0 ≤ (-13)) (f29 : x11 = x6 + x10) (f30 : 1 * x3 + 0 ≤ 13) (f31 : (-1) * x3 + 0 ≤ (-13)) (f33 : 1 * x3 + 0 ≤ 13) (f34 : (-1) * x3 + 0 ≤ (-13)) (hK_0_1 : ∀ j : Int, 0 ≤ j → j < 2000 → (-128) ≤ tape_0 j ∧ tape_0 j ≤ 127) (hK_0_160 : ∀ j : Int, 0 ≤ j → j < 2010 → 0 ≤ tokenKind_0 j ∧ tokenKind_0 j ≤ 4) (hK_0_162 : ∀ j : Int, 0 ≤ j → j < 2010 → 0 ≤ tokenPlace_0 j ∧ tokenPlace_0 j ≤ 2000) (hK_0_163 : ∀ j : Int, 0 ≤ j → j < 2010 → 0 ≤ tokenEnd_0 j ∧ tokenEnd_0 j ≤ 2000) (kz_0_8 : 0 ≤ fault_0 ∧ fault_0 ≤ 5) (kz_0_10 : 0 ≤ limit_0 ∧ limit_0 ≤ 2000) (kz_0_157 : 0 ≤ tokens_0 ∧ tokens_0 ≤ 2010) (kz_0_158 : 0 ≤ cur_0 ∧ cur_0 ≤ 2009) (kz_0_159 : 0 ≤ opened_0 ∧ opened_0 ≤ 13) (kz_0_164 : 0 ≤ styleKind_0 ∧ styleKind_0 ≤ 1) (kz_0_165 : (-1) ≤ styleOne_0 ∧ styleOne_0 ≤ 47) (ex2 : gx = 0 + (1 * x7 + 0)) (ex3 : 0 ≤ gx ∧ gx ≤ 2010) : (-1) * x3 + 0 ≤ (-13) := by
  first | assumption | (clear f3 f11 f15 hK_0_1 hK_0_160 hK_0_162 hK_0_163; omega) | (clear hK_0_1 hK_0_160 hK_0_162 hK_0_163; grind) | omega | grind
def o_Mo_both_at_f13_5 : or_T := (43, 17, [(0, (2, 0, 0, [165])), (1, (0, 0, 2009, [])), (2, (0, 0, 5, [])), (3, (0, 0, 13, [])), (4, (2, 0, 0, [165])), (6, (0, 0, 2009, [])), (7, (0, 0, 2010, [])), (10, (0, 1, 1, [])), (11, (0, 1, 2009, [])), (12, (0, 0, 2009, [])), (13, (0, 0, 5, [])), (14, (0, 0, 13, []))], [(9, [11, 4], [158]), (20, [4, 12], [30, 0, 1, 1, 158, -1, 0, 0]), (20, [4, 12], [30, 0, -1, 1, 158, 1, 0, 0]), (20, [4], [50, 2, 0, 164, 165, 4, 7, 1, 3, 2, 0, 164, 0, 0, 0, 3, 2, 0, 165, 0, 23]), (20, [4, 13], [50, 1, 0, 8, 1, 3, 2, 0, 8, 1, 1]), (20, [4, 14], [50, 1, 0, 159, 1, 3, 2, 0, 159, 1, 1]), (23, [1, 12], [0, 1, -1]), (23, [7, 12], [-2011, -1, -1]), (20, [4, 12, 13, 1, 2, 3], [60, 2, 5, 12, 164, 10, 160, 161, 162, 163, 1]), (23, [14], [13, 1]), (23, [14], [-13, -1]), (20, [4], [50, 2, 0, 164, 165, 4, 7, 1, 3, 2, 0, 164, 0, 0, 0, 3, 2, 0, 165, 0, 23]), (23, [3], [13, 1]), (23, [3], [-13, -1]), (24, [0, 4], []), (20, [4], [50, 2, 1, 158, 157, 160, 2, 12, 0, 7, 4, 3, 2, 0, 158, 0, 1, 2, 0, 157, 2, 7, 0, 3, 2, 0, 157, 0, 2010, 3, 14, 1, 10, 3, 0, 160, 5, 3, 2, 0, 157, 0, 1, 0, 0, 1, 10, 3, 0, 160, 5, 3, 2, 0, 157, 0, 1, 0, 4]), (20, [12, 4], [30, 0, 1, 0, 0, -1, 1, 158]), (20, [4], [30, 13, 1, 1, 159]), (20, [4], [30, -13, -1, 1, 159]), (20, [4], [30, -1, -1, 1, 8]), (20, [4, 12, 13, 14], [60, 4, 5, 3, 8, 158, 164, 10, 160, 161, 162, 163, 1]), (102, [14], [0]), (23, [1, 12], [0, 1, -1]), (23, [7, 12], [-2011, -1, -1]), (23, [14], [13, 1]), (23, [14], [-13, -1]), (23, [3], [13, 1]), (23, [3], [-13, -1]), (101, [4, 11], [158]), (1, [11, 6, 10], []), (23, [3], [13, 1]), (23, [3], [-13, -1]), (102, [8], [0]), (23, [3], [13, 1]), (23, [3], [-13, -1])], [], [(0, 0, 2010, [])], [(20, [4], [50, 2, 1, 158, 157, 160, 2, 12, 0, 7, 4, 3, 2, 0, 158, 0, 1, 2, 0, 157, 2, 7, 0, 3, 2, 0, 157, 0, 2010, 3, 14, 1, 10, 3, 0, 160, 5, 3, 2, 0, 157, 0, 1, 0, 0, 1, 10, 3, 0, 160, 5, 3, 2, 0, 157, 0, 1, 0, 4]), (20, [1, 4], [30, 0, 1, 0, 0, -1, 1, 158]), (20, [4], [50, 2, 0, 164, 165, 4, 7, 1, 3, 2, 0, 164, 0, 0, 0, 3, 2, 0, 165, 0, 23]), (20, [4], [30, 13, 1, 1, 159]), (20, [4], [30, -13, -1, 1, 159]), (20, [4], [30, -1, -1, 1, 8]), (20, [17, 4], [30, -2011, -1, 0, 0, -1, 1, 158]), (20, [4, 1, 2, 3], [60, 4, 5, 8, 8, 158, 164, 10, 160, 161, 162, 163, 1]), (23, [3], [13, 1]), (23, [3], [-13, -1]), (24, [0, 4], [])], [(17, 7, 0, 0)], [(11, 6, 1, 1)])
theorem oo_Mo_both_at_f13_5 {kA : Nat → ClassId} : or_ok PRD kA GG o_Mo_both_at_f13_5 := by
  refine or_mk fun A ta ws vs hD hth hl => ?_
  intro t0 r0 t1 k1 t2 k2 t3 k3 t4 r4 t6 k6 t7 k7 t10 k10 t11 k11 t12 k12 t13 k13 t14 k14 d0 f0 f1 f2 f3 f4 f5 f6 f7 f8 f9 f10 f11 f12 f13 f14 f15 f16 f17 f18 f19 f20 ta1 w1 le1 s1 f22 f23 f24 f25 f26 f27 ta2 w2 le2 s2 f29 f30 f31 ta3 w3 le3 s3 f33 f34
  replace f0 := shm_311 f0
  replace f1 := shm_297 f1
  replace f2 := shm_298 f2
  replace f3 := shm_299 f3
  replace f4 := shm_302 f4
  replace f5 := shm_303 f5
  replace f6 := shm_7 f6
  replace f7 := shm_315 f7
  replace f8 := shm_316 f8
  replace f9 := shm_2014 f9
  replace f10 := shm_2015 f10
  replace f11 := shm_299 f11
  replace f12 := shm_2014 f12
  replace f13 := shm_2015 f13
  replace f14 := shm_5 f14
  replace f15 := shm_296 f15
  replace f16 := shm_306 f16
  replace f17 := shm_1005 f17
  replace f18 := shm_1006 f18
  replace f19 := shm_144 f19
  replace f20 := shm_307 f20
  replace f22 := shm_7 f22
  replace f23 := shm_315 f23
  replace f24 := shm_2014 f24
  replace f25 := shm_2015 f25
  replace f26 := shm_2014 f26
  replace f27 := shm_2015 f27
  have s2 : (∀ b j, w_el w1 b j = w_el w2 b j) ∧ ∀ b j, w_fd w1 b j = if b = v_ad (n_v vs 4) ∧ j = 158 then n_v vs 11 else w_fd w2 b j := s2.2
  replace f29 := shm_12 f29
  replace f30 := shm_2014 f30
  replace f31 := shm_2015 f31
  replace f33 := shm_2014 f33
  replace f34 := shm_2015 f34
  have q4 : n_v vs 4 = n_v vs 0 := f14.symm
  simp only [q4] at f0 f1 f2 f3 f4 f5 f8 f11 f15 f16 f17 f18 f19 f20
  rw [q4] at s2
  have cr_0_1 := fdq_46 hD hth r0
  have cr_0_160 := fdq_41 hD hth r0
  have cr_0_161 := fdq_47 hD hth r0
  have cr_0_162 := fdq_48 hD hth r0
  have cr_0_163 := fdq_49 hD hth r0
  have g0 : v_iv (n_v vs 11) = w_fi ws (n_v vs 0) 158 := congrArg v_iv f0
  have hK_0_1 := elq_6 hD hth cr_0_1
  have hK_0_160 := elq_5 hD hth cr_0_160
  have hK_0_162 := elq_7 hD hth cr_0_162
  have hK_0_163 := elq_8 hD hth cr_0_163
  have kz_0_8 := fdq_14 hD hth r0
  have kz_0_10 := fdq_50 hD hth r0
  have kz_0_157 := fdq_42 hD hth r0
  have kz_0_158 := fdq_43 hD hth r0
  have kz_0_159 := fdq_44 hD hth r0
  have kz_0_164 := fdq_45 hD hth r0
  have kz_0_165 := fdq_35 hD hth r0
  obtain ⟨x, ex, hx⟩ := iv_ex (ta := ta) (lo := 0) (hi := 2010) (z := 0 + (1 * v_iv (n_v vs 7) + 0)) (by omega) (by omega) (by omega) (by omega)
  have ex2 : v_iv (Value.int x) = 0 + (1 * v_iv (n_v vs 7) + 0) := ex
  have ex3 : 0 ≤ v_iv (Value.int x) ∧ v_iv (Value.int x) ≤ 2010 := tv_rng hx
  have e_0 : n_v (vs ++ [Value.int x]) 0 = n_v vs 0 := n_v_old (by rw [hl]; decide)
  have e_1 : n_v (vs ++ [Value.int x]) 1 = n_v vs 1 := n_v_old (by rw [hl]; decide)
  have e_2 : n_v (vs ++ [Value.int x]) 2 = n_v vs 2 := n_v_old (by rw [hl]; decide)
  have e_3 : n_v (vs ++ [Value.int x]) 3 = n_v vs 3 := n_v_old (by rw [hl]; decide)
  have e_4 : n_v (vs ++ [Value.int x]) 4 = n_v vs 4 := n_v_old (by rw [hl]; decide)
  have e_17 : n_v (vs ++ [Value.int x]) 17 = Value.int x := n_v_new hl
  have nf0 : fc_1 PRD (20, [4], [50, 2, 1, 158, 157, 160, 2, 12, 0, 7, 4, 3, 2, 0, 158, 0, 1, 2, 0, 157, 2, 7, 0, 3, 2, 0, 157, 0, 2010, 3, 14, 1, 10, 3, 0, 160, 5, 3, 2, 0, 157, 0, 1, 0, 0, 1, 10, 3, 0, 160, 5, 3, 2, 0, 157, 0, 1, 0, 4]) ws (vs ++ [Value.int x]) := by
    refine ⟨nf_inA hl rfl, sgq_296 ?_⟩
    · show ((w_fi ws (n_v (vs ++ [Value.int x]) 4) 158 + 1) ≤ w_fi ws (n_v (vs ++ [Value.int x]) 4) 157) ∧ ((w_fi ws (n_v (vs ++ [Value.int x]) 4) 157 ≤ 2010) ∧ ((w_ei ws (w_ar ws (n_v (vs ++ [Value.int x]) 4) 160) ((w_fi ws (n_v (vs ++ [Value.int x]) 4) 157 - 1)) = 0) ∨ (w_ei ws (w_ar ws (n_v (vs ++ [Value.int x]) 4) 160) ((w_fi ws (n_v (vs ++ [Value.int x]) 4) 157 - 1)) = 4)))
      simp only [e_4, q4]
      exact vc_Mo_both_at_f13_5_0 (v_iv (n_v vs 1)) (v_iv (n_v vs 2)) (v_iv (n_v vs 3)) (v_iv (n_v vs 6)) (v_iv (n_v vs 7)) (v_iv (n_v vs 10)) (v_iv (n_v vs 11)) (v_iv (n_v vs 12)) (v_iv (n_v vs 13)) (v_iv (n_v vs 14)) (w_fi ws (n_v vs 0) 158) (w_fi ws (n_v vs 0) 164) (w_fi ws (n_v vs 0) 165) (w_fi ws (n_v vs 0) 8) (w_fi ws (n_v vs 0) 159) (w_ei ws (w_ar ws (n_v vs 0) 160)) (w_ei ws (w_ar ws (n_v vs 0) 161)) (w_ei ws (w_ar ws (n_v vs 0) 162)) (w_ei ws (w_ar ws (n_v vs 0) 163)) (w_ei ws (w_ar ws (n_v vs 0) 1)) (w_fi ws (n_v vs 0) 10) (w_fi ws (n_v vs 0) 157) (v_iv (Value.int x)) k1 k2 k3 k6 k7 k10 k11 k12 k13 k14 d0 g0 f1 f2 f3 f4 f5 f6 f7 f8 f9 f10 f11 f12 f13 f15 f16 f17 f18 f19 f20 f22 f23 f24 f25 f26 f27 f29 f30 f31 f33 f34 hK_0_1 hK_0_160 hK_0_162 hK_0_163 kz_0_8 kz_0_10 kz_0_157 kz_0_158 kz_0_159 kz_0_164 kz_0_165 ex2 ex3
  have nf1 : fc_1 PRD (20, [1, 4], [30, 0, 1, 0, 0, -1, 1, 158]) ws (vs ++ [Value.int x]) := by
    refine ⟨nf_inA hl rfl, sgq_306 ?_⟩
    · show 1 * v_iv (n_v (vs ++ [Value.int x]) 1) + ((-1) * w_fi ws (n_v (vs ++ [Value.int x]) 4) 158 + 0) ≤ 0
      simp only [e_1, e_4, q4]
      exact vc_Mo_both_at_f13_5_1 (v_iv (n_v vs 1)) (v_iv (n_v vs 2)) (v_iv (n_v vs 3)) (v_iv (n_v vs 6)) (v_iv (n_v vs 7)) (v_iv (n_v vs 10)) (v_iv (n_v vs 11)) (v_iv (n_v vs 12)) (v_iv (n_v vs 13)) (v_iv (n_v vs 14)) (w_fi ws (n_v vs 0) 158) (w_fi ws (n_v vs 0) 164) (w_fi ws (n_v vs 0) 165) (w_fi ws (n_v vs 0) 8) (w_fi ws (n_v vs 0) 159) (w_ei ws (w_ar ws (n_v vs 0) 160)) (w_ei ws (w_ar ws (n_v vs 0) 161)) (w_ei ws (w_ar ws (n_v vs 0) 162)) (w_ei ws (w_ar ws (n_v vs 0) 163)) (w_ei ws (w_ar ws (n_v vs 0) 1)) (w_fi ws (n_v vs 0) 10) (w_fi ws (n_v vs 0) 157) (v_iv (Value.int x)) k1 k2 k3 k6 k7 k10 k11 k12 k13 k14 d0 g0 f1 f2 f3 f4 f5 f6 f7 f8 f9 f10 f11 f12 f13 f15 f16 f17 f18 f19 f20 f22 f23 f24 f25 f26 f27 f29 f30 f31 f33 f34 hK_0_1 hK_0_160 hK_0_162 hK_0_163 kz_0_8 kz_0_10 kz_0_157 kz_0_158 kz_0_159 kz_0_164 kz_0_165 ex2 ex3
  have nf2 : fc_1 PRD (20, [4], [50, 2, 0, 164, 165, 4, 7, 1, 3, 2, 0, 164, 0, 0, 0, 3, 2, 0, 165, 0, 23]) ws (vs ++ [Value.int x]) := by
    refine ⟨nf_inA hl rfl, sgq_299 ?_⟩
    · show (w_fi ws (n_v (vs ++ [Value.int x]) 4) 164 = 0) → (w_fi ws (n_v (vs ++ [Value.int x]) 4) 165 ≤ 23)
      simp only [e_4, q4]
      exact vc_Mo_both_at_f13_5_2 (v_iv (n_v vs 1)) (v_iv (n_v vs 2)) (v_iv (n_v vs 3)) (v_iv (n_v vs 6)) (v_iv (n_v vs 7)) (v_iv (n_v vs 10)) (v_iv (n_v vs 11)) (v_iv (n_v vs 12)) (v_iv (n_v vs 13)) (v_iv (n_v vs 14)) (w_fi ws (n_v vs 0) 158) (w_fi ws (n_v vs 0) 164) (w_fi ws (n_v vs 0) 165) (w_fi ws (n_v vs 0) 8) (w_fi ws (n_v vs 0) 159) (w_ei ws (w_ar ws (n_v vs 0) 160)) (w_ei ws (w_ar ws (n_v vs 0) 161)) (w_ei ws (w_ar ws (n_v vs 0) 162)) (w_ei ws (w_ar ws (n_v vs 0) 163)) (w_ei ws (w_ar ws (n_v vs 0) 1)) (w_fi ws (n_v vs 0) 10) (w_fi ws (n_v vs 0) 157) (v_iv (Value.int x)) k1 k2 k3 k6 k7 k10 k11 k12 k13 k14 d0 g0 f1 f2 f3 f4 f5 f6 f7 f8 f9 f10 f11 f12 f13 f15 f16 f17 f18 f19 f20 f22 f23 f24 f25 f26 f27 f29 f30 f31 f33 f34 hK_0_1 hK_0_160 hK_0_162 hK_0_163 kz_0_8 kz_0_10 kz_0_157 kz_0_158 kz_0_159 kz_0_164 kz_0_165 ex2 ex3
  have nf3 : fc_1 PRD (20, [4], [30, 13, 1, 1, 159]) ws (vs ++ [Value.int x]) := by
    refine ⟨nf_inA hl rfl, sgq_1005 ?_⟩
    · show 1 * w_fi ws (n_v (vs ++ [Value.int x]) 4) 159 + 0 ≤ 13
      simp only [e_4, q4]
      exact vc_Mo_both_at_f13_5_3 (v_iv (n_v vs 1)) (v_iv (n_v vs 2)) (v_iv (n_v vs 3)) (v_iv (n_v vs 6)) (v_iv (n_v vs 7)) (v_iv (n_v vs 10)) (v_iv (n_v vs 11)) (v_iv (n_v vs 12)) (v_iv (n_v vs 13)) (v_iv (n_v vs 14)) (w_fi ws (n_v vs 0) 158) (w_fi ws (n_v vs 0) 164) (w_fi ws (n_v vs 0) 165) (w_fi ws (n_v vs 0) 8) (w_fi ws (n_v vs 0) 159) (w_ei ws (w_ar ws (n_v vs 0) 160)) (w_ei ws (w_ar ws (n_v vs 0) 161)) (w_ei ws (w_ar ws (n_v vs 0) 162)) (w_ei ws (w_ar ws (n_v vs 0) 163)) (w_ei ws (w_ar ws (n_v vs 0) 1)) (w_fi ws (n_v vs 0) 10) (w_fi ws (n_v vs 0) 157) (v_iv (Value.int x)) k1 k2 k3 k6 k7 k10 k11 k12 k13 k14 d0 g0 f1 f2 f3 f4 f5 f6 f7 f8 f9 f10 f11 f12 f13 f15 f16 f17 f18 f19 f20 f22 f23 f24 f25 f26 f27 f29 f30 f31 f33 f34 hK_0_1 hK_0_160 hK_0_162 hK_0_163 kz_0_8 kz_0_10 kz_0_157 kz_0_158 kz_0_159 kz_0_164 kz_0_165 ex2 ex3
  have nf4 : fc_1 PRD (20, [4], [30, -13, -1, 1, 159]) ws (vs ++ [Value.int x]) := by
    refine ⟨nf_inA hl rfl, sgq_1006 ?_⟩
    · show (-1) * w_fi ws (n_v (vs ++ [Value.int x]) 4) 159 + 0 ≤ (-13)
      simp only [e_4, q4]
      exact vc_Mo_both_at_f13_5_4 (v_iv (n_v vs 1)) (v_iv (n_v vs 2)) (v_iv (n_v vs 3)) (v_iv (n_v vs 6)) (v_iv (n_v vs 7)) (v_iv (n_v vs 10)) (v_iv (n_v vs 11)) (v_iv (n_v vs 12)) (v_iv (n_v vs 13)) (v_iv (n_v vs 14)) (w_fi ws (n_v vs 0) 158) (w_fi ws (n_v vs 0) 164) (w_fi ws (n_v vs 0) 165) (w_fi ws (n_v vs 0) 8) (w_fi ws (n_v vs 0) 159) (w_ei ws (w_ar ws (n_v vs 0) 160)) (w_ei ws (w_ar ws (n_v vs 0) 161)) (w_ei ws (w_ar ws (n_v vs 0) 162)) (w_ei ws (w_ar ws (n_v vs 0) 163)) (w_ei ws (w_ar ws (n_v vs 0) 1)) (w_fi ws (n_v vs 0) 10) (w_fi ws (n_v vs 0) 157) (v_iv (Value.int x)) k1 k2 k3 k6 k7 k10 k11 k12 k13 k14 d0 g0 f1 f2 f3 f4 f5 f6 f7 f8 f9 f10 f11 f12 f13 f15 f16 f17 f18 f19 f20 f22 f23 f24 f25 f26 f27 f29 f30 f31 f33 f34 hK_0_1 hK_0_160 hK_0_162 hK_0_163 kz_0_8 kz_0_10 kz_0_157 kz_0_158 kz_0_159 kz_0_164 kz_0_165 ex2 ex3
  have nf5 : fc_1 PRD (20, [4], [30, -1, -1, 1, 8]) ws (vs ++ [Value.int x]) := by
    refine ⟨nf_inA hl rfl, sgq_144 ?_⟩
    · show (-1) * w_fi ws (n_v (vs ++ [Value.int x]) 4) 8 + 0 ≤ (-1)
      simp only [e_4, q4]
      exact vc_Mo_both_at_f13_5_5 (v_iv (n_v vs 1)) (v_iv (n_v vs 2)) (v_iv (n_v vs 3)) (v_iv (n_v vs 6)) (v_iv (n_v vs 7)) (v_iv (n_v vs 10)) (v_iv (n_v vs 11)) (v_iv (n_v vs 12)) (v_iv (n_v vs 13)) (v_iv (n_v vs 14)) (w_fi ws (n_v vs 0) 158) (w_fi ws (n_v vs 0) 164) (w_fi ws (n_v vs 0) 165) (w_fi ws (n_v vs 0) 8) (w_fi ws (n_v vs 0) 159) (w_ei ws (w_ar ws (n_v vs 0) 160)) (w_ei ws (w_ar ws (n_v vs 0) 161)) (w_ei ws (w_ar ws (n_v vs 0) 162)) (w_ei ws (w_ar ws (n_v vs 0) 163)) (w_ei ws (w_ar ws (n_v vs 0) 1)) (w_fi ws (n_v vs 0) 10) (w_fi ws (n_v vs 0) 157) (v_iv (Value.int x)) k1 k2 k3 k6 k7 k10 k11 k12 k13 k14 d0 g0 f1 f2 f3 f4 f5 f6 f7 f8 f9 f10 f11 f12 f13 f15 f16 f17 f18 f19 f20 f22 f23 f24 f25 f26 f27 f29 f30 f31 f33 f34 hK_0_1 hK_0_160 hK_0_162 hK_0_163 kz_0_8 kz_0_10 kz_0_157 kz_0_158 kz_0_159 kz_0_164 kz_0_165 ex2 ex3
  have nf6 : fc_1 PRD (20, [17, 4], [30, -2011, -1, 0, 0, -1, 1, 158]) ws (vs ++ [Value.int x]) := by
    refine ⟨nf_inA hl rfl, sgq_317 ?_⟩
    · show (-1) * v_iv (n_v (vs ++ [Value.int x]) 17) + ((-1) * w_fi ws (n_v (vs ++ [Value.int x]) 4) 158 + 0) ≤ (-2011)
      simp only [e_4, e_17, q4]
      exact vc_Mo_both_at_f13_5_6 (v_iv (n_v vs 1)) (v_iv (n_v vs 2)) (v_iv (n_v vs 3)) (v_iv (n_v vs 6)) (v_iv (n_v vs 7)) (v_iv (n_v vs 10)) (v_iv (n_v vs 11)) (v_iv (n_v vs 12)) (v_iv (n_v vs 13)) (v_iv (n_v vs 14)) (w_fi ws (n_v vs 0) 158) (w_fi ws (n_v vs 0) 164) (w_fi ws (n_v vs 0) 165) (w_fi ws (n_v vs 0) 8) (w_fi ws (n_v vs 0) 159) (w_ei ws (w_ar ws (n_v vs 0) 160)) (w_ei ws (w_ar ws (n_v vs 0) 161)) (w_ei ws (w_ar ws (n_v vs 0) 162)) (w_ei ws (w_ar ws (n_v vs 0) 163)) (w_ei ws (w_ar ws (n_v vs 0) 1)) (w_fi ws (n_v vs 0) 10) (w_fi ws (n_v vs 0) 157) (v_iv (Value.int x)) k1 k2 k3 k6 k7 k10 k11 k12 k13 k14 d0 g0 f1 f2 f3 f4 f5 f6 f7 f8 f9 f10 f11 f12 f13 f15 f16 f17 f18 f19 f20 f22 f23 f24 f25 f26 f27 f29 f30 f31 f33 f34 hK_0_1 hK_0_160 hK_0_162 hK_0_163 kz_0_8 kz_0_10 kz_0_157 kz_0_158 kz_0_159 kz_0_164 kz_0_165 ex2 ex3
  have nf7 : fc_1 PRD (20, [4, 1, 2, 3], [60, 4, 5, 8, 8, 158, 164, 10, 160, 161, 162, 163, 1]) ws (vs ++ [Value.int x]) := by
    refine ⟨nf_inA hl rfl, sgq_308 ?_⟩
    · show SBL (w_fi ws (n_v (vs ++ [Value.int x]) 4) 8) (w_fi ws (n_v (vs ++ [Value.int x]) 4) 158) (w_fi ws (n_v (vs ++ [Value.int x]) 4) 164) (w_fi ws (n_v (vs ++ [Value.int x]) 4) 10) (w_ei ws (w_ar ws (n_v (vs ++ [Value.int x]) 4) 160)) (w_ei ws (w_ar ws (n_v (vs ++ [Value.int x]) 4) 161)) (w_ei ws (w_ar ws (n_v (vs ++ [Value.int x]) 4) 162)) (w_ei ws (w_ar ws (n_v (vs ++ [Value.int x]) 4) 163)) (w_ei ws (w_ar ws (n_v (vs ++ [Value.int x]) 4) 1)) (v_iv (n_v (vs ++ [Value.int x]) 1)) (v_iv (n_v (vs ++ [Value.int x]) 2)) (v_iv (n_v (vs ++ [Value.int x]) 3))
      simp only [e_1, e_2, e_3, e_4, q4]
      exact vc_Mo_both_at_f13_5_7 (v_iv (n_v vs 1)) (v_iv (n_v vs 2)) (v_iv (n_v vs 3)) (v_iv (n_v vs 11)) (v_iv (n_v vs 12)) (v_iv (n_v vs 13)) (v_iv (n_v vs 14)) (w_fi ws (n_v vs 0) 158) (w_fi ws (n_v vs 0) 164) (w_fi ws (n_v vs 0) 8) (w_fi ws (n_v vs 0) 159) (w_ei ws (w_ar ws (n_v vs 0) 160)) (w_ei ws (w_ar ws (n_v vs 0) 161)) (w_ei ws (w_ar ws (n_v vs 0) 162)) (w_ei ws (w_ar ws (n_v vs 0) 163)) (w_ei ws (w_ar ws (n_v vs 0) 1)) (w_fi ws (n_v vs 0) 10) k1 k2 k3 k11 k12 k13 k14 g0 f1 f2 f5 f8 f10 f13 f20 kz_0_8 kz_0_10 kz_0_158 kz_0_159 kz_0_164
  have nf8 : fc_1 PRD (23, [3], [13, 1]) ws (vs ++ [Value.int x]) := by
    refine ⟨nf_inA hl rfl, sgq_2014 ?_⟩
    · show 1 * v_iv (n_v (vs ++ [Value.int x]) 3) + 0 ≤ 13
      rw [e_3]
      exact vc_Mo_both_at_f13_5_8 (v_iv (n_v vs 1)) (v_iv (n_v vs 2)) (v_iv (n_v vs 3)) (v_iv (n_v vs 6)) (v_iv (n_v vs 7)) (v_iv (n_v vs 10)) (v_iv (n_v vs 11)) (v_iv (n_v vs 12)) (v_iv (n_v vs 13)) (v_iv (n_v vs 14)) (w_fi ws (n_v vs 0) 158) (w_fi ws (n_v vs 0) 164) (w_fi ws (n_v vs 0) 165) (w_fi ws (n_v vs 0) 8) (w_fi ws (n_v vs 0) 159) (w_ei ws (w_ar ws (n_v vs 0) 160)) (w_ei ws (w_ar ws (n_v vs 0) 161)) (w_ei ws (w_ar ws (n_v vs 0) 162)) (w_ei ws (w_ar ws (n_v vs 0) 163)) (w_ei ws (w_ar ws (n_v vs 0) 1)) (w_fi ws (n_v vs 0) 10) (w_fi ws (n_v vs 0) 157) (v_iv (Value.int x)) k1 k2 k3 k6 k7 k10 k11 k12 k13 k14 d0 g0 f1 f2 f3 f4 f5 f6 f7 f8 f9 f10 f11 f12 f13 f15 f16 f17 f18 f19 f20 f22 f23 f24 f25 f26 f27 f29 f30 f31 f33 f34 hK_0_1 hK_0_160 hK_0_162 hK_0_163 kz_0_8 kz_0_10 kz_0_157 kz_0_158 kz_0_159 kz_0_164 kz_0_165 ex2 ex3
  have nf9 : fc_1 PRD (23, [3], [-13, -1]) ws (vs ++ [Value.int x]) := by
    refine ⟨nf_inA hl rfl, sgq_2015 ?_⟩
    · show (-1) * v_iv (n_v (vs ++ [Value.int x]) 3) + 0 ≤ (-13)
      rw [e_3]
      exact vc_Mo_both_at_f13_5_9 (v_iv (n_v vs 1)) (v_iv (n_v vs 2)) (v_iv (n_v vs 3)) (v_iv (n_v vs 6)) (v_iv (n_v vs 7)) (v_iv (n_v vs 10)) (v_iv (n_v vs 11)) (v_iv (n_v vs 12)) (v_iv (n_v vs 13)) (v_iv (n_v vs 14)) (w_fi ws (n_v vs 0) 158) (w_fi ws (n_v vs 0) 164) (w_fi ws (n_v vs 0) 165) (w_fi ws (n_v vs 0) 8) (w_fi ws (n_v vs 0) 159) (w_ei ws (w_ar ws (n_v vs 0) 160)) (w_ei ws (w_ar ws (n_v vs 0) 161)) (w_ei ws (w_ar ws (n_v vs 0) 162)) (w_ei ws (w_ar ws (n_v vs 0) 163)) (w_ei ws (w_ar ws (n_v vs 0) 1)) (w_fi ws (n_v vs 0) 10) (w_fi ws (n_v vs 0) 157) (v_iv (Value.int x)) k1 k2 k3 k6 k7 k10 k11 k12 k13 k14 d0 g0 f1 f2 f3 f4 f5 f6 f7 f8 f9 f10 f11 f12 f13 f15 f16 f17 f18 f19 f20 f22 f23 f24 f25 f26 f27 f29 f30 f31 f33 f34 hK_0_1 hK_0_160 hK_0_162 hK_0_163 kz_0_8 kz_0_10 kz_0_157 kz_0_158 kz_0_159 kz_0_164 kz_0_165 ex2 ex3
  have nf10 : fc_1 PRD (24, [0, 4], []) ws (vs ++ [Value.int x]) := by
    refine ⟨nf_inA hl rfl, sgq_5 ?_⟩
    · show n_v (vs ++ [Value.int x]) 0 = n_v (vs ++ [Value.int x]) 4
      first | rfl | simp only [e_0, e_4, q4]
  obtain ⟨x0, e0, _, _⟩ := tv_int t7 rfl
  have e1 : v_iv (n_v vs 7) = x0.toInt := by rw [e0]; rfl
  have ho : sy_ofs (vs ++ [Value.int x]) (17, 7, 0, 0) := by
    refine ⟨x, x0, by rw [List.getElem?_append_right (by rw [hl]; decide), hl]; rfl, ?_, ?_, ?_⟩
    · rw [List.getElem?_append_left (by rw [hl]; decide)]; exact n_v_some (by rw [hl]; decide) e0
    · show x0.toInt + 0 ≤ x.toInt; omega
    · show x.toInt ≤ x0.toInt + 0; omega
  exact ⟨(fun _ h => (by cases h)), [Value.int x], ag_one hx, List.forall_mem_cons.mpr ⟨⟨show (20 : Nat) < 100 from by decide, nf0⟩, List.forall_mem_cons.mpr ⟨⟨show (20 : Nat) < 100 from by decide, nf1⟩, List.forall_mem_cons.mpr ⟨⟨show (20 : Nat) < 100 from by decide, nf2⟩, List.forall_mem_cons.mpr ⟨⟨show (20 : Nat) < 100 from by decide, nf3⟩, List.forall_mem_cons.mpr ⟨⟨show (20 : Nat) < 100 from by decide, nf4⟩, List.forall_mem_cons.mpr ⟨⟨show (20 : Nat) < 100 from by decide, nf5⟩, List.forall_mem_cons.mpr ⟨⟨show (20 : Nat) < 100 from by decide, nf6⟩, List.forall_mem_cons.mpr ⟨⟨show (20 : Nat) < 100 from by decide, nf7⟩, List.forall_mem_cons.mpr ⟨⟨show (23 : Nat) < 100 from by decide, nf8⟩, List.forall_mem_cons.mpr ⟨⟨show (23 : Nat) < 100 from by decide, nf9⟩, List.forall_mem_cons.mpr ⟨⟨show (24 : Nat) < 100 from by decide, nf10⟩, (fun _ h => (by cases h))⟩⟩⟩⟩⟩⟩⟩⟩⟩⟩⟩, List.forall_mem_cons.mpr ⟨ho, (fun _ h => (by cases h))⟩⟩
set_option maxHeartbeats 4000000 in
theorem vc_Mo_both_at_f13_6_0 (x1 : Int) (x2 : Int) (x3 : Int) (x8 : Int) (x9 : Int) (cur_0 : Int) (tokenKind_0 : Int → Int) (tokens_0 : Int) (styleKind_0 : Int) (styleOne_0 : Int) (opened_0 : Int) (fault_0 : Int) (tokenValue_0 : Int → Int) (tokenPlace_0 : Int → Int) (tokenEnd_0 : Int → Int) (tape_0 : Int → Int) (limit_0 : Int) (gx : Int) (k1 : 0 ≤ x1 ∧ x1 ≤ 2009) (k2 : 0 ≤ x2 ∧ x2 ≤ 5) (k3 : 0 ≤ x3 ∧ x3 ≤ 13) (k8 : 1 ≤ x8 ∧ x8 ≤ 2009) (k9 : 0 ≤ x9 ∧ x9 ≤ 2010) (g0 : x8 = cur_0) (f1 : ((cur_0 + 1) ≤ tokens_0) ∧ ((tokens_0 ≤ 2010) ∧ ((tokenKind_0 ((tokens_0 - 1)) = 0) ∨ (tokenKind_0 ((tokens_0 - 1)) = 4)))) (f2 : 1 * x1 + ((-1) * cur_0 + 0) ≤ 0) (f3 : (styleKind_0 = 0) → (styleOne_0 ≤ 23)) (f4 : 1 * opened_0 + 0 ≤ 13) (f5 : (-1) * opened_0 + 0 ≤ (-13)) (f6 : (-1) * fault_0 + 0 ≤ (-1)) (f7 : (-1) * x9 + ((-1) * cur_0 + 0) ≤ (-2011)) (f8 : SBL (fault_0) (cur_0) (styleKind_0) (limit_0) (tokenKind_0) (tokenValue_0) (tokenPlace_0) (tokenEnd_0) (tape_0) (x1) (x2) (x3)) (f9 : 1 * x3 + 0 ≤ 13) (f10 : (-1) * x3 + 0 ≤ (-13)) (hK_0_1 : ∀ j : Int, 0 ≤ j → j < 2000 → (-128) ≤ tape_0 j ∧ tape_0 j ≤ 127) (hK_0_160 : ∀ j : Int, 0 ≤ j → j < 2010 → 0 ≤ tokenKind_0 j ∧ tokenKind_0 j ≤ 4) (hK_0_162 : ∀ j : Int, 0 ≤ j → j < 2010 → 0 ≤ tokenPlace_0 j ∧ tokenPlace_0 j ≤ 2000) (hK_0_163 : ∀ j : Int, 0 ≤ j → j < 2010 → 0 ≤ tokenEnd_0 j ∧ tokenEnd_0 j ≤ 2000) (kz_0_8 : 0 ≤ fault_0 ∧ fault_0 ≤ 5) (kz_0_10 : 0 ≤ limit_0 ∧ limit_0 ≤ 2000) (kz_0_157 : 0 ≤ tokens_0 ∧ tokens_0 ≤ 2010) (kz_0_158 : 0 ≤ cur_0 ∧ cur_0 ≤ 2009) (kz_0_159 : 0 ≤ opened_0 ∧ opened_0 ≤ 13) (kz_0_164 : 0 ≤ styleKind_0 ∧ styleKind_0 ≤ 1) (kz_0_165 : (-1) ≤ styleOne_0 ∧ styleOne_0 ≤ 47) (ex2 : gx = 2010 + ((-1) * cur_0 + 0)) (ex3 : 0 ≤ gx ∧ gx ≤ 2010) : ((cur_0 + 1) ≤ tokens_0) ∧ ((tokens_0 ≤ 2010) ∧ ((tokenKind_0 ((tokens_0 - 1)) = 0) ∨ (tokenKind_0 ((tokens_0 - 1)) = 4))) := by
  first | assumption | (clear f1 f3 hK_0_1 hK_0_160 hK_0_162 hK_0_163; omega) | (clear hK_0_1 hK_0_160 hK_0_162 hK_0_163; grind) | omega | grind
set_option maxHeartbeats 4000000 in
theorem vc_Mo_both_at_f13_6_1 (x1 : Int) (x2 : Int) (x3 : Int) (x8 : Int) (x9 : Int) (cur_0 : Int) (tokenKind_0 : Int → Int) (tokens_0 : Int) (styleKind_0 : Int) (styleOne_0 : Int) (opened_0 : Int) (fault_0 : Int) (tokenValue_0 : Int → Int) (tokenPlace_0 : Int → Int) (tokenEnd_0 : Int → Int) (tape_0 : Int → Int) (limit_0 : Int) (gx : Int) (k1 : 0 ≤ x1 ∧ x1 ≤ 2009) (k2 : 0 ≤ x2 ∧ x2 ≤ 5) (k3 : 0 ≤ x3 ∧ x3 ≤ 13) (k8 : 1 ≤ x8 ∧ x8 ≤ 2009) (k9 : 0 ≤ x9 ∧ x9 ≤ 2010) (g0 : x8 = cur_0) (f1 : ((cur_0 + 1) ≤ tokens_0) ∧ ((tokens_0 ≤ 2010) ∧ ((tokenKind_0 ((tokens_0 - 1)) = 0) ∨ (tokenKind_0 ((tokens_0 - 1)) = 4)))) (f2 : 1 * x1 + ((-1) * cur_0 + 0) ≤ 0) (f3 : (styleKind_0 = 0) → (styleOne_0 ≤ 23)) (f4 : 1 * opened_0 + 0 ≤ 13) (f5 : (-1) * opened_0 + 0 ≤ (-13)) (f6 : (-1) * fault_0 + 0 ≤ (-1)) (f7 : (-1) * x9 + ((-1) * cur_0 + 0) ≤ (-2011)) (f8 : SBL (fault_0) (cur_0) (styleKind_0) (limit_0) (tokenKind_0) (tokenValue_0) (tokenPlace_0) (tokenEnd_0) (tape_0) (x1) (x2) (x3)) (f9 : 1 * x3 + 0 ≤ 13) (f10 : (-1) * x3 + 0 ≤ (-13)) (hK_0_1 : ∀ j : Int, 0 ≤ j → j < 2000 → (-128) ≤ tape_0 j ∧ tape_0 j ≤ 127) (hK_0_160 : ∀ j : Int, 0 ≤ j → j < 2010 → 0 ≤ tokenKind_0 j ∧ tokenKind_0 j ≤ 4) (hK_0_162 : ∀ j : Int, 0 ≤ j → j < 2010 → 0 ≤ tokenPlace_0 j ∧ tokenPlace_0 j ≤ 2000) (hK_0_163 : ∀ j : Int, 0 ≤ j → j < 2010 → 0 ≤ tokenEnd_0 j ∧ tokenEnd_0 j ≤ 2000) (kz_0_8 : 0 ≤ fault_0 ∧ fault_0 ≤ 5) (kz_0_10 : 0 ≤ limit_0 ∧ limit_0 ≤ 2000) (kz_0_157 : 0 ≤ tokens_0 ∧ tokens_0 ≤ 2010) (kz_0_158 : 0 ≤ cur_0 ∧ cur_0 ≤ 2009) (kz_0_159 : 0 ≤ opened_0 ∧ opened_0 ≤ 13) (kz_0_164 : 0 ≤ styleKind_0 ∧ styleKind_0 ≤ 1) (kz_0_165 : (-1) ≤ styleOne_0 ∧ styleOne_0 ≤ 47) (ex2 : gx = 2010 + ((-1) * cur_0 + 0)) (ex3 : 0 ≤ gx ∧ gx ≤ 2010) : 1 * x1 + ((-1) * cur_0 + 0) ≤ 0 := by
  first | assumption | (clear f1 f3 hK_0_1 hK_0_160 hK_0_162 hK_0_163; omega) | (clear hK_0_1 hK_0_160 hK_0_162 hK_0_163; grind) | omega | grind
set_option maxHeartbeats 4000000 in
theorem vc_Mo_both_at_f13_6_2 (x1 : Int) (x2 : Int) (x3 : Int) (x8 : Int) (x9 : Int) (cur_0 : Int) (tokenKind_0 : Int → Int) (tokens_0 : Int) (styleKind_0 : Int) (styleOne_0 : Int) (opened_0 : Int) (fault_0 : Int) (tokenValue_0 : Int → Int) (tokenPlace_0 : Int → Int) (tokenEnd_0 : Int → Int) (tape_0 : Int → Int) (limit_0 : Int) (gx : Int) (k1 : 0 ≤ x1 ∧ x1 ≤ 2009) (k2 : 0 ≤ x2 ∧ x2 ≤ 5) (k3 : 0 ≤ x3 ∧ x3 ≤ 13) (k8 : 1 ≤ x8 ∧ x8 ≤ 2009) (k9 : 0 ≤ x9 ∧ x9 ≤ 2010) (g0 : x8 = cur_0) (f1 : ((cur_0 + 1) ≤ tokens_0) ∧ ((tokens_0 ≤ 2010) ∧ ((tokenKind_0 ((tokens_0 - 1)) = 0) ∨ (tokenKind_0 ((tokens_0 - 1)) = 4)))) (f2 : 1 * x1 + ((-1) * cur_0 + 0) ≤ 0) (f3 : (styleKind_0 = 0) → (styleOne_0 ≤ 23)) (f4 : 1 * opened_0 + 0 ≤ 13) (f5 : (-1) * opened_0 + 0 ≤ (-13)) (f6 : (-1) * fault_0 + 0 ≤ (-1)) (f7 : (-1) * x9 + ((-1) * cur_0 + 0) ≤ (-2011)) (f8 : SBL (fault_0) (cur_0) (styleKind_0) (limit_0) (tokenKind_0) (tokenValue_0) (tokenPlace_0) (tokenEnd_0) (tape_0) (x1) (x2) (x3)) (f9 : 1 * x3 + 0 ≤ 13) (f10 : (-1) * x3 + 0 ≤ (-13)) (hK_0_1 : ∀ j : Int, 0 ≤ j → j < 2000 → (-128) ≤ tape_0 j ∧ tape_0 j ≤ 127) (hK_0_160 : ∀ j : Int, 0 ≤ j → j < 2010 → 0 ≤ tokenKind_0 j ∧ tokenKind_0 j ≤ 4) (hK_0_162 : ∀ j : Int, 0 ≤ j → j < 2010 → 0 ≤ tokenPlace_0 j ∧ tokenPlace_0 j ≤ 2000) (hK_0_163 : ∀ j : Int, 0 ≤ j → j < 2010 → 0 ≤ tokenEnd_0 j ∧ tokenEnd_0 j ≤ 2000) (kz_0_8 : 0 ≤ fault_0 ∧ fault_0 ≤ 5) (kz_0_10 : 0 ≤ limit_0 ∧ limit_0 ≤ 2000) (kz_0_157 : 0 ≤ tokens_0 ∧ tokens_0 ≤ 2010) (kz_0_158 : 0 ≤ cur_0 ∧ cur_0 ≤ 2009) (kz_0_159 : 0 ≤ opened_0 ∧ opened_0 ≤ 13) (kz_0_164 : 0 ≤ styleKind_0 ∧ styleKind_0 ≤ 1) (kz_0_165 : (-1) ≤ styleOne_0 ∧ styleOne_0 ≤ 47) (ex2 : gx = 2010 + ((-1) * cur_0 + 0)) (ex3 : 0 ≤ gx ∧ gx ≤ 2010) : (styleKind_0 = 0) → (styleOne_0 ≤ 23) := by
  first | assumption | (clear f1 f3 hK_0_1 hK_0_160 hK_0_162 hK_0_163; omega) | (clear hK_0_1 hK_0_160 hK_0_162 hK_0_163; grind) | omega | grind
set_option maxHeartbeats 4000000 in
theorem vc_Mo_both_at_f13_6_3 (x1 : Int) (x2 : Int) (x3 : Int) (x8 : Int) (x9 : Int) (cur_0 : Int) (tokenKind_0 : Int → Int) (tokens_0 : Int) (styleKind_0 : Int) (styleOne_0 : Int) (opened_0 : Int) (fault_0 : Int) (tokenValue_0 : Int → Int) (tokenPlace_0 : Int → Int) (tokenEnd_0 : Int → Int) (tape_0 : Int → Int) (limit_0 : Int) (gx : Int) (k1 : 0 ≤ x1 ∧ x1 ≤ 2009) (k2 : 0 ≤ x2 ∧ x2 ≤ 5) (k3 : 0 ≤ x3 ∧ x3 ≤ 13) (k8 : 1 ≤ x8 ∧ x8 ≤ 2009) (k9 : 0 ≤ x9 ∧ x9 ≤ 2010) (g0 : x8 = cur_0) (f1 : ((cur_0 + 1) ≤ tokens_0) ∧ ((tokens_0 ≤ 2010) ∧ ((tokenKind_0 ((tokens_0 - 1)) = 0) ∨ (tokenKind_0 ((tokens_0 - 1)) = 4)))) (f2 : 1 * x1 + ((-1) * cur_0 + 0) ≤ 0) (f3 : (styleKind_0 = 0) → (styleOne_0 ≤ 23)) (f4 : 1 * opened_0 + 0 ≤ 13) (f5 : (-1) * opened_0 + 0 ≤ (-13)) (f6 : (-1) * fault_0 + 0 ≤ (-1)) (f7 : (-1) * x9 + ((-1) * cur_0 + 0) ≤ (-2011)) (f8 : SBL (fault_0) (cur_0) (styleKind_0) (limit_0) (tokenKind_0) (tokenValue_0) (tokenPlace_0) (tokenEnd_0) (tape_0) (x1) (x2) (x3)) (f9 : 1 * x3 + 0 ≤ 13) (f10 : (-1) * x3 + 0 ≤ (-13)) (hK_0_1 : ∀ j : Int, 0 ≤ j → j < 2000 → (-128) ≤ tape_0 j ∧ tape_0 j ≤ 127) (hK_0_160 : ∀ j : Int, 0 ≤ j → j < 2010 → 0 ≤ tokenKind_0 j ∧ tokenKind_0 j ≤ 4) (hK_0_162 : ∀ j : Int, 0 ≤ j → j < 2010 → 0 ≤ tokenPlace_0 j ∧ tokenPlace_0 j ≤ 2000) (hK_0_163 : ∀ j : Int, 0 ≤ j → j < 2010 → 0 ≤ tokenEnd_0 j ∧ tokenEnd_0 j ≤ 2000) (kz_0_8 : 0 ≤ fault_0 ∧ fault_0 ≤ 5) (kz_0_10 : 0 ≤ limit_0 ∧ limit_0 ≤ 2000) (kz_0_157 : 0 ≤ tokens_0 ∧ tokens_0 ≤ 2010) (kz_0_158 : 0 ≤ cur_0 ∧ cur_0 ≤ 2009) (kz_0_159 : 0 ≤ opened_0 ∧ opened_0 ≤ 13) (kz_0_164 : 0 ≤ styleKind_0 ∧ styleKind_0 ≤ 1) (kz_0_165 : (-1) ≤ styleOne_0 ∧ styleOne_0 ≤ 47) (ex2 : gx = 2010 + ((-1) * cur_0 + 0)) (ex3 : 0 ≤ gx ∧ gx ≤ 2010) : 1 * opened_0 + 0 ≤ 13 := by
  first | assumption | (clear f1 f3 hK_0_1 hK_0_160 hK_0_162 hK_0_163; omega) | (clear hK_0_1 hK_0_160 hK_0_162 hK_0_163; grind) | omega | grind
set_option maxHeartbeats 4000000 in
theorem vc_Mo_both_at_f13_6_4 (x1 : Int) (x2 : Int) (x3 : Int) (x8 : Int) (x9 : Int) (cur_0 : Int) (tokenKind_0 : Int → Int) (tokens_0 : Int) (styleKind_0 : Int) (styleOne_0 : Int) (opened_0 : Int) (fault_0 : Int) (tokenValue_0 : Int → Int) (tokenPlace_0 : Int → Int) (tokenEnd_0 : Int → Int) (tape_0 : Int → Int) (limit_0 : Int) (gx : Int) (k1 : 0 ≤ x1 ∧ x1 ≤ 2009) (k2 : 0 ≤ x2 ∧ x2 ≤ 5) (k3 : 0 ≤ x3 ∧ x3 ≤ 13) (k8 : 1 ≤ x8 ∧ x8 ≤ 2009) (k9 : 0 ≤ x9 ∧ x9 ≤ 2010) (g0 : x8 = cur_0) (f1 : ((cur_0 + 1) ≤ tokens_0) ∧ ((tokens_0 ≤ 2010) ∧ ((tokenKind_0 ((tokens_0 - 1)) = 0) ∨ (tokenKind_0 ((tokens_0 - 1)) = 4)))) (f2 : 1 * x1 + ((-1) * cur_0 + 0) ≤ 0) (f3 : (styleKind_0 = 0) → (styleOne_0 ≤ 23)) (f4 : 1 * opened_0 + 0 ≤ 13) (f5 : (-1) * opened_0 + 0 ≤ (-13)) (f6 : (-1) * fault_0 + 0 ≤ (-1)) (f7 : (-1) * x9 + ((-1) * cur_0 + 0) ≤ (-2011)) (f8 : SBL (fault_0) (cur_0) (styleKind_0) (limit_0) (tokenKind_0) (tokenValue_0) (tokenPlace_0) (tokenEnd_0) (tape_0) (x1) (x2) (x3)) (f9 : 1 * x3 + 0 ≤ 13) (f10 : (-1) * x3 + 0 ≤ (-13)) (hK_0_1 : ∀ j : Int, 0 ≤ j → j < 2000 → (-128) ≤ tape_0 j ∧ tape_0 j ≤ 127) (hK_0_160 : ∀ j : Int, 0 ≤ j → j < 2010 → 0 ≤ tokenKind_0 j ∧ tokenKind_0 j ≤ 4) (hK_0_162 : ∀ j : Int, 0 ≤ j → j < 2010 → 0 ≤ tokenPlace_0 j ∧ tokenPlace_0 j ≤ 2000) (hK_0_163 : ∀ j : Int, 0 ≤ j → j < 2010 → 0 ≤ tokenEnd_0 j ∧ tokenEnd_0 j ≤ 2000) (kz_0_8 : 0 ≤ fault_0 ∧ fault_0 ≤ 5) (kz_0_10 : 0 ≤ limit_0 ∧ limit_0 ≤ 2000) (kz_0_157 : 0 ≤ tokens_0 ∧ tokens_0 ≤ 2010) (kz_0_158 : 0 ≤ cur_0 ∧ cur_0 ≤ 2009) (kz_0_159 : 0 ≤ opened_0 ∧ opened_0 ≤ 13) (kz_0_164 : 0 ≤ styleKind_0 ∧ styleKind_0 ≤ 1) (kz_0_165 : (-1) ≤ styleOne_0 ∧ styleOne_0 ≤ 47) (ex2 : gx = 2010 + ((-1) * cur_0 + 0)) (ex3 : 0 ≤ gx ∧ gx ≤ 2010) : (-1) * opened_0 + 0 ≤ (-13) := by
  first | assumption | (clear f1 f3 hK_0_1 hK_0_160 hK_0_162 hK_0_163; omega) | (clear hK_0_1 hK_0_160 hK_0_162 hK_0_163; grind) | omega | grind
set_option maxHeartbeats 4000000 in
theorem vc_Mo_both_at_f13_6_5 (x1 : Int) (x2 : Int) (x3 : Int) (x8 : Int) (x9 : Int) (cur_0 : Int) (tokenKind_0 : Int → Int) (tokens_0 : Int) (styleKind_0 : Int) (styleOne_0 : Int) (opened_0 : Int) (fault_0 : Int) (tokenValue_0 : Int → Int) (tokenPlace_0 : Int → Int) (tokenEnd_0 : Int → Int) (tape_0 : Int → Int) (limit_0 : Int) (gx : Int) (k1 : 0 ≤ x1 ∧ x1 ≤ 2009) (k2 : 0 ≤ x2 ∧ x2 ≤ 5) (k3 : 0 ≤ x3 ∧ x3 ≤ 13) (k8 : 1 ≤ x8 ∧ x8 ≤ 2009) (k9 : 0 ≤ x9 ∧ x9 ≤ 2010) (g0 : x8 = cur_0) (f1 : ((cur_0 + 1) ≤ tokens_0) ∧ ((tokens_0 ≤ 2010) ∧ ((tokenKind_0 ((tokens_0 - 1)) = 0) ∨ (tokenKind_0 ((tokens_0 - 1)) = 4)))) (f2 : 1 * x1 + ((-1) * cur_0 + 0) ≤ 0) (f3 : (styleKind_0 = 0) → (styleOne_0 ≤ 23)) (f4 : 1 * opened_0 + 0 ≤ 13) (f5 : (-1) * opened_0 + 0 ≤ (-13)) (f6 : (-1) * fault_0 + 0 ≤ (-1)) (f7 : (-1) * x9 + ((-1) * cur_0 + 0) ≤ (-2011)) (f8 : SBL (fault_0) (cur_0) (styleKind_0) (limit_0) (tokenKind_0) (tokenValue_0) (tokenPlace_0) (tokenEnd_0) (tape_0) (x1) (x2) (x3)) (f9 : 1 * x3 + 0 ≤ 13) (f10 : (-1) * x3 + 0 ≤ (-13)) (hK_0_1 : ∀ j : Int, 0 ≤ j → j < 2000 → (-128) ≤ tape_0 j ∧ tape_0 j ≤ 127) (hK_0_160 : ∀ j : Int, 0 ≤ j → j < 2010 → 0 ≤ tokenKind_0 j ∧ tokenKind_0 j ≤ 4) (hK_0_162 : ∀ j : Int, 0 ≤ j → j < 2010 → 0 ≤ tokenPlace_0 j ∧ tokenPlace_0 j ≤ 2000) (hK_0_163 : ∀ j : Int, 0 ≤ j → j < 2010 → 0 ≤ tokenEnd_0 j ∧ tokenEnd_0 j ≤ 2000) (kz_0_8 : 0 ≤ fault_0 ∧ fault_0 ≤ 5) (kz_0_10 : 0 ≤ limit_0 ∧ limit_0 ≤ 2000) (kz_0_157 : 0 ≤ tokens_0 ∧ tokens_0 ≤ 2010) (kz_0_158 : 0 ≤ cur_0 ∧ cur_0 ≤ 2009) (kz_0_159 : 0 ≤ opened_0 ∧ opened_0 ≤ 13) (kz_0_164 : 0 ≤ styleKind_0 ∧ styleKind_0 ≤ 1) (kz_0_165 : (-1) ≤ styleOne_0 ∧ styleOne_0 ≤ 47) (ex2 : gx = 2010 + ((-1) * cur_0 + 0)) (ex3 : 0 ≤ gx ∧ gx ≤ 2010) : (-1) * fault_0 + 0 ≤ (-1) := by
  first | assumption | (clear f1 f3 hK_0_1 hK_0_160 hK_0_162 hK_0_163; omega) | (clear hK_0_1 hK_0_160 hK_0_162 hK_0_163; grind) | omega | grind
set_option maxHeartbeats 4000000 in
theorem vc_Mo_both_at_f13_6_6 (x1 : Int) (x2 : Int) (x3 : Int) (cur_0 : Int) (tokenKind_0 : Int → Int) (styleKind_0 : Int) (fault_0 : Int) (tokenValue_0 : Int → Int) (tokenPlace_0 : Int → Int) (tokenEnd_0 : Int → Int) (tape_0 : Int → Int) (limit_0 : Int) (k1 : 0 ≤ x1 ∧ x1 ≤ 2009) (k2 : 0 ≤ x2 ∧ x2 ≤ 5) (k3 : 0 ≤ x3 ∧ x3 ≤ 13) (f8 : SBL (fault_0) (cur_0) (styleKind_0) (limit_0) (tokenKind_0) (tokenValue_0) (tokenPlace_0) (tokenEnd_0) (tape_0) (x1) (x2) (x3)) (kz_0_8 : 0 ≤ fault_0 ∧ fault_0 ≤ 5) (kz_0_10 : 0 ≤ limit_0 ∧ limit_0 ≤ 2000) (kz_0_158 : 0 ≤ cur_0 ∧ cur_0 ≤ 2009) (kz_0_164 : 0 ≤ styleKind_0 ∧ styleKind_0 ≤ 1) : SBL (fault_0) (cur_0) (styleKind_0) (limit_0) (tokenKind_0) (tokenValue_0) (tokenPlace_0) (tokenEnd_0) (tape_0) (x1) (x2) (x3) := by
  first
    | exact sbl_start (‹SON _ _ _ _ _ _ _ _ _ _ _ _›) (by omega) (by omega) (by omega) (by omega)
    | exact sbl_go (‹GBL _ _ _ _ _ _ _ _ _ _ _ _›) (‹SON _ _ _ _ _ _ _ _ _ _ _ _›) (by omega) (by omega) (by omega)
    | assumption
  
set_option maxHeartbeats 4000000 in
theorem vc_Mo_both_at_f13_6_7 (x1 : Int) (x2 : Int) (x3 : Int) (x8 : Int) (x9 : Int) (cur_0 : Int) (tokenKind_0 : Int → Int) (tokens_0 : Int) (styleKind_0 : Int) (styleOne_0 : Int) (opened_0 : Int) (fault_0 : Int) (tokenValue_0 : Int → Int) (tokenPlace_0 : Int → Int) (tokenEnd_0 : Int → Int) (tape_0 : Int → Int) (limit_0 : Int) (gx : Int) (k1 : 0 ≤ x1 ∧ x1 ≤ 2009) (k2 : 0 ≤ x2 ∧ x2 ≤ 5) (k3 : 0 ≤ x3 ∧ x3 ≤ 13) (k8 : 1 ≤ x8 ∧ x8 ≤ 2009) (k9 : 0 ≤ x9 ∧ x9 ≤ 2010) (g0 : x8 = cur_0) (f1 : ((cur_0 + 1) ≤ tokens_0) ∧ ((tokens_0 ≤ 2010) ∧ ((tokenKind_0 ((tokens_0 - 1)) = 0) ∨ (tokenKind_0 ((tokens_0 - 1)) = 4)))) (f2 : 1 * x1 + ((-1) * cur_0 + 0) ≤ 0) (f3 : (styleKind_0 = 0) → (styleOne_0 ≤ 23)) (f4 : 1 * opened_0 + 0 ≤ 13) (f5 : (-1) * opened_0 + 0 ≤ (-13)) (f6 : (-1) * fault_0 + 0 ≤ (-1)) (f7 : (-1) * x9 + ((-1) * cur_0 + 0) ≤ (-2011)) (f8 : SBL (fault_0) (cur_0) (styleKind_0) (limit_0) (tokenKind_0) (tokenValue_0) (tokenPlace_0) (tokenEnd_0) (tape_0) (x1) (x2) (x3)) (f9 : 1 * x3 + 0 ≤ 13) (f10 : (-1) * x3 + 0 ≤ (-13)) (hK_0_1 : ∀ j : Int, 0 ≤ j → j < 2000 → (-128) ≤ tape_0 j ∧ tape_0 j ≤ 127) (hK_0_160 : ∀ j : Int, 0 ≤ j → j < 2010 → 0 ≤ tokenKind_0 j ∧ tokenKind_0 j ≤ 4) (hK_0_162 : ∀ j : Int, 0 ≤ j → j < 2010 → 0 ≤ tokenPlace_0 j ∧ tokenPlace_0 j ≤ 2000) (hK_0_163 : ∀ j : Int, 0 ≤ j → j < 2010 → 0 ≤ tokenEnd_0 j ∧ tokenEnd_0 j ≤ 2000) (kz_0_8 : 0 ≤ fault_0 ∧ fault_0 ≤ 5) (kz_0_10 : 0 ≤ limit_0 ∧ limit_0 ≤ 2000) (kz_0_157 : 0 ≤ tokens_0 ∧ tokens_0 ≤ 2010) (kz_0_158 : 0 ≤ cur_0 ∧ cur_0 ≤ 2009) (kz_0_159 : 0 ≤ opened_0 ∧ opened_0 ≤ 13) (kz_0_164 : 0 ≤ styleKind_0 ∧ styleKind_0 ≤ 1) (kz_0_165 : (-1) ≤ styleOne_0 ∧ styleOne_0 ≤ 47) (ex2 : gx = 2010 + ((-1) * cur_0 + 0)) (ex3 : 0 ≤ gx ∧ gx ≤ 2010) : 1 * x3 + 0 ≤ 13 := by
  first | assumption | (clear f1 f3 hK_0_1 hK_0_160 hK_0_162 hK_0_163; omega) | (clear hK_0_1 hK_0_160 hK_0_162 hK_0_163; grind) | omega | grind
set_option maxHeartbeats 4000000 in
theorem vc_Mo_both_at_f13_6_8 (x1 : Int) (x2 : Int) (x3 : Int) (x8 : Int) (x9 : Int) (cur_0 : Int) (tokenKind_0 : Int → Int) (tokens_0 : Int) (styleKind_0 : Int) (styleOne_0 : Int) (opened_0 : Int) (fault_0 : Int) (tokenValue_0 : Int → Int) (tokenPlace_0 : Int → Int) (tokenEnd_0 : Int → Int) (tape_0 : Int → Int) (limit_0 : Int) (gx : Int) (k1 : 0 ≤ x1 ∧ x1 ≤ 2009) (k2 : 0 ≤ x2 ∧ x2 ≤ 5) (k3 : 0 ≤ x3 ∧ x3 ≤ 13) (k8 : 1 ≤ x8 ∧ x8 ≤ 2009) (k9 : 0 ≤ x9 ∧ x9 ≤ 2010) (g0 : x8 = cur_0) (f1 : ((cur_0 + 1) ≤ tokens_0) ∧ ((tokens_0 ≤ 2010) ∧ ((tokenKind_0 ((tokens_0 - 1)) = 0) ∨ (tokenKind_0 ((tokens_0 - 1)) = 4)))) (f2 : 1 * x1 + ((-1) * cur_0 + 0) ≤ 0) (f3 : (styleKind_0 = 0) → (styleOne_0 ≤ 23)) (f4 : 1 * opened_0 + 0 ≤ 13) (f5 : (-1) * opened_0 + 0 ≤ (-13)) (f6 : (-1) * fault_0 + 0 ≤ (-1)) (f7 : (-1) * x9 + ((-1) * cur_0 + 0) ≤ (-2011)) (f8 : SBL (fault_0) (cur_0) (styleKind_0) (limit_0) (tokenKind_0) (tokenValue_0) (tokenPlace_0) (tokenEnd_0) (tape_0) (x1) (x2) (x3)) (f9 : 1 * x3 + 0 ≤ 13) (f10 : (-1) * x3 + 0 ≤ (-13)) (hK_0_1 : ∀ j : Int, 0 ≤ j → j < 2000 → (-128) ≤ tape_0 j ∧ tape_0 j ≤ 127) (hK_0_160 : ∀ j : Int, 0 ≤ j → j < 2010 → 0 ≤ tokenKind_0 j ∧ tokenKind_0 j ≤ 4) (hK_0_162 : ∀ j : Int, 0 ≤ j → j < 2010 → 0 ≤ tokenPlace_0 j ∧ tokenPlace_0 j ≤ 2000) (hK_0_163 : ∀ j : Int, 0 ≤ j → j < 2010 → 0 ≤ tokenEnd_0 j ∧ tokenEnd_0 j ≤ 2000) (kz_0_8 : 0 ≤ fault_0 ∧ fault_0 ≤ 5) (kz_0_10 : 0 ≤ limit_0 ∧ limit_0 ≤ 2000) (kz_0_157 : 0 ≤ tokens_0 ∧ tokens_0 ≤ 2010) (kz_0_158 : 0 ≤ cur_0 ∧ cur_0 ≤ 2009) (kz_0_159 : 0 ≤ opened_0 ∧ opened_0 ≤ 13) (kz_0_164 : 0 ≤ styleKind_0 ∧ styleKind_0 ≤ 1) (kz_0_165 : (-1) ≤ styleOne_0 ∧ styleOne_0 ≤ 47) (ex2 : gx = 2010 + ((-1) * cur_0 + 0)) (ex3 : 0 ≤ gx ∧ gx ≤ 2010) : (-1) * x3 + 0 ≤ (-13) := by
  first | assumption | (clear f1 f3 hK_0_1 hK_0_160 hK_0_162 hK_0_163; omega) | (clear hK_0_1 hK_0_160 hK_0_162 hK_0_163; grind) | omega | grind
set_option maxHeartbeats 4000000 in
theorem vc_Mo_both_at_f13_6_10 (x1 : Int) (x2 : Int) (x3 : Int) (x8 : Int) (x9 : Int) (cur_0 : Int) (tokenKind_0 : Int → Int) (tokens_0 : Int) (styleKind_0 : Int) (styleOne_0 : Int) (opened_0 : Int) (fault_0 : Int) (tokenValue_0 : Int → Int) (tokenPlace_0 : Int → Int) (tokenEnd_0 : Int → Int) (tape_0 : Int → Int) (limit_0 : Int) (gx : Int) (k1 : 0 ≤ x1 ∧ x1 ≤ 2009) (k2 : 0 ≤ x2 ∧ x2 ≤ 5) (k3 : 0 ≤ x3 ∧ x3 ≤ 13) (k8 : 1 ≤ x8 ∧ x8 ≤ 2009) (k9 : 0 ≤ x9 ∧ x9 ≤ 2010) (g0 : x8 = cur_0) (f1 : ((cur_0 + 1) ≤ tokens_0) ∧ ((tokens_0 ≤ 2010) ∧ ((tokenKind_0 ((tokens_0 - 1)) = 0) ∨ (tokenKind_0 ((tokens_0 - 1)) = 4)))) (f2 : 1 * x1 + ((-1) * cur_0 + 0) ≤ 0) (f3 : (styleKind_0 = 0) → (styleOne_0 ≤ 23)) (f4 : 1 * opened_0 + 0 ≤ 13) (f5 : (-1) * opened_0 + 0 ≤ (-13)) (f6 : (-1) * fault_0 + 0 ≤ (-1)) (f7 : (-1) * x9 + ((-1) * cur_0 + 0) ≤ (-2011)) (f8 : SBL (fault_0) (cur_0) (styleKind_0) (limit_0) (tokenKind_0) (tokenValue_0) (tokenPlace_0) (tokenEnd_0) (tape_0) (x1) (x2) (x3)) (f9 : 1 * x3 + 0 ≤ 13) (f10 : (-1) * x3 + 0 ≤ (-13)) (hK_0_1 : ∀ j : Int, 0 ≤ j → j < 2000 → (-128) ≤ tape_0 j ∧ tape_0 j ≤ 127) (hK_0_160 : ∀ j : Int, 0 ≤ j → j < 2010 → 0 ≤ tokenKind_0 j ∧ tokenKind_0 j ≤ 4) (hK_0_162 : ∀ j : Int, 0 ≤ j → j < 2010 → 0 ≤ tokenPlace_0 j ∧ tokenPlace_0 j ≤ 2000) (hK_0_163 : ∀ j : Int, 0 ≤ j → j < 2010 → 0 ≤ tokenEnd_0 j ∧ tokenEnd_0 j ≤ 2000) (kz_0_8 : 0 ≤ fault_0 ∧ fault_0 ≤ 5) (kz_0_10 : 0 ≤ limit_0 ∧ limit_0 ≤ 2000) (kz_0_157 : 0 ≤ tokens_0 ∧ tokens_0 ≤ 2010) (kz_0_158 : 0 ≤ cur_0 ∧ cur_0 ≤ 2009) (kz_0_159 : 0 ≤ opened_0 ∧ opened_0 ≤ 13) (kz_0_164 : 0 ≤ styleKind_0 ∧ styleKind_0 ≤ 1) (kz_0_165 : (-1) ≤ styleOne_0 ∧ styleOne_0 ≤ 47) (ex2 : gx = 2010 + ((-1) * cur_0 + 0)) (ex3 : 0 ≤ gx ∧ gx ≤ 2010) : 1 * gx + (1 * cur_0 + 0) ≤ 2010 := by
  first | assumption | (clear f1 f3 hK_0_1 hK_0_160 hK_0_162 hK_0_163; omega) | (clear hK_0_1 hK_0_160 hK_0_162 hK_0_163; grind) | omega | grind
set_option maxHeartbeats 4000000 in
theorem vc_Mo_both_at_f13_6_11 (x1 : Int) (x2 : Int) (x3 : Int) (x8 : Int) (x9 : Int) (cur_0 : Int) (tokenKind_0 : Int → Int) (tokens_0 : Int) (styleKind_0 : Int) (styleOne_0 : Int) (opened_0 : Int) (fault_0 : Int) (tokenValue_0 : Int → Int) (tokenPlace_0 : Int → Int) (tokenEnd_0 : Int → Int) (tape_0 : Int → Int) (limit_0 : Int) (gx : Int) (k1 : 0 ≤ x1 ∧ x1 ≤ 2009) (k2 : 0 ≤ x2 ∧ x2 ≤ 5) (k3 : 0 ≤ x3 ∧ x3 ≤ 13) (k8 : 1 ≤ x8 ∧ x8 ≤ 2009) (k9 : 0 ≤ x9 ∧ x9 ≤ 2010) (g0 : x8 = cur_0) (f1 : ((cur_0 + 1) ≤ tokens_0) ∧ ((tokens_0 ≤ 2010) ∧ ((tokenKind_0 ((tokens_0 - 1)) = 0) ∨ (tokenKind_0 ((tokens_0 - 1)) = 4)))) (f2 : 1 * x1 + ((-1) * cur_0 + 0) ≤ 0) (f3 : (styleKind_0 = 0) → (styleOne_0 ≤ 23)) (f4 : 1 * opened_0 + 0 ≤ 13) (f5 : (-1) * opened_0 + 0 ≤ (-13)) (f6 : (-1) * fault_0 + 0 ≤ (-1)) (f7 : (-1) * x9 + ((-1) * cur_0 + 0) ≤ (-2011)) (f8 : SBL (fault_0) (cur_0) (styleKind_0) (limit_0) (tokenKind_0) (tokenValue_0) (tokenPlace_0) (tokenEnd_0) (tape_0) (x1) (x2) (x3)) (f9 : 1 * x3 + 0 ≤ 13) (f10 : (-1) * x3 + 0 ≤ (-13)) (hK_0_1 : ∀ j : Int, 0 ≤ j → j < 2000 → (-128) ≤ tape_0 j ∧ tape_0 j ≤ 127) (hK_0_160 : ∀ j : Int, 0 ≤ j → j < 2010 → 0 ≤ tokenKind_0 j ∧ tokenKind_0 j ≤ 4) (hK_0_162 : ∀ j : Int, 0 ≤ j → j < 2010 → 0 ≤ tokenPlace_0 j ∧ tokenPlace_0 j ≤ 2000) (hK_0_163 : ∀ j : Int, 0 ≤ j → j < 2010 → 0 ≤ tokenEnd_0 j ∧ tokenEnd_0 j ≤ 2000) (kz_0_8 : 0 ≤ fault_0 ∧ fault_0 ≤ 5) (kz_0_10 : 0 ≤ limit_0 ∧ limit_0 ≤ 2000) (kz_0_157 : 0 ≤ tokens_0 ∧ tokens_0 ≤ 2010) (kz_0_158 : 0 ≤ cur_0 ∧ cur_0 ≤ 2009) (kz_0_159 : 0 ≤ opened_0 ∧ opened_0 ≤ 13) (kz_0_164 : 0 ≤ styleKind_0 ∧ styleKind_0 ≤ 1) (kz_0_165 : (-1) ≤ styleOne_0 ∧ styleOne_0 ≤ 47) (ex2 : gx = 2010 + ((-1) * cur_0 + 0)) (ex3 : 0 ≤ gx ∧ gx ≤ 2010) : (-1) * gx + ((-1) * cur_0 + 0) ≤ (-2010) := by
  first | assumption | (clear f1 f3 hK_0_1 hK_0_160 hK_0_162 hK_0_163; omega) | (clear hK_0_1 hK_0_160 hK_0_162 hK_0_163; grind) | omega | grind
def o_Mo_both_at_f13_6 : or_T := (5, 10, [(0, (2, 0, 0, [165])), (1, (0, 0, 2009, [])), (2, (0, 0, 5, [])), (3, (0, 0, 13, [])), (4, (2, 0, 0, [165])), (8, (0, 1, 2009, [])), (9, (0, 0, 2010, []))], [(9, [8, 4], [158]), (20, [4], [50, 2, 1, 158, 157, 160, 2, 12, 0, 7, 4, 3, 2, 0, 158, 0, 1, 2, 0, 157, 2, 7, 0, 3, 2, 0, 157, 0, 2010, 3, 14, 1, 10, 3, 0, 160, 5, 3, 2, 0, 157, 0, 1, 0, 0, 1, 10, 3, 0, 160, 5, 3, 2, 0, 157, 0, 1, 0, 4]), (20, [1, 4], [30, 0, 1, 0, 0, -1, 1, 158]), (20, [4], [50, 2, 0, 164, 165, 4, 7, 1, 3, 2, 0, 164, 0, 0, 0, 3, 2, 0, 165, 0, 23]), (20, [4], [30, 13, 1, 1, 159]), (20, [4], [30, -13, -1, 1, 159]), (20, [4], [30, -1, -1, 1, 8]), (20, [9, 4], [30, -2011, -1, 0, 0, -1, 1, 158]), (20, [4, 1, 2, 3], [60, 4, 5, 8, 8, 158, 164, 10, 160, 161, 162, 163, 1]), (23, [3], [13, 1]), (23, [3], [-13, -1]), (24, [0, 4], [])], [], [(0, 0, 2010, [])], [(20, [4], [50, 2, 1, 158, 157, 160, 2, 12, 0, 7, 4, 3, 2, 0, 158, 0, 1, 2, 0, 157, 2, 7, 0, 3, 2, 0, 157, 0, 2010, 3, 14, 1, 10, 3, 0, 160, 5, 3, 2, 0, 157, 0, 1, 0, 0, 1, 10, 3, 0, 160, 5, 3, 2, 0, 157, 0, 1, 0, 4]), (20, [1, 4], [30, 0, 1, 0, 0, -1, 1, 158]), (20, [4], [50, 2, 0, 164, 165, 4, 7, 1, 3, 2, 0, 164, 0, 0, 0, 3, 2, 0, 165, 0, 23]), (20, [4], [30, 13, 1, 1, 159]), (20, [4], [30, -13, -1, 1, 159]), (20, [4], [30, -1, -1, 1, 8]), (20, [4, 1, 2, 3], [60, 4, 5, 8, 8, 158, 164, 10, 160, 161, 162, 163, 1]), (23, [3], [13, 1]), (23, [3], [-13, -1]), (24, [0, 4], []), (20, [10, 4], [30, 2010, 1, 0, 0, 1, 1, 158]), (20, [10, 4], [30, -2010, -1, 0, 0, -1, 1, 158])], [(10, 9, -1000000000000, -1)], [])
theorem oo_Mo_both_at_f13_6 {kA : Nat → ClassId} : or_ok PRD kA GG o_Mo_both_at_f13_6 := by
  refine or_mk fun A ta ws vs hD hth hl => ?_
  intro t0 r0 t1 k1 t2 k2 t3 k3 t4 r4 t8 k8 t9 k9 f0 f1 f2 f3 f4 f5 f6 f7 f8 f9 f10 f11
  replace f0 := shm_311 f0
  replace f1 := shm_296 f1
  replace f2 := shm_306 f2
  replace f3 := shm_299 f3
  replace f4 := shm_1005 f4
  replace f5 := shm_1006 f5
  replace f6 := shm_144 f6
  replace f7 := shm_317 f7
  replace f8 := shm_308 f8
  replace f9 := shm_2014 f9
  replace f10 := shm_2015 f10
  replace f11 := shm_5 f11
  have q4 : n_v vs 4 = n_v vs 0 := f11.symm
  simp only [q4] at f0 f1 f2 f3 f4 f5 f6 f7 f8
  have cr_0_1 := fdq_46 hD hth r0
  have cr_0_160 := fdq_41 hD hth r0
  have cr_0_161 := fdq_47 hD hth r0
  have cr_0_162 := fdq_48 hD hth r0
  have cr_0_163 := fdq_49 hD hth r0
  have g0 : v_iv (n_v vs 8) = w_fi ws (n_v vs 0) 158 := congrArg v_iv f0
  have hK_0_1 := elq_6 hD hth cr_0_1
  have hK_0_160 := elq_5 hD hth cr_0_160
  have hK_0_162 := elq_7 hD hth cr_0_162
  have hK_0_163 := elq_8 hD hth cr_0_163
  have kz_0_8 := fdq_14 hD hth r0
  have kz_0_10 := fdq_50 hD hth r0
  have kz_0_157 := fdq_42 hD hth r0
  have kz_0_158 := fdq_43 hD hth r0
  have kz_0_159 := fdq_44 hD hth r0
  have kz_0_164 := fdq_45 hD hth r0
  have kz_0_165 := fdq_35 hD hth r0
  have kb_0_158 := fdq_43 hD hth r0
  obtain ⟨x, ex, hx⟩ := iv_ex (ta := ta) (lo := 0) (hi := 2010) (z := 2010 + ((-1) * w_fi ws (n_v vs 0) 158 + 0)) (by omega) (by omega) (by omega) (by omega)
  have ex2 : v_iv (Value.int x) = 2010 + ((-1) * w_fi ws (n_v vs 0) 158 + 0) := ex
  have ex3 : 0 ≤ v_iv (Value.int x) ∧ v_iv (Value.int x) ≤ 2010 := tv_rng hx
  have e_0 : n_v (vs ++ [Value.int x]) 0 = n_v vs 0 := n_v_old (by rw [hl]; decide)
  have e_1 : n_v (vs ++ [Value.int x]) 1 = n_v vs 1 := n_v_old (by rw [hl]; decide)
  have e_2 : n_v (vs ++ [Value.int x]) 2 = n_v vs 2 := n_v_old (by rw [hl]; decide)
  have e_3 : n_v (vs ++ [Value.int x]) 3 = n_v vs 3 := n_v_old (by rw [hl]; decide)
  have e_4 : n_v (vs ++ [Value.int x]) 4 = n_v vs 4 := n_v_old (by rw [hl]; decide)
  have e_10 : n_v (vs ++ [Value.int x]) 10 = Value.int x := n_v_new hl
  have nf0 : fc_1 PRD (20, [4], [50, 2, 1, 158, 157, 160, 2, 12, 0, 7, 4, 3, 2, 0, 158, 0, 1, 2, 0, 157, 2, 7, 0, 3, 2, 0, 157, 0, 2010, 3, 14, 1, 10, 3, 0, 160, 5, 3, 2, 0, 157, 0, 1, 0, 0, 1, 10, 3, 0, 160, 5, 3, 2, 0, 157, 0, 1, 0, 4]) ws (vs ++ [Value.int x]) := by
    refine ⟨nf_inA hl rfl, sgq_296 ?_⟩
    · show ((w_fi ws (n_v (vs ++ [Value.int x]) 4) 158 + 1) ≤ w_fi ws (n_v (vs ++ [Value.int x]) 4) 157) ∧ ((w_fi ws (n_v (vs ++ [Value.int x]) 4) 157 ≤ 2010) ∧ ((w_ei ws (w_ar ws (n_v (vs ++ [Value.int x]) 4) 160) ((w_fi ws (n_v (vs ++ [Value.int x]) 4) 157 - 1)) = 0) ∨ (w_ei ws (w_ar ws (n_v (vs ++ [Value.int x]) 4) 160) ((w_fi ws (n_v (vs ++ [Value.int x]) 4) 157 - 1)) = 4)))
      simp only [e_4, q4]
      exact vc_Mo_both_at_f13_6_0 (v_iv (n_v vs 1)) (v_iv (n_v vs 2)) (v_iv (n_v vs 3)) (v_iv (n_v vs 8)) (v_iv (n_v vs 9)) (w_fi ws (n_v vs 0) 158) (w_ei ws (w_ar ws (n_v vs 0) 160)) (w_fi ws (n_v vs 0) 157) (w_fi ws (n_v vs 0) 164) (w_fi ws (n_v vs 0) 165) (w_fi ws (n_v vs 0) 159) (w_fi ws (n_v vs 0) 8) (w_ei ws (w_ar ws (n_v vs 0) 161)) (w_ei ws (w_ar ws (n_v vs 0) 162)) (w_ei ws (w_ar ws (n_v vs 0) 163)) (w_ei ws (w_ar ws (n_v vs 0) 1)) (w_fi ws (n_v vs 0) 10) (v_iv (Value.int x)) k1 k2 k3 k8 k9 g0 f1 f2 f3 f4 f5 f6 f7 f8 f9 f10 hK_0_1 hK_0_160 hK_0_162 hK_0_163 kz_0_8 kz_0_10 kz_0_157 kz_0_158 kz_0_159 kz_0_164 kz_0_165 ex2 ex3
  have nf1 : fc_1 PRD (20, [1, 4], [30, 0, 1, 0, 0, -1, 1, 158]) ws (vs ++ [Value.int x]) := by
    refine ⟨nf_inA hl rfl, sgq_306 ?_⟩
    · show 1 * v_iv (n_v (vs ++ [Value.int x]) 1) + ((-1) * w_fi ws (n_v (vs ++ [Value.int x]) 4) 158 + 0) ≤ 0
      simp only [e_1, e_4, q4]
      exact vc_Mo_both_at_f13_6_1 (v_iv (n_v vs 1)) (v_iv (n_v vs 2)) (v_iv (n_v vs 3)) (v_iv (n_v vs 8)) (v_iv (n_v vs 9)) (w_fi ws (n_v vs 0) 158) (w_ei ws (w_ar ws (n_v vs 0) 160)) (w_fi ws (n_v vs 0) 157) (w_fi ws (n_v vs 0) 164) (w_fi ws (n_v vs 0) 165) (w_fi ws (n_v vs 0) 159) (w_fi ws (n_v vs 0) 8) (w_ei ws (w_ar ws (n_v vs 0) 161)) (w_ei ws (w_ar ws (n_v vs 0) 162)) (w_ei ws (w_ar ws (n_v vs 0) 163)) (w_ei ws (w_ar ws (n_v vs 0) 1)) (w_fi ws (n_v vs 0) 10) (v_iv (Value.int x)) k1 k2 k3 k8 k9 g0 f1 f2 f3 f4 f5 f6 f7 f8 f9 f10 hK_0_1 hK_0_160 hK_0_162 hK_0_163 kz_0_8 kz_0_10 kz_0_157 kz_0_158 kz_0_159 kz_0_164 kz_0_165 ex2 ex3
  have nf2 : fc_1 PRD (20, [4], [50, 2, 0, 164, 165, 4, 7, 1, 3, 2, 0, 164, 0, 0, 0, 3, 2, 0, 165, 0, 23]) ws (vs ++ [Value.int x]) := by
    refine ⟨nf_inA hl rfl, sgq_299 ?_⟩
    · show (w_fi ws (n_v (vs ++ [Value.int x]) 4) 164 = 0) → (w_fi ws (n_v (vs ++ [Value.int x]) 4) 165 ≤ 23)
      simp only [e_4, q4]
      exact vc_Mo_both_at_f13_6_2 (v_iv (n_v vs 1)) (v_iv (n_v vs 2)) (v_iv (n_v vs 3)) (v_iv (n_v vs 8)) (v_iv (n_v vs 9)) (w_fi ws (n_v vs 0) 158) (w_ei ws (w_ar ws (n_v vs 0) 160)) (w_fi ws (n_v vs 0) 157) (w_fi ws (n_v vs 0) 164) (w_fi ws (n_v vs 0) 165) (w_fi ws (n_v vs 0) 159) (w_fi ws (n_v vs 0) 8) (w_ei ws (w_ar ws (n_v vs 0) 161)) (w_ei ws (w_ar ws (n_v vs 0) 162)) (w_ei ws (w_ar ws (n_v vs 0) 163)) (w_ei ws (w_ar ws (n_v vs 0) 1)) (w_fi ws (n_v vs 0) 10) (v_iv (Value.int x)) k1 k2 k3 k8 k9 g0 f1 f2 f3 f4 f5 f6 f7 f8 f9 f10 hK_0_1 hK_0_160 hK_0_162 hK_0_163 kz_0_8 kz_0_10 kz_0_157 kz_0_158 kz_0_159 kz_0_164 kz_0_165 ex2 ex3
  have nf3 : fc_1 PRD (20, [4], [30, 13, 1, 1, 159]) ws (vs ++ [Value.int x]) := by
    refine ⟨nf_inA hl rfl, sgq_1005 ?_⟩
    · show 1 * w_fi ws (n_v (vs ++ [Value.int x]) 4) 159 + 0 ≤ 13
      simp only [e_4, q4]
      exact vc_Mo_both_at_f13_6_3 (v_iv (n_v vs 1)) (v_iv (n_v vs 2)) (v_iv (n_v vs 3)) (v_iv (n_v vs 8)) (v_iv (n_v vs 9)) (w_fi ws (n_v vs 0) 158) (w_ei ws (w_ar ws (n_v vs 0) 160)) (w_fi ws (n_v vs 0) 157) (w_fi ws (n_v vs 0) 164) (w_fi ws (n_v vs 0) 165) (w_fi ws (n_v vs 0) 159) (w_fi ws (n_v vs 0) 8) (w_ei ws (w_ar ws (n_v vs 0) 161)) (w_ei ws (w_ar ws (n_v vs 0) 162)) (w_ei ws (w_ar ws (n_v vs 0) 163)) (w_ei ws (w_ar ws (n_v vs 0) 1)) (w_fi ws (n_v vs 0) 10) (v_iv (Value.int x)) k1 k2 k3 k8 k9 g0 f1 f2 f3 f4 f5 f6 f7 f8 f9 f10 hK_0_1 hK_0_160 hK_0_162 hK_0_163 kz_0_8 kz_0_10 kz_0_157 kz_0_158 kz_0_159 kz_0_164 kz_0_165 ex2 ex3
  have nf4 : fc_1 PRD (20, [4], [30, -13, -1, 1, 159]) ws (vs ++ [Value.int x]) := by
    refine ⟨nf_inA hl rfl, sgq_1006 ?_⟩
    · show (-1) * w_fi ws (n_v (vs ++ [Value.int x]) 4) 159 + 0 ≤ (-13)
      simp only [e_4, q4]
      exact vc_Mo_both_at_f13_6_4 (v_iv (n_v vs 1)) (v_iv (n_v vs 2)) (v_iv (n_v vs 3)) (v_iv (n_v vs 8)) (v_iv (n_v vs 9)) (w_fi ws (n_v vs 0) 158) (w_ei ws (w_ar ws (n_v vs 0) 160)) (w_fi ws (n_v vs 0) 157) (w_fi ws (n_v vs 0) 164) (w_fi ws (n_v vs 0) 165) (w_fi ws (n_v vs 0) 159) (w_fi ws (n_v vs 0) 8) (w_ei ws (w_ar ws (n_v vs 0) 161)) (w_ei ws (w_ar ws (n_v vs 0) 162)) (w_ei ws (w_ar ws (n_v vs 0) 163)) (w_ei ws (w_ar ws (n_v vs 0) 1)) (w_fi ws (n_v vs 0) 10) (v_iv (Value.int x)) k1 k2 k3 k8 k9 g0 f1 f2 f3 f4 f5 f6 f7 f8 f9 f10 hK_0_1 hK_0_160 hK_0_162 hK_0_163 kz_0_8 kz_0_10 kz_0_157 kz_0_158 kz_0_159 kz_0_164 kz_0_165 ex2 ex3
  have nf5 : fc_1 PRD (20, [4], [30, -1, -1, 1, 8]) ws (vs ++ [Value.int x]) := by
    refine ⟨nf_inA hl rfl, sgq_144 ?_⟩
    · show (-1) * w_fi ws (n_v (vs ++ [Value.int x]) 4) 8 + 0 ≤ (-1)
      simp only [e_4, q4]
      exact vc_Mo_both_at_f13_6_5 (v_iv (n_v vs 1)) (v_iv (n_v vs 2)) (v_iv (n_v vs 3)) (v_iv (n_v vs 8)) (v_iv (n_v vs 9)) (w_fi ws (n_v vs 0) 158) (w_ei ws (w_ar ws (n_v vs 0) 160)) (w_fi ws (n_v vs 0) 157) (w_fi ws (n_v vs 0) 164) (w_fi ws (n_v vs 0) 165) (w_fi ws (n_v vs 0) 159) (w_fi ws (n_v vs 0) 8) (w_ei ws (w_ar ws (n_v vs 0) 161)) (w_ei ws (w_ar ws (n_v vs 0) 162)) (w_ei ws (w_ar ws (n_v vs 0) 163)) (w_ei ws (w_ar ws (n_v vs 0) 1)) (w_fi ws (n_v vs 0) 10) (v_iv (Value.int x)) k1 k2 k3 k8 k9 g0 f1 f2 f3 f4 f5 f6 f7 f8 f9 f10 hK_0_1 hK_0_160 hK_0_162 hK_0_163 kz_0_8 kz_0_10 kz_0_157 kz_0_158 kz_0_159 kz_0_164 kz_0_165 ex2 ex3
  have nf6 : fc_1 PRD (20, [4, 1, 2, 3], [60, 4, 5, 8, 8, 158, 164, 10, 160, 161, 162, 163, 1]) ws (vs ++ [Value.int x]) := by
    refine ⟨nf_inA hl rfl, sgq_308 ?_⟩
    · show SBL (w_fi ws (n_v (vs ++ [Value.int x]) 4) 8) (w_fi ws (n_v (vs ++ [Value.int x]) 4) 158) (w_fi ws (n_v (vs ++ [Value.int x]) 4) 164) (w_fi ws (n_v (vs ++ [Value.int x]) 4) 10) (w_ei ws (w_ar ws (n_v (vs ++ [Value.int x]) 4) 160)) (w_ei ws (w_ar ws (n_v (vs ++ [Value.int x]) 4) 161)) (w_ei ws (w_ar ws (n_v (vs ++ [Value.int x]) 4) 162)) (w_ei ws (w_ar ws (n_v (vs ++ [Value.int x]) 4) 163)) (w_ei ws (w_ar ws (n_v (vs ++ [Value.int x]) 4) 1)) (v_iv (n_v (vs ++ [Value.int x]) 1)) (v_iv (n_v (vs ++ [Value.int x]) 2)) (v_iv (n_v (vs ++ [Value.int x]) 3))
      simp only [e_1, e_2, e_3, e_4, q4]
      exact vc_Mo_both_at_f13_6_6 (v_iv (n_v vs 1)) (v_iv (n_v vs 2)) (v_iv (n_v vs 3)) (w_fi ws (n_v vs 0) 158) (w_ei ws (w_ar ws (n_v vs 0) 160)) (w_fi ws (n_v vs 0) 164) (w_fi ws (n_v vs 0) 8) (w_ei ws (w_ar ws (n_v vs 0) 161)) (w_ei ws (w_ar ws (n_v vs 0) 162)) (w_ei ws (w_ar ws (n_v vs 0) 163)) (w_ei ws (w_ar ws (n_v vs 0) 1)) (w_fi ws (n_v vs 0) 10) k1 k2 k3 f8 kz_0_8 kz_0_10 kz_0_158 kz_0_164
  have nf7 : fc_1 PRD (23, [3], [13, 1]) ws (vs ++ [Value.int x]) := by
    refine ⟨nf_inA hl rfl, sgq_2014 ?_⟩
    · show 1 * v_iv (n_v (vs ++ [Value.int x]) 3) + 0 ≤ 13
      rw [e_3]
      exact vc_Mo_both_at_f13_6_7 (v_iv (n_v vs 1)) (v_iv (n_v vs 2)) (v_iv (n_v vs 3)) (v_iv (n_v vs 8)) (v_iv (n_v vs 9)) (w_fi ws (n_v vs 0) 158) (w_ei ws (w_ar ws (n_v vs 0) 160)) (w_fi ws (n_v vs 0) 157) (w_fi ws (n_v vs 0) 164) (w_fi ws (n_v vs 0) 165) (w_fi ws (n_v vs 0) 159) (w_fi ws (n_v vs 0) 8) (w_ei ws (w_ar ws (n_v vs 0) 161)) (w_ei ws (w_ar ws (n_v vs 0) 162)) (w_ei ws (w_ar ws (n_v vs 0) 163)) (w_ei ws (w_ar ws (n_v vs 0) 1)) (w_fi ws (n_v vs 0) 10) (v_iv (Value.int x)) k1 k2 k3 k8 k9 g0 f1 f2 f3 f4 f5 f6 f7 f8 f9 f10 hK_0_1 hK_0_160 hK_0_162 hK_0_163 kz_0_8 kz_0_10 kz_0_157 kz_0_158 kz_0_159 kz_0_164 kz_0_165 ex2 ex3
  have nf8 : fc_1 PRD (23, [3], [-13, -1]) ws (vs ++ [Value.int x]) := by
    refine ⟨nf_inA hl rfl, sgq_2015 ?_⟩
    · show (-1) * v_iv (n_v (vs ++ [Value.int x]) 3) + 0 ≤ (-13)
      rw [e_3]
      exact vc_Mo_both_at_f13_6_8 (v_iv (n_v vs 1)) (v_iv (n_v vs 2)) (v_iv (n_v vs 3)) (v_iv (n_v vs 8)) (v_iv (n_v vs 9)) (w_fi ws (n_v vs 0) 158) (w_ei ws (w_ar ws (n_v vs 0) 160)) (w_fi ws (n_v vs 0) 157) (w_fi ws (n_v vs 0) 164) (w_fi ws (n_v vs 0) 165) (w_fi ws (n_v vs 0) 159) (w_fi ws (n_v vs 0) 8) (w_ei ws (w_ar ws (n_v vs 0) 161)) (w_ei ws (w_ar ws (n_v vs 0) 162)) (w_ei ws (w_ar ws (n_v vs 0) 163)) (w_ei ws (w_ar ws (n_v vs 0) 1)) (w_fi ws (n_v vs 0) 10) (v_iv (Value.int x)) k1 k2 k3 k8 k9 g0 f1 f2 f3 f4 f5 f6 f7 f8 f9 f10 hK_0_1 hK_0_160 hK_0_162 hK_0_163 kz_0_8 kz_0_10 kz_0_157 kz_0_158 kz_0_159 kz_0_164 kz_0_165 ex2 ex3
  have nf9 : fc_1 PRD (24, [0, 4], []) ws (vs ++ [Value.int x]) := by
    refine ⟨nf_inA hl rfl, sgq_5 ?_⟩
    · show n_v (vs ++ [Value.int x]) 0 = n_v (vs ++ [Value.int x]) 4
      first | rfl | simp only [e_0, e_4, q4]
  have nf10 : fc_1 PRD (20, [10, 4], [30, 2010, 1, 0, 0, 1, 1, 158]) ws (vs ++ [Value.int x]) := by
    refine ⟨nf_inA hl rfl, sgq_309 ?_⟩
    · show 1 * v_iv (n_v (vs ++ [Value.int x]) 10) + (1 * w_fi ws (n_v (vs ++ [Value.int x]) 4) 158 + 0) ≤ 2010
      simp only [e_4, e_10, q4]
      exact vc_Mo_both_at_f13_6_10 (v_iv (n_v vs 1)) (v_iv (n_v vs 2)) (v_iv (n_v vs 3)) (v_iv (n_v vs 8)) (v_iv (n_v vs 9)) (w_fi ws (n_v vs 0) 158) (w_ei ws (w_ar ws (n_v vs 0) 160)) (w_fi ws (n_v vs 0) 157) (w_fi ws (n_v vs 0) 164) (w_fi ws (n_v vs 0) 165) (w_fi ws (n_v vs 0) 159) (w_fi ws (n_v vs 0) 8) (w_ei ws (w_ar ws (n_v vs 0) 161)) (w_ei ws (w_ar ws (n_v vs 0) 162)) (w_ei ws (w_ar ws (n_v vs 0) 163)) (w_ei ws (w_ar ws (n_v vs 0) 1)) (w_fi ws (n_v vs 0) 10) (v_iv (Value.int x)) k1 k2 k3 k8 k9 g0 f1 f2 f3 f4 f5 f6 f7 f8 f9 f10 hK_0_1 hK_0_160 hK_0_162 hK_0_163 kz_0_8 kz_0_10 kz_0_157 kz_0_158 kz_0_159 kz_0_164 kz_0_165 ex2 ex3
  have nf11 : fc_1 PRD (20, [10, 4], [30, -2010, -1, 0, 0, -1, 1, 158]) ws (vs ++ [Value.int x]) := by
    refine ⟨nf_inA hl rfl, sgq_310 ?_⟩
    · show (-1) * v_iv (n_v (vs ++ [Value.int x]) 10) + ((-1) * w_fi ws (n_v (vs ++ [Value.int x]) 4) 158 + 0) ≤ (-2010)
      simp only [e_4, e_10, q4]
      exact vc_Mo_both_at_f13_6_11 (v_iv (n_v vs 1)) (v_iv (n_v vs 2)) (v_iv (n_v vs 3)) (v_iv (n_v vs 8)) (v_iv (n_v vs 9)) (w_fi ws (n_v vs 0) 158) (w_ei ws (w_ar ws (n_v vs 0) 160)) (w_fi ws (n_v vs 0) 157) (w_fi ws (n_v vs 0) 164) (w_fi ws (n_v vs 0) 165) (w_fi ws (n_v vs 0) 159) (w_fi ws (n_v vs 0) 8) (w_ei ws (w_ar ws (n_v vs 0) 161)) (w_ei ws (w_ar ws (n_v vs 0) 162)) (w_ei ws (w_ar ws (n_v vs 0) 163)) (w_ei ws (w_ar ws (n_v vs 0) 1)) (w_fi ws (n_v vs 0) 10) (v_iv (Value.int x)) k1 k2 k3 k8 k9 g0 f1 f2 f3 f4 f5 f6 f7 f8 f9 f10 hK_0_1 hK_0_160 hK_0_162 hK_0_163 kz_0_8 kz_0_10 kz_0_157 kz_0_158 kz_0_159 kz_0_164 kz_0_165 ex2 ex3
  obtain ⟨x0, e0, _, _⟩ := tv_int t9 rfl
  have e1 : v_iv (n_v vs 9) = x0.toInt := by rw [e0]; rfl
  have ho : sy_ofs (vs ++ [Value.int x]) (10, 9, -1000000000000, -1) := by
    refine ⟨x, x0, by rw [List.getElem?_append_right (by rw [hl]; decide), hl]; rfl, ?_, ?_, ?_⟩
    · rw [List.getElem?_append_left (by rw [hl]; decide)]; exact n_v_some (by rw [hl]; decide) e0
    · show x0.toInt + (-1000000000000) ≤ x.toInt; omega
    · show x.toInt ≤ x0.toInt + (-1); omega
  exact ⟨(fun _ h => (by cases h)), [Value.int x], ag_one hx, List.forall_mem_cons.mpr ⟨⟨show (20 : Nat) < 100 from by decide, nf0⟩, List.forall_mem_cons.mpr ⟨⟨show (20 : Nat) < 100 from by decide, nf1⟩, List.forall_mem_cons.mpr ⟨⟨show (20 : Nat) < 100 from by decide, nf2⟩, List.forall_mem_cons.mpr ⟨⟨show (20 : Nat) < 100 from by decide, nf3⟩, List.forall_mem_cons.mpr ⟨⟨show (20 : Nat) < 100 from by decide, nf4⟩, List.forall_mem_cons.mpr ⟨⟨show (20 : Nat) < 100 from by decide, nf5⟩, List.forall_mem_cons.mpr ⟨⟨show (20 : Nat) < 100 from by decide, nf6⟩, List.forall_mem_cons.mpr ⟨⟨show (23 : Nat) < 100 from by decide, nf7⟩, List.forall_mem_cons.mpr ⟨⟨show (23 : Nat) < 100 from by decide, nf8⟩, List.forall_mem_cons.mpr ⟨⟨show (24 : Nat) < 100 from by decide, nf9⟩, List.forall_mem_cons.mpr ⟨⟨show (20 : Nat) < 100 from by decide, nf10⟩, List.forall_mem_cons.mpr ⟨⟨show (20 : Nat) < 100 from by decide, nf11⟩, (fun _ h => (by cases h))⟩⟩⟩⟩⟩⟩⟩⟩⟩⟩⟩⟩, List.forall_mem_cons.mpr ⟨ho, (fun _ h => (by cases h))⟩⟩
def n_Mo_both_at_f13_an : List an_T := [(5, [(0, (2, 0, 0, [165])), (1, (0, 0, 0, []))], [], (0, 0), [(0, 0, 99995), (2, 7, 0), (0, 0, 100000)], [], [((0, 158), (0, 0, 2009, []))], [(2, 0, 0, [165]), (0, 0, 2009, []), (0, 0, 5, []), (0, 0, 13, [])], 0, [(0, 0, 2010, [])], [(20, [4], [50, 2, 1, 158, 157, 160, 2, 12, 0, 7, 4, 3, 2, 0, 158, 0, 1, 2, 0, 157, 2, 7, 0, 3, 2, 0, 157, 0, 2010, 3, 14, 1, 10, 3, 0, 160, 5, 3, 2, 0, 157, 0, 1, 0, 0, 1, 10, 3, 0, 160, 5, 3, 2, 0, 157, 0, 1, 0, 4]), (20, [1, 4], [30, 0, 1, 0, 0, (Int.negSucc 0), 1, 158]), (20, [4], [50, 2, 0, 164, 165, 4, 7, 1, 3, 2, 0, 164, 0, 0, 0, 3, 2, 0, 165, 0, 23]), (20, [4], [30, 13, 1, 1, 159]), (20, [4], [30, (Int.negSucc 12), (Int.negSucc 0), 1, 159]), (20, [4], [30, (Int.negSucc 0), (Int.negSucc 0), 1, 8]), (20, [4, 1, 2, 3], [60, 4, 5, 8, 8, 158, 164, 10, 160, 161, 162, 163, 1]), (23, [3], [13, 1]), (23, [3], [(Int.negSucc 12), (Int.negSucc 0)]), (24, [0, 4], []), (20, [7, 4], [30, 2010, 1, 0, 0, 1, 1, 158]), (20, [7, 4], [30, (Int.negSucc 2009), (Int.negSucc 0), 0, 0, (Int.negSucc 0), 1, 158])]), (43, [(0, (2, 0, 0, [165])), (1, (0, 0, 0, [])), (2, (0, 0, 0, []))], [(0, 0, 0, [])], (0, 0), [(0, 0, 99995), (2, 9, 0), (0, 0, 99957)], [], [((0, 158), (0, 1, 2009, []))], [(2, 0, 0, [165]), (0, 0, 2009, []), (0, 0, 5, []), (0, 0, 13, [])], 0, [(0, 0, 2010, [])], [(20, [4], [50, 2, 1, 158, 157, 160, 2, 12, 0, 7, 4, 3, 2, 0, 158, 0, 1, 2, 0, 157, 2, 7, 0, 3, 2, 0, 157, 0, 2010, 3, 14, 1, 10, 3, 0, 160, 5, 3, 2, 0, 157, 0, 1, 0, 0, 1, 10, 3, 0, 160, 5, 3, 2, 0, 157, 0, 1, 0, 4]), (20, [1, 4], [30, 0, 1, 0, 0, (Int.negSucc 0), 1, 158]), (20, [4], [50, 2, 0, 164, 165, 4, 7, 1, 3, 2, 0, 164, 0, 0, 0, 3, 2, 0, 165, 0, 23]), (20, [4], [30, 13, 1, 1, 159]), (20, [4], [30, (Int.negSucc 12), (Int.negSucc 0), 1, 159]), (20, [4], [30, (Int.negSucc 0), (Int.negSucc 0), 1, 8]), (20, [9, 4], [30, (Int.negSucc 2010), (Int.negSucc 0), 0, 0, (Int.negSucc 0), 1, 158]), (20, [4, 1, 2, 3], [60, 4, 5, 8, 8, 158, 164, 10, 160, 161, 162, 163, 1]), (23, [3], [13, 1]), (23, [3], [(Int.negSucc 12), (Int.negSucc 0)]), (24, [0, 4], [])])]
def t_Mo_both_at_f13_ct : ct_L := [(7, 1225, e_Mo_oneTest_at_f13), (31, 1190, e_Mo_word_at_s5040), (82, 1225, e_Mo_oneTest_at_f13), (1000001, 1228, en_ro [] (2, 0, 0, [5040]))]
set_option maxRecDepth 100000 in
theorem c_Mo_both_at_f13 {l : Launch} {D : va_G} {kA : Nat → ClassId} (h_Mo_oneTest_at_f13 : ct_ok PRD l D kA GG y_Mo_oneTest_at_f13 z_Mo_oneTest_at_f13 e_Mo_oneTest_at_f13) (h_Mo_word_at_s5040 : ct_ok PRD l D kA GG y_Mo_word_at_s5040 z_Mo_word_at_s5040 e_Mo_word_at_s5040) : ct_ok PRD l D kA GG y_Mo_both_at_f13 z_Mo_both_at_f13 e_Mo_both_at_f13 := chk_all_ok (FT := [(1169, 13, 158)]) (PT := [(1169, 13, 158, .int)]) (CT := t_Mo_both_at_f13_ct) (KT := []) (NT := []) (AN := n_Mo_both_at_f13_an) (OT := [o_Mo_both_at_f13_0, o_Mo_both_at_f13_1, o_Mo_both_at_f13_2, o_Mo_both_at_f13_3, o_Mo_both_at_f13_4, o_Mo_both_at_f13_5, o_Mo_both_at_f13_6]) 3 200 (List.forall_mem_cons.mpr ⟨oo_Mo_both_at_f13_0, List.forall_mem_cons.mpr ⟨oo_Mo_both_at_f13_1, List.forall_mem_cons.mpr ⟨oo_Mo_both_at_f13_2, List.forall_mem_cons.mpr ⟨oo_Mo_both_at_f13_3, List.forall_mem_cons.mpr ⟨oo_Mo_both_at_f13_4, List.forall_mem_cons.mpr ⟨oo_Mo_both_at_f13_5, List.forall_mem_cons.mpr ⟨oo_Mo_both_at_f13_6, List.forall_mem_nil _⟩⟩⟩⟩⟩⟩⟩) (by decide +kernel) ⟨List.forall_mem_cons.mpr ⟨gf_Mo_1169, List.forall_mem_nil _⟩, List.forall_mem_cons.mpr ⟨pf_Mo_1169, List.forall_mem_nil _⟩, List.forall_mem_cons.mpr ⟨cl_virtual (y := y_Mo_oneTest_at_f13) (ci := 13) rfl rfl ⟨_, _, rfl⟩ (by decide +kernel) h_Mo_oneTest_at_f13 wm_3823 wm_9 wm_3820 wm_3822 wv_23_9 ⟨by decide, by decide, by decide +kernel⟩ (by decide), List.forall_mem_cons.mpr ⟨cl_virtual (y := y_Mo_word_at_s5040) (ci := 13) rfl rfl ⟨_, _, rfl⟩ (by decide +kernel) h_Mo_word_at_s5040 wm_3809 wm_9 wm_3806 wm_3808 wv_23_6 ⟨by decide, by decide, by decide +kernel⟩ (by decide), List.forall_mem_cons.mpr ⟨cl_virtual (y := y_Mo_oneTest_at_f13) (ci := 13) rfl rfl ⟨_, _, rfl⟩ (by decide +kernel) h_Mo_oneTest_at_f13 wm_3823 wm_9 wm_3820 wm_3822 wv_23_9 ⟨by decide, by decide, by decide +kernel⟩ (by decide), List.forall_mem_cons.mpr ⟨cl_ldcw (own := "DrawingHouseModel") (idx := 1228) (i := 40) (tx := "and") (by decide +kernel) (by decide +kernel) (by decide +kernel), List.forall_mem_nil _⟩⟩⟩⟩, List.forall_mem_nil _, List.forall_mem_nil _, GG_pl⟩ (by decide +kernel)
def n_Mo_both_at_f2_an : List an_T := [(5, [(0, (2, 0, 0, [165])), (1, (0, 0, 1, []))], [], (0, 0), [(0, 0, 99995), (2, 7, 0), (0, 0, 100000)], [], [((0, 158), (0, 0, 2009, []))], [(2, 0, 0, [165]), (0, 0, 2009, []), (0, 0, 5, []), (0, 0, 13, [])], 0, [(0, 0, 2010, [])], [(20, [4], [50, 2, 1, 158, 157, 160, 2, 12, 0, 7, 4, 3, 2, 0, 158, 0, 1, 2, 0, 157, 2, 7, 0, 3, 2, 0, 157, 0, 2010, 3, 14, 1, 10, 3, 0, 160, 5, 3, 2, 0, 157, 0, 1, 0, 0, 1, 10, 3, 0, 160, 5, 3, 2, 0, 157, 0, 1, 0, 4]), (20, [1, 4], [30, 0, 1, 0, 0, (Int.negSucc 0), 1, 158]), (20, [4], [50, 2, 0, 164, 165, 4, 7, 1, 3, 2, 0, 164, 0, 0, 0, 3, 2, 0, 165, 0, 23]), (20, [4], [30, 2, 1, 1, 159]), (20, [4], [30, (Int.negSucc 1), (Int.negSucc 0), 1, 159]), (20, [4, 1, 2, 3], [60, 4, 5, 8, 8, 158, 164, 10, 160, 161, 162, 163, 1]), (23, [3], [2, 1]), (23, [3], [(Int.negSucc 1), (Int.negSucc 0)]), (24, [0, 4], []), (20, [7, 4], [30, 2010, 1, 0, 0, 1, 1, 158]), (20, [7, 4], [30, (Int.negSucc 2009), (Int.negSucc 0), 0, 0, (Int.negSucc 0), 1, 158])]), (43, [(0, (2, 0, 0, [165])), (1, (0, 0, 1, [])), (2, (0, 0, 1, []))], [(0, 0, 1, [])], (0, 0), [(0, 0, 99995), (2, 8, 0), (0, 0, 99957)], [(7, 5, (Int.negSucc 999999999999), 0), (7, 6, (Int.negSucc 999999999999), 0)], [], [(2, 0, 0, [165]), (0, 0, 2009, []), (0, 0, 5, []), (0, 0, 13, [])], 0, [(0, 0, 2010, [])], [(20, [4], [50, 2, 1, 158, 157, 160, 2, 12, 0, 7, 4, 3, 2, 0, 158, 0, 1, 2, 0, 157, 2, 7, 0, 3, 2, 0, 157, 0, 2010, 3, 14, 1, 10, 3, 0, 160, 5, 3, 2, 0, 157, 0, 1, 0, 0, 1, 10, 3, 0, 160, 5, 3, 2, 0, 157, 0, 1, 0, 4]), (20, [1, 4], [30, 0, 1, 0, 0, (Int.negSucc 0), 1, 158]), (20, [4], [50, 2, 0, 164, 165, 4, 7, 1, 3, 2, 0, 164, 0, 0, 0, 3, 2, 0, 165, 0, 23]), (20, [4], [30, 2, 1, 1, 159]), (20, [4], [30, (Int.negSucc 1), (Int.negSucc 0), 1, 159]), (20, [8, 4], [30, (Int.negSucc 2010), (Int.negSucc 0), 0, 0, (Int.negSucc 0), 1, 158]), (20, [4, 1, 2, 3], [60, 4, 5, 8, 8, 158, 164, 10, 160, 161, 162, 163, 1]), (23, [3], [2, 1]), (23, [3], [(Int.negSucc 1), (Int.negSucc 0)]), (24, [0, 4], [])])]
def t_Mo_both_at_f2_ct : ct_L := [(7, 1225, e_Mo_oneTest_at_f2), (31, 1190, e_Mo_word_at_s5040), (82, 1225, e_Mo_oneTest_at_f2), (1000001, 1228, en_ro [] (2, 0, 0, [5040]))]
set_option maxRecDepth 100000 in
theorem c_Mo_both_at_f2 {l : Launch} {D : va_G} {kA : Nat → ClassId} (h_Mo_oneTest_at_f2 : ct_ok PRD l D kA GG y_Mo_oneTest_at_f2 z_Mo_oneTest_at_f2 e_Mo_oneTest_at_f2) (h_Mo_word_at_s5040 : ct_ok PRD l D kA GG y_Mo_word_at_s5040 z_Mo_word_at_s5040 e_Mo_word_at_s5040) : ct_ok PRD l D kA GG y_Mo_both_at_f2 z_Mo_both_at_f2 e_Mo_both_at_f2 := chk_all_ok (FT := [(1169, 13, 158)]) (PT := [(1169, 13, 158, .int)]) (CT := t_Mo_both_at_f2_ct) (KT := []) (NT := []) (AN := n_Mo_both_at_f2_an) (OT := [(o_Mo_both_f_0 2), (o_Mo_both_f_1 2), (o_Mo_both_f_2 2), (o_Mo_both_f_3 2), (o_Mo_both_f_4 2), (o_Mo_both_f_5 2), (o_Mo_both_f_6 2)]) 3 200 (List.forall_mem_cons.mpr ⟨(oo_Mo_both_f_0 2 (by decide) (by decide)), List.forall_mem_cons.mpr ⟨(oo_Mo_both_f_1 2 (by decide) (by decide)), List.forall_mem_cons.mpr ⟨(oo_Mo_both_f_2 2 (by decide) (by decide)), List.forall_mem_cons.mpr ⟨(oo_Mo_both_f_3 2 (by decide) (by decide)), List.forall_mem_cons.mpr ⟨(oo_Mo_both_f_4 2 (by decide) (by decide)), List.forall_mem_cons.mpr ⟨(oo_Mo_both_f_5 2 (by decide) (by decide)), List.forall_mem_cons.mpr ⟨(oo_Mo_both_f_6 2 (by decide) (by decide)), List.forall_mem_nil _⟩⟩⟩⟩⟩⟩⟩) (by decide +kernel) ⟨List.forall_mem_cons.mpr ⟨gf_Mo_1169, List.forall_mem_nil _⟩, List.forall_mem_cons.mpr ⟨pf_Mo_1169, List.forall_mem_nil _⟩, List.forall_mem_cons.mpr ⟨cl_virtual (y := y_Mo_oneTest_at_f2) (ci := 13) rfl rfl ⟨_, _, rfl⟩ (by decide +kernel) h_Mo_oneTest_at_f2 wm_3823 wm_9 wm_3820 wm_3822 wv_23_9 ⟨by decide, by decide, by decide +kernel⟩ (by decide), List.forall_mem_cons.mpr ⟨cl_virtual (y := y_Mo_word_at_s5040) (ci := 13) rfl rfl ⟨_, _, rfl⟩ (by decide +kernel) h_Mo_word_at_s5040 wm_3809 wm_9 wm_3806 wm_3808 wv_23_6 ⟨by decide, by decide, by decide +kernel⟩ (by decide), List.forall_mem_cons.mpr ⟨cl_virtual (y := y_Mo_oneTest_at_f2) (ci := 13) rfl rfl ⟨_, _, rfl⟩ (by decide +kernel) h_Mo_oneTest_at_f2 wm_3823 wm_9 wm_3820 wm_3822 wv_23_9 ⟨by decide, by decide, by decide +kernel⟩ (by decide), List.forall_mem_cons.mpr ⟨cl_ldcw (own := "DrawingHouseModel") (idx := 1228) (i := 40) (tx := "and") (by decide +kernel) (by decide +kernel) (by decide +kernel), List.forall_mem_nil _⟩⟩⟩⟩, List.forall_mem_nil _, List.forall_mem_nil _, GG_pl⟩ (by decide +kernel)
def n_Mo_both_at_f3_an : List an_T := [(5, [(0, (2, 0, 0, [165])), (1, (0, 0, 1, []))], [], (0, 0), [(0, 0, 99995), (2, 7, 0), (0, 0, 100000)], [], [((0, 158), (0, 0, 2009, []))], [(2, 0, 0, [165]), (0, 0, 2009, []), (0, 0, 5, []), (0, 0, 13, [])], 0, [(0, 0, 2010, [])], [(20, [4], [50, 2, 1, 158, 157, 160, 2, 12, 0, 7, 4, 3, 2, 0, 158, 0, 1, 2, 0, 157, 2, 7, 0, 3, 2, 0, 157, 0, 2010, 3, 14, 1, 10, 3, 0, 160, 5, 3, 2, 0, 157, 0, 1, 0, 0, 1, 10, 3, 0, 160, 5, 3, 2, 0, 157, 0, 1, 0, 4]), (20, [1, 4], [30, 0, 1, 0, 0, (Int.negSucc 0), 1, 158]), (20, [4], [50, 2, 0, 164, 165, 4, 7, 1, 3, 2, 0, 164, 0, 0, 0, 3, 2, 0, 165, 0, 23]), (20, [4], [30, 3, 1, 1, 159]), (20, [4], [30, (Int.negSucc 2), (Int.negSucc 0), 1, 159]), (20, [4, 1, 2, 3], [60, 4, 5, 8, 8, 158, 164, 10, 160, 161, 162, 163, 1]), (23, [3], [3, 1]), (23, [3], [(Int.negSucc 2), (Int.negSucc 0)]), (24, [0, 4], []), (20, [7, 4], [30, 2010, 1, 0, 0, 1, 1, 158]), (20, [7, 4], [30, (Int.negSucc 2009), (Int.negSucc 0), 0, 0, (Int.negSucc 0), 1, 158])]), (43, [(0, (2, 0, 0, [165])), (1, (0, 0, 1, [])), (2, (0, 0, 1, []))], [(0, 0, 1, [])], (0, 0), [(0, 0, 99995), (2, 8, 0), (0, 0, 99957)], [(7, 5, (Int.negSucc 999999999999), 0), (7, 6, (Int.negSucc 999999999999), 0)], [], [(2, 0, 0, [165]), (0, 0, 2009, []), (0, 0, 5, []), (0, 0, 13, [])], 0, [(0, 0, 2010, [])], [(20, [4], [50, 2, 1, 158, 157, 160, 2, 12, 0, 7, 4, 3, 2, 0, 158, 0, 1, 2, 0, 157, 2, 7, 0, 3, 2, 0, 157, 0, 2010, 3, 14, 1, 10, 3, 0, 160, 5, 3, 2, 0, 157, 0, 1, 0, 0, 1, 10, 3, 0, 160, 5, 3, 2, 0, 157, 0, 1, 0, 4]), (20, [1, 4], [30, 0, 1, 0, 0, (Int.negSucc 0), 1, 158]), (20, [4], [50, 2, 0, 164, 165, 4, 7, 1, 3, 2, 0, 164, 0, 0, 0, 3, 2, 0, 165, 0, 23]), (20, [4], [30, 3, 1, 1, 159]), (20, [4], [30, (Int.negSucc 2), (Int.negSucc 0), 1, 159]), (20, [8, 4], [30, (Int.negSucc 2010), (Int.negSucc 0), 0, 0, (Int.negSucc 0), 1, 158]), (20, [4, 1, 2, 3], [60, 4, 5, 8, 8, 158, 164, 10, 160, 161, 162, 163, 1]), (23, [3], [3, 1]), (23, [3], [(Int.negSucc 2), (Int.negSucc 0)]), (24, [0, 4], [])])]
def t_Mo_both_at_f3_ct : ct_L := [(7, 1225, e_Mo_oneTest_at_f3), (31, 1190, e_Mo_word_at_s5040), (82, 1225, e_Mo_oneTest_at_f3), (1000001, 1228, en_ro [] (2, 0, 0, [5040]))]
set_option maxRecDepth 100000 in
theorem c_Mo_both_at_f3 {l : Launch} {D : va_G} {kA : Nat → ClassId} (h_Mo_oneTest_at_f3 : ct_ok PRD l D kA GG y_Mo_oneTest_at_f3 z_Mo_oneTest_at_f3 e_Mo_oneTest_at_f3) (h_Mo_word_at_s5040 : ct_ok PRD l D kA GG y_Mo_word_at_s5040 z_Mo_word_at_s5040 e_Mo_word_at_s5040) : ct_ok PRD l D kA GG y_Mo_both_at_f3 z_Mo_both_at_f3 e_Mo_both_at_f3 := chk_all_ok (FT := [(1169, 13, 158)]) (PT := [(1169, 13, 158, .int)]) (CT := t_Mo_both_at_f3_ct) (KT := []) (NT := []) (AN := n_Mo_both_at_f3_an) (OT := [(o_Mo_both_f_0 3), (o_Mo_both_f_1 3), (o_Mo_both_f_2 3), (o_Mo_both_f_3 3), (o_Mo_both_f_4 3), (o_Mo_both_f_5 3), (o_Mo_both_f_6 3)]) 3 200 (List.forall_mem_cons.mpr ⟨(oo_Mo_both_f_0 3 (by decide) (by decide)), List.forall_mem_cons.mpr ⟨(oo_Mo_both_f_1 3 (by decide) (by decide)), List.forall_mem_cons.mpr ⟨(oo_Mo_both_f_2 3 (by decide) (by decide)), List.forall_mem_cons.mpr ⟨(oo_Mo_both_f_3 3 (by decide) (by decide)), List.forall_mem_cons.mpr ⟨(oo_Mo_both_f_4 3 (by decide) (by decide)), List.forall_mem_cons.mpr ⟨(oo_Mo_both_f_5 3 (by decide) (by decide)), List.forall_mem_cons.mpr ⟨(oo_Mo_both_f_6 3 (by decide) (by decide)), List.forall_mem_nil _⟩⟩⟩⟩⟩⟩⟩) (by decide +kernel) ⟨List.forall_mem_cons.mpr ⟨gf_Mo_1169, List.forall_mem_nil _⟩, List.forall_mem_cons.mpr ⟨pf_Mo_1169, List.forall_mem_nil _⟩, List.forall_mem_cons.mpr ⟨cl_virtual (y := y_Mo_oneTest_at_f3) (ci := 13) rfl rfl ⟨_, _, rfl⟩ (by decide +kernel) h_Mo_oneTest_at_f3 wm_3823 wm_9 wm_3820 wm_3822 wv_23_9 ⟨by decide, by decide, by decide +kernel⟩ (by decide), List.forall_mem_cons.mpr ⟨cl_virtual (y := y_Mo_word_at_s5040) (ci := 13) rfl rfl ⟨_, _, rfl⟩ (by decide +kernel) h_Mo_word_at_s5040 wm_3809 wm_9 wm_3806 wm_3808 wv_23_6 ⟨by decide, by decide, by decide +kernel⟩ (by decide), List.forall_mem_cons.mpr ⟨cl_virtual (y := y_Mo_oneTest_at_f3) (ci := 13) rfl rfl ⟨_, _, rfl⟩ (by decide +kernel) h_Mo_oneTest_at_f3 wm_3823 wm_9 wm_3820 wm_3822 wv_23_9 ⟨by decide, by decide, by decide +kernel⟩ (by decide), List.forall_mem_cons.mpr ⟨cl_ldcw (own := "DrawingHouseModel") (idx := 1228) (i := 40) (tx := "and") (by decide +kernel) (by decide +kernel) (by decide +kernel), List.forall_mem_nil _⟩⟩⟩⟩, List.forall_mem_nil _, List.forall_mem_nil _, GG_pl⟩ (by decide +kernel)
def n_Mo_both_at_f4_an : List an_T := [(5, [(0, (2, 0, 0, [165])), (1, (0, 0, 1, []))], [], (0, 0), [(0, 0, 99995), (2, 7, 0), (0, 0, 100000)], [], [((0, 158), (0, 0, 2009, []))], [(2, 0, 0, [165]), (0, 0, 2009, []), (0, 0, 5, []), (0, 0, 13, [])], 0, [(0, 0, 2010, [])], [(20, [4], [50, 2, 1, 158, 157, 160, 2, 12, 0, 7, 4, 3, 2, 0, 158, 0, 1, 2, 0, 157, 2, 7, 0, 3, 2, 0, 157, 0, 2010, 3, 14, 1, 10, 3, 0, 160, 5, 3, 2, 0, 157, 0, 1, 0, 0, 1, 10, 3, 0, 160, 5, 3, 2, 0, 157, 0, 1, 0, 4]), (20, [1, 4], [30, 0, 1, 0, 0, (Int.negSucc 0), 1, 158]), (20, [4], [50, 2, 0, 164, 165, 4, 7, 1, 3, 2, 0, 164, 0, 0, 0, 3, 2, 0, 165, 0, 23]), (20, [4], [30, 4, 1, 1, 159]), (20, [4], [30, (Int.negSucc 3), (Int.negSucc 0), 1, 159]), (20, [4, 1, 2, 3], [60, 4, 5, 8, 8, 158, 164, 10, 160, 161, 162, 163, 1]), (23, [3], [4, 1]), (23, [3], [(Int.negSucc 3), (Int.negSucc 0)]), (24, [0, 4], []), (20, [7, 4], [30, 2010, 1, 0, 0, 1, 1, 158]), (20, [7, 4], [30, (Int.negSucc 2009), (Int.negSucc 0), 0, 0, (Int.negSucc 0), 1, 158])]), (43, [(0, (2, 0, 0, [165])), (1, (0, 0, 1, [])), (2, (0, 0, 1, []))], [(0, 0, 1, [])], (0, 0), [(0, 0, 99995), (2, 8, 0), (0, 0, 99957)], [(7, 5, (Int.negSucc 999999999999), 0), (7, 6, (Int.negSucc 999999999999), 0)], [], [(2, 0, 0, [165]), (0, 0, 2009, []), (0, 0, 5, []), (0, 0, 13, [])], 0, [(0, 0, 2010, [])], [(20, [4], [50, 2, 1, 158, 157, 160, 2, 12, 0, 7, 4, 3, 2, 0, 158, 0, 1, 2, 0, 157, 2, 7, 0, 3, 2, 0, 157, 0, 2010, 3, 14, 1, 10, 3, 0, 160, 5, 3, 2, 0, 157, 0, 1, 0, 0, 1, 10, 3, 0, 160, 5, 3, 2, 0, 157, 0, 1, 0, 4]), (20, [1, 4], [30, 0, 1, 0, 0, (Int.negSucc 0), 1, 158]), (20, [4], [50, 2, 0, 164, 165, 4, 7, 1, 3, 2, 0, 164, 0, 0, 0, 3, 2, 0, 165, 0, 23]), (20, [4], [30, 4, 1, 1, 159]), (20, [4], [30, (Int.negSucc 3), (Int.negSucc 0), 1, 159]), (20, [8, 4], [30, (Int.negSucc 2010), (Int.negSucc 0), 0, 0, (Int.negSucc 0), 1, 158]), (20, [4, 1, 2, 3], [60, 4, 5, 8, 8, 158, 164, 10, 160, 161, 162, 163, 1]), (23, [3], [4, 1]), (23, [3], [(Int.negSucc 3), (Int.negSucc 0)]), (24, [0, 4], [])])]
def t_Mo_both_at_f4_ct : ct_L := [(7, 1225, e_Mo_oneTest_at_f4), (31, 1190, e_Mo_word_at_s5040), (82, 1225, e_Mo_oneTest_at_f4), (1000001, 1228, en_ro [] (2, 0, 0, [5040]))]
set_option maxRecDepth 100000 in
theorem c_Mo_both_at_f4 {l : Launch} {D : va_G} {kA : Nat → ClassId} (h_Mo_oneTest_at_f4 : ct_ok PRD l D kA GG y_Mo_oneTest_at_f4 z_Mo_oneTest_at_f4 e_Mo_oneTest_at_f4) (h_Mo_word_at_s5040 : ct_ok PRD l D kA GG y_Mo_word_at_s5040 z_Mo_word_at_s5040 e_Mo_word_at_s5040) : ct_ok PRD l D kA GG y_Mo_both_at_f4 z_Mo_both_at_f4 e_Mo_both_at_f4 := chk_all_ok (FT := [(1169, 13, 158)]) (PT := [(1169, 13, 158, .int)]) (CT := t_Mo_both_at_f4_ct) (KT := []) (NT := []) (AN := n_Mo_both_at_f4_an) (OT := [(o_Mo_both_f_0 4), (o_Mo_both_f_1 4), (o_Mo_both_f_2 4), (o_Mo_both_f_3 4), (o_Mo_both_f_4 4), (o_Mo_both_f_5 4), (o_Mo_both_f_6 4)]) 3 200 (List.forall_mem_cons.mpr ⟨(oo_Mo_both_f_0 4 (by decide) (by decide)), List.forall_mem_cons.mpr ⟨(oo_Mo_both_f_1 4 (by decide) (by decide)), List.forall_mem_cons.mpr ⟨(oo_Mo_both_f_2 4 (by decide) (by decide)), List.forall_mem_cons.mpr ⟨(oo_Mo_both_f_3 4 (by decide) (by decide)), List.forall_mem_cons.mpr ⟨(oo_Mo_both_f_4 4 (by decide) (by decide)), List.forall_mem_cons.mpr ⟨(oo_Mo_both_f_5 4 (by decide) (by decide)), List.forall_mem_cons.mpr ⟨(oo_Mo_both_f_6 4 (by decide) (by decide)), List.forall_mem_nil _⟩⟩⟩⟩⟩⟩⟩) (by decide +kernel) ⟨List.forall_mem_cons.mpr ⟨gf_Mo_1169, List.forall_mem_nil _⟩, List.forall_mem_cons.mpr ⟨pf_Mo_1169, List.forall_mem_nil _⟩, List.forall_mem_cons.mpr ⟨cl_virtual (y := y_Mo_oneTest_at_f4) (ci := 13) rfl rfl ⟨_, _, rfl⟩ (by decide +kernel) h_Mo_oneTest_at_f4 wm_3823 wm_9 wm_3820 wm_3822 wv_23_9 ⟨by decide, by decide, by decide +kernel⟩ (by decide), List.forall_mem_cons.mpr ⟨cl_virtual (y := y_Mo_word_at_s5040) (ci := 13) rfl rfl ⟨_, _, rfl⟩ (by decide +kernel) h_Mo_word_at_s5040 wm_3809 wm_9 wm_3806 wm_3808 wv_23_6 ⟨by decide, by decide, by decide +kernel⟩ (by decide), List.forall_mem_cons.mpr ⟨cl_virtual (y := y_Mo_oneTest_at_f4) (ci := 13) rfl rfl ⟨_, _, rfl⟩ (by decide +kernel) h_Mo_oneTest_at_f4 wm_3823 wm_9 wm_3820 wm_3822 wv_23_9 ⟨by decide, by decide, by decide +kernel⟩ (by decide), List.forall_mem_cons.mpr ⟨cl_ldcw (own := "DrawingHouseModel") (idx := 1228) (i := 40) (tx := "and") (by decide +kernel) (by decide +kernel) (by decide +kernel), List.forall_mem_nil _⟩⟩⟩⟩, List.forall_mem_nil _, List.forall_mem_nil _, GG_pl⟩ (by decide +kernel)
def n_Mo_both_at_f5_an : List an_T := [(5, [(0, (2, 0, 0, [165])), (1, (0, 0, 1, []))], [], (0, 0), [(0, 0, 99995), (2, 7, 0), (0, 0, 100000)], [], [((0, 158), (0, 0, 2009, []))], [(2, 0, 0, [165]), (0, 0, 2009, []), (0, 0, 5, []), (0, 0, 13, [])], 0, [(0, 0, 2010, [])], [(20, [4], [50, 2, 1, 158, 157, 160, 2, 12, 0, 7, 4, 3, 2, 0, 158, 0, 1, 2, 0, 157, 2, 7, 0, 3, 2, 0, 157, 0, 2010, 3, 14, 1, 10, 3, 0, 160, 5, 3, 2, 0, 157, 0, 1, 0, 0, 1, 10, 3, 0, 160, 5, 3, 2, 0, 157, 0, 1, 0, 4]), (20, [1, 4], [30, 0, 1, 0, 0, (Int.negSucc 0), 1, 158]), (20, [4], [50, 2, 0, 164, 165, 4, 7, 1, 3, 2, 0, 164, 0, 0, 0, 3, 2, 0, 165, 0, 23]), (20, [4], [30, 5, 1, 1, 159]), (20, [4], [30, (Int.negSucc 4), (Int.negSucc 0), 1, 159]), (20, [4, 1, 2, 3], [60, 4, 5, 8, 8, 158, 164, 10, 160, 161, 162, 163, 1]), (23, [3], [5, 1]), (23, [3], [(Int.negSucc 4), (Int.negSucc 0)]), (24, [0, 4], []), (20, [7, 4], [30, 2010, 1, 0, 0, 1, 1, 158]), (20, [7, 4], [30, (Int.negSucc 2009), (Int.negSucc 0), 0, 0, (Int.negSucc 0), 1, 158])]), (43, [(0, (2, 0, 0, [165])), (1, (0, 0, 1, [])), (2, (0, 0, 1, []))], [(0, 0, 1, [])], (0, 0), [(0, 0, 99995), (2, 8, 0), (0, 0, 99957)], [(7, 5, (Int.negSucc 999999999999), 0), (7, 6, (Int.negSucc 999999999999), 0)], [], [(2, 0, 0, [165]), (0, 0, 2009, []), (0, 0, 5, []), (0, 0, 13, [])], 0, [(0, 0, 2010, [])], [(20, [4], [50, 2, 1, 158, 157, 160, 2, 12, 0, 7, 4, 3, 2, 0, 158, 0, 1, 2, 0, 157, 2, 7, 0, 3, 2, 0, 157, 0, 2010, 3, 14, 1, 10, 3, 0, 160, 5, 3, 2, 0, 157, 0, 1, 0, 0, 1, 10, 3, 0, 160, 5, 3, 2, 0, 157, 0, 1, 0, 4]), (20, [1, 4], [30, 0, 1, 0, 0, (Int.negSucc 0), 1, 158]), (20, [4], [50, 2, 0, 164, 165, 4, 7, 1, 3, 2, 0, 164, 0, 0, 0, 3, 2, 0, 165, 0, 23]), (20, [4], [30, 5, 1, 1, 159]), (20, [4], [30, (Int.negSucc 4), (Int.negSucc 0), 1, 159]), (20, [8, 4], [30, (Int.negSucc 2010), (Int.negSucc 0), 0, 0, (Int.negSucc 0), 1, 158]), (20, [4, 1, 2, 3], [60, 4, 5, 8, 8, 158, 164, 10, 160, 161, 162, 163, 1]), (23, [3], [5, 1]), (23, [3], [(Int.negSucc 4), (Int.negSucc 0)]), (24, [0, 4], [])])]
def t_Mo_both_at_f5_ct : ct_L := [(7, 1225, e_Mo_oneTest_at_f5), (31, 1190, e_Mo_word_at_s5040), (82, 1225, e_Mo_oneTest_at_f5), (1000001, 1228, en_ro [] (2, 0, 0, [5040]))]
set_option maxRecDepth 100000 in
theorem c_Mo_both_at_f5 {l : Launch} {D : va_G} {kA : Nat → ClassId} (h_Mo_oneTest_at_f5 : ct_ok PRD l D kA GG y_Mo_oneTest_at_f5 z_Mo_oneTest_at_f5 e_Mo_oneTest_at_f5) (h_Mo_word_at_s5040 : ct_ok PRD l D kA GG y_Mo_word_at_s5040 z_Mo_word_at_s5040 e_Mo_word_at_s5040) : ct_ok PRD l D kA GG y_Mo_both_at_f5 z_Mo_both_at_f5 e_Mo_both_at_f5 := chk_all_ok (FT := [(1169, 13, 158)]) (PT := [(1169, 13, 158, .int)]) (CT := t_Mo_both_at_f5_ct) (KT := []) (NT := []) (AN := n_Mo_both_at_f5_an) (OT := [(o_Mo_both_f_0 5), (o_Mo_both_f_1 5), (o_Mo_both_f_2 5), (o_Mo_both_f_3 5), (o_Mo_both_f_4 5), (o_Mo_both_f_5 5), (o_Mo_both_f_6 5)]) 3 200 (List.forall_mem_cons.mpr ⟨(oo_Mo_both_f_0 5 (by decide) (by decide)), List.forall_mem_cons.mpr ⟨(oo_Mo_both_f_1 5 (by decide) (by decide)), List.forall_mem_cons.mpr ⟨(oo_Mo_both_f_2 5 (by decide) (by decide)), List.forall_mem_cons.mpr ⟨(oo_Mo_both_f_3 5 (by decide) (by decide)), List.forall_mem_cons.mpr ⟨(oo_Mo_both_f_4 5 (by decide) (by decide)), List.forall_mem_cons.mpr ⟨(oo_Mo_both_f_5 5 (by decide) (by decide)), List.forall_mem_cons.mpr ⟨(oo_Mo_both_f_6 5 (by decide) (by decide)), List.forall_mem_nil _⟩⟩⟩⟩⟩⟩⟩) (by decide +kernel) ⟨List.forall_mem_cons.mpr ⟨gf_Mo_1169, List.forall_mem_nil _⟩, List.forall_mem_cons.mpr ⟨pf_Mo_1169, List.forall_mem_nil _⟩, List.forall_mem_cons.mpr ⟨cl_virtual (y := y_Mo_oneTest_at_f5) (ci := 13) rfl rfl ⟨_, _, rfl⟩ (by decide +kernel) h_Mo_oneTest_at_f5 wm_3823 wm_9 wm_3820 wm_3822 wv_23_9 ⟨by decide, by decide, by decide +kernel⟩ (by decide), List.forall_mem_cons.mpr ⟨cl_virtual (y := y_Mo_word_at_s5040) (ci := 13) rfl rfl ⟨_, _, rfl⟩ (by decide +kernel) h_Mo_word_at_s5040 wm_3809 wm_9 wm_3806 wm_3808 wv_23_6 ⟨by decide, by decide, by decide +kernel⟩ (by decide), List.forall_mem_cons.mpr ⟨cl_virtual (y := y_Mo_oneTest_at_f5) (ci := 13) rfl rfl ⟨_, _, rfl⟩ (by decide +kernel) h_Mo_oneTest_at_f5 wm_3823 wm_9 wm_3820 wm_3822 wv_23_9 ⟨by decide, by decide, by decide +kernel⟩ (by decide), List.forall_mem_cons.mpr ⟨cl_ldcw (own := "DrawingHouseModel") (idx := 1228) (i := 40) (tx := "and") (by decide +kernel) (by decide +kernel) (by decide +kernel), List.forall_mem_nil _⟩⟩⟩⟩, List.forall_mem_nil _, List.forall_mem_nil _, GG_pl⟩ (by decide +kernel)
def n_Mo_both_at_f6_an : List an_T := [(5, [(0, (2, 0, 0, [165])), (1, (0, 0, 1, []))], [], (0, 0), [(0, 0, 99995), (2, 7, 0), (0, 0, 100000)], [], [((0, 158), (0, 0, 2009, []))], [(2, 0, 0, [165]), (0, 0, 2009, []), (0, 0, 5, []), (0, 0, 13, [])], 0, [(0, 0, 2010, [])], [(20, [4], [50, 2, 1, 158, 157, 160, 2, 12, 0, 7, 4, 3, 2, 0, 158, 0, 1, 2, 0, 157, 2, 7, 0, 3, 2, 0, 157, 0, 2010, 3, 14, 1, 10, 3, 0, 160, 5, 3, 2, 0, 157, 0, 1, 0, 0, 1, 10, 3, 0, 160, 5, 3, 2, 0, 157, 0, 1, 0, 4]), (20, [1, 4], [30, 0, 1, 0, 0, (Int.negSucc 0), 1, 158]), (20, [4], [50, 2, 0, 164, 165, 4, 7, 1, 3, 2, 0, 164, 0, 0, 0, 3, 2, 0, 165, 0, 23]), (20, [4], [30, 6, 1, 1, 159]), (20, [4], [30, (Int.negSucc 5), (Int.negSucc 0), 1, 159]), (20, [4, 1, 2, 3], [60, 4, 5, 8, 8, 158, 164, 10, 160, 161, 162, 163, 1]), (23, [3], [6, 1]), (23, [3], [(Int.negSucc 5), (Int.negSucc 0)]), (24, [0, 4], []), (20, [7, 4], [30, 2010, 1, 0, 0, 1, 1, 158]), (20, [7, 4], [30, (Int.negSucc 2009), (Int.negSucc 0), 0, 0, (Int.negSucc 0), 1, 158])]), (43, [(0, (2, 0, 0, [165])), (1, (0, 0, 1, [])), (2, (0, 0, 1, []))], [(0, 0, 1, [])], (0, 0), [(0, 0, 99995), (2, 8, 0), (0, 0, 99957)], [(7, 5, (Int.negSucc 999999999999), 0), (7, 6, (Int.negSucc 999999999999), 0)], [], [(2, 0, 0, [165]), (0, 0, 2009, []), (0, 0, 5, []), (0, 0, 13, [])], 0, [(0, 0, 2010, [])], [(20, [4], [50, 2, 1, 158, 157, 160, 2, 12, 0, 7, 4, 3, 2, 0, 158, 0, 1, 2, 0, 157, 2, 7, 0, 3, 2, 0, 157, 0, 2010, 3, 14, 1, 10, 3, 0, 160, 5, 3, 2, 0, 157, 0, 1, 0, 0, 1, 10, 3, 0, 160, 5, 3, 2, 0, 157, 0, 1, 0, 4]), (20, [1, 4], [30, 0, 1, 0, 0, (Int.negSucc 0), 1, 158]), (20, [4], [50, 2, 0, 164, 165, 4, 7, 1, 3, 2, 0, 164, 0, 0, 0, 3, 2, 0, 165, 0, 23]), (20, [4], [30, 6, 1, 1, 159]), (20, [4], [30, (Int.negSucc 5), (Int.negSucc 0), 1, 159]), (20, [8, 4], [30, (Int.negSucc 2010), (Int.negSucc 0), 0, 0, (Int.negSucc 0), 1, 158]), (20, [4, 1, 2, 3], [60, 4, 5, 8, 8, 158, 164, 10, 160, 161, 162, 163, 1]), (23, [3], [6, 1]), (23, [3], [(Int.negSucc 5), (Int.negSucc 0)]), (24, [0, 4], [])])]
def t_Mo_both_at_f6_ct : ct_L := [(7, 1225, e_Mo_oneTest_at_f6), (31, 1190, e_Mo_word_at_s5040), (82, 1225, e_Mo_oneTest_at_f6), (1000001, 1228, en_ro [] (2, 0, 0, [5040]))]
set_option maxRecDepth 100000 in
theorem c_Mo_both_at_f6 {l : Launch} {D : va_G} {kA : Nat → ClassId} (h_Mo_oneTest_at_f6 : ct_ok PRD l D kA GG y_Mo_oneTest_at_f6 z_Mo_oneTest_at_f6 e_Mo_oneTest_at_f6) (h_Mo_word_at_s5040 : ct_ok PRD l D kA GG y_Mo_word_at_s5040 z_Mo_word_at_s5040 e_Mo_word_at_s5040) : ct_ok PRD l D kA GG y_Mo_both_at_f6 z_Mo_both_at_f6 e_Mo_both_at_f6 := chk_all_ok (FT := [(1169, 13, 158)]) (PT := [(1169, 13, 158, .int)]) (CT := t_Mo_both_at_f6_ct) (KT := []) (NT := []) (AN := n_Mo_both_at_f6_an) (OT := [(o_Mo_both_f_0 6), (o_Mo_both_f_1 6), (o_Mo_both_f_2 6), (o_Mo_both_f_3 6), (o_Mo_both_f_4 6), (o_Mo_both_f_5 6), (o_Mo_both_f_6 6)]) 3 200 (List.forall_mem_cons.mpr ⟨(oo_Mo_both_f_0 6 (by decide) (by decide)), List.forall_mem_cons.mpr ⟨(oo_Mo_both_f_1 6 (by decide) (by decide)), List.forall_mem_cons.mpr ⟨(oo_Mo_both_f_2 6 (by decide) (by decide)), List.forall_mem_cons.mpr ⟨(oo_Mo_both_f_3 6 (by decide) (by decide)), List.forall_mem_cons.mpr ⟨(oo_Mo_both_f_4 6 (by decide) (by decide)), List.forall_mem_cons.mpr ⟨(oo_Mo_both_f_5 6 (by decide) (by decide)), List.forall_mem_cons.mpr ⟨(oo_Mo_both_f_6 6 (by decide) (by decide)), List.forall_mem_nil _⟩⟩⟩⟩⟩⟩⟩) (by decide +kernel) ⟨List.forall_mem_cons.mpr ⟨gf_Mo_1169, List.forall_mem_nil _⟩, List.forall_mem_cons.mpr ⟨pf_Mo_1169, List.forall_mem_nil _⟩, List.forall_mem_cons.mpr ⟨cl_virtual (y := y_Mo_oneTest_at_f6) (ci := 13) rfl rfl ⟨_, _, rfl⟩ (by decide +kernel) h_Mo_oneTest_at_f6 wm_3823 wm_9 wm_3820 wm_3822 wv_23_9 ⟨by decide, by decide, by decide +kernel⟩ (by decide), List.forall_mem_cons.mpr ⟨cl_virtual (y := y_Mo_word_at_s5040) (ci := 13) rfl rfl ⟨_, _, rfl⟩ (by decide +kernel) h_Mo_word_at_s5040 wm_3809 wm_9 wm_3806 wm_3808 wv_23_6 ⟨by decide, by decide, by decide +kernel⟩ (by decide), List.forall_mem_cons.mpr ⟨cl_virtual (y := y_Mo_oneTest_at_f6) (ci := 13) rfl rfl ⟨_, _, rfl⟩ (by decide +kernel) h_Mo_oneTest_at_f6 wm_3823 wm_9 wm_3820 wm_3822 wv_23_9 ⟨by decide, by decide, by decide +kernel⟩ (by decide), List.forall_mem_cons.mpr ⟨cl_ldcw (own := "DrawingHouseModel") (idx := 1228) (i := 40) (tx := "and") (by decide +kernel) (by decide +kernel) (by decide +kernel), List.forall_mem_nil _⟩⟩⟩⟩, List.forall_mem_nil _, List.forall_mem_nil _, GG_pl⟩ (by decide +kernel)
def n_Mo_both_at_f7_an : List an_T := [(5, [(0, (2, 0, 0, [165])), (1, (0, 0, 1, []))], [], (0, 0), [(0, 0, 99995), (2, 7, 0), (0, 0, 100000)], [], [((0, 158), (0, 0, 2009, []))], [(2, 0, 0, [165]), (0, 0, 2009, []), (0, 0, 5, []), (0, 0, 13, [])], 0, [(0, 0, 2010, [])], [(20, [4], [50, 2, 1, 158, 157, 160, 2, 12, 0, 7, 4, 3, 2, 0, 158, 0, 1, 2, 0, 157, 2, 7, 0, 3, 2, 0, 157, 0, 2010, 3, 14, 1, 10, 3, 0, 160, 5, 3, 2, 0, 157, 0, 1, 0, 0, 1, 10, 3, 0, 160, 5, 3, 2, 0, 157, 0, 1, 0, 4]), (20, [1, 4], [30, 0, 1, 0, 0, (Int.negSucc 0), 1, 158]), (20, [4], [50, 2, 0, 164, 165, 4, 7, 1, 3, 2, 0, 164, 0, 0, 0, 3, 2, 0, 165, 0, 23]), (20, [4], [30, 7, 1, 1, 159]), (20, [4], [30, (Int.negSucc 6), (Int.negSucc 0), 1, 159]), (20, [4, 1, 2, 3], [60, 4, 5, 8, 8, 158, 164, 10, 160, 161, 162, 163, 1]), (23, [3], [7, 1]), (23, [3], [(Int.negSucc 6), (Int.negSucc 0)]), (24, [0, 4], []), (20, [7, 4], [30, 2010, 1, 0, 0, 1, 1, 158]), (20, [7, 4], [30, (Int.negSucc 2009), (Int.negSucc 0), 0, 0, (Int.negSucc 0), 1, 158])]), (43, [(0, (2, 0, 0, [165])), (1, (0, 0, 1, [])), (2, (0, 0, 1, []))], [(0, 0, 1, [])], (0, 0), [(0, 0, 99995), (2, 8, 0), (0, 0, 99957)], [(7, 5, (Int.negSucc 999999999999), 0), (7, 6, (Int.negSucc 999999999999), 0)], [], [(2, 0, 0, [165]), (0, 0, 2009, []), (0, 0, 5, []), (0, 0, 13, [])], 0, [(0, 0, 2010, [])], [(20, [4], [50, 2, 1, 158, 157, 160, 2, 12, 0, 7, 4, 3, 2, 0, 158, 0, 1, 2, 0, 157, 2, 7, 0, 3, 2, 0, 157, 0, 2010, 3, 14, 1, 10, 3, 0, 160, 5, 3, 2, 0, 157, 0, 1, 0, 0, 1, 10, 3, 0, 160, 5, 3, 2, 0, 157, 0, 1, 0, 4]), (20, [1, 4], [30, 0, 1, 0, 0, (Int.negSucc 0), 1, 158]), (20, [4], [50, 2, 0, 164, 165, 4, 7, 1, 3, 2, 0, 164, 0, 0, 0, 3, 2, 0, 165, 0, 23]), (20, [4], [30, 7, 1, 1, 159]), (20, [4], [30, (Int.negSucc 6), (Int.negSucc 0), 1, 159]), (20, [8, 4], [30, (Int.negSucc 2010), (Int.negSucc 0), 0, 0, (Int.negSucc 0), 1, 158]), (20, [4, 1, 2, 3], [60, 4, 5, 8, 8, 158, 164, 10, 160, 161, 162, 163, 1]), (23, [3], [7, 1]), (23, [3], [(Int.negSucc 6), (Int.negSucc 0)]), (24, [0, 4], [])])]
def t_Mo_both_at_f7_ct : ct_L := [(7, 1225, e_Mo_oneTest_at_f7), (31, 1190, e_Mo_word_at_s5040), (82, 1225, e_Mo_oneTest_at_f7), (1000001, 1228, en_ro [] (2, 0, 0, [5040]))]
set_option maxRecDepth 100000 in
theorem c_Mo_both_at_f7 {l : Launch} {D : va_G} {kA : Nat → ClassId} (h_Mo_oneTest_at_f7 : ct_ok PRD l D kA GG y_Mo_oneTest_at_f7 z_Mo_oneTest_at_f7 e_Mo_oneTest_at_f7) (h_Mo_word_at_s5040 : ct_ok PRD l D kA GG y_Mo_word_at_s5040 z_Mo_word_at_s5040 e_Mo_word_at_s5040) : ct_ok PRD l D kA GG y_Mo_both_at_f7 z_Mo_both_at_f7 e_Mo_both_at_f7 := chk_all_ok (FT := [(1169, 13, 158)]) (PT := [(1169, 13, 158, .int)]) (CT := t_Mo_both_at_f7_ct) (KT := []) (NT := []) (AN := n_Mo_both_at_f7_an) (OT := [(o_Mo_both_f_0 7), (o_Mo_both_f_1 7), (o_Mo_both_f_2 7), (o_Mo_both_f_3 7), (o_Mo_both_f_4 7), (o_Mo_both_f_5 7), (o_Mo_both_f_6 7)]) 3 200 (List.forall_mem_cons.mpr ⟨(oo_Mo_both_f_0 7 (by decide) (by decide)), List.forall_mem_cons.mpr ⟨(oo_Mo_both_f_1 7 (by decide) (by decide)), List.forall_mem_cons.mpr ⟨(oo_Mo_both_f_2 7 (by decide) (by decide)), List.forall_mem_cons.mpr ⟨(oo_Mo_both_f_3 7 (by decide) (by decide)), List.forall_mem_cons.mpr ⟨(oo_Mo_both_f_4 7 (by decide) (by decide)), List.forall_mem_cons.mpr ⟨(oo_Mo_both_f_5 7 (by decide) (by decide)), List.forall_mem_cons.mpr ⟨(oo_Mo_both_f_6 7 (by decide) (by decide)), List.forall_mem_nil _⟩⟩⟩⟩⟩⟩⟩) (by decide +kernel) ⟨List.forall_mem_cons.mpr ⟨gf_Mo_1169, List.forall_mem_nil _⟩, List.forall_mem_cons.mpr ⟨pf_Mo_1169, List.forall_mem_nil _⟩, List.forall_mem_cons.mpr ⟨cl_virtual (y := y_Mo_oneTest_at_f7) (ci := 13) rfl rfl ⟨_, _, rfl⟩ (by decide +kernel) h_Mo_oneTest_at_f7 wm_3823 wm_9 wm_3820 wm_3822 wv_23_9 ⟨by decide, by decide, by decide +kernel⟩ (by decide), List.forall_mem_cons.mpr ⟨cl_virtual (y := y_Mo_word_at_s5040) (ci := 13) rfl rfl ⟨_, _, rfl⟩ (by decide +kernel) h_Mo_word_at_s5040 wm_3809 wm_9 wm_3806 wm_3808 wv_23_6 ⟨by decide, by decide, by decide +kernel⟩ (by decide), List.forall_mem_cons.mpr ⟨cl_virtual (y := y_Mo_oneTest_at_f7) (ci := 13) rfl rfl ⟨_, _, rfl⟩ (by decide +kernel) h_Mo_oneTest_at_f7 wm_3823 wm_9 wm_3820 wm_3822 wv_23_9 ⟨by decide, by decide, by decide +kernel⟩ (by decide), List.forall_mem_cons.mpr ⟨cl_ldcw (own := "DrawingHouseModel") (idx := 1228) (i := 40) (tx := "and") (by decide +kernel) (by decide +kernel) (by decide +kernel), List.forall_mem_nil _⟩⟩⟩⟩, List.forall_mem_nil _, List.forall_mem_nil _, GG_pl⟩ (by decide +kernel)
def n_Mo_both_at_f8_an : List an_T := [(5, [(0, (2, 0, 0, [165])), (1, (0, 0, 1, []))], [], (0, 0), [(0, 0, 99995), (2, 7, 0), (0, 0, 100000)], [], [((0, 158), (0, 0, 2009, []))], [(2, 0, 0, [165]), (0, 0, 2009, []), (0, 0, 5, []), (0, 0, 13, [])], 0, [(0, 0, 2010, [])], [(20, [4], [50, 2, 1, 158, 157, 160, 2, 12, 0, 7, 4, 3, 2, 0, 158, 0, 1, 2, 0, 157, 2, 7, 0, 3, 2, 0, 157, 0, 2010, 3, 14, 1, 10, 3, 0, 160, 5, 3, 2, 0, 157, 0, 1, 0, 0, 1, 10, 3, 0, 160, 5, 3, 2, 0, 157, 0, 1, 0, 4]), (20, [1, 4], [30, 0, 1, 0, 0, (Int.negSucc 0), 1, 158]), (20, [4], [50, 2, 0, 164, 165, 4, 7, 1, 3, 2, 0, 164, 0, 0, 0, 3, 2, 0, 165, 0, 23]), (20, [4], [30, 8, 1, 1, 159]), (20, [4], [30, (Int.negSucc 7), (Int.negSucc 0), 1, 159]), (20, [4, 1, 2, 3], [60, 4, 5, 8, 8, 158, 164, 10, 160, 161, 162, 163, 1]), (23, [3], [8, 1]), (23, [3], [(Int.negSucc 7), (Int.negSucc 0)]), (24, [0, 4], []), (20, [7, 4], [30, 2010, 1, 0, 0, 1, 1, 158]), (20, [7, 4], [30, (Int.negSucc 2009), (Int.negSucc 0), 0, 0, (Int.negSucc 0), 1, 158])]), (43, [(0, (2, 0, 0, [165])), (1, (0, 0, 1, [])), (2, (0, 0, 1, []))], [(0, 0, 1, [])], (0, 0), [(0, 0, 99995), (2, 8, 0), (0, 0, 99957)], [(7, 5, (Int.negSucc 999999999999), 0), (7, 6, (Int.negSucc 999999999999), 0)], [], [(2, 0, 0, [165]), (0, 0, 2009, []), (0, 0, 5, []), (0, 0, 13, [])], 0, [(0, 0, 2010, [])], [(20, [4], [50, 2, 1, 158, 157, 160, 2, 12, 0, 7, 4, 3, 2, 0, 158, 0, 1, 2, 0, 157, 2, 7, 0, 3, 2, 0, 157, 0, 2010, 3, 14, 1, 10, 3, 0, 160, 5, 3, 2, 0, 157, 0, 1, 0, 0, 1, 10, 3, 0, 160, 5, 3, 2, 0, 157, 0, 1, 0, 4]), (20, [1, 4], [30, 0, 1, 0, 0, (Int.negSucc 0), 1, 158]), (20, [4], [50, 2, 0, 164, 165, 4, 7, 1, 3, 2, 0, 164, 0, 0, 0, 3, 2, 0, 165, 0, 23]), (20, [4], [30, 8, 1, 1, 159]), (20, [4], [30, (Int.negSucc 7), (Int.negSucc 0), 1, 159]), (20, [8, 4], [30, (Int.negSucc 2010), (Int.negSucc 0), 0, 0, (Int.negSucc 0), 1, 158]), (20, [4, 1, 2, 3], [60, 4, 5, 8, 8, 158, 164, 10, 160, 161, 162, 163, 1]), (23, [3], [8, 1]), (23, [3], [(Int.negSucc 7), (Int.negSucc 0)]), (24, [0, 4], [])])]
def t_Mo_both_at_f8_ct : ct_L := [(7, 1225, e_Mo_oneTest_at_f8), (31, 1190, e_Mo_word_at_s5040), (82, 1225, e_Mo_oneTest_at_f8), (1000001, 1228, en_ro [] (2, 0, 0, [5040]))]
set_option maxRecDepth 100000 in
theorem c_Mo_both_at_f8 {l : Launch} {D : va_G} {kA : Nat → ClassId} (h_Mo_oneTest_at_f8 : ct_ok PRD l D kA GG y_Mo_oneTest_at_f8 z_Mo_oneTest_at_f8 e_Mo_oneTest_at_f8) (h_Mo_word_at_s5040 : ct_ok PRD l D kA GG y_Mo_word_at_s5040 z_Mo_word_at_s5040 e_Mo_word_at_s5040) : ct_ok PRD l D kA GG y_Mo_both_at_f8 z_Mo_both_at_f8 e_Mo_both_at_f8 := chk_all_ok (FT := [(1169, 13, 158)]) (PT := [(1169, 13, 158, .int)]) (CT := t_Mo_both_at_f8_ct) (KT := []) (NT := []) (AN := n_Mo_both_at_f8_an) (OT := [(o_Mo_both_f_0 8), (o_Mo_both_f_1 8), (o_Mo_both_f_2 8), (o_Mo_both_f_3 8), (o_Mo_both_f_4 8), (o_Mo_both_f_5 8), (o_Mo_both_f_6 8)]) 3 200 (List.forall_mem_cons.mpr ⟨(oo_Mo_both_f_0 8 (by decide) (by decide)), List.forall_mem_cons.mpr ⟨(oo_Mo_both_f_1 8 (by decide) (by decide)), List.forall_mem_cons.mpr ⟨(oo_Mo_both_f_2 8 (by decide) (by decide)), List.forall_mem_cons.mpr ⟨(oo_Mo_both_f_3 8 (by decide) (by decide)), List.forall_mem_cons.mpr ⟨(oo_Mo_both_f_4 8 (by decide) (by decide)), List.forall_mem_cons.mpr ⟨(oo_Mo_both_f_5 8 (by decide) (by decide)), List.forall_mem_cons.mpr ⟨(oo_Mo_both_f_6 8 (by decide) (by decide)), List.forall_mem_nil _⟩⟩⟩⟩⟩⟩⟩) (by decide +kernel) ⟨List.forall_mem_cons.mpr ⟨gf_Mo_1169, List.forall_mem_nil _⟩, List.forall_mem_cons.mpr ⟨pf_Mo_1169, List.forall_mem_nil _⟩, List.forall_mem_cons.mpr ⟨cl_virtual (y := y_Mo_oneTest_at_f8) (ci := 13) rfl rfl ⟨_, _, rfl⟩ (by decide +kernel) h_Mo_oneTest_at_f8 wm_3823 wm_9 wm_3820 wm_3822 wv_23_9 ⟨by decide, by decide, by decide +kernel⟩ (by decide), List.forall_mem_cons.mpr ⟨cl_virtual (y := y_Mo_word_at_s5040) (ci := 13) rfl rfl ⟨_, _, rfl⟩ (by decide +kernel) h_Mo_word_at_s5040 wm_3809 wm_9 wm_3806 wm_3808 wv_23_6 ⟨by decide, by decide, by decide +kernel⟩ (by decide), List.forall_mem_cons.mpr ⟨cl_virtual (y := y_Mo_oneTest_at_f8) (ci := 13) rfl rfl ⟨_, _, rfl⟩ (by decide +kernel) h_Mo_oneTest_at_f8 wm_3823 wm_9 wm_3820 wm_3822 wv_23_9 ⟨by decide, by decide, by decide +kernel⟩ (by decide), List.forall_mem_cons.mpr ⟨cl_ldcw (own := "DrawingHouseModel") (idx := 1228) (i := 40) (tx := "and") (by decide +kernel) (by decide +kernel) (by decide +kernel), List.forall_mem_nil _⟩⟩⟩⟩, List.forall_mem_nil _, List.forall_mem_nil _, GG_pl⟩ (by decide +kernel)
def n_Mo_both_at_f9_an : List an_T := [(5, [(0, (2, 0, 0, [165])), (1, (0, 0, 1, []))], [], (0, 0), [(0, 0, 99995), (2, 7, 0), (0, 0, 100000)], [], [((0, 158), (0, 0, 2009, []))], [(2, 0, 0, [165]), (0, 0, 2009, []), (0, 0, 5, []), (0, 0, 13, [])], 0, [(0, 0, 2010, [])], [(20, [4], [50, 2, 1, 158, 157, 160, 2, 12, 0, 7, 4, 3, 2, 0, 158, 0, 1, 2, 0, 157, 2, 7, 0, 3, 2, 0, 157, 0, 2010, 3, 14, 1, 10, 3, 0, 160, 5, 3, 2, 0, 157, 0, 1, 0, 0, 1, 10, 3, 0, 160, 5, 3, 2, 0, 157, 0, 1, 0, 4]), (20, [1, 4], [30, 0, 1, 0, 0, (Int.negSucc 0), 1, 158]), (20, [4], [50, 2, 0, 164, 165, 4, 7, 1, 3, 2, 0, 164, 0, 0, 0, 3, 2, 0, 165, 0, 23]), (20, [4], [30, 9, 1, 1, 159]), (20, [4], [30, (Int.negSucc 8), (Int.negSucc 0), 1, 159]), (20, [4, 1, 2, 3], [60, 4, 5, 8, 8, 158, 164, 10, 160, 161, 162, 163, 1]), (23, [3], [9, 1]), (23, [3], [(Int.negSucc 8), (Int.negSucc 0)]), (24, [0, 4], []), (20, [7, 4], [30, 2010, 1, 0, 0, 1, 1, 158]), (20, [7, 4], [30, (Int.negSucc 2009), (Int.negSucc 0), 0, 0, (Int.negSucc 0), 1, 158])]), (43, [(0, (2, 0, 0, [165])), (1, (0, 0, 1, [])), (2, (0, 0, 1, []))], [(0, 0, 1, [])], (0, 0), [(0, 0, 99995), (2, 8, 0), (0, 0, 99957)], [(7, 5, (Int.negSucc 999999999999), 0), (7, 6, (Int.negSucc 999999999999), 0)], [], [(2, 0, 0, [165]), (0, 0, 2009, []), (0, 0, 5, []), (0, 0, 13, [])], 0, [(0, 0, 2010, [])], [(20, [4], [50, 2, 1, 158, 157, 160, 2, 12, 0, 7, 4, 3, 2, 0, 158, 0, 1, 2, 0, 157, 2, 7, 0, 3, 2, 0, 157, 0, 2010, 3, 14, 1, 10, 3, 0, 160, 5, 3, 2, 0, 157, 0, 1, 0, 0, 1, 10, 3, 0, 160, 5, 3, 2, 0, 157, 0, 1, 0, 4]), (20, [1, 4], [30, 0, 1, 0, 0, (Int.negSucc 0), 1, 158]), (20, [4], [50, 2, 0, 164, 165, 4, 7, 1, 3, 2, 0, 164, 0, 0, 0, 3, 2, 0, 165, 0, 23]), (20, [4], [30, 9, 1, 1, 159]), (20, [4], [30, (Int.negSucc 8), (Int.negSucc 0), 1, 159]), (20, [8, 4], [30, (Int.negSucc 2010), (Int.negSucc 0), 0, 0, (Int.negSucc 0), 1, 158]), (20, [4, 1, 2, 3], [60, 4, 5, 8, 8, 158, 164, 10, 160, 161, 162, 163, 1]), (23, [3], [9, 1]), (23, [3], [(Int.negSucc 8), (Int.negSucc 0)]), (24, [0, 4], [])])]
def t_Mo_both_at_f9_ct : ct_L := [(7, 1225, e_Mo_oneTest_at_f9), (31, 1190, e_Mo_word_at_s5040), (82, 1225, e_Mo_oneTest_at_f9), (1000001, 1228, en_ro [] (2, 0, 0, [5040]))]
set_option maxRecDepth 100000 in
theorem c_Mo_both_at_f9 {l : Launch} {D : va_G} {kA : Nat → ClassId} (h_Mo_oneTest_at_f9 : ct_ok PRD l D kA GG y_Mo_oneTest_at_f9 z_Mo_oneTest_at_f9 e_Mo_oneTest_at_f9) (h_Mo_word_at_s5040 : ct_ok PRD l D kA GG y_Mo_word_at_s5040 z_Mo_word_at_s5040 e_Mo_word_at_s5040) : ct_ok PRD l D kA GG y_Mo_both_at_f9 z_Mo_both_at_f9 e_Mo_both_at_f9 := chk_all_ok (FT := [(1169, 13, 158)]) (PT := [(1169, 13, 158, .int)]) (CT := t_Mo_both_at_f9_ct) (KT := []) (NT := []) (AN := n_Mo_both_at_f9_an) (OT := [(o_Mo_both_f_0 9), (o_Mo_both_f_1 9), (o_Mo_both_f_2 9), (o_Mo_both_f_3 9), (o_Mo_both_f_4 9), (o_Mo_both_f_5 9), (o_Mo_both_f_6 9)]) 3 200 (List.forall_mem_cons.mpr ⟨(oo_Mo_both_f_0 9 (by decide) (by decide)), List.forall_mem_cons.mpr ⟨(oo_Mo_both_f_1 9 (by decide) (by decide)), List.forall_mem_cons.mpr ⟨(oo_Mo_both_f_2 9 (by decide) (by decide)), List.forall_mem_cons.mpr ⟨(oo_Mo_both_f_3 9 (by decide) (by decide)), List.forall_mem_cons.mpr ⟨(oo_Mo_both_f_4 9 (by decide) (by decide)), List.forall_mem_cons.mpr ⟨(oo_Mo_both_f_5 9 (by decide) (by decide)), List.forall_mem_cons.mpr ⟨(oo_Mo_both_f_6 9 (by decide) (by decide)), List.forall_mem_nil _⟩⟩⟩⟩⟩⟩⟩) (by decide +kernel) ⟨List.forall_mem_cons.mpr ⟨gf_Mo_1169, List.forall_mem_nil _⟩, List.forall_mem_cons.mpr ⟨pf_Mo_1169, List.forall_mem_nil _⟩, List.forall_mem_cons.mpr ⟨cl_virtual (y := y_Mo_oneTest_at_f9) (ci := 13) rfl rfl ⟨_, _, rfl⟩ (by decide +kernel) h_Mo_oneTest_at_f9 wm_3823 wm_9 wm_3820 wm_3822 wv_23_9 ⟨by decide, by decide, by decide +kernel⟩ (by decide), List.forall_mem_cons.mpr ⟨cl_virtual (y := y_Mo_word_at_s5040) (ci := 13) rfl rfl ⟨_, _, rfl⟩ (by decide +kernel) h_Mo_word_at_s5040 wm_3809 wm_9 wm_3806 wm_3808 wv_23_6 ⟨by decide, by decide, by decide +kernel⟩ (by decide), List.forall_mem_cons.mpr ⟨cl_virtual (y := y_Mo_oneTest_at_f9) (ci := 13) rfl rfl ⟨_, _, rfl⟩ (by decide +kernel) h_Mo_oneTest_at_f9 wm_3823 wm_9 wm_3820 wm_3822 wv_23_9 ⟨by decide, by decide, by decide +kernel⟩ (by decide), List.forall_mem_cons.mpr ⟨cl_ldcw (own := "DrawingHouseModel") (idx := 1228) (i := 40) (tx := "and") (by decide +kernel) (by decide +kernel) (by decide +kernel), List.forall_mem_nil _⟩⟩⟩⟩, List.forall_mem_nil _, List.forall_mem_nil _, GG_pl⟩ (by decide +kernel)

set_option maxHeartbeats 4000000 in
theorem vc_Mo_layers_0_0 (x5 : Int) (all_0 : Int → Int) (r_0 : Int) (permBegin_0 : Int → Int) (permMany_0 : Int → Int) (perm_0 : Int → Int) (turned_0 : Int → Int) (all_1 : Int → Int) (r_1 : Int) (permBegin_1 : Int → Int) (permMany_1 : Int → Int) (perm_1 : Int → Int) (turned_1 : Int → Int) (all_2 : Int → Int) (r_2 : Int) (permBegin_2 : Int → Int) (permMany_2 : Int → Int) (perm_2 : Int → Int) (turned_2 : Int → Int) (all_3 : Int → Int) (r_3 : Int) (permBegin_3 : Int → Int) (permMany_3 : Int → Int) (perm_3 : Int → Int) (turned_3 : Int → Int) (pointMany_0 : Int) (pointMany_1 : Int) (costMany_0 : Int) (costMany_1 : Int) (pointMany_2 : Int) (apartMany_1 : Int) (apartMany_2 : Int) (costA_0 : Int → Int) (costA_1 : Int → Int) (costA_2 : Int → Int) (costA_3 : Int → Int) (costB_0 : Int → Int) (costB_1 : Int → Int) (costB_2 : Int → Int) (costB_3 : Int → Int) (costW_0 : Int → Int) (costW_1 : Int → Int) (costW_2 : Int → Int) (costW_3 : Int → Int) (costPlain_0 : Int → Int) (costPlain_1 : Int → Int) (costPlain_2 : Int → Int) (costPlain_3 : Int → Int) (apartA_0 : Int → Int) (apartA_1 : Int → Int) (apartA_2 : Int → Int) (apartA_3 : Int → Int) (apartB_0 : Int → Int) (apartB_1 : Int → Int) (apartB_2 : Int → Int) (apartB_3 : Int → Int) (apart_0 : Int → Int) (apart_1 : Int → Int) (apart_2 : Int → Int) (apart_3 : Int → Int) (k5 : 0 ≤ x5 ∧ x5 ≤ 0) (f23 : SGR (r_3) (all_3)) (fe_0_5_1 : r_0 = r_1) (fe_0_79_1 : pointMany_0 = pointMany_1) (fe_0_80_1 : costMany_0 = costMany_1) (fe_0_5_2 : r_1 = r_2) (fe_0_79_2 : pointMany_1 = pointMany_2) (fe_0_81_2 : apartMany_1 = apartMany_2) (fe_0_5_3 : r_2 = r_3) (hE_0_2_1 : ∀ j : Int, all_0 j = all_1 j) (hE_0_2_2 : ∀ j : Int, all_1 j = all_2 j) (hE_0_2_3 : ∀ j : Int, all_2 j = all_3 j) (hE_0_83_1 : ∀ j : Int, costA_0 j = costA_1 j) (hE_0_83_2 : ∀ j : Int, costA_1 j = costA_2 j) (hE_0_83_3 : ∀ j : Int, costA_2 j = costA_3 j) (hE_0_84_1 : ∀ j : Int, costB_0 j = costB_1 j) (hE_0_84_2 : ∀ j : Int, costB_1 j = costB_2 j) (hE_0_84_3 : ∀ j : Int, costB_2 j = costB_3 j) (hE_0_85_1 : ∀ j : Int, costW_0 j = costW_1 j) (hE_0_85_2 : ∀ j : Int, costW_1 j = costW_2 j) (hE_0_85_3 : ∀ j : Int, costW_2 j = costW_3 j) (hE_0_86_1 : ∀ j : Int, costPlain_0 j = costPlain_1 j) (hE_0_86_2 : ∀ j : Int, costPlain_1 j = costPlain_2 j) (hE_0_86_3 : ∀ j : Int, costPlain_2 j = costPlain_3 j) (hE_0_87_1 : ∀ j : Int, apartA_0 j = apartA_1 j) (hE_0_87_2 : ∀ j : Int, apartA_1 j = apartA_2 j) (hE_0_87_3 : ∀ j : Int, apartA_2 j = apartA_3 j) (hE_0_88_1 : ∀ j : Int, apartB_0 j = apartB_1 j) (hE_0_88_2 : ∀ j : Int, apartB_1 j = apartB_2 j) (hE_0_88_3 : ∀ j : Int, apartB_2 j = apartB_3 j) (hE_0_89_1 : ∀ j : Int, apart_0 j = apart_1 j) (hE_0_89_2 : ∀ j : Int, apart_1 j = apart_2 j) (hE_0_89_3 : ∀ j : Int, apart_2 j = apart_3 j) (hE_0_95_1 : ∀ j : Int, turned_0 j = turned_1 j) (hE_0_95_2 : ∀ j : Int, turned_1 j = turned_2 j) (hE_0_95_3 : ∀ j : Int, turned_2 j = turned_3 j) (hE_0_110_1 : ∀ j : Int, permBegin_0 j = permBegin_1 j) (hE_0_110_2 : ∀ j : Int, permBegin_1 j = permBegin_2 j) (hE_0_110_3 : ∀ j : Int, permBegin_2 j = permBegin_3 j) (hE_0_111_1 : ∀ j : Int, permMany_0 j = permMany_1 j) (hE_0_111_2 : ∀ j : Int, permMany_1 j = permMany_2 j) (hE_0_111_3 : ∀ j : Int, permMany_2 j = permMany_3 j) (hE_0_112_1 : ∀ j : Int, perm_0 j = perm_1 j) (hE_0_112_2 : ∀ j : Int, perm_1 j = perm_2 j) (hE_0_112_3 : ∀ j : Int, perm_2 j = perm_3 j) (kz_0_79 : 0 ≤ pointMany_0 ∧ pointMany_0 ≤ 76) (kz_0_80 : 0 ≤ costMany_0 ∧ costMany_0 ≤ 200) : x5 ≤ all_0 ((r_0 + 1)) := by
  subst fe_0_5_1
  subst fe_0_79_1
  subst fe_0_80_1
  subst fe_0_5_2
  subst fe_0_79_2
  subst fe_0_81_2
  subst fe_0_5_3
  have e_hE_0_2_1 := funext hE_0_2_1; subst e_hE_0_2_1
  have e_hE_0_2_2 := funext hE_0_2_2; subst e_hE_0_2_2
  have e_hE_0_2_3 := funext hE_0_2_3; subst e_hE_0_2_3
  have e_hE_0_83_1 := funext hE_0_83_1; subst e_hE_0_83_1
  have e_hE_0_83_2 := funext hE_0_83_2; subst e_hE_0_83_2
  have e_hE_0_83_3 := funext hE_0_83_3; subst e_hE_0_83_3
  have e_hE_0_84_1 := funext hE_0_84_1; subst e_hE_0_84_1
  have e_hE_0_84_2 := funext hE_0_84_2; subst e_hE_0_84_2
  have e_hE_0_84_3 := funext hE_0_84_3; subst e_hE_0_84_3
  have e_hE_0_85_1 := funext hE_0_85_1; subst e_hE_0_85_1
  have e_hE_0_85_2 := funext hE_0_85_2; subst e_hE_0_85_2
  have e_hE_0_85_3 := funext hE_0_85_3; subst e_hE_0_85_3
  have e_hE_0_86_1 := funext hE_0_86_1; subst e_hE_0_86_1
  have e_hE_0_86_2 := funext hE_0_86_2; subst e_hE_0_86_2
  have e_hE_0_86_3 := funext hE_0_86_3; subst e_hE_0_86_3
  have e_hE_0_87_1 := funext hE_0_87_1; subst e_hE_0_87_1
  have e_hE_0_87_2 := funext hE_0_87_2; subst e_hE_0_87_2
  have e_hE_0_87_3 := funext hE_0_87_3; subst e_hE_0_87_3
  have e_hE_0_88_1 := funext hE_0_88_1; subst e_hE_0_88_1
  have e_hE_0_88_2 := funext hE_0_88_2; subst e_hE_0_88_2
  have e_hE_0_88_3 := funext hE_0_88_3; subst e_hE_0_88_3
  have e_hE_0_89_1 := funext hE_0_89_1; subst e_hE_0_89_1
  have e_hE_0_89_2 := funext hE_0_89_2; subst e_hE_0_89_2
  have e_hE_0_89_3 := funext hE_0_89_3; subst e_hE_0_89_3
  have e_hE_0_95_1 := funext hE_0_95_1; subst e_hE_0_95_1
  have e_hE_0_95_2 := funext hE_0_95_2; subst e_hE_0_95_2
  have e_hE_0_95_3 := funext hE_0_95_3; subst e_hE_0_95_3
  have e_hE_0_110_1 := funext hE_0_110_1; subst e_hE_0_110_1
  have e_hE_0_110_2 := funext hE_0_110_2; subst e_hE_0_110_2
  have e_hE_0_110_3 := funext hE_0_110_3; subst e_hE_0_110_3
  have e_hE_0_111_1 := funext hE_0_111_1; subst e_hE_0_111_1
  have e_hE_0_111_2 := funext hE_0_111_2; subst e_hE_0_111_2
  have e_hE_0_111_3 := funext hE_0_111_3; subst e_hE_0_111_3
  have e_hE_0_112_1 := funext hE_0_112_1; subst e_hE_0_112_1
  have e_hE_0_112_2 := funext hE_0_112_2; subst e_hE_0_112_2
  have e_hE_0_112_3 := funext hE_0_112_3; subst e_hE_0_112_3
  try simp only [Int.add_zero] at *
  first
    | omega
    | (have h := ‹SGR _ _›.1; omega)
    | (have h := ‹LSA _ _ _ _ _ _ _ _ _ _›.2.1; have h2 := ‹LSA _ _ _ _ _ _ _ _ _ _›.2.2.1 0 (by omega) (by omega); omega)
set_option maxHeartbeats 4000000 in
theorem vc_Mo_layers_0_1 (x3 : Int) (x4 : Int) (all_0 : Int → Int) (r_0 : Int) (permBegin_0 : Int → Int) (permMany_0 : Int → Int) (perm_0 : Int → Int) (turned_0 : Int → Int) (all_1 : Int → Int) (r_1 : Int) (permBegin_1 : Int → Int) (permMany_1 : Int → Int) (perm_1 : Int → Int) (turned_1 : Int → Int) (all_2 : Int → Int) (r_2 : Int) (permBegin_2 : Int → Int) (permMany_2 : Int → Int) (perm_2 : Int → Int) (turned_2 : Int → Int) (all_3 : Int → Int) (r_3 : Int) (permBegin_3 : Int → Int) (permMany_3 : Int → Int) (perm_3 : Int → Int) (turned_3 : Int → Int) (pointMany_0 : Int) (pointMany_1 : Int) (costMany_0 : Int) (costMany_1 : Int) (apartMany_0 : Int) (pointMany_2 : Int) (apartMany_1 : Int) (apartMany_2 : Int) (costA_0 : Int → Int) (costA_1 : Int → Int) (costA_2 : Int → Int) (costA_3 : Int → Int) (costB_0 : Int → Int) (costB_1 : Int → Int) (costB_2 : Int → Int) (costB_3 : Int → Int) (costW_0 : Int → Int) (costW_1 : Int → Int) (costW_2 : Int → Int) (costW_3 : Int → Int) (costPlain_0 : Int → Int) (costPlain_1 : Int → Int) (costPlain_2 : Int → Int) (costPlain_3 : Int → Int) (apartA_0 : Int → Int) (apartA_1 : Int → Int) (apartA_2 : Int → Int) (apartA_3 : Int → Int) (apartB_0 : Int → Int) (apartB_1 : Int → Int) (apartB_2 : Int → Int) (apartB_3 : Int → Int) (apart_0 : Int → Int) (apart_1 : Int → Int) (apart_2 : Int → Int) (apart_3 : Int → Int) (k3 : 0 ≤ x3 ∧ x3 ≤ 0) (k4 : 0 ≤ x4 ∧ x4 ≤ 0) (fe_0_5_1 : r_0 = r_1) (fe_0_79_1 : pointMany_0 = pointMany_1) (fe_0_80_1 : costMany_0 = costMany_1) (fe_0_81_1 : apartMany_0 = x4) (fe_0_5_2 : r_1 = r_2) (fe_0_79_2 : pointMany_1 = pointMany_2) (fe_0_80_2 : costMany_1 = x3) (fe_0_81_2 : apartMany_1 = apartMany_2) (fe_0_5_3 : r_2 = r_3) (hE_0_2_1 : ∀ j : Int, all_0 j = all_1 j) (hE_0_2_2 : ∀ j : Int, all_1 j = all_2 j) (hE_0_2_3 : ∀ j : Int, all_2 j = all_3 j) (hE_0_83_1 : ∀ j : Int, costA_0 j = costA_1 j) (hE_0_83_2 : ∀ j : Int, costA_1 j = costA_2 j) (hE_0_83_3 : ∀ j : Int, costA_2 j = costA_3 j) (hE_0_84_1 : ∀ j : Int, costB_0 j = costB_1 j) (hE_0_84_2 : ∀ j : Int, costB_1 j = costB_2 j) (hE_0_84_3 : ∀ j : Int, costB_2 j = costB_3 j) (hE_0_85_1 : ∀ j : Int, costW_0 j = costW_1 j) (hE_0_85_2 : ∀ j : Int, costW_1 j = costW_2 j) (hE_0_85_3 : ∀ j : Int, costW_2 j = costW_3 j) (hE_0_86_1 : ∀ j : Int, costPlain_0 j = costPlain_1 j) (hE_0_86_2 : ∀ j : Int, costPlain_1 j = costPlain_2 j) (hE_0_86_3 : ∀ j : Int, costPlain_2 j = costPlain_3 j) (hE_0_87_1 : ∀ j : Int, apartA_0 j = apartA_1 j) (hE_0_87_2 : ∀ j : Int, apartA_1 j = apartA_2 j) (hE_0_87_3 : ∀ j : Int, apartA_2 j = apartA_3 j) (hE_0_88_1 : ∀ j : Int, apartB_0 j = apartB_1 j) (hE_0_88_2 : ∀ j : Int, apartB_1 j = apartB_2 j) (hE_0_88_3 : ∀ j : Int, apartB_2 j = apartB_3 j) (hE_0_89_1 : ∀ j : Int, apart_0 j = apart_1 j) (hE_0_89_2 : ∀ j : Int, apart_1 j = apart_2 j) (hE_0_89_3 : ∀ j : Int, apart_2 j = apart_3 j) (hE_0_95_1 : ∀ j : Int, turned_0 j = turned_1 j) (hE_0_95_2 : ∀ j : Int, turned_1 j = turned_2 j) (hE_0_95_3 : ∀ j : Int, turned_2 j = turned_3 j) (hE_0_110_1 : ∀ j : Int, permBegin_0 j = permBegin_1 j) (hE_0_110_2 : ∀ j : Int, permBegin_1 j = permBegin_2 j) (hE_0_110_3 : ∀ j : Int, permBegin_2 j = permBegin_3 j) (hE_0_111_1 : ∀ j : Int, permMany_0 j = permMany_1 j) (hE_0_111_2 : ∀ j : Int, permMany_1 j = permMany_2 j) (hE_0_111_3 : ∀ j : Int, permMany_2 j = permMany_3 j) (hE_0_112_1 : ∀ j : Int, perm_0 j = perm_1 j) (hE_0_112_2 : ∀ j : Int, perm_1 j = perm_2 j) (hE_0_112_3 : ∀ j : Int, perm_2 j = perm_3 j) (kz_0_79 : 0 ≤ pointMany_0 ∧ pointMany_0 ≤ 76) (kz_0_80 : 0 ≤ costMany_0 ∧ costMany_0 ≤ 200) (kz_0_81 : 0 ≤ apartMany_0 ∧ apartMany_0 ≤ 200) : LCP (r_0) (costMany_0) (apartMany_0) (all_0) (turned_0) (costA_0) (costB_0) (costW_0) (costPlain_0) (apartA_0) (apartB_0) (apart_0) := by
  subst fe_0_5_1
  subst fe_0_79_1
  subst fe_0_80_1
  subst fe_0_5_2
  subst fe_0_79_2
  subst fe_0_81_2
  subst fe_0_5_3
  have e_hE_0_2_1 := funext hE_0_2_1; subst e_hE_0_2_1
  have e_hE_0_2_2 := funext hE_0_2_2; subst e_hE_0_2_2
  have e_hE_0_2_3 := funext hE_0_2_3; subst e_hE_0_2_3
  have e_hE_0_83_1 := funext hE_0_83_1; subst e_hE_0_83_1
  have e_hE_0_83_2 := funext hE_0_83_2; subst e_hE_0_83_2
  have e_hE_0_83_3 := funext hE_0_83_3; subst e_hE_0_83_3
  have e_hE_0_84_1 := funext hE_0_84_1; subst e_hE_0_84_1
  have e_hE_0_84_2 := funext hE_0_84_2; subst e_hE_0_84_2
  have e_hE_0_84_3 := funext hE_0_84_3; subst e_hE_0_84_3
  have e_hE_0_85_1 := funext hE_0_85_1; subst e_hE_0_85_1
  have e_hE_0_85_2 := funext hE_0_85_2; subst e_hE_0_85_2
  have e_hE_0_85_3 := funext hE_0_85_3; subst e_hE_0_85_3
  have e_hE_0_86_1 := funext hE_0_86_1; subst e_hE_0_86_1
  have e_hE_0_86_2 := funext hE_0_86_2; subst e_hE_0_86_2
  have e_hE_0_86_3 := funext hE_0_86_3; subst e_hE_0_86_3
  have e_hE_0_87_1 := funext hE_0_87_1; subst e_hE_0_87_1
  have e_hE_0_87_2 := funext hE_0_87_2; subst e_hE_0_87_2
  have e_hE_0_87_3 := funext hE_0_87_3; subst e_hE_0_87_3
  have e_hE_0_88_1 := funext hE_0_88_1; subst e_hE_0_88_1
  have e_hE_0_88_2 := funext hE_0_88_2; subst e_hE_0_88_2
  have e_hE_0_88_3 := funext hE_0_88_3; subst e_hE_0_88_3
  have e_hE_0_89_1 := funext hE_0_89_1; subst e_hE_0_89_1
  have e_hE_0_89_2 := funext hE_0_89_2; subst e_hE_0_89_2
  have e_hE_0_89_3 := funext hE_0_89_3; subst e_hE_0_89_3
  have e_hE_0_95_1 := funext hE_0_95_1; subst e_hE_0_95_1
  have e_hE_0_95_2 := funext hE_0_95_2; subst e_hE_0_95_2
  have e_hE_0_95_3 := funext hE_0_95_3; subst e_hE_0_95_3
  have e_hE_0_110_1 := funext hE_0_110_1; subst e_hE_0_110_1
  have e_hE_0_110_2 := funext hE_0_110_2; subst e_hE_0_110_2
  have e_hE_0_110_3 := funext hE_0_110_3; subst e_hE_0_110_3
  have e_hE_0_111_1 := funext hE_0_111_1; subst e_hE_0_111_1
  have e_hE_0_111_2 := funext hE_0_111_2; subst e_hE_0_111_2
  have e_hE_0_111_3 := funext hE_0_111_3; subst e_hE_0_111_3
  have e_hE_0_112_1 := funext hE_0_112_1; subst e_hE_0_112_1
  have e_hE_0_112_2 := funext hE_0_112_2; subst e_hE_0_112_2
  have e_hE_0_112_3 := funext hE_0_112_3; subst e_hE_0_112_3
  first
    | assumption
    | exact lcp_zero (by omega) (by omega)
set_option maxHeartbeats 4000000 in
theorem vc_Mo_layers_0_2 (x2 : Int) (all_0 : Int → Int) (r_0 : Int) (permBegin_0 : Int → Int) (permMany_0 : Int → Int) (perm_0 : Int → Int) (turned_0 : Int → Int) (all_1 : Int → Int) (r_1 : Int) (permBegin_1 : Int → Int) (permMany_1 : Int → Int) (perm_1 : Int → Int) (turned_1 : Int → Int) (all_2 : Int → Int) (r_2 : Int) (permBegin_2 : Int → Int) (permMany_2 : Int → Int) (perm_2 : Int → Int) (turned_2 : Int → Int) (all_3 : Int → Int) (r_3 : Int) (permBegin_3 : Int → Int) (permMany_3 : Int → Int) (perm_3 : Int → Int) (turned_3 : Int → Int) (pointMany_0 : Int) (pointMany_1 : Int) (costMany_0 : Int) (costMany_1 : Int) (pointMany_2 : Int) (apartMany_1 : Int) (apartMany_2 : Int) (costA_0 : Int → Int) (costA_1 : Int → Int) (costA_2 : Int → Int) (costA_3 : Int → Int) (costB_0 : Int → Int) (costB_1 : Int → Int) (costB_2 : Int → Int) (costB_3 : Int → Int) (costW_0 : Int → Int) (costW_1 : Int → Int) (costW_2 : Int → Int) (costW_3 : Int → Int) (costPlain_0 : Int → Int) (costPlain_1 : Int → Int) (costPlain_2 : Int → Int) (costPlain_3 : Int → Int) (apartA_0 : Int → Int) (apartA_1 : Int → Int) (apartA_2 : Int → Int) (apartA_3 : Int → Int) (apartB_0 : Int → Int) (apartB_1 : Int → Int) (apartB_2 : Int → Int) (apartB_3 : Int → Int) (apart_0 : Int → Int) (apart_1 : Int → Int) (apart_2 : Int → Int) (apart_3 : Int → Int) (k2 : 0 ≤ x2 ∧ x2 ≤ 24) (f0 : 1 * x2 + ((-1) * all_0 (r_0 + 0) + 0) ≤ 0) (f1 : (-1) * x2 + (1 * all_0 (r_0 + 0) + 0) ≤ 0) (fe_0_5_1 : r_0 = r_1) (fe_0_79_1 : pointMany_0 = pointMany_1) (fe_0_80_1 : costMany_0 = costMany_1) (fe_0_5_2 : r_1 = r_2) (fe_0_79_2 : pointMany_1 = pointMany_2) (fe_0_81_2 : apartMany_1 = apartMany_2) (fe_0_5_3 : r_2 = r_3) (fe_0_79_3 : pointMany_2 = x2) (hE_0_2_1 : ∀ j : Int, all_0 j = all_1 j) (hE_0_2_2 : ∀ j : Int, all_1 j = all_2 j) (hE_0_2_3 : ∀ j : Int, all_2 j = all_3 j) (hE_0_83_1 : ∀ j : Int, costA_0 j = costA_1 j) (hE_0_83_2 : ∀ j : Int, costA_1 j = costA_2 j) (hE_0_83_3 : ∀ j : Int, costA_2 j = costA_3 j) (hE_0_84_1 : ∀ j : Int, costB_0 j = costB_1 j) (hE_0_84_2 : ∀ j : Int, costB_1 j = costB_2 j) (hE_0_84_3 : ∀ j : Int, costB_2 j = costB_3 j) (hE_0_85_1 : ∀ j : Int, costW_0 j = costW_1 j) (hE_0_85_2 : ∀ j : Int, costW_1 j = costW_2 j) (hE_0_85_3 : ∀ j : Int, costW_2 j = costW_3 j) (hE_0_86_1 : ∀ j : Int, costPlain_0 j = costPlain_1 j) (hE_0_86_2 : ∀ j : Int, costPlain_1 j = costPlain_2 j) (hE_0_86_3 : ∀ j : Int, costPlain_2 j = costPlain_3 j) (hE_0_87_1 : ∀ j : Int, apartA_0 j = apartA_1 j) (hE_0_87_2 : ∀ j : Int, apartA_1 j = apartA_2 j) (hE_0_87_3 : ∀ j : Int, apartA_2 j = apartA_3 j) (hE_0_88_1 : ∀ j : Int, apartB_0 j = apartB_1 j) (hE_0_88_2 : ∀ j : Int, apartB_1 j = apartB_2 j) (hE_0_88_3 : ∀ j : Int, apartB_2 j = apartB_3 j) (hE_0_89_1 : ∀ j : Int, apart_0 j = apart_1 j) (hE_0_89_2 : ∀ j : Int, apart_1 j = apart_2 j) (hE_0_89_3 : ∀ j : Int, apart_2 j = apart_3 j) (hE_0_95_1 : ∀ j : Int, turned_0 j = turned_1 j) (hE_0_95_2 : ∀ j : Int, turned_1 j = turned_2 j) (hE_0_95_3 : ∀ j : Int, turned_2 j = turned_3 j) (hE_0_110_1 : ∀ j : Int, permBegin_0 j = permBegin_1 j) (hE_0_110_2 : ∀ j : Int, permBegin_1 j = permBegin_2 j) (hE_0_110_3 : ∀ j : Int, permBegin_2 j = permBegin_3 j) (hE_0_111_1 : ∀ j : Int, permMany_0 j = permMany_1 j) (hE_0_111_2 : ∀ j : Int, permMany_1 j = permMany_2 j) (hE_0_111_3 : ∀ j : Int, permMany_2 j = permMany_3 j) (hE_0_112_1 : ∀ j : Int, perm_0 j = perm_1 j) (hE_0_112_2 : ∀ j : Int, perm_1 j = perm_2 j) (hE_0_112_3 : ∀ j : Int, perm_2 j = perm_3 j) (kz_0_79 : 0 ≤ pointMany_0 ∧ pointMany_0 ≤ 76) (kz_0_80 : 0 ≤ costMany_0 ∧ costMany_0 ≤ 200) : pointMany_0 = all_0 (r_0) := by
  subst fe_0_5_1
  subst fe_0_79_1
  subst fe_0_80_1
  subst fe_0_5_2
  subst fe_0_79_2
  subst fe_0_81_2
  subst fe_0_5_3
  have e_hE_0_2_1 := funext hE_0_2_1; subst e_hE_0_2_1
  have e_hE_0_2_2 := funext hE_0_2_2; subst e_hE_0_2_2
  have e_hE_0_2_3 := funext hE_0_2_3; subst e_hE_0_2_3
  have e_hE_0_83_1 := funext hE_0_83_1; subst e_hE_0_83_1
  have e_hE_0_83_2 := funext hE_0_83_2; subst e_hE_0_83_2
  have e_hE_0_83_3 := funext hE_0_83_3; subst e_hE_0_83_3
  have e_hE_0_84_1 := funext hE_0_84_1; subst e_hE_0_84_1
  have e_hE_0_84_2 := funext hE_0_84_2; subst e_hE_0_84_2
  have e_hE_0_84_3 := funext hE_0_84_3; subst e_hE_0_84_3
  have e_hE_0_85_1 := funext hE_0_85_1; subst e_hE_0_85_1
  have e_hE_0_85_2 := funext hE_0_85_2; subst e_hE_0_85_2
  have e_hE_0_85_3 := funext hE_0_85_3; subst e_hE_0_85_3
  have e_hE_0_86_1 := funext hE_0_86_1; subst e_hE_0_86_1
  have e_hE_0_86_2 := funext hE_0_86_2; subst e_hE_0_86_2
  have e_hE_0_86_3 := funext hE_0_86_3; subst e_hE_0_86_3
  have e_hE_0_87_1 := funext hE_0_87_1; subst e_hE_0_87_1
  have e_hE_0_87_2 := funext hE_0_87_2; subst e_hE_0_87_2
  have e_hE_0_87_3 := funext hE_0_87_3; subst e_hE_0_87_3
  have e_hE_0_88_1 := funext hE_0_88_1; subst e_hE_0_88_1
  have e_hE_0_88_2 := funext hE_0_88_2; subst e_hE_0_88_2
  have e_hE_0_88_3 := funext hE_0_88_3; subst e_hE_0_88_3
  have e_hE_0_89_1 := funext hE_0_89_1; subst e_hE_0_89_1
  have e_hE_0_89_2 := funext hE_0_89_2; subst e_hE_0_89_2
  have e_hE_0_89_3 := funext hE_0_89_3; subst e_hE_0_89_3
  have e_hE_0_95_1 := funext hE_0_95_1; subst e_hE_0_95_1
  have e_hE_0_95_2 := funext hE_0_95_2; subst e_hE_0_95_2
  have e_hE_0_95_3 := funext hE_0_95_3; subst e_hE_0_95_3
  have e_hE_0_110_1 := funext hE_0_110_1; subst e_hE_0_110_1
  have e_hE_0_110_2 := funext hE_0_110_2; subst e_hE_0_110_2
  have e_hE_0_110_3 := funext hE_0_110_3; subst e_hE_0_110_3
  have e_hE_0_111_1 := funext hE_0_111_1; subst e_hE_0_111_1
  have e_hE_0_111_2 := funext hE_0_111_2; subst e_hE_0_111_2
  have e_hE_0_111_3 := funext hE_0_111_3; subst e_hE_0_111_3
  have e_hE_0_112_1 := funext hE_0_112_1; subst e_hE_0_112_1
  have e_hE_0_112_2 := funext hE_0_112_2; subst e_hE_0_112_2
  have e_hE_0_112_3 := funext hE_0_112_3; subst e_hE_0_112_3
  try simp only [Int.add_zero] at *
  first
    | omega
    | (have h := ‹SGR _ _›.1; omega)
    | (have h := ‹LSA _ _ _ _ _ _ _ _ _ _›.2.1; have h2 := ‹LSA _ _ _ _ _ _ _ _ _ _›.2.2.1 0 (by omega) (by omega); omega)
set_option maxHeartbeats 4000000 in
theorem vc_Mo_layers_0_3 (x3 : Int) (x5 : Int) (all_0 : Int → Int) (r_0 : Int) (permBegin_0 : Int → Int) (permMany_0 : Int → Int) (perm_0 : Int → Int) (turned_0 : Int → Int) (all_1 : Int → Int) (r_1 : Int) (permBegin_1 : Int → Int) (permMany_1 : Int → Int) (perm_1 : Int → Int) (turned_1 : Int → Int) (all_2 : Int → Int) (r_2 : Int) (permBegin_2 : Int → Int) (permMany_2 : Int → Int) (perm_2 : Int → Int) (turned_2 : Int → Int) (all_3 : Int → Int) (r_3 : Int) (permBegin_3 : Int → Int) (permMany_3 : Int → Int) (perm_3 : Int → Int) (turned_3 : Int → Int) (pointMany_0 : Int) (pointMany_1 : Int) (costMany_0 : Int) (costMany_1 : Int) (pointMany_2 : Int) (apartMany_1 : Int) (apartMany_2 : Int) (costA_0 : Int → Int) (costA_1 : Int → Int) (costA_2 : Int → Int) (costA_3 : Int → Int) (costB_0 : Int → Int) (costB_1 : Int → Int) (costB_2 : Int → Int) (costB_3 : Int → Int) (costW_0 : Int → Int) (costW_1 : Int → Int) (costW_2 : Int → Int) (costW_3 : Int → Int) (costPlain_0 : Int → Int) (costPlain_1 : Int → Int) (costPlain_2 : Int → Int) (costPlain_3 : Int → Int) (apartA_0 : Int → Int) (apartA_1 : Int → Int) (apartA_2 : Int → Int) (apartA_3 : Int → Int) (apartB_0 : Int → Int) (apartB_1 : Int → Int) (apartB_2 : Int → Int) (apartB_3 : Int → Int) (apart_0 : Int → Int) (apart_1 : Int → Int) (apart_2 : Int → Int) (apart_3 : Int → Int) (k3 : 0 ≤ x3 ∧ x3 ≤ 0) (k5 : 0 ≤ x5 ∧ x5 ≤ 0) (fe_0_5_1 : r_0 = r_1) (fe_0_79_1 : pointMany_0 = pointMany_1) (fe_0_80_1 : costMany_0 = costMany_1) (fe_0_5_2 : r_1 = r_2) (fe_0_79_2 : pointMany_1 = pointMany_2) (fe_0_80_2 : costMany_1 = x3) (fe_0_81_2 : apartMany_1 = apartMany_2) (fe_0_5_3 : r_2 = r_3) (hE_0_2_1 : ∀ j : Int, all_0 j = all_1 j) (hE_0_2_2 : ∀ j : Int, all_1 j = all_2 j) (hE_0_2_3 : ∀ j : Int, all_2 j = all_3 j) (hE_0_83_1 : ∀ j : Int, costA_0 j = costA_1 j) (hE_0_83_2 : ∀ j : Int, costA_1 j = costA_2 j) (hE_0_83_3 : ∀ j : Int, costA_2 j = costA_3 j) (hE_0_84_1 : ∀ j : Int, costB_0 j = costB_1 j) (hE_0_84_2 : ∀ j : Int, costB_1 j = costB_2 j) (hE_0_84_3 : ∀ j : Int, costB_2 j = costB_3 j) (hE_0_85_1 : ∀ j : Int, costW_0 j = costW_1 j) (hE_0_85_2 : ∀ j : Int, costW_1 j = costW_2 j) (hE_0_85_3 : ∀ j : Int, costW_2 j = costW_3 j) (hE_0_86_1 : ∀ j : Int, costPlain_0 j = costPlain_1 j) (hE_0_86_2 : ∀ j : Int, costPlain_1 j = costPlain_2 j) (hE_0_86_3 : ∀ j : Int, costPlain_2 j = costPlain_3 j) (hE_0_87_1 : ∀ j : Int, apartA_0 j = apartA_1 j) (hE_0_87_2 : ∀ j : Int, apartA_1 j = apartA_2 j) (hE_0_87_3 : ∀ j : Int, apartA_2 j = apartA_3 j) (hE_0_88_1 : ∀ j : Int, apartB_0 j = apartB_1 j) (hE_0_88_2 : ∀ j : Int, apartB_1 j = apartB_2 j) (hE_0_88_3 : ∀ j : Int, apartB_2 j = apartB_3 j) (hE_0_89_1 : ∀ j : Int, apart_0 j = apart_1 j) (hE_0_89_2 : ∀ j : Int, apart_1 j = apart_2 j) (hE_0_89_3 : ∀ j : Int, apart_2 j = apart_3 j) (hE_0_95_1 : ∀ j : Int, turned_0 j = turned_1 j) (hE_0_95_2 : ∀ j : Int, turned_1 j = turned_2 j) (hE_0_95_3 : ∀ j : Int, turned_2 j = turned_3 j) (hE_0_110_1 : ∀ j : Int, permBegin_0 j = permBegin_1 j) (hE_0_110_2 : ∀ j : Int, permBegin_1 j = permBegin_2 j) (hE_0_110_3 : ∀ j : Int, permBegin_2 j = permBegin_3 j) (hE_0_111_1 : ∀ j : Int, permMany_0 j = permMany_1 j) (hE_0_111_2 : ∀ j : Int, permMany_1 j = permMany_2 j) (hE_0_111_3 : ∀ j : Int, permMany_2 j = permMany_3 j) (hE_0_112_1 : ∀ j : Int, perm_0 j = perm_1 j) (hE_0_112_2 : ∀ j : Int, perm_1 j = perm_2 j) (hE_0_112_3 : ∀ j : Int, perm_2 j = perm_3 j) (kz_0_79 : 0 ≤ pointMany_0 ∧ pointMany_0 ≤ 76) (kz_0_80 : 0 ≤ costMany_0 ∧ costMany_0 ≤ 200) : costMany_0 = x5 := by
  subst fe_0_5_1
  subst fe_0_79_1
  subst fe_0_80_1
  subst fe_0_5_2
  subst fe_0_79_2
  subst fe_0_81_2
  subst fe_0_5_3
  have e_hE_0_2_1 := funext hE_0_2_1; subst e_hE_0_2_1
  have e_hE_0_2_2 := funext hE_0_2_2; subst e_hE_0_2_2
  have e_hE_0_2_3 := funext hE_0_2_3; subst e_hE_0_2_3
  have e_hE_0_83_1 := funext hE_0_83_1; subst e_hE_0_83_1
  have e_hE_0_83_2 := funext hE_0_83_2; subst e_hE_0_83_2
  have e_hE_0_83_3 := funext hE_0_83_3; subst e_hE_0_83_3
  have e_hE_0_84_1 := funext hE_0_84_1; subst e_hE_0_84_1
  have e_hE_0_84_2 := funext hE_0_84_2; subst e_hE_0_84_2
  have e_hE_0_84_3 := funext hE_0_84_3; subst e_hE_0_84_3
  have e_hE_0_85_1 := funext hE_0_85_1; subst e_hE_0_85_1
  have e_hE_0_85_2 := funext hE_0_85_2; subst e_hE_0_85_2
  have e_hE_0_85_3 := funext hE_0_85_3; subst e_hE_0_85_3
  have e_hE_0_86_1 := funext hE_0_86_1; subst e_hE_0_86_1
  have e_hE_0_86_2 := funext hE_0_86_2; subst e_hE_0_86_2
  have e_hE_0_86_3 := funext hE_0_86_3; subst e_hE_0_86_3
  have e_hE_0_87_1 := funext hE_0_87_1; subst e_hE_0_87_1
  have e_hE_0_87_2 := funext hE_0_87_2; subst e_hE_0_87_2
  have e_hE_0_87_3 := funext hE_0_87_3; subst e_hE_0_87_3
  have e_hE_0_88_1 := funext hE_0_88_1; subst e_hE_0_88_1
  have e_hE_0_88_2 := funext hE_0_88_2; subst e_hE_0_88_2
  have e_hE_0_88_3 := funext hE_0_88_3; subst e_hE_0_88_3
  have e_hE_0_89_1 := funext hE_0_89_1; subst e_hE_0_89_1
  have e_hE_0_89_2 := funext hE_0_89_2; subst e_hE_0_89_2
  have e_hE_0_89_3 := funext hE_0_89_3; subst e_hE_0_89_3
  have e_hE_0_95_1 := funext hE_0_95_1; subst e_hE_0_95_1
  have e_hE_0_95_2 := funext hE_0_95_2; subst e_hE_0_95_2
  have e_hE_0_95_3 := funext hE_0_95_3; subst e_hE_0_95_3
  have e_hE_0_110_1 := funext hE_0_110_1; subst e_hE_0_110_1
  have e_hE_0_110_2 := funext hE_0_110_2; subst e_hE_0_110_2
  have e_hE_0_110_3 := funext hE_0_110_3; subst e_hE_0_110_3
  have e_hE_0_111_1 := funext hE_0_111_1; subst e_hE_0_111_1
  have e_hE_0_111_2 := funext hE_0_111_2; subst e_hE_0_111_2
  have e_hE_0_111_3 := funext hE_0_111_3; subst e_hE_0_111_3
  have e_hE_0_112_1 := funext hE_0_112_1; subst e_hE_0_112_1
  have e_hE_0_112_2 := funext hE_0_112_2; subst e_hE_0_112_2
  have e_hE_0_112_3 := funext hE_0_112_3; subst e_hE_0_112_3
  try simp only [Int.add_zero] at *
  first
    | omega
    | (have h := ‹SGR _ _›.1; omega)
    | (have h := ‹LSA _ _ _ _ _ _ _ _ _ _›.2.1; have h2 := ‹LSA _ _ _ _ _ _ _ _ _ _›.2.2.1 0 (by omega) (by omega); omega)
set_option maxHeartbeats 4000000 in
theorem vc_Mo_layers_0_4 (x4 : Int) (x5 : Int) (all_0 : Int → Int) (r_0 : Int) (permBegin_0 : Int → Int) (permMany_0 : Int → Int) (perm_0 : Int → Int) (turned_0 : Int → Int) (all_1 : Int → Int) (r_1 : Int) (permBegin_1 : Int → Int) (permMany_1 : Int → Int) (perm_1 : Int → Int) (turned_1 : Int → Int) (all_2 : Int → Int) (r_2 : Int) (permBegin_2 : Int → Int) (permMany_2 : Int → Int) (perm_2 : Int → Int) (turned_2 : Int → Int) (all_3 : Int → Int) (r_3 : Int) (permBegin_3 : Int → Int) (permMany_3 : Int → Int) (perm_3 : Int → Int) (turned_3 : Int → Int) (pointMany_0 : Int) (pointMany_1 : Int) (costMany_0 : Int) (costMany_1 : Int) (apartMany_0 : Int) (pointMany_2 : Int) (apartMany_1 : Int) (apartMany_2 : Int) (costA_0 : Int → Int) (costA_1 : Int → Int) (costA_2 : Int → Int) (costA_3 : Int → Int) (costB_0 : Int → Int) (costB_1 : Int → Int) (costB_2 : Int → Int) (costB_3 : Int → Int) (costW_0 : Int → Int) (costW_1 : Int → Int) (costW_2 : Int → Int) (costW_3 : Int → Int) (costPlain_0 : Int → Int) (costPlain_1 : Int → Int) (costPlain_2 : Int → Int) (costPlain_3 : Int → Int) (apartA_0 : Int → Int) (apartA_1 : Int → Int) (apartA_2 : Int → Int) (apartA_3 : Int → Int) (apartB_0 : Int → Int) (apartB_1 : Int → Int) (apartB_2 : Int → Int) (apartB_3 : Int → Int) (apart_0 : Int → Int) (apart_1 : Int → Int) (apart_2 : Int → Int) (apart_3 : Int → Int) (k4 : 0 ≤ x4 ∧ x4 ≤ 0) (k5 : 0 ≤ x5 ∧ x5 ≤ 0) (fe_0_5_1 : r_0 = r_1) (fe_0_79_1 : pointMany_0 = pointMany_1) (fe_0_80_1 : costMany_0 = costMany_1) (fe_0_81_1 : apartMany_0 = x4) (fe_0_5_2 : r_1 = r_2) (fe_0_79_2 : pointMany_1 = pointMany_2) (fe_0_81_2 : apartMany_1 = apartMany_2) (fe_0_5_3 : r_2 = r_3) (hE_0_2_1 : ∀ j : Int, all_0 j = all_1 j) (hE_0_2_2 : ∀ j : Int, all_1 j = all_2 j) (hE_0_2_3 : ∀ j : Int, all_2 j = all_3 j) (hE_0_83_1 : ∀ j : Int, costA_0 j = costA_1 j) (hE_0_83_2 : ∀ j : Int, costA_1 j = costA_2 j) (hE_0_83_3 : ∀ j : Int, costA_2 j = costA_3 j) (hE_0_84_1 : ∀ j : Int, costB_0 j = costB_1 j) (hE_0_84_2 : ∀ j : Int, costB_1 j = costB_2 j) (hE_0_84_3 : ∀ j : Int, costB_2 j = costB_3 j) (hE_0_85_1 : ∀ j : Int, costW_0 j = costW_1 j) (hE_0_85_2 : ∀ j : Int, costW_1 j = costW_2 j) (hE_0_85_3 : ∀ j : Int, costW_2 j = costW_3 j) (hE_0_86_1 : ∀ j : Int, costPlain_0 j = costPlain_1 j) (hE_0_86_2 : ∀ j : Int, costPlain_1 j = costPlain_2 j) (hE_0_86_3 : ∀ j : Int, costPlain_2 j = costPlain_3 j) (hE_0_87_1 : ∀ j : Int, apartA_0 j = apartA_1 j) (hE_0_87_2 : ∀ j : Int, apartA_1 j = apartA_2 j) (hE_0_87_3 : ∀ j : Int, apartA_2 j = apartA_3 j) (hE_0_88_1 : ∀ j : Int, apartB_0 j = apartB_1 j) (hE_0_88_2 : ∀ j : Int, apartB_1 j = apartB_2 j) (hE_0_88_3 : ∀ j : Int, apartB_2 j = apartB_3 j) (hE_0_89_1 : ∀ j : Int, apart_0 j = apart_1 j) (hE_0_89_2 : ∀ j : Int, apart_1 j = apart_2 j) (hE_0_89_3 : ∀ j : Int, apart_2 j = apart_3 j) (hE_0_95_1 : ∀ j : Int, turned_0 j = turned_1 j) (hE_0_95_2 : ∀ j : Int, turned_1 j = turned_2 j) (hE_0_95_3 : ∀ j : Int, turned_2 j = turned_3 j) (hE_0_110_1 : ∀ j : Int, permBegin_0 j = permBegin_1 j) (hE_0_110_2 : ∀ j : Int, permBegin_1 j = permBegin_2 j) (hE_0_110_3 : ∀ j : Int, permBegin_2 j = permBegin_3 j) (hE_0_111_1 : ∀ j : Int, permMany_0 j = permMany_1 j) (hE_0_111_2 : ∀ j : Int, permMany_1 j = permMany_2 j) (hE_0_111_3 : ∀ j : Int, permMany_2 j = permMany_3 j) (hE_0_112_1 : ∀ j : Int, perm_0 j = perm_1 j) (hE_0_112_2 : ∀ j : Int, perm_1 j = perm_2 j) (hE_0_112_3 : ∀ j : Int, perm_2 j = perm_3 j) (kz_0_79 : 0 ≤ pointMany_0 ∧ pointMany_0 ≤ 76) (kz_0_80 : 0 ≤ costMany_0 ∧ costMany_0 ≤ 200) (kz_0_81 : 0 ≤ apartMany_0 ∧ apartMany_0 ≤ 200) : apartMany_0 = x5 := by
  subst fe_0_5_1
  subst fe_0_79_1
  subst fe_0_80_1
  subst fe_0_5_2
  subst fe_0_79_2
  subst fe_0_81_2
  subst fe_0_5_3
  have e_hE_0_2_1 := funext hE_0_2_1; subst e_hE_0_2_1
  have e_hE_0_2_2 := funext hE_0_2_2; subst e_hE_0_2_2
  have e_hE_0_2_3 := funext hE_0_2_3; subst e_hE_0_2_3
  have e_hE_0_83_1 := funext hE_0_83_1; subst e_hE_0_83_1
  have e_hE_0_83_2 := funext hE_0_83_2; subst e_hE_0_83_2
  have e_hE_0_83_3 := funext hE_0_83_3; subst e_hE_0_83_3
  have e_hE_0_84_1 := funext hE_0_84_1; subst e_hE_0_84_1
  have e_hE_0_84_2 := funext hE_0_84_2; subst e_hE_0_84_2
  have e_hE_0_84_3 := funext hE_0_84_3; subst e_hE_0_84_3
  have e_hE_0_85_1 := funext hE_0_85_1; subst e_hE_0_85_1
  have e_hE_0_85_2 := funext hE_0_85_2; subst e_hE_0_85_2
  have e_hE_0_85_3 := funext hE_0_85_3; subst e_hE_0_85_3
  have e_hE_0_86_1 := funext hE_0_86_1; subst e_hE_0_86_1
  have e_hE_0_86_2 := funext hE_0_86_2; subst e_hE_0_86_2
  have e_hE_0_86_3 := funext hE_0_86_3; subst e_hE_0_86_3
  have e_hE_0_87_1 := funext hE_0_87_1; subst e_hE_0_87_1
  have e_hE_0_87_2 := funext hE_0_87_2; subst e_hE_0_87_2
  have e_hE_0_87_3 := funext hE_0_87_3; subst e_hE_0_87_3
  have e_hE_0_88_1 := funext hE_0_88_1; subst e_hE_0_88_1
  have e_hE_0_88_2 := funext hE_0_88_2; subst e_hE_0_88_2
  have e_hE_0_88_3 := funext hE_0_88_3; subst e_hE_0_88_3
  have e_hE_0_89_1 := funext hE_0_89_1; subst e_hE_0_89_1
  have e_hE_0_89_2 := funext hE_0_89_2; subst e_hE_0_89_2
  have e_hE_0_89_3 := funext hE_0_89_3; subst e_hE_0_89_3
  have e_hE_0_95_1 := funext hE_0_95_1; subst e_hE_0_95_1
  have e_hE_0_95_2 := funext hE_0_95_2; subst e_hE_0_95_2
  have e_hE_0_95_3 := funext hE_0_95_3; subst e_hE_0_95_3
  have e_hE_0_110_1 := funext hE_0_110_1; subst e_hE_0_110_1
  have e_hE_0_110_2 := funext hE_0_110_2; subst e_hE_0_110_2
  have e_hE_0_110_3 := funext hE_0_110_3; subst e_hE_0_110_3
  have e_hE_0_111_1 := funext hE_0_111_1; subst e_hE_0_111_1
  have e_hE_0_111_2 := funext hE_0_111_2; subst e_hE_0_111_2
  have e_hE_0_111_3 := funext hE_0_111_3; subst e_hE_0_111_3
  have e_hE_0_112_1 := funext hE_0_112_1; subst e_hE_0_112_1
  have e_hE_0_112_2 := funext hE_0_112_2; subst e_hE_0_112_2
  have e_hE_0_112_3 := funext hE_0_112_3; subst e_hE_0_112_3
  try simp only [Int.add_zero] at *
  first
    | omega
    | (have h := ‹SGR _ _›.1; omega)
    | (have h := ‹LSA _ _ _ _ _ _ _ _ _ _›.2.1; have h2 := ‹LSA _ _ _ _ _ _ _ _ _ _›.2.2.1 0 (by omega) (by omega); omega)
def o_Mo_layers_0 : or_T := (24, 6, [(0, (2, 0, 0, [165])), (2, (0, 0, 24, [])), (3, (0, 0, 0, [])), (4, (0, 0, 0, [])), (5, (0, 0, 0, []))], [(20, [2, 0], [30, 0, 1, 0, 0, -1, 3, 2005000]), (20, [2, 0], [30, 0, -1, 0, 0, 1, 3, 2005000]), (101, [0, 4], [81]), (101, [0, 3], [80]), (101, [0, 2], [79]), (20, [0], [60, 1, 1, 197, 5, 2])], [], [], [(20, [5, 0], [50, 1, 1, 1005, 1002, 0, 2, 1, 0, 3, 1, 2, 4, 3, 2, 1, 5, 0, 1]), (20, [0], [60, 3, 9, 434, 5, 80, 81, 2, 95, 83, 84, 85, 86, 87, 88, 89]), (20, [0], [50, 2, 1, 79, 5, 2, 1, 3, 2, 0, 79, 3, 0, 2, 2, 0, 5]), (20, [0, 5], [50, 1, 0, 80, 1, 3, 2, 0, 80, 1, 1]), (20, [0, 5], [50, 1, 0, 81, 1, 3, 2, 0, 81, 1, 1])], [], [])
theorem oo_Mo_layers_0 {kA : Nat → ClassId} : or_ok PRD kA GG o_Mo_layers_0 := by
  refine or_mk fun A ta ws vs hD hth hl => ?_
  intro t0 r0 t2 k2 t3 k3 t4 k4 t5 k5 f0 f1 ta1 w1 le1 s1 ta2 w2 le2 s2 ta3 w3 le3 s3 f23
  have s1 : (∀ b j, w_el ws b j = w_el w1 b j) ∧ ∀ b j, w_fd ws b j = if b = v_ad (n_v vs 0) ∧ j = 81 then n_v vs 4 else w_fd w1 b j := s1.2
  have s2 : (∀ b j, w_el w1 b j = w_el w2 b j) ∧ ∀ b j, w_fd w1 b j = if b = v_ad (n_v vs 0) ∧ j = 80 then n_v vs 3 else w_fd w2 b j := s2.2
  have s3 : (∀ b j, w_el w2 b j = w_el w3 b j) ∧ ∀ b j, w_fd w2 b j = if b = v_ad (n_v vs 0) ∧ j = 79 then n_v vs 2 else w_fd w3 b j := s3.2
  replace f23 := shm_1403 f23
  have ar_0_2_1 : w_ar w1 (n_v vs 0) 2 = w_ar ws (n_v vs 0) 2 := by show v_ad (w_fd w1 _ _) = v_ad (w_fd ws _ _); rw [s1.2, if_neg (fun e => absurd e.2 (by decide))]
  have ar_0_2_2 : w_ar w2 (n_v vs 0) 2 = w_ar ws (n_v vs 0) 2 := by rw [← ar_0_2_1]; show v_ad (w_fd w2 _ _) = v_ad (w_fd w1 _ _); rw [s2.2, if_neg (fun e => absurd e.2 (by decide))]
  have ar_0_2_3 : w_ar w3 (n_v vs 0) 2 = w_ar ws (n_v vs 0) 2 := by rw [← ar_0_2_2]; show v_ad (w_fd w3 _ _) = v_ad (w_fd w2 _ _); rw [s3.2, if_neg (fun e => absurd e.2 (by decide))]
  have ar_0_95_1 : w_ar w1 (n_v vs 0) 95 = w_ar ws (n_v vs 0) 95 := by show v_ad (w_fd w1 _ _) = v_ad (w_fd ws _ _); rw [s1.2, if_neg (fun e => absurd e.2 (by decide))]
  have ar_0_95_2 : w_ar w2 (n_v vs 0) 95 = w_ar ws (n_v vs 0) 95 := by rw [← ar_0_95_1]; show v_ad (w_fd w2 _ _) = v_ad (w_fd w1 _ _); rw [s2.2, if_neg (fun e => absurd e.2 (by decide))]
  have ar_0_95_3 : w_ar w3 (n_v vs 0) 95 = w_ar ws (n_v vs 0) 95 := by rw [← ar_0_95_2]; show v_ad (w_fd w3 _ _) = v_ad (w_fd w2 _ _); rw [s3.2, if_neg (fun e => absurd e.2 (by decide))]
  have ar_0_110_1 : w_ar w1 (n_v vs 0) 110 = w_ar ws (n_v vs 0) 110 := by show v_ad (w_fd w1 _ _) = v_ad (w_fd ws _ _); rw [s1.2, if_neg (fun e => absurd e.2 (by decide))]
  have ar_0_110_2 : w_ar w2 (n_v vs 0) 110 = w_ar ws (n_v vs 0) 110 := by rw [← ar_0_110_1]; show v_ad (w_fd w2 _ _) = v_ad (w_fd w1 _ _); rw [s2.2, if_neg (fun e => absurd e.2 (by decide))]
  have ar_0_110_3 : w_ar w3 (n_v vs 0) 110 = w_ar ws (n_v vs 0) 110 := by rw [← ar_0_110_2]; show v_ad (w_fd w3 _ _) = v_ad (w_fd w2 _ _); rw [s3.2, if_neg (fun e => absurd e.2 (by decide))]
  have ar_0_111_1 : w_ar w1 (n_v vs 0) 111 = w_ar ws (n_v vs 0) 111 := by show v_ad (w_fd w1 _ _) = v_ad (w_fd ws _ _); rw [s1.2, if_neg (fun e => absurd e.2 (by decide))]
  have ar_0_111_2 : w_ar w2 (n_v vs 0) 111 = w_ar ws (n_v vs 0) 111 := by rw [← ar_0_111_1]; show v_ad (w_fd w2 _ _) = v_ad (w_fd w1 _ _); rw [s2.2, if_neg (fun e => absurd e.2 (by decide))]
  have ar_0_111_3 : w_ar w3 (n_v vs 0) 111 = w_ar ws (n_v vs 0) 111 := by rw [← ar_0_111_2]; show v_ad (w_fd w3 _ _) = v_ad (w_fd w2 _ _); rw [s3.2, if_neg (fun e => absurd e.2 (by decide))]
  have ar_0_112_1 : w_ar w1 (n_v vs 0) 112 = w_ar ws (n_v vs 0) 112 := by show v_ad (w_fd w1 _ _) = v_ad (w_fd ws _ _); rw [s1.2, if_neg (fun e => absurd e.2 (by decide))]
  have ar_0_112_2 : w_ar w2 (n_v vs 0) 112 = w_ar ws (n_v vs 0) 112 := by rw [← ar_0_112_1]; show v_ad (w_fd w2 _ _) = v_ad (w_fd w1 _ _); rw [s2.2, if_neg (fun e => absurd e.2 (by decide))]
  have ar_0_112_3 : w_ar w3 (n_v vs 0) 112 = w_ar ws (n_v vs 0) 112 := by rw [← ar_0_112_2]; show v_ad (w_fd w3 _ _) = v_ad (w_fd w2 _ _); rw [s3.2, if_neg (fun e => absurd e.2 (by decide))]
  simp only [ar_0_2_1, ar_0_110_1, ar_0_111_1, ar_0_112_1, ar_0_95_1, ar_0_2_2, ar_0_110_2, ar_0_111_2, ar_0_112_2, ar_0_95_2, ar_0_2_3, ar_0_110_3, ar_0_111_3, ar_0_112_3, ar_0_95_3] at f23
  have fe_0_5_1 : w_fi ws (n_v vs 0) 5 = w_fi w1 (n_v vs 0) 5 := by show v_iv (w_fd _ _ _) = v_iv (w_fd _ _ _); rw [s1.2, if_neg (fun e => absurd e.2 (by decide))]
  have fe_0_79_1 : w_fi ws (n_v vs 0) 79 = w_fi w1 (n_v vs 0) 79 := by show v_iv (w_fd _ _ _) = v_iv (w_fd _ _ _); rw [s1.2, if_neg (fun e => absurd e.2 (by decide))]
  have fe_0_80_1 : w_fi ws (n_v vs 0) 80 = w_fi w1 (n_v vs 0) 80 := by show v_iv (w_fd _ _ _) = v_iv (w_fd _ _ _); rw [s1.2, if_neg (fun e => absurd e.2 (by decide))]
  have fe_0_81_1 : w_fi ws (n_v vs 0) 81 = v_iv (n_v vs 4) := by show v_iv (w_fd _ _ _) = _; rw [s1.2, if_pos ⟨rfl, rfl⟩]
  have fe_0_5_2 : w_fi w1 (n_v vs 0) 5 = w_fi w2 (n_v vs 0) 5 := by show v_iv (w_fd _ _ _) = v_iv (w_fd _ _ _); rw [s2.2, if_neg (fun e => absurd e.2 (by decide))]
  have fe_0_79_2 : w_fi w1 (n_v vs 0) 79 = w_fi w2 (n_v vs 0) 79 := by show v_iv (w_fd _ _ _) = v_iv (w_fd _ _ _); rw [s2.2, if_neg (fun e => absurd e.2 (by decide))]
  have fe_0_80_2 : w_fi w1 (n_v vs 0) 80 = v_iv (n_v vs 3) := by show v_iv (w_fd _ _ _) = _; rw [s2.2, if_pos ⟨rfl, rfl⟩]
  have fe_0_81_2 : w_fi w1 (n_v vs 0) 81 = w_fi w2 (n_v vs 0) 81 := by show v_iv (w_fd _ _ _) = v_iv (w_fd _ _ _); rw [s2.2, if_neg (fun e => absurd e.2 (by decide))]
  have fe_0_5_3 : w_fi w2 (n_v vs 0) 5 = w_fi w3 (n_v vs 0) 5 := by show v_iv (w_fd _ _ _) = v_iv (w_fd _ _ _); rw [s3.2, if_neg (fun e => absurd e.2 (by decide))]
  have fe_0_79_3 : w_fi w2 (n_v vs 0) 79 = v_iv (n_v vs 2) := by show v_iv (w_fd _ _ _) = _; rw [s3.2, if_pos ⟨rfl, rfl⟩]
  have hE_0_2_1 : ∀ j : Int, w_ei ws (w_ar ws (n_v vs 0) 2) j = w_ei w1 (w_ar ws (n_v vs 0) 2) j := fun j => s1.1 _ _
  have hE_0_2_2 : ∀ j : Int, w_ei w1 (w_ar ws (n_v vs 0) 2) j = w_ei w2 (w_ar ws (n_v vs 0) 2) j := fun j => s2.1 _ _
  have hE_0_2_3 : ∀ j : Int, w_ei w2 (w_ar ws (n_v vs 0) 2) j = w_ei w3 (w_ar ws (n_v vs 0) 2) j := fun j => s3.1 _ _
  have hE_0_83_1 : ∀ j : Int, w_ei ws (w_ar ws (n_v vs 0) 83) j = w_ei w1 (w_ar ws (n_v vs 0) 83) j := fun j => s1.1 _ _
  have hE_0_83_2 : ∀ j : Int, w_ei w1 (w_ar ws (n_v vs 0) 83) j = w_ei w2 (w_ar ws (n_v vs 0) 83) j := fun j => s2.1 _ _
  have hE_0_83_3 : ∀ j : Int, w_ei w2 (w_ar ws (n_v vs 0) 83) j = w_ei w3 (w_ar ws (n_v vs 0) 83) j := fun j => s3.1 _ _
  have hE_0_84_1 : ∀ j : Int, w_ei ws (w_ar ws (n_v vs 0) 84) j = w_ei w1 (w_ar ws (n_v vs 0) 84) j := fun j => s1.1 _ _
  have hE_0_84_2 : ∀ j : Int, w_ei w1 (w_ar ws (n_v vs 0) 84) j = w_ei w2 (w_ar ws (n_v vs 0) 84) j := fun j => s2.1 _ _
  have hE_0_84_3 : ∀ j : Int, w_ei w2 (w_ar ws (n_v vs 0) 84) j = w_ei w3 (w_ar ws (n_v vs 0) 84) j := fun j => s3.1 _ _
  have hE_0_85_1 : ∀ j : Int, w_ei ws (w_ar ws (n_v vs 0) 85) j = w_ei w1 (w_ar ws (n_v vs 0) 85) j := fun j => s1.1 _ _
  have hE_0_85_2 : ∀ j : Int, w_ei w1 (w_ar ws (n_v vs 0) 85) j = w_ei w2 (w_ar ws (n_v vs 0) 85) j := fun j => s2.1 _ _
  have hE_0_85_3 : ∀ j : Int, w_ei w2 (w_ar ws (n_v vs 0) 85) j = w_ei w3 (w_ar ws (n_v vs 0) 85) j := fun j => s3.1 _ _
  have hE_0_86_1 : ∀ j : Int, w_ei ws (w_ar ws (n_v vs 0) 86) j = w_ei w1 (w_ar ws (n_v vs 0) 86) j := fun j => s1.1 _ _
  have hE_0_86_2 : ∀ j : Int, w_ei w1 (w_ar ws (n_v vs 0) 86) j = w_ei w2 (w_ar ws (n_v vs 0) 86) j := fun j => s2.1 _ _
  have hE_0_86_3 : ∀ j : Int, w_ei w2 (w_ar ws (n_v vs 0) 86) j = w_ei w3 (w_ar ws (n_v vs 0) 86) j := fun j => s3.1 _ _
  have hE_0_87_1 : ∀ j : Int, w_ei ws (w_ar ws (n_v vs 0) 87) j = w_ei w1 (w_ar ws (n_v vs 0) 87) j := fun j => s1.1 _ _
  have hE_0_87_2 : ∀ j : Int, w_ei w1 (w_ar ws (n_v vs 0) 87) j = w_ei w2 (w_ar ws (n_v vs 0) 87) j := fun j => s2.1 _ _
  have hE_0_87_3 : ∀ j : Int, w_ei w2 (w_ar ws (n_v vs 0) 87) j = w_ei w3 (w_ar ws (n_v vs 0) 87) j := fun j => s3.1 _ _
  have hE_0_88_1 : ∀ j : Int, w_ei ws (w_ar ws (n_v vs 0) 88) j = w_ei w1 (w_ar ws (n_v vs 0) 88) j := fun j => s1.1 _ _
  have hE_0_88_2 : ∀ j : Int, w_ei w1 (w_ar ws (n_v vs 0) 88) j = w_ei w2 (w_ar ws (n_v vs 0) 88) j := fun j => s2.1 _ _
  have hE_0_88_3 : ∀ j : Int, w_ei w2 (w_ar ws (n_v vs 0) 88) j = w_ei w3 (w_ar ws (n_v vs 0) 88) j := fun j => s3.1 _ _
  have hE_0_89_1 : ∀ j : Int, w_ei ws (w_ar ws (n_v vs 0) 89) j = w_ei w1 (w_ar ws (n_v vs 0) 89) j := fun j => s1.1 _ _
  have hE_0_89_2 : ∀ j : Int, w_ei w1 (w_ar ws (n_v vs 0) 89) j = w_ei w2 (w_ar ws (n_v vs 0) 89) j := fun j => s2.1 _ _
  have hE_0_89_3 : ∀ j : Int, w_ei w2 (w_ar ws (n_v vs 0) 89) j = w_ei w3 (w_ar ws (n_v vs 0) 89) j := fun j => s3.1 _ _
  have hE_0_95_1 : ∀ j : Int, w_ei ws (w_ar ws (n_v vs 0) 95) j = w_ei w1 (w_ar ws (n_v vs 0) 95) j := fun j => s1.1 _ _
  have hE_0_95_2 : ∀ j : Int, w_ei w1 (w_ar ws (n_v vs 0) 95) j = w_ei w2 (w_ar ws (n_v vs 0) 95) j := fun j => s2.1 _ _
  have hE_0_95_3 : ∀ j : Int, w_ei w2 (w_ar ws (n_v vs 0) 95) j = w_ei w3 (w_ar ws (n_v vs 0) 95) j := fun j => s3.1 _ _
  have hE_0_110_1 : ∀ j : Int, w_ei ws (w_ar ws (n_v vs 0) 110) j = w_ei w1 (w_ar ws (n_v vs 0) 110) j := fun j => s1.1 _ _
  have hE_0_110_2 : ∀ j : Int, w_ei w1 (w_ar ws (n_v vs 0) 110) j = w_ei w2 (w_ar ws (n_v vs 0) 110) j := fun j => s2.1 _ _
  have hE_0_110_3 : ∀ j : Int, w_ei w2 (w_ar ws (n_v vs 0) 110) j = w_ei w3 (w_ar ws (n_v vs 0) 110) j := fun j => s3.1 _ _
  have hE_0_111_1 : ∀ j : Int, w_ei ws (w_ar ws (n_v vs 0) 111) j = w_ei w1 (w_ar ws (n_v vs 0) 111) j := fun j => s1.1 _ _
  have hE_0_111_2 : ∀ j : Int, w_ei w1 (w_ar ws (n_v vs 0) 111) j = w_ei w2 (w_ar ws (n_v vs 0) 111) j := fun j => s2.1 _ _
  have hE_0_111_3 : ∀ j : Int, w_ei w2 (w_ar ws (n_v vs 0) 111) j = w_ei w3 (w_ar ws (n_v vs 0) 111) j := fun j => s3.1 _ _
  have hE_0_112_1 : ∀ j : Int, w_ei ws (w_ar ws (n_v vs 0) 112) j = w_ei w1 (w_ar ws (n_v vs 0) 112) j := fun j => s1.1 _ _
  have hE_0_112_2 : ∀ j : Int, w_ei w1 (w_ar ws (n_v vs 0) 112) j = w_ei w2 (w_ar ws (n_v vs 0) 112) j := fun j => s2.1 _ _
  have hE_0_112_3 : ∀ j : Int, w_ei w2 (w_ar ws (n_v vs 0) 112) j = w_ei w3 (w_ar ws (n_v vs 0) 112) j := fun j => s3.1 _ _
  have kz_0_79 := fdq_146 hD hth r0
  have kz_0_80 := fdq_130 hD hth r0
  have kz_0_81 := fdq_123 hD hth r0
  have nf0 : fc_1 PRD (20, [5, 0], [50, 1, 1, 1005, 1002, 0, 2, 1, 0, 3, 1, 2, 4, 3, 2, 1, 5, 0, 1]) ws (vs) := ⟨nf_in hl rfl, sgq_1644 (vc_Mo_layers_0_0 (v_iv (n_v vs 5)) (w_ei ws (w_ar ws (n_v vs 0) 2)) (w_fi ws (n_v vs 0) 5) (w_ei ws (w_ar ws (n_v vs 0) 110)) (w_ei ws (w_ar ws (n_v vs 0) 111)) (w_ei ws (w_ar ws (n_v vs 0) 112)) (w_ei ws (w_ar ws (n_v vs 0) 95)) (w_ei w1 (w_ar ws (n_v vs 0) 2)) (w_fi w1 (n_v vs 0) 5) (w_ei w1 (w_ar ws (n_v vs 0) 110)) (w_ei w1 (w_ar ws (n_v vs 0) 111)) (w_ei w1 (w_ar ws (n_v vs 0) 112)) (w_ei w1 (w_ar ws (n_v vs 0) 95)) (w_ei w2 (w_ar ws (n_v vs 0) 2)) (w_fi w2 (n_v vs 0) 5) (w_ei w2 (w_ar ws (n_v vs 0) 110)) (w_ei w2 (w_ar ws (n_v vs 0) 111)) (w_ei w2 (w_ar ws (n_v vs 0) 112)) (w_ei w2 (w_ar ws (n_v vs 0) 95)) (w_ei w3 (w_ar ws (n_v vs 0) 2)) (w_fi w3 (n_v vs 0) 5) (w_ei w3 (w_ar ws (n_v vs 0) 110)) (w_ei w3 (w_ar ws (n_v vs 0) 111)) (w_ei w3 (w_ar ws (n_v vs 0) 112)) (w_ei w3 (w_ar ws (n_v vs 0) 95)) (w_fi ws (n_v vs 0) 79) (w_fi w1 (n_v vs 0) 79) (w_fi ws (n_v vs 0) 80) (w_fi w1 (n_v vs 0) 80) (w_fi w2 (n_v vs 0) 79) (w_fi w1 (n_v vs 0) 81) (w_fi w2 (n_v vs 0) 81) (w_ei ws (w_ar ws (n_v vs 0) 83)) (w_ei w1 (w_ar ws (n_v vs 0) 83)) (w_ei w2 (w_ar ws (n_v vs 0) 83)) (w_ei w3 (w_ar ws (n_v vs 0) 83)) (w_ei ws (w_ar ws (n_v vs 0) 84)) (w_ei w1 (w_ar ws (n_v vs 0) 84)) (w_ei w2 (w_ar ws (n_v vs 0) 84)) (w_ei w3 (w_ar ws (n_v vs 0) 84)) (w_ei ws (w_ar ws (n_v vs 0) 85)) (w_ei w1 (w_ar ws (n_v vs 0) 85)) (w_ei w2 (w_ar ws (n_v vs 0) 85)) (w_ei w3 (w_ar ws (n_v vs 0) 85)) (w_ei ws (w_ar ws (n_v vs 0) 86)) (w_ei w1 (w_ar ws (n_v vs 0) 86)) (w_ei w2 (w_ar ws (n_v vs 0) 86)) (w_ei w3 (w_ar ws (n_v vs 0) 86)) (w_ei ws (w_ar ws (n_v vs 0) 87)) (w_ei w1 (w_ar ws (n_v vs 0) 87)) (w_ei w2 (w_ar ws (n_v vs 0) 87)) (w_ei w3 (w_ar ws (n_v vs 0) 87)) (w_ei ws (w_ar ws (n_v vs 0) 88)) (w_ei w1 (w_ar ws (n_v vs 0) 88)) (w_ei w2 (w_ar ws (n_v vs 0) 88)) (w_ei w3 (w_ar ws (n_v vs 0) 88)) (w_ei ws (w_ar ws (n_v vs 0) 89)) (w_ei w1 (w_ar ws (n_v vs 0) 89)) (w_ei w2 (w_ar ws (n_v vs 0) 89)) (w_ei w3 (w_ar ws (n_v vs 0) 89)) k5 f23 fe_0_5_1 fe_0_79_1 fe_0_80_1 fe_0_5_2 fe_0_79_2 fe_0_81_2 fe_0_5_3 hE_0_2_1 hE_0_2_2 hE_0_2_3 hE_0_83_1 hE_0_83_2 hE_0_83_3 hE_0_84_1 hE_0_84_2 hE_0_84_3 hE_0_85_1 hE_0_85_2 hE_0_85_3 hE_0_86_1 hE_0_86_2 hE_0_86_3 hE_0_87_1 hE_0_87_2 hE_0_87_3 hE_0_88_1 hE_0_88_2 hE_0_88_3 hE_0_89_1 hE_0_89_2 hE_0_89_3 hE_0_95_1 hE_0_95_2 hE_0_95_3 hE_0_110_1 hE_0_110_2 hE_0_110_3 hE_0_111_1 hE_0_111_2 hE_0_111_3 hE_0_112_1 hE_0_112_2 hE_0_112_3 kz_0_79 kz_0_80)⟩
  have nf1 : fc_1 PRD (20, [0], [60, 3, 9, 434, 5, 80, 81, 2, 95, 83, 84, 85, 86, 87, 88, 89]) ws (vs) := ⟨nf_in hl rfl, sgq_501 (vc_Mo_layers_0_1 (v_iv (n_v vs 3)) (v_iv (n_v vs 4)) (w_ei ws (w_ar ws (n_v vs 0) 2)) (w_fi ws (n_v vs 0) 5) (w_ei ws (w_ar ws (n_v vs 0) 110)) (w_ei ws (w_ar ws (n_v vs 0) 111)) (w_ei ws (w_ar ws (n_v vs 0) 112)) (w_ei ws (w_ar ws (n_v vs 0) 95)) (w_ei w1 (w_ar ws (n_v vs 0) 2)) (w_fi w1 (n_v vs 0) 5) (w_ei w1 (w_ar ws (n_v vs 0) 110)) (w_ei w1 (w_ar ws (n_v vs 0) 111)) (w_ei w1 (w_ar ws (n_v vs 0) 112)) (w_ei w1 (w_ar ws (n_v vs 0) 95)) (w_ei w2 (w_ar ws (n_v vs 0) 2)) (w_fi w2 (n_v vs 0) 5) (w_ei w2 (w_ar ws (n_v vs 0) 110)) (w_ei w2 (w_ar ws (n_v vs 0) 111)) (w_ei w2 (w_ar ws (n_v vs 0) 112)) (w_ei w2 (w_ar ws (n_v vs 0) 95)) (w_ei w3 (w_ar ws (n_v vs 0) 2)) (w_fi w3 (n_v vs 0) 5) (w_ei w3 (w_ar ws (n_v vs 0) 110)) (w_ei w3 (w_ar ws (n_v vs 0) 111)) (w_ei w3 (w_ar ws (n_v vs 0) 112)) (w_ei w3 (w_ar ws (n_v vs 0) 95)) (w_fi ws (n_v vs 0) 79) (w_fi w1 (n_v vs 0) 79) (w_fi ws (n_v vs 0) 80) (w_fi w1 (n_v vs 0) 80) (w_fi ws (n_v vs 0) 81) (w_fi w2 (n_v vs 0) 79) (w_fi w1 (n_v vs 0) 81) (w_fi w2 (n_v vs 0) 81) (w_ei ws (w_ar ws (n_v vs 0) 83)) (w_ei w1 (w_ar ws (n_v vs 0) 83)) (w_ei w2 (w_ar ws (n_v vs 0) 83)) (w_ei w3 (w_ar ws (n_v vs 0) 83)) (w_ei ws (w_ar ws (n_v vs 0) 84)) (w_ei w1 (w_ar ws (n_v vs 0) 84)) (w_ei w2 (w_ar ws (n_v vs 0) 84)) (w_ei w3 (w_ar ws (n_v vs 0) 84)) (w_ei ws (w_ar ws (n_v vs 0) 85)) (w_ei w1 (w_ar ws (n_v vs 0) 85)) (w_ei w2 (w_ar ws (n_v vs 0) 85)) (w_ei w3 (w_ar ws (n_v vs 0) 85)) (w_ei ws (w_ar ws (n_v vs 0) 86)) (w_ei w1 (w_ar ws (n_v vs 0) 86)) (w_ei w2 (w_ar ws (n_v vs 0) 86)) (w_ei w3 (w_ar ws (n_v vs 0) 86)) (w_ei ws (w_ar ws (n_v vs 0) 87)) (w_ei w1 (w_ar ws (n_v vs 0) 87)) (w_ei w2 (w_ar ws (n_v vs 0) 87)) (w_ei w3 (w_ar ws (n_v vs 0) 87)) (w_ei ws (w_ar ws (n_v vs 0) 88)) (w_ei w1 (w_ar ws (n_v vs 0) 88)) (w_ei w2 (w_ar ws (n_v vs 0) 88)) (w_ei w3 (w_ar ws (n_v vs 0) 88)) (w_ei ws (w_ar ws (n_v vs 0) 89)) (w_ei w1 (w_ar ws (n_v vs 0) 89)) (w_ei w2 (w_ar ws (n_v vs 0) 89)) (w_ei w3 (w_ar ws (n_v vs 0) 89)) k3 k4 fe_0_5_1 fe_0_79_1 fe_0_80_1 fe_0_81_1 fe_0_5_2 fe_0_79_2 fe_0_80_2 fe_0_81_2 fe_0_5_3 hE_0_2_1 hE_0_2_2 hE_0_2_3 hE_0_83_1 hE_0_83_2 hE_0_83_3 hE_0_84_1 hE_0_84_2 hE_0_84_3 hE_0_85_1 hE_0_85_2 hE_0_85_3 hE_0_86_1 hE_0_86_2 hE_0_86_3 hE_0_87_1 hE_0_87_2 hE_0_87_3 hE_0_88_1 hE_0_88_2 hE_0_88_3 hE_0_89_1 hE_0_89_2 hE_0_89_3 hE_0_95_1 hE_0_95_2 hE_0_95_3 hE_0_110_1 hE_0_110_2 hE_0_110_3 hE_0_111_1 hE_0_111_2 hE_0_111_3 hE_0_112_1 hE_0_112_2 hE_0_112_3 kz_0_79 kz_0_80 kz_0_81)⟩
  have nf2 : fc_1 PRD (20, [0], [50, 2, 1, 79, 5, 2, 1, 3, 2, 0, 79, 3, 0, 2, 2, 0, 5]) ws (vs) := ⟨nf_in hl rfl, sgq_2061 (vc_Mo_layers_0_2 (v_iv (n_v vs 2)) (w_ei ws (w_ar ws (n_v vs 0) 2)) (w_fi ws (n_v vs 0) 5) (w_ei ws (w_ar ws (n_v vs 0) 110)) (w_ei ws (w_ar ws (n_v vs 0) 111)) (w_ei ws (w_ar ws (n_v vs 0) 112)) (w_ei ws (w_ar ws (n_v vs 0) 95)) (w_ei w1 (w_ar ws (n_v vs 0) 2)) (w_fi w1 (n_v vs 0) 5) (w_ei w1 (w_ar ws (n_v vs 0) 110)) (w_ei w1 (w_ar ws (n_v vs 0) 111)) (w_ei w1 (w_ar ws (n_v vs 0) 112)) (w_ei w1 (w_ar ws (n_v vs 0) 95)) (w_ei w2 (w_ar ws (n_v vs 0) 2)) (w_fi w2 (n_v vs 0) 5) (w_ei w2 (w_ar ws (n_v vs 0) 110)) (w_ei w2 (w_ar ws (n_v vs 0) 111)) (w_ei w2 (w_ar ws (n_v vs 0) 112)) (w_ei w2 (w_ar ws (n_v vs 0) 95)) (w_ei w3 (w_ar ws (n_v vs 0) 2)) (w_fi w3 (n_v vs 0) 5) (w_ei w3 (w_ar ws (n_v vs 0) 110)) (w_ei w3 (w_ar ws (n_v vs 0) 111)) (w_ei w3 (w_ar ws (n_v vs 0) 112)) (w_ei w3 (w_ar ws (n_v vs 0) 95)) (w_fi ws (n_v vs 0) 79) (w_fi w1 (n_v vs 0) 79) (w_fi ws (n_v vs 0) 80) (w_fi w1 (n_v vs 0) 80) (w_fi w2 (n_v vs 0) 79) (w_fi w1 (n_v vs 0) 81) (w_fi w2 (n_v vs 0) 81) (w_ei ws (w_ar ws (n_v vs 0) 83)) (w_ei w1 (w_ar ws (n_v vs 0) 83)) (w_ei w2 (w_ar ws (n_v vs 0) 83)) (w_ei w3 (w_ar ws (n_v vs 0) 83)) (w_ei ws (w_ar ws (n_v vs 0) 84)) (w_ei w1 (w_ar ws (n_v vs 0) 84)) (w_ei w2 (w_ar ws (n_v vs 0) 84)) (w_ei w3 (w_ar ws (n_v vs 0) 84)) (w_ei ws (w_ar ws (n_v vs 0) 85)) (w_ei w1 (w_ar ws (n_v vs 0) 85)) (w_ei w2 (w_ar ws (n_v vs 0) 85)) (w_ei w3 (w_ar ws (n_v vs 0) 85)) (w_ei ws (w_ar ws (n_v vs 0) 86)) (w_ei w1 (w_ar ws (n_v vs 0) 86)) (w_ei w2 (w_ar ws (n_v vs 0) 86)) (w_ei w3 (w_ar ws (n_v vs 0) 86)) (w_ei ws (w_ar ws (n_v vs 0) 87)) (w_ei w1 (w_ar ws (n_v vs 0) 87)) (w_ei w2 (w_ar ws (n_v vs 0) 87)) (w_ei w3 (w_ar ws (n_v vs 0) 87)) (w_ei ws (w_ar ws (n_v vs 0) 88)) (w_ei w1 (w_ar ws (n_v vs 0) 88)) (w_ei w2 (w_ar ws (n_v vs 0) 88)) (w_ei w3 (w_ar ws (n_v vs 0) 88)) (w_ei ws (w_ar ws (n_v vs 0) 89)) (w_ei w1 (w_ar ws (n_v vs 0) 89)) (w_ei w2 (w_ar ws (n_v vs 0) 89)) (w_ei w3 (w_ar ws (n_v vs 0) 89)) k2 (shm_135 f0) (shm_136 f1) fe_0_5_1 fe_0_79_1 fe_0_80_1 fe_0_5_2 fe_0_79_2 fe_0_81_2 fe_0_5_3 fe_0_79_3 hE_0_2_1 hE_0_2_2 hE_0_2_3 hE_0_83_1 hE_0_83_2 hE_0_83_3 hE_0_84_1 hE_0_84_2 hE_0_84_3 hE_0_85_1 hE_0_85_2 hE_0_85_3 hE_0_86_1 hE_0_86_2 hE_0_86_3 hE_0_87_1 hE_0_87_2 hE_0_87_3 hE_0_88_1 hE_0_88_2 hE_0_88_3 hE_0_89_1 hE_0_89_2 hE_0_89_3 hE_0_95_1 hE_0_95_2 hE_0_95_3 hE_0_110_1 hE_0_110_2 hE_0_110_3 hE_0_111_1 hE_0_111_2 hE_0_111_3 hE_0_112_1 hE_0_112_2 hE_0_112_3 kz_0_79 kz_0_80)⟩
  have nf3 : fc_1 PRD (20, [0, 5], [50, 1, 0, 80, 1, 3, 2, 0, 80, 1, 1]) ws (vs) := ⟨nf_in hl rfl, sgq_549 (vc_Mo_layers_0_3 (v_iv (n_v vs 3)) (v_iv (n_v vs 5)) (w_ei ws (w_ar ws (n_v vs 0) 2)) (w_fi ws (n_v vs 0) 5) (w_ei ws (w_ar ws (n_v vs 0) 110)) (w_ei ws (w_ar ws (n_v vs 0) 111)) (w_ei ws (w_ar ws (n_v vs 0) 112)) (w_ei ws (w_ar ws (n_v vs 0) 95)) (w_ei w1 (w_ar ws (n_v vs 0) 2)) (w_fi w1 (n_v vs 0) 5) (w_ei w1 (w_ar ws (n_v vs 0) 110)) (w_ei w1 (w_ar ws (n_v vs 0) 111)) (w_ei w1 (w_ar ws (n_v vs 0) 112)) (w_ei w1 (w_ar ws (n_v vs 0) 95)) (w_ei w2 (w_ar ws (n_v vs 0) 2)) (w_fi w2 (n_v vs 0) 5) (w_ei w2 (w_ar ws (n_v vs 0) 110)) (w_ei w2 (w_ar ws (n_v vs 0) 111)) (w_ei w2 (w_ar ws (n_v vs 0) 112)) (w_ei w2 (w_ar ws (n_v vs 0) 95)) (w_ei w3 (w_ar ws (n_v vs 0) 2)) (w_fi w3 (n_v vs 0) 5) (w_ei w3 (w_ar ws (n_v vs 0) 110)) (w_ei w3 (w_ar ws (n_v vs 0) 111)) (w_ei w3 (w_ar ws (n_v vs 0) 112)) (w_ei w3 (w_ar ws (n_v vs 0) 95)) (w_fi ws (n_v vs 0) 79) (w_fi w1 (n_v vs 0) 79) (w_fi ws (n_v vs 0) 80) (w_fi w1 (n_v vs 0) 80) (w_fi w2 (n_v vs 0) 79) (w_fi w1 (n_v vs 0) 81) (w_fi w2 (n_v vs 0) 81) (w_ei ws (w_ar ws (n_v vs 0) 83)) (w_ei w1 (w_ar ws (n_v vs 0) 83)) (w_ei w2 (w_ar ws (n_v vs 0) 83)) (w_ei w3 (w_ar ws (n_v vs 0) 83)) (w_ei ws (w_ar ws (n_v vs 0) 84)) (w_ei w1 (w_ar ws (n_v vs 0) 84)) (w_ei w2 (w_ar ws (n_v vs 0) 84)) (w_ei w3 (w_ar ws (n_v vs 0) 84)) (w_ei ws (w_ar ws (n_v vs 0) 85)) (w_ei w1 (w_ar ws (n_v vs 0) 85)) (w_ei w2 (w_ar ws (n_v vs 0) 85)) (w_ei w3 (w_ar ws (n_v vs 0) 85)) (w_ei ws (w_ar ws (n_v vs 0) 86)) (w_ei w1 (w_ar ws (n_v vs 0) 86)) (w_ei w2 (w_ar ws (n_v vs 0) 86)) (w_ei w3 (w_ar ws (n_v vs 0) 86)) (w_ei ws (w_ar ws (n_v vs 0) 87)) (w_ei w1 (w_ar ws (n_v vs 0) 87)) (w_ei w2 (w_ar ws (n_v vs 0) 87)) (w_ei w3 (w_ar ws (n_v vs 0) 87)) (w_ei ws (w_ar ws (n_v vs 0) 88)) (w_ei w1 (w_ar ws (n_v vs 0) 88)) (w_ei w2 (w_ar ws (n_v vs 0) 88)) (w_ei w3 (w_ar ws (n_v vs 0) 88)) (w_ei ws (w_ar ws (n_v vs 0) 89)) (w_ei w1 (w_ar ws (n_v vs 0) 89)) (w_ei w2 (w_ar ws (n_v vs 0) 89)) (w_ei w3 (w_ar ws (n_v vs 0) 89)) k3 k5 fe_0_5_1 fe_0_79_1 fe_0_80_1 fe_0_5_2 fe_0_79_2 fe_0_80_2 fe_0_81_2 fe_0_5_3 hE_0_2_1 hE_0_2_2 hE_0_2_3 hE_0_83_1 hE_0_83_2 hE_0_83_3 hE_0_84_1 hE_0_84_2 hE_0_84_3 hE_0_85_1 hE_0_85_2 hE_0_85_3 hE_0_86_1 hE_0_86_2 hE_0_86_3 hE_0_87_1 hE_0_87_2 hE_0_87_3 hE_0_88_1 hE_0_88_2 hE_0_88_3 hE_0_89_1 hE_0_89_2 hE_0_89_3 hE_0_95_1 hE_0_95_2 hE_0_95_3 hE_0_110_1 hE_0_110_2 hE_0_110_3 hE_0_111_1 hE_0_111_2 hE_0_111_3 hE_0_112_1 hE_0_112_2 hE_0_112_3 kz_0_79 kz_0_80)⟩
  have nf4 : fc_1 PRD (20, [0, 5], [50, 1, 0, 81, 1, 3, 2, 0, 81, 1, 1]) ws (vs) := ⟨nf_in hl rfl, sgq_493 (vc_Mo_layers_0_4 (v_iv (n_v vs 4)) (v_iv (n_v vs 5)) (w_ei ws (w_ar ws (n_v vs 0) 2)) (w_fi ws (n_v vs 0) 5) (w_ei ws (w_ar ws (n_v vs 0) 110)) (w_ei ws (w_ar ws (n_v vs 0) 111)) (w_ei ws (w_ar ws (n_v vs 0) 112)) (w_ei ws (w_ar ws (n_v vs 0) 95)) (w_ei w1 (w_ar ws (n_v vs 0) 2)) (w_fi w1 (n_v vs 0) 5) (w_ei w1 (w_ar ws (n_v vs 0) 110)) (w_ei w1 (w_ar ws (n_v vs 0) 111)) (w_ei w1 (w_ar ws (n_v vs 0) 112)) (w_ei w1 (w_ar ws (n_v vs 0) 95)) (w_ei w2 (w_ar ws (n_v vs 0) 2)) (w_fi w2 (n_v vs 0) 5) (w_ei w2 (w_ar ws (n_v vs 0) 110)) (w_ei w2 (w_ar ws (n_v vs 0) 111)) (w_ei w2 (w_ar ws (n_v vs 0) 112)) (w_ei w2 (w_ar ws (n_v vs 0) 95)) (w_ei w3 (w_ar ws (n_v vs 0) 2)) (w_fi w3 (n_v vs 0) 5) (w_ei w3 (w_ar ws (n_v vs 0) 110)) (w_ei w3 (w_ar ws (n_v vs 0) 111)) (w_ei w3 (w_ar ws (n_v vs 0) 112)) (w_ei w3 (w_ar ws (n_v vs 0) 95)) (w_fi ws (n_v vs 0) 79) (w_fi w1 (n_v vs 0) 79) (w_fi ws (n_v vs 0) 80) (w_fi w1 (n_v vs 0) 80) (w_fi ws (n_v vs 0) 81) (w_fi w2 (n_v vs 0) 79) (w_fi w1 (n_v vs 0) 81) (w_fi w2 (n_v vs 0) 81) (w_ei ws (w_ar ws (n_v vs 0) 83)) (w_ei w1 (w_ar ws (n_v vs 0) 83)) (w_ei w2 (w_ar ws (n_v vs 0) 83)) (w_ei w3 (w_ar ws (n_v vs 0) 83)) (w_ei ws (w_ar ws (n_v vs 0) 84)) (w_ei w1 (w_ar ws (n_v vs 0) 84)) (w_ei w2 (w_ar ws (n_v vs 0) 84)) (w_ei w3 (w_ar ws (n_v vs 0) 84)) (w_ei ws (w_ar ws (n_v vs 0) 85)) (w_ei w1 (w_ar ws (n_v vs 0) 85)) (w_ei w2 (w_ar ws (n_v vs 0) 85)) (w_ei w3 (w_ar ws (n_v vs 0) 85)) (w_ei ws (w_ar ws (n_v vs 0) 86)) (w_ei w1 (w_ar ws (n_v vs 0) 86)) (w_ei w2 (w_ar ws (n_v vs 0) 86)) (w_ei w3 (w_ar ws (n_v vs 0) 86)) (w_ei ws (w_ar ws (n_v vs 0) 87)) (w_ei w1 (w_ar ws (n_v vs 0) 87)) (w_ei w2 (w_ar ws (n_v vs 0) 87)) (w_ei w3 (w_ar ws (n_v vs 0) 87)) (w_ei ws (w_ar ws (n_v vs 0) 88)) (w_ei w1 (w_ar ws (n_v vs 0) 88)) (w_ei w2 (w_ar ws (n_v vs 0) 88)) (w_ei w3 (w_ar ws (n_v vs 0) 88)) (w_ei ws (w_ar ws (n_v vs 0) 89)) (w_ei w1 (w_ar ws (n_v vs 0) 89)) (w_ei w2 (w_ar ws (n_v vs 0) 89)) (w_ei w3 (w_ar ws (n_v vs 0) 89)) k4 k5 fe_0_5_1 fe_0_79_1 fe_0_80_1 fe_0_81_1 fe_0_5_2 fe_0_79_2 fe_0_81_2 fe_0_5_3 hE_0_2_1 hE_0_2_2 hE_0_2_3 hE_0_83_1 hE_0_83_2 hE_0_83_3 hE_0_84_1 hE_0_84_2 hE_0_84_3 hE_0_85_1 hE_0_85_2 hE_0_85_3 hE_0_86_1 hE_0_86_2 hE_0_86_3 hE_0_87_1 hE_0_87_2 hE_0_87_3 hE_0_88_1 hE_0_88_2 hE_0_88_3 hE_0_89_1 hE_0_89_2 hE_0_89_3 hE_0_95_1 hE_0_95_2 hE_0_95_3 hE_0_110_1 hE_0_110_2 hE_0_110_3 hE_0_111_1 hE_0_111_2 hE_0_111_3 hE_0_112_1 hE_0_112_2 hE_0_112_3 kz_0_79 kz_0_80 kz_0_81)⟩
  refine ⟨(fun _ h => (by cases h)), [], trivial, ?_, (fun _ h => (by cases h))⟩
  rw [List.append_nil]
  exact List.forall_mem_cons.mpr ⟨⟨show (20 : Nat) < 100 from by decide, nf0⟩, List.forall_mem_cons.mpr ⟨⟨show (20 : Nat) < 100 from by decide, nf1⟩, List.forall_mem_cons.mpr ⟨⟨show (20 : Nat) < 100 from by decide, nf2⟩, List.forall_mem_cons.mpr ⟨⟨show (20 : Nat) < 100 from by decide, nf3⟩, List.forall_mem_cons.mpr ⟨⟨show (20 : Nat) < 100 from by decide, nf4⟩, (fun _ h => (by cases h))⟩⟩⟩⟩⟩
set_option maxHeartbeats 4000000 in
theorem vc_Mo_layers_1_0 (x2 : Int) (x3 : Int) (all_0 : Int → Int) (r_0 : Int) (turned_0 : Int → Int) (costA_0 : Int → Int) (costB_0 : Int → Int) (costW_0 : Int → Int) (costPlain_0 : Int → Int) (apartA_0 : Int → Int) (apartB_0 : Int → Int) (apart_0 : Int → Int) (costMany_0 : Int) (apartMany_0 : Int) (pointMany_0 : Int) (k2 : 0 ≤ x2 ∧ x2 ≤ 48) (k3 : 0 ≤ x3 ∧ x3 ≤ 48) (d0 : x3 + 0 ≤ x2 ∧ x2 ≤ x3 + 4294967296) (f0 : x3 ≤ x2) (f1 : 1 * x3 + ((-1) * all_0 (r_0 + 1) + 0) ≤ 0) (f2 : (-1) * x3 + (1 * all_0 (r_0 + 1) + 0) ≤ 0) (f6 : x2 ≤ all_0 ((r_0 + 1))) (f7 : TRK (r_0) (all_0) (turned_0)) (f8 : LCP (r_0) (costMany_0) (apartMany_0) (all_0) (turned_0) (costA_0) (costB_0) (costW_0) (costPlain_0) (apartA_0) (apartB_0) (apart_0)) (f9 : pointMany_0 = all_0 (r_0)) (f10 : costMany_0 = x2) (f11 : apartMany_0 = x2) (kz_0_79 : 0 ≤ pointMany_0 ∧ pointMany_0 ≤ 76) (kz_0_80 : 0 ≤ costMany_0 ∧ costMany_0 ≤ 200) (kz_0_81 : 0 ≤ apartMany_0 ∧ apartMany_0 ≤ 200) : PBR (pointMany_0) (costMany_0) (apartMany_0) (costA_0) (costB_0) (costW_0) (costPlain_0) (apartA_0) (apartB_0) (apart_0) := by
  try simp only [Int.add_zero] at *
  exact lcp_pbr ‹LCP _ _ _ _ _ _ _ _ _ _ _ _› ‹TRK _ _ _› (by omega) (by omega) (by omega)
def o_Mo_layers_1 : or_T := (74, 4, [(0, (2, 0, 0, [165])), (2, (0, 0, 48, [])), (3, (0, 0, 48, []))], [(7, [2, 3], [3]), (20, [3, 0], [30, 0, 1, 0, 0, -1, 3, 2005001]), (20, [3, 0], [30, 0, -1, 0, 0, 1, 3, 2005001]), (20, [2, 0], [50, 1, 1, 1005, 1002, 0, 2, 1, 0, 3, 1, 2, 4, 3, 2, 1, 5, 0, 1]), (20, [0], [60, 1, 2, 366, 5, 2, 95]), (20, [0], [60, 3, 9, 434, 5, 80, 81, 2, 95, 83, 84, 85, 86, 87, 88, 89]), (20, [0], [50, 2, 1, 79, 5, 2, 1, 3, 2, 0, 79, 3, 0, 2, 2, 0, 5]), (20, [0, 2], [50, 1, 0, 80, 1, 3, 2, 0, 80, 1, 1]), (20, [0, 2], [50, 1, 0, 81, 1, 3, 2, 0, 81, 1, 1])], [], [], [(20, [0], [60, 3, 7, 396, 79, 80, 81, 83, 84, 85, 86, 87, 88, 89])], [], [(2, 3, 0, 4294967296)])
theorem oo_Mo_layers_1 {kA : Nat → ClassId} : or_ok PRD kA GG o_Mo_layers_1 := by
  refine or_mk fun A ta ws vs hD hth hl => ?_
  intro t0 r0 t2 k2 t3 k3 d0 f0 f1 f2 f6 f7 f8 f9 f10 f11
  have kz_0_79 := fdq_146 hD hth r0
  have kz_0_80 := fdq_130 hD hth r0
  have kz_0_81 := fdq_123 hD hth r0
  have nf0 : fc_1 PRD (20, [0], [60, 3, 7, 396, 79, 80, 81, 83, 84, 85, 86, 87, 88, 89]) ws (vs) := ⟨nf_in hl rfl, sgq_1202 (vc_Mo_layers_1_0 (v_iv (n_v vs 2)) (v_iv (n_v vs 3)) (w_ei ws (w_ar ws (n_v vs 0) 2)) (w_fi ws (n_v vs 0) 5) (w_ei ws (w_ar ws (n_v vs 0) 95)) (w_ei ws (w_ar ws (n_v vs 0) 83)) (w_ei ws (w_ar ws (n_v vs 0) 84)) (w_ei ws (w_ar ws (n_v vs 0) 85)) (w_ei ws (w_ar ws (n_v vs 0) 86)) (w_ei ws (w_ar ws (n_v vs 0) 87)) (w_ei ws (w_ar ws (n_v vs 0) 88)) (w_ei ws (w_ar ws (n_v vs 0) 89)) (w_fi ws (n_v vs 0) 80) (w_fi ws (n_v vs 0) 81) (w_fi ws (n_v vs 0) 79) k2 k3 d0 (shm_2 f0) (shm_130 f1) (shm_131 f2) (shm_1644 f6) (shm_1794 f7) (shm_501 f8) (shm_2061 f9) (shm_549 f10) (shm_493 f11) kz_0_79 kz_0_80 kz_0_81)⟩
  refine ⟨(fun _ h => (by cases h)), [], trivial, ?_, (fun _ h => (by cases h))⟩
  rw [List.append_nil]
  exact List.forall_mem_cons.mpr ⟨⟨show (20 : Nat) < 100 from by decide, nf0⟩, (fun _ h => (by cases h))⟩
set_option maxHeartbeats 4000000 in
theorem vc_Mo_layers_2_0 (x2 : Int) (x3 : Int) (all_0 : Int → Int) (r_0 : Int) (costA_0 : Int → Int) (costB_0 : Int → Int) (costW_0 : Int → Int) (costPlain_0 : Int → Int) (apartA_0 : Int → Int) (apartB_0 : Int → Int) (apart_0 : Int → Int) (pointMany_0 : Int) (costMany_0 : Int) (apartMany_0 : Int) (turned_0 : Int → Int) (spot_0 : Int → Int) (k2 : 0 ≤ x2 ∧ x2 ≤ 48) (k3 : 0 ≤ x3 ∧ x3 ≤ 48) (d0 : x3 + 0 ≤ x2 ∧ x2 ≤ x3 + 4294967296) (f3 : 1 * x3 + ((-1) * all_0 (r_0 + 1) + 0) ≤ 0) (f4 : (-1) * x3 + (1 * all_0 (r_0 + 1) + 0) ≤ 0) (f6 : SGR (r_0) (all_0)) (f8 : x2 ≤ all_0 ((r_0 + 1))) (f10 : LCP (r_0) (costMany_0) (apartMany_0) (all_0) (turned_0) (costA_0) (costB_0) (costW_0) (costPlain_0) (apartA_0) (apartB_0) (apart_0)) (f11 : pointMany_0 = all_0 (r_0)) (f12 : costMany_0 = x2) (f13 : apartMany_0 = x2) (f14 : RIP (pointMany_0) (costMany_0) (apartMany_0) (spot_0) (costA_0) (costB_0) (costW_0) (costPlain_0) (apartA_0) (apartB_0) (apart_0)) (f16 : x3 ≤ x2) (kz_0_79 : 0 ≤ pointMany_0 ∧ pointMany_0 ≤ 76) (kz_0_80 : 0 ≤ costMany_0 ∧ costMany_0 ≤ 200) (kz_0_81 : 0 ≤ apartMany_0 ∧ apartMany_0 ≤ 200) : LYP (r_0) (all_0) (turned_0) (spot_0) := by
  try simp only [Int.add_zero] at *
  first
    | assumption
    | exact lyp_of ‹LCP _ _ _ _ _ _ _ _ _ _ _ _› ‹RIP _ _ _ _ _ _ _ _ _ _ _› ‹SGR _ _› (by omega) (by omega) (by omega)
set_option maxHeartbeats 4000000 in
theorem vc_Mo_layers_2_1 (x7 : Int) (spot_0 : Int → Int) (itemLayer_0 : Int → Int) (k7 : 0 ≤ x7 ∧ x7 ≤ 0) : ILE (itemLayer_0) (spot_0) (x7) := by
  first
    | (intro j a b; exfalso; omega)
    | exact ile_step ‹ILE _ _ _› (by assumption) (by assumption) rfl (by assumption)
set_option maxHeartbeats 4000000 in
theorem vc_Mo_layers_2_2 (x4 : Int) (all_0 : Int → Int) (r_0 : Int) (pointMany_0 : Int) (k4 : 0 ≤ x4 ∧ x4 ≤ 24) (f0 : 1 * x4 + ((-1) * all_0 (r_0 + 0) + 0) ≤ 0) (f1 : (-1) * x4 + (1 * all_0 (r_0 + 0) + 0) ≤ 0) (f11 : pointMany_0 = all_0 (r_0)) (kz_0_79 : 0 ≤ pointMany_0 ∧ pointMany_0 ≤ 76) : x4 = all_0 (r_0) := by
  try simp only [Int.add_zero] at *
  first
    | omega
    | (have h := ‹SGR _ _›.1; omega)
    | (have h := ‹LSA _ _ _ _ _ _ _ _ _ _›.2.1; have h2 := ‹LSA _ _ _ _ _ _ _ _ _ _›.2.2.1 0 (by omega) (by omega); omega)
def o_Mo_layers_2 : or_T := (90, 8, [(0, (2, 0, 0, [165])), (2, (0, 0, 48, [])), (3, (0, 0, 48, [])), (4, (0, 0, 24, [])), (7, (0, 0, 0, []))], [(20, [4, 0], [30, 0, 1, 0, 0, -1, 3, 2005000]), (20, [4, 0], [30, 0, -1, 0, 0, 1, 3, 2005000]), (20, [3, 0], [30, 0, 1, 0, 0, -1, 3, 2005001]), (20, [3, 0], [30, 0, -1, 0, 0, 1, 3, 2005001]), (20, [0], [60, 1, 1, 197, 5, 2]), (20, [2, 0], [50, 1, 1, 1005, 1002, 0, 2, 1, 0, 3, 1, 2, 4, 3, 2, 1, 5, 0, 1]), (20, [0], [60, 3, 9, 434, 5, 80, 81, 2, 95, 83, 84, 85, 86, 87, 88, 89]), (20, [0], [50, 2, 1, 79, 5, 2, 1, 3, 2, 0, 79, 3, 0, 2, 2, 0, 5]), (20, [0, 2], [50, 1, 0, 80, 1, 3, 2, 0, 80, 1, 1]), (20, [0, 2], [50, 1, 0, 81, 1, 3, 2, 0, 81, 1, 1]), (20, [0], [60, 3, 8, 424, 79, 80, 81, 82, 83, 84, 85, 86, 87, 88, 89]), (102, [3], [3236036098391425232853625154663825044295008491468073090622467717726208, 165094]), (7, [2, 3], [3])], [], [], [(20, [0], [60, 1, 3, 435, 5, 2, 95, 82]), (20, [0, 7], [60, 0, 2, 436, 102, 82]), (20, [4, 0], [50, 1, 1, 1005, 1002, 1, 2, 1, 0, 3, 1, 2, 2, 1, 5])], [], [(2, 3, 0, 4294967296)])
theorem oo_Mo_layers_2 {kA : Nat → ClassId} : or_ok PRD kA GG o_Mo_layers_2 := by
  refine or_mk fun A ta ws vs hD hth hl => ?_
  intro t0 r0 t2 k2 t3 k3 t4 k4 t7 k7 d0 f0 f1 f3 f4 f6 f8 f10 f11 f12 f13 f14 ta1 w1 le1 s1 f16
  have kz_0_79 := fdq_146 hD hth r0
  have kz_0_80 := fdq_130 hD hth r0
  have kz_0_81 := fdq_123 hD hth r0
  have nf0 : fc_1 PRD (20, [0], [60, 1, 3, 435, 5, 2, 95, 82]) ws (vs) := ⟨nf_in hl rfl, sgq_2062 (vc_Mo_layers_2_0 (v_iv (n_v vs 2)) (v_iv (n_v vs 3)) (w_ei ws (w_ar ws (n_v vs 0) 2)) (w_fi ws (n_v vs 0) 5) (w_ei ws (w_ar ws (n_v vs 0) 83)) (w_ei ws (w_ar ws (n_v vs 0) 84)) (w_ei ws (w_ar ws (n_v vs 0) 85)) (w_ei ws (w_ar ws (n_v vs 0) 86)) (w_ei ws (w_ar ws (n_v vs 0) 87)) (w_ei ws (w_ar ws (n_v vs 0) 88)) (w_ei ws (w_ar ws (n_v vs 0) 89)) (w_fi ws (n_v vs 0) 79) (w_fi ws (n_v vs 0) 80) (w_fi ws (n_v vs 0) 81) (w_ei ws (w_ar ws (n_v vs 0) 95)) (w_ei ws (w_ar ws (n_v vs 0) 82)) k2 k3 d0 (shm_130 f3) (shm_131 f4) (shm_1403 f6) (shm_1644 f8) (shm_501 f10) (shm_2061 f11) (shm_549 f12) (shm_493 f13) (shm_1209 f14) (shm_2 f16) kz_0_79 kz_0_80 kz_0_81)⟩
  have nf1 : fc_1 PRD (20, [0, 7], [60, 0, 2, 436, 102, 82]) ws (vs) := ⟨nf_in hl rfl, sgq_2063 (vc_Mo_layers_2_1 (v_iv (n_v vs 7)) (w_ei ws (w_ar ws (n_v vs 0) 82)) (w_ei ws (w_ar ws (n_v vs 0) 102)) k7)⟩
  have nf2 : fc_1 PRD (20, [4, 0], [50, 1, 1, 1005, 1002, 1, 2, 1, 0, 3, 1, 2, 2, 1, 5]) ws (vs) := ⟨nf_in hl rfl, sgq_1518 (vc_Mo_layers_2_2 (v_iv (n_v vs 4)) (w_ei ws (w_ar ws (n_v vs 0) 2)) (w_fi ws (n_v vs 0) 5) (w_fi ws (n_v vs 0) 79) k4 (shm_135 f0) (shm_136 f1) (shm_2061 f11) kz_0_79)⟩
  refine ⟨(fun _ h => (by cases h)), [], trivial, ?_, (fun _ h => (by cases h))⟩
  rw [List.append_nil]
  exact List.forall_mem_cons.mpr ⟨⟨show (20 : Nat) < 100 from by decide, nf0⟩, List.forall_mem_cons.mpr ⟨⟨show (20 : Nat) < 100 from by decide, nf1⟩, List.forall_mem_cons.mpr ⟨⟨show (20 : Nat) < 100 from by decide, nf2⟩, (fun _ h => (by cases h))⟩⟩⟩
set_option maxHeartbeats 4000000 in
theorem vc_Mo_layers_3_0 (x2 : Int) (costMany_0 : Int) (apartMany_0 : Int) (gx : Int) (k2 : 0 ≤ x2 ∧ x2 ≤ 47) (f12 : costMany_0 = x2) (f13 : apartMany_0 = x2) (kz_0_80 : 0 ≤ costMany_0 ∧ costMany_0 ≤ 200) (kz_0_81 : 0 ≤ apartMany_0 ∧ apartMany_0 ≤ 200) (ex2 : gx = x2) : 1 * gx + ((-1) * x2 + 0) ≤ 0 := by
  try simp only [Int.add_zero] at *
  first
    | omega
    | (have h := ‹SGR _ _›.1; omega)
    | (have h := ‹LSA _ _ _ _ _ _ _ _ _ _›.2.1; have h2 := ‹LSA _ _ _ _ _ _ _ _ _ _›.2.2.1 0 (by omega) (by omega); omega)
set_option maxHeartbeats 4000000 in
theorem vc_Mo_layers_3_1 (x2 : Int) (costMany_0 : Int) (apartMany_0 : Int) (gx : Int) (k2 : 0 ≤ x2 ∧ x2 ≤ 47) (f12 : costMany_0 = x2) (f13 : apartMany_0 = x2) (kz_0_80 : 0 ≤ costMany_0 ∧ costMany_0 ≤ 200) (kz_0_81 : 0 ≤ apartMany_0 ∧ apartMany_0 ≤ 200) (ex2 : gx = x2) : (-1) * gx + (1 * x2 + 0) ≤ 0 := by
  try simp only [Int.add_zero] at *
  first
    | omega
    | (have h := ‹SGR _ _›.1; omega)
    | (have h := ‹LSA _ _ _ _ _ _ _ _ _ _›.2.1; have h2 := ‹LSA _ _ _ _ _ _ _ _ _ _›.2.2.1 0 (by omega) (by omega); omega)
set_option maxHeartbeats 4000000 in
theorem vc_Mo_layers_3_2 (x2 : Int) (costMany_0 : Int) (apartMany_0 : Int) (gx : Int) (k2 : 0 ≤ x2 ∧ x2 ≤ 47) (f12 : costMany_0 = x2) (f13 : apartMany_0 = x2) (kz_0_80 : 0 ≤ costMany_0 ∧ costMany_0 ≤ 200) (kz_0_81 : 0 ≤ apartMany_0 ∧ apartMany_0 ≤ 200) (ex2 : gx = x2) : costMany_0 = gx := by
  try simp only [Int.add_zero] at *
  first
    | omega
    | (have h := ‹SGR _ _›.1; omega)
    | (have h := ‹LSA _ _ _ _ _ _ _ _ _ _›.2.1; have h2 := ‹LSA _ _ _ _ _ _ _ _ _ _›.2.2.1 0 (by omega) (by omega); omega)
set_option maxHeartbeats 4000000 in
theorem vc_Mo_layers_3_3 (all_0 : Int → Int) (turned_0 : Int → Int) (r_0 : Int) (costA_0 : Int → Int) (costB_0 : Int → Int) (costW_0 : Int → Int) (costPlain_0 : Int → Int) (apartA_0 : Int → Int) (apartB_0 : Int → Int) (apart_0 : Int → Int) (costMany_0 : Int) (apartMany_0 : Int) (f10 : LCP (r_0) (costMany_0) (apartMany_0) (all_0) (turned_0) (costA_0) (costB_0) (costW_0) (costPlain_0) (apartA_0) (apartB_0) (apart_0)) (kz_0_80 : 0 ≤ costMany_0 ∧ costMany_0 ≤ 200) (kz_0_81 : 0 ≤ apartMany_0 ∧ apartMany_0 ≤ 200) : LCP (r_0) (costMany_0) (apartMany_0) (all_0) (turned_0) (costA_0) (costB_0) (costW_0) (costPlain_0) (apartA_0) (apartB_0) (apart_0) := by
  assumption
set_option maxHeartbeats 4000000 in
theorem vc_Mo_layers_3_4 (x2 : Int) (x4 : Int) (all_0 : Int → Int) (turned_0 : Int → Int) (r_0 : Int) (gx : Int) (k2 : 0 ≤ x2 ∧ x2 ≤ 47) (k4 : 0 ≤ x4 ∧ x4 ≤ 23) (f1 : FRO (r_0) (all_0) (turned_0) (x2) (x4)) (ex2 : gx = x2) : FRO (r_0) (all_0) (turned_0) (gx) (x4) := by
  rw [ex2]; assumption
set_option maxHeartbeats 4000000 in
theorem vc_Mo_layers_3_5 (x2 : Int) (x5 : Int) (all_0 : Int → Int) (turned_0 : Int → Int) (r_0 : Int) (gx : Int) (k2 : 0 ≤ x2 ∧ x2 ≤ 47) (k5 : 0 ≤ x5 ∧ x5 ≤ 23) (f0 : TOO (r_0) (all_0) (turned_0) (x2) (x5)) (ex2 : gx = x2) : TOO (r_0) (all_0) (turned_0) (gx) (x5) := by
  rw [ex2]; assumption
def o_Mo_layers_3 : or_T := (49, 8, [(0, (2, 0, 0, [165])), (2, (0, 0, 47, [])), (4, (0, 0, 23, [])), (5, (0, 0, 23, []))], [(20, [0, 2, 5], [60, 1, 2, 433, 5, 2, 95]), (20, [0, 2, 4], [60, 1, 2, 432, 5, 2, 95]), (20, [0], [60, 3, 9, 434, 5, 80, 81, 2, 95, 83, 84, 85, 86, 87, 88, 89]), (20, [0, 2], [50, 1, 0, 80, 1, 3, 2, 0, 80, 1, 1]), (20, [0, 2], [50, 1, 0, 81, 1, 3, 2, 0, 81, 1, 1])], [], [(0, 0, 199, [])], [(23, [8, 2], [0, 1, -1]), (23, [8, 2], [0, -1, 1]), (20, [0, 8], [50, 1, 0, 80, 1, 3, 2, 0, 80, 1, 1]), (20, [0], [60, 3, 9, 434, 5, 80, 81, 2, 95, 83, 84, 85, 86, 87, 88, 89]), (20, [0, 8, 4], [60, 1, 2, 432, 5, 2, 95]), (20, [0, 8, 5], [60, 1, 2, 433, 5, 2, 95])], [], [(2, 3, -4294967296, -1)])
theorem oo_Mo_layers_3 {kA : Nat → ClassId} : or_ok PRD kA GG o_Mo_layers_3 := by
  refine or_mk fun A ta ws vs hD hth hl => ?_
  intro t0 r0 t2 k2 t4 k4 t5 k5 d0 f0 f1 f10 f12 f13
  replace f0 := shm_503 f0
  replace f1 := shm_502 f1
  replace f10 := shm_501 f10
  replace f12 := shm_549 f12
  replace f13 := shm_493 f13
  have kz_0_80 := fdq_130 hD hth r0
  have kz_0_81 := fdq_123 hD hth r0
  obtain ⟨x, ex, hx⟩ := iv_ex (ta := ta) (lo := 0) (hi := 199) (z := v_iv (n_v vs 2)) (by omega) (by omega) (by omega) (by omega)
  have ex2 : v_iv (Value.int x) = v_iv (n_v vs 2) := ex
  have ex3 : 0 ≤ v_iv (Value.int x) ∧ v_iv (Value.int x) ≤ 199 := tv_rng hx
  have e_0 : n_v (vs ++ [Value.int x]) 0 = n_v vs 0 := n_v_old (by rw [hl]; decide)
  have e_2 : n_v (vs ++ [Value.int x]) 2 = n_v vs 2 := n_v_old (by rw [hl]; decide)
  have e_4 : n_v (vs ++ [Value.int x]) 4 = n_v vs 4 := n_v_old (by rw [hl]; decide)
  have e_5 : n_v (vs ++ [Value.int x]) 5 = n_v vs 5 := n_v_old (by rw [hl]; decide)
  have e_8 : n_v (vs ++ [Value.int x]) 8 = Value.int x := n_v_new hl
  have nf0 : fc_1 PRD (23, [8, 2], [0, 1, -1]) ws (vs ++ [Value.int x]) := by
    refine ⟨nf_inA hl rfl, sgq_7 ?_⟩
    · show 1 * v_iv (n_v (vs ++ [Value.int x]) 8) + ((-1) * v_iv (n_v (vs ++ [Value.int x]) 2) + 0) ≤ 0
      simp only [e_2, e_8]
      exact vc_Mo_layers_3_0 (v_iv (n_v vs 2)) (w_fi ws (n_v vs 0) 80) (w_fi ws (n_v vs 0) 81) (v_iv (Value.int x)) k2 f12 f13 kz_0_80 kz_0_81 ex2
  have nf1 : fc_1 PRD (23, [8, 2], [0, -1, 1]) ws (vs ++ [Value.int x]) := by
    refine ⟨nf_inA hl rfl, sgq_22 ?_⟩
    · show (-1) * v_iv (n_v (vs ++ [Value.int x]) 8) + (1 * v_iv (n_v (vs ++ [Value.int x]) 2) + 0) ≤ 0
      simp only [e_2, e_8]
      exact vc_Mo_layers_3_1 (v_iv (n_v vs 2)) (w_fi ws (n_v vs 0) 80) (w_fi ws (n_v vs 0) 81) (v_iv (Value.int x)) k2 f12 f13 kz_0_80 kz_0_81 ex2
  have nf2 : fc_1 PRD (20, [0, 8], [50, 1, 0, 80, 1, 3, 2, 0, 80, 1, 1]) ws (vs ++ [Value.int x]) := by
    refine ⟨nf_inA hl rfl, sgq_549 ?_⟩
    · show w_fi ws (n_v (vs ++ [Value.int x]) 0) 80 = v_iv (n_v (vs ++ [Value.int x]) 8)
      simp only [e_0, e_8]
      exact vc_Mo_layers_3_2 (v_iv (n_v vs 2)) (w_fi ws (n_v vs 0) 80) (w_fi ws (n_v vs 0) 81) (v_iv (Value.int x)) k2 f12 f13 kz_0_80 kz_0_81 ex2
  have nf3 : fc_1 PRD (20, [0], [60, 3, 9, 434, 5, 80, 81, 2, 95, 83, 84, 85, 86, 87, 88, 89]) ws (vs ++ [Value.int x]) := by
    refine ⟨nf_inA hl rfl, sgq_501 ?_⟩
    · show LCP (w_fi ws (n_v (vs ++ [Value.int x]) 0) 5) (w_fi ws (n_v (vs ++ [Value.int x]) 0) 80) (w_fi ws (n_v (vs ++ [Value.int x]) 0) 81) (w_ei ws (w_ar ws (n_v (vs ++ [Value.int x]) 0) 2)) (w_ei ws (w_ar ws (n_v (vs ++ [Value.int x]) 0) 95)) (w_ei ws (w_ar ws (n_v (vs ++ [Value.int x]) 0) 83)) (w_ei ws (w_ar ws (n_v (vs ++ [Value.int x]) 0) 84)) (w_ei ws (w_ar ws (n_v (vs ++ [Value.int x]) 0) 85)) (w_ei ws (w_ar ws (n_v (vs ++ [Value.int x]) 0) 86)) (w_ei ws (w_ar ws (n_v (vs ++ [Value.int x]) 0) 87)) (w_ei ws (w_ar ws (n_v (vs ++ [Value.int x]) 0) 88)) (w_ei ws (w_ar ws (n_v (vs ++ [Value.int x]) 0) 89))
      rw [e_0]
      exact vc_Mo_layers_3_3 (w_ei ws (w_ar ws (n_v vs 0) 2)) (w_ei ws (w_ar ws (n_v vs 0) 95)) (w_fi ws (n_v vs 0) 5) (w_ei ws (w_ar ws (n_v vs 0) 83)) (w_ei ws (w_ar ws (n_v vs 0) 84)) (w_ei ws (w_ar ws (n_v vs 0) 85)) (w_ei ws (w_ar ws (n_v vs 0) 86)) (w_ei ws (w_ar ws (n_v vs 0) 87)) (w_ei ws (w_ar ws (n_v vs 0) 88)) (w_ei ws (w_ar ws (n_v vs 0) 89)) (w_fi ws (n_v vs 0) 80) (w_fi ws (n_v vs 0) 81) f10 kz_0_80 kz_0_81
  have nf4 : fc_1 PRD (20, [0, 8, 4], [60, 1, 2, 432, 5, 2, 95]) ws (vs ++ [Value.int x]) := by
    refine ⟨nf_inA hl rfl, sgq_502 ?_⟩
    · show FRO (w_fi ws (n_v (vs ++ [Value.int x]) 0) 5) (w_ei ws (w_ar ws (n_v (vs ++ [Value.int x]) 0) 2)) (w_ei ws (w_ar ws (n_v (vs ++ [Value.int x]) 0) 95)) (v_iv (n_v (vs ++ [Value.int x]) 8)) (v_iv (n_v (vs ++ [Value.int x]) 4))
      simp only [e_0, e_4, e_8]
      exact vc_Mo_layers_3_4 (v_iv (n_v vs 2)) (v_iv (n_v vs 4)) (w_ei ws (w_ar ws (n_v vs 0) 2)) (w_ei ws (w_ar ws (n_v vs 0) 95)) (w_fi ws (n_v vs 0) 5) (v_iv (Value.int x)) k2 k4 f1 ex2
  have nf5 : fc_1 PRD (20, [0, 8, 5], [60, 1, 2, 433, 5, 2, 95]) ws (vs ++ [Value.int x]) := by
    refine ⟨nf_inA hl rfl, sgq_503 ?_⟩
    · show TOO (w_fi ws (n_v (vs ++ [Value.int x]) 0) 5) (w_ei ws (w_ar ws (n_v (vs ++ [Value.int x]) 0) 2)) (w_ei ws (w_ar ws (n_v (vs ++ [Value.int x]) 0) 95)) (v_iv (n_v (vs ++ [Value.int x]) 8)) (v_iv (n_v (vs ++ [Value.int x]) 5))
      simp only [e_0, e_5, e_8]
      exact vc_Mo_layers_3_5 (v_iv (n_v vs 2)) (v_iv (n_v vs 5)) (w_ei ws (w_ar ws (n_v vs 0) 2)) (w_ei ws (w_ar ws (n_v vs 0) 95)) (w_fi ws (n_v vs 0) 5) (v_iv (Value.int x)) k2 k5 f0 ex2
  exact ⟨(fun _ h => (by cases h)), [Value.int x], ag_one hx, List.forall_mem_cons.mpr ⟨⟨show (23 : Nat) < 100 from by decide, nf0⟩, List.forall_mem_cons.mpr ⟨⟨show (23 : Nat) < 100 from by decide, nf1⟩, List.forall_mem_cons.mpr ⟨⟨show (20 : Nat) < 100 from by decide, nf2⟩, List.forall_mem_cons.mpr ⟨⟨show (20 : Nat) < 100 from by decide, nf3⟩, List.forall_mem_cons.mpr ⟨⟨show (20 : Nat) < 100 from by decide, nf4⟩, List.forall_mem_cons.mpr ⟨⟨show (20 : Nat) < 100 from by decide, nf5⟩, (fun _ h => (by cases h))⟩⟩⟩⟩⟩⟩, (fun _ h => (by cases h))⟩
set_option maxHeartbeats 4000000 in
theorem vc_Mo_layers_4_0 (x2 : Int) (apartMany_0 : Int) (gx : Int) (k2 : 0 ≤ x2 ∧ x2 ≤ 47) (f16 : apartMany_0 = x2) (kz_0_81 : 0 ≤ apartMany_0 ∧ apartMany_0 ≤ 200) (ex2 : gx = x2) : 1 * gx + ((-1) * x2 + 0) ≤ 0 := by
  try simp only [Int.add_zero] at *
  first
    | omega
    | (have h := ‹SGR _ _›.1; omega)
    | (have h := ‹LSA _ _ _ _ _ _ _ _ _ _›.2.1; have h2 := ‹LSA _ _ _ _ _ _ _ _ _ _›.2.2.1 0 (by omega) (by omega); omega)
set_option maxHeartbeats 4000000 in
theorem vc_Mo_layers_4_1 (x2 : Int) (apartMany_0 : Int) (gx : Int) (k2 : 0 ≤ x2 ∧ x2 ≤ 47) (f16 : apartMany_0 = x2) (kz_0_81 : 0 ≤ apartMany_0 ∧ apartMany_0 ≤ 200) (ex2 : gx = x2) : (-1) * gx + (1 * x2 + 0) ≤ 0 := by
  try simp only [Int.add_zero] at *
  first
    | omega
    | (have h := ‹SGR _ _›.1; omega)
    | (have h := ‹LSA _ _ _ _ _ _ _ _ _ _›.2.1; have h2 := ‹LSA _ _ _ _ _ _ _ _ _ _›.2.2.1 0 (by omega) (by omega); omega)
set_option maxHeartbeats 4000000 in
theorem vc_Mo_layers_4_2 (x2 : Int) (apartMany_0 : Int) (gx : Int) (k2 : 0 ≤ x2 ∧ x2 ≤ 47) (f16 : apartMany_0 = x2) (kz_0_81 : 0 ≤ apartMany_0 ∧ apartMany_0 ≤ 200) (ex2 : gx = x2) : apartMany_0 = gx := by
  try simp only [Int.add_zero] at *
  first
    | omega
    | (have h := ‹SGR _ _›.1; omega)
    | (have h := ‹LSA _ _ _ _ _ _ _ _ _ _›.2.1; have h2 := ‹LSA _ _ _ _ _ _ _ _ _ _›.2.2.1 0 (by omega) (by omega); omega)
set_option maxHeartbeats 4000000 in
theorem vc_Mo_layers_4_3 (all_0 : Int → Int) (turned_0 : Int → Int) (r_0 : Int) (apartMany_0 : Int) (costMany_0 : Int) (costA_0 : Int → Int) (costB_0 : Int → Int) (costW_0 : Int → Int) (costPlain_0 : Int → Int) (apartA_0 : Int → Int) (apartB_0 : Int → Int) (apart_0 : Int → Int) (f18 : LCP (r_0) (costMany_0) (apartMany_0) (all_0) (turned_0) (costA_0) (costB_0) (costW_0) (costPlain_0) (apartA_0) (apartB_0) (apart_0)) (kz_0_80 : 0 ≤ costMany_0 ∧ costMany_0 ≤ 200) (kz_0_81 : 0 ≤ apartMany_0 ∧ apartMany_0 ≤ 200) : LCP (r_0) (costMany_0) (apartMany_0) (all_0) (turned_0) (costA_0) (costB_0) (costW_0) (costPlain_0) (apartA_0) (apartB_0) (apart_0) := by
  assumption
set_option maxHeartbeats 4000000 in
theorem vc_Mo_layers_4_4 (x2 : Int) (x9 : Int) (all_0 : Int → Int) (turned_0 : Int → Int) (r_0 : Int) (gx : Int) (k2 : 0 ≤ x2 ∧ x2 ≤ 47) (k9 : 0 ≤ x9 ∧ x9 ≤ 23) (f1 : FRO (r_0) (all_0) (turned_0) (x2) (x9)) (ex2 : gx = x2) : FRO (r_0) (all_0) (turned_0) (gx) (x9) := by
  rw [ex2]; assumption
set_option maxHeartbeats 4000000 in
theorem vc_Mo_layers_4_5 (x2 : Int) (x10 : Int) (all_0 : Int → Int) (turned_0 : Int → Int) (r_0 : Int) (gx : Int) (k2 : 0 ≤ x2 ∧ x2 ≤ 47) (k10 : 0 ≤ x10 ∧ x10 ≤ 23) (f0 : TOO (r_0) (all_0) (turned_0) (x2) (x10)) (ex2 : gx = x2) : TOO (r_0) (all_0) (turned_0) (gx) (x10) := by
  rw [ex2]; assumption
set_option maxHeartbeats 4000000 in
theorem vc_Mo_layers_4_6 (x11 : Int) (k11 : 1 ≤ x11 ∧ x11 ≤ 1) : x11 = 1 := by
  try simp only [Int.add_zero] at *
  first
    | omega
    | (have h := ‹SGR _ _›.1; omega)
    | (have h := ‹LSA _ _ _ _ _ _ _ _ _ _›.2.1; have h2 := ‹LSA _ _ _ _ _ _ _ _ _ _›.2.2.1 0 (by omega) (by omega); omega)
def o_Mo_layers_4 : or_T := (64, 12, [(0, (2, 0, 0, [165])), (2, (0, 0, 47, [])), (9, (0, 0, 23, [])), (10, (0, 0, 23, [])), (11, (0, 1, 1, []))], [(20, [0, 2, 10], [60, 1, 2, 433, 5, 2, 95]), (20, [0, 2, 9], [60, 1, 2, 432, 5, 2, 95]), (20, [0, 2], [50, 1, 0, 81, 1, 3, 2, 0, 81, 1, 1]), (20, [0], [60, 3, 9, 434, 5, 80, 81, 2, 95, 83, 84, 85, 86, 87, 88, 89])], [], [(0, 0, 199, [])], [(23, [12, 2], [0, 1, -1]), (23, [12, 2], [0, -1, 1]), (20, [0, 12], [50, 1, 0, 81, 1, 3, 2, 0, 81, 1, 1]), (20, [0], [60, 3, 9, 434, 5, 80, 81, 2, 95, 83, 84, 85, 86, 87, 88, 89]), (20, [0, 12, 9], [60, 1, 2, 432, 5, 2, 95]), (20, [0, 12, 10], [60, 1, 2, 433, 5, 2, 95]), (20, [11], [50, 0, 0, 1, 2, 1, 0, 0, 1])], [], [(2, 3, -4294967296, -1)])
theorem oo_Mo_layers_4 {kA : Nat → ClassId} : or_ok PRD kA GG o_Mo_layers_4 := by
  refine or_mk fun A ta ws vs hD hth hl => ?_
  intro t0 r0 t2 k2 t9 k9 t10 k10 t11 k11 d0 f0 f1 f16 f18
  replace f0 := shm_503 f0
  replace f1 := shm_502 f1
  replace f16 := shm_493 f16
  replace f18 := shm_501 f18
  have kz_0_80 := fdq_130 hD hth r0
  have kz_0_81 := fdq_123 hD hth r0
  obtain ⟨x, ex, hx⟩ := iv_ex (ta := ta) (lo := 0) (hi := 199) (z := v_iv (n_v vs 2)) (by omega) (by omega) (by omega) (by omega)
  have ex2 : v_iv (Value.int x) = v_iv (n_v vs 2) := ex
  have ex3 : 0 ≤ v_iv (Value.int x) ∧ v_iv (Value.int x) ≤ 199 := tv_rng hx
  have e_0 : n_v (vs ++ [Value.int x]) 0 = n_v vs 0 := n_v_old (by rw [hl]; decide)
  have e_2 : n_v (vs ++ [Value.int x]) 2 = n_v vs 2 := n_v_old (by rw [hl]; decide)
  have e_9 : n_v (vs ++ [Value.int x]) 9 = n_v vs 9 := n_v_old (by rw [hl]; decide)
  have e_10 : n_v (vs ++ [Value.int x]) 10 = n_v vs 10 := n_v_old (by rw [hl]; decide)
  have e_11 : n_v (vs ++ [Value.int x]) 11 = n_v vs 11 := n_v_old (by rw [hl]; decide)
  have e_12 : n_v (vs ++ [Value.int x]) 12 = Value.int x := n_v_new hl
  have nf0 : fc_1 PRD (23, [12, 2], [0, 1, -1]) ws (vs ++ [Value.int x]) := by
    refine ⟨nf_inA hl rfl, sgq_7 ?_⟩
    · show 1 * v_iv (n_v (vs ++ [Value.int x]) 12) + ((-1) * v_iv (n_v (vs ++ [Value.int x]) 2) + 0) ≤ 0
      simp only [e_2, e_12]
      exact vc_Mo_layers_4_0 (v_iv (n_v vs 2)) (w_fi ws (n_v vs 0) 81) (v_iv (Value.int x)) k2 f16 kz_0_81 ex2
  have nf1 : fc_1 PRD (23, [12, 2], [0, -1, 1]) ws (vs ++ [Value.int x]) := by
    refine ⟨nf_inA hl rfl, sgq_22 ?_⟩
    · show (-1) * v_iv (n_v (vs ++ [Value.int x]) 12) + (1 * v_iv (n_v (vs ++ [Value.int x]) 2) + 0) ≤ 0
      simp only [e_2, e_12]
      exact vc_Mo_layers_4_1 (v_iv (n_v vs 2)) (w_fi ws (n_v vs 0) 81) (v_iv (Value.int x)) k2 f16 kz_0_81 ex2
  have nf2 : fc_1 PRD (20, [0, 12], [50, 1, 0, 81, 1, 3, 2, 0, 81, 1, 1]) ws (vs ++ [Value.int x]) := by
    refine ⟨nf_inA hl rfl, sgq_493 ?_⟩
    · show w_fi ws (n_v (vs ++ [Value.int x]) 0) 81 = v_iv (n_v (vs ++ [Value.int x]) 12)
      simp only [e_0, e_12]
      exact vc_Mo_layers_4_2 (v_iv (n_v vs 2)) (w_fi ws (n_v vs 0) 81) (v_iv (Value.int x)) k2 f16 kz_0_81 ex2
  have nf3 : fc_1 PRD (20, [0], [60, 3, 9, 434, 5, 80, 81, 2, 95, 83, 84, 85, 86, 87, 88, 89]) ws (vs ++ [Value.int x]) := by
    refine ⟨nf_inA hl rfl, sgq_501 ?_⟩
    · show LCP (w_fi ws (n_v (vs ++ [Value.int x]) 0) 5) (w_fi ws (n_v (vs ++ [Value.int x]) 0) 80) (w_fi ws (n_v (vs ++ [Value.int x]) 0) 81) (w_ei ws (w_ar ws (n_v (vs ++ [Value.int x]) 0) 2)) (w_ei ws (w_ar ws (n_v (vs ++ [Value.int x]) 0) 95)) (w_ei ws (w_ar ws (n_v (vs ++ [Value.int x]) 0) 83)) (w_ei ws (w_ar ws (n_v (vs ++ [Value.int x]) 0) 84)) (w_ei ws (w_ar ws (n_v (vs ++ [Value.int x]) 0) 85)) (w_ei ws (w_ar ws (n_v (vs ++ [Value.int x]) 0) 86)) (w_ei ws (w_ar ws (n_v (vs ++ [Value.int x]) 0) 87)) (w_ei ws (w_ar ws (n_v (vs ++ [Value.int x]) 0) 88)) (w_ei ws (w_ar ws (n_v (vs ++ [Value.int x]) 0) 89))
      rw [e_0]
      exact vc_Mo_layers_4_3 (w_ei ws (w_ar ws (n_v vs 0) 2)) (w_ei ws (w_ar ws (n_v vs 0) 95)) (w_fi ws (n_v vs 0) 5) (w_fi ws (n_v vs 0) 81) (w_fi ws (n_v vs 0) 80) (w_ei ws (w_ar ws (n_v vs 0) 83)) (w_ei ws (w_ar ws (n_v vs 0) 84)) (w_ei ws (w_ar ws (n_v vs 0) 85)) (w_ei ws (w_ar ws (n_v vs 0) 86)) (w_ei ws (w_ar ws (n_v vs 0) 87)) (w_ei ws (w_ar ws (n_v vs 0) 88)) (w_ei ws (w_ar ws (n_v vs 0) 89)) f18 kz_0_80 kz_0_81
  have nf4 : fc_1 PRD (20, [0, 12, 9], [60, 1, 2, 432, 5, 2, 95]) ws (vs ++ [Value.int x]) := by
    refine ⟨nf_inA hl rfl, sgq_502 ?_⟩
    · show FRO (w_fi ws (n_v (vs ++ [Value.int x]) 0) 5) (w_ei ws (w_ar ws (n_v (vs ++ [Value.int x]) 0) 2)) (w_ei ws (w_ar ws (n_v (vs ++ [Value.int x]) 0) 95)) (v_iv (n_v (vs ++ [Value.int x]) 12)) (v_iv (n_v (vs ++ [Value.int x]) 9))
      simp only [e_0, e_9, e_12]
      exact vc_Mo_layers_4_4 (v_iv (n_v vs 2)) (v_iv (n_v vs 9)) (w_ei ws (w_ar ws (n_v vs 0) 2)) (w_ei ws (w_ar ws (n_v vs 0) 95)) (w_fi ws (n_v vs 0) 5) (v_iv (Value.int x)) k2 k9 f1 ex2
  have nf5 : fc_1 PRD (20, [0, 12, 10], [60, 1, 2, 433, 5, 2, 95]) ws (vs ++ [Value.int x]) := by
    refine ⟨nf_inA hl rfl, sgq_503 ?_⟩
    · show TOO (w_fi ws (n_v (vs ++ [Value.int x]) 0) 5) (w_ei ws (w_ar ws (n_v (vs ++ [Value.int x]) 0) 2)) (w_ei ws (w_ar ws (n_v (vs ++ [Value.int x]) 0) 95)) (v_iv (n_v (vs ++ [Value.int x]) 12)) (v_iv (n_v (vs ++ [Value.int x]) 10))
      simp only [e_0, e_10, e_12]
      exact vc_Mo_layers_4_5 (v_iv (n_v vs 2)) (v_iv (n_v vs 10)) (w_ei ws (w_ar ws (n_v vs 0) 2)) (w_ei ws (w_ar ws (n_v vs 0) 95)) (w_fi ws (n_v vs 0) 5) (v_iv (Value.int x)) k2 k10 f0 ex2
  have nf6 : fc_1 PRD (20, [11], [50, 0, 0, 1, 2, 1, 0, 0, 1]) ws (vs ++ [Value.int x]) := by
    refine ⟨nf_inA hl rfl, sgq_504 ?_⟩
    · show v_iv (n_v (vs ++ [Value.int x]) 11) = 1
      rw [e_11]
      exact vc_Mo_layers_4_6 (v_iv (n_v vs 11)) k11
  exact ⟨(fun _ h => (by cases h)), [Value.int x], ag_one hx, List.forall_mem_cons.mpr ⟨⟨show (23 : Nat) < 100 from by decide, nf0⟩, List.forall_mem_cons.mpr ⟨⟨show (23 : Nat) < 100 from by decide, nf1⟩, List.forall_mem_cons.mpr ⟨⟨show (20 : Nat) < 100 from by decide, nf2⟩, List.forall_mem_cons.mpr ⟨⟨show (20 : Nat) < 100 from by decide, nf3⟩, List.forall_mem_cons.mpr ⟨⟨show (20 : Nat) < 100 from by decide, nf4⟩, List.forall_mem_cons.mpr ⟨⟨show (20 : Nat) < 100 from by decide, nf5⟩, List.forall_mem_cons.mpr ⟨⟨show (20 : Nat) < 100 from by decide, nf6⟩, (fun _ h => (by cases h))⟩⟩⟩⟩⟩⟩⟩, (fun _ h => (by cases h))⟩
set_option maxHeartbeats 4000000 in
theorem vc_Mo_layers_5_0 (x2 : Int) (x3 : Int) (x12 : Int) (x13 : Int) (all_0 : Int → Int) (r_0 : Int) (apartMany_0 : Int) (k2 : 0 ≤ x2 ∧ x2 ≤ 47) (k3 : 1 ≤ x3 ∧ x3 ≤ 48) (k12 : 0 ≤ x12 ∧ x12 ≤ 199) (k13 : 1 ≤ x13 ∧ x13 ≤ 48) (d0 : x2 + 1 ≤ x13 ∧ x13 ≤ x2 + 1) (d2 : x3 + (-4294967296) ≤ x2 ∧ x2 ≤ x3 + (-1)) (f1 : 1 * x12 + ((-1) * x2 + 0) ≤ 0) (f2 : (-1) * x12 + (1 * x2 + 0) ≤ 0) (f14 : 1 * x3 + ((-1) * all_0 (r_0 + 1) + 0) ≤ 0) (f15 : (-1) * x3 + (1 * all_0 (r_0 + 1) + 0) ≤ 0) (f23 : apartMany_0 = (x12 + 1)) (kz_0_81 : 0 ≤ apartMany_0 ∧ apartMany_0 ≤ 200) : x13 ≤ all_0 ((r_0 + 1)) := by
  try simp only [Int.add_zero] at *
  first
    | omega
    | (have h := ‹SGR _ _›.1; omega)
    | (have h := ‹LSA _ _ _ _ _ _ _ _ _ _›.2.1; have h2 := ‹LSA _ _ _ _ _ _ _ _ _ _›.2.2.1 0 (by omega) (by omega); omega)
set_option maxHeartbeats 4000000 in
theorem vc_Mo_layers_5_1 (x2 : Int) (x8 : Int) (x12 : Int) (x13 : Int) (costMany_0 : Int) (apartMany_0 : Int) (k2 : 0 ≤ x2 ∧ x2 ≤ 47) (k8 : 0 ≤ x8 ∧ x8 ≤ 199) (k12 : 0 ≤ x12 ∧ x12 ≤ 199) (k13 : 1 ≤ x13 ∧ x13 ≤ 48) (d0 : x2 + 1 ≤ x13 ∧ x13 ≤ x2 + 1) (f1 : 1 * x12 + ((-1) * x2 + 0) ≤ 0) (f2 : (-1) * x12 + (1 * x2 + 0) ≤ 0) (f8 : 1 * x8 + ((-1) * x2 + 0) ≤ 0) (f9 : (-1) * x8 + (1 * x2 + 0) ≤ 0) (f22 : costMany_0 = (x8 + 1)) (f23 : apartMany_0 = (x12 + 1)) (kz_0_80 : 0 ≤ costMany_0 ∧ costMany_0 ≤ 200) (kz_0_81 : 0 ≤ apartMany_0 ∧ apartMany_0 ≤ 200) : costMany_0 = x13 := by
  try simp only [Int.add_zero] at *
  first
    | omega
    | (have h := ‹SGR _ _›.1; omega)
    | (have h := ‹LSA _ _ _ _ _ _ _ _ _ _›.2.1; have h2 := ‹LSA _ _ _ _ _ _ _ _ _ _›.2.2.1 0 (by omega) (by omega); omega)
set_option maxHeartbeats 4000000 in
theorem vc_Mo_layers_5_2 (x2 : Int) (x12 : Int) (x13 : Int) (apartMany_0 : Int) (k2 : 0 ≤ x2 ∧ x2 ≤ 47) (k12 : 0 ≤ x12 ∧ x12 ≤ 199) (k13 : 1 ≤ x13 ∧ x13 ≤ 48) (d0 : x2 + 1 ≤ x13 ∧ x13 ≤ x2 + 1) (f1 : 1 * x12 + ((-1) * x2 + 0) ≤ 0) (f2 : (-1) * x12 + (1 * x2 + 0) ≤ 0) (f23 : apartMany_0 = (x12 + 1)) (kz_0_81 : 0 ≤ apartMany_0 ∧ apartMany_0 ≤ 200) : apartMany_0 = x13 := by
  try simp only [Int.add_zero] at *
  first
    | omega
    | (have h := ‹SGR _ _›.1; omega)
    | (have h := ‹LSA _ _ _ _ _ _ _ _ _ _›.2.1; have h2 := ‹LSA _ _ _ _ _ _ _ _ _ _›.2.2.1 0 (by omega) (by omega); omega)
def o_Mo_layers_5 : or_T := (24, 14, [(0, (2, 0, 0, [165])), (2, (0, 0, 47, [])), (3, (0, 1, 48, [])), (8, (0, 0, 199, [])), (12, (0, 0, 199, [])), (13, (0, 1, 48, []))], [(23, [12, 2], [0, 1, -1]), (23, [12, 2], [0, -1, 1]), (23, [8, 2], [0, 1, -1]), (23, [8, 2], [0, -1, 1]), (20, [3, 0], [30, 0, 1, 0, 0, -1, 3, 2005001]), (20, [3, 0], [30, 0, -1, 0, 0, 1, 3, 2005001]), (20, [0, 8], [50, 1, 0, 80, 1, 3, 2, 0, 80, 4, 2, 1, 1, 0, 1]), (20, [0, 12], [50, 1, 0, 81, 1, 3, 2, 0, 81, 4, 2, 1, 1, 0, 1])], [], [], [(20, [13, 0], [50, 1, 1, 1005, 1002, 0, 2, 1, 0, 3, 1, 2, 4, 3, 2, 1, 5, 0, 1]), (20, [0, 13], [50, 1, 0, 80, 1, 3, 2, 0, 80, 1, 1]), (20, [0, 13], [50, 1, 0, 81, 1, 3, 2, 0, 81, 1, 1])], [], [(13, 2, 1, 1), (2, 3, -4294967296, -1)])
theorem oo_Mo_layers_5 {kA : Nat → ClassId} : or_ok PRD kA GG o_Mo_layers_5 := by
  refine or_mk fun A ta ws vs hD hth hl => ?_
  intro t0 r0 t2 k2 t3 k3 t8 k8 t12 k12 t13 k13 d0 d2 f1 f2 f8 f9 f14 f15 f22 f23
  have kz_0_80 := fdq_130 hD hth r0
  have kz_0_81 := fdq_123 hD hth r0
  have nf0 : fc_1 PRD (20, [13, 0], [50, 1, 1, 1005, 1002, 0, 2, 1, 0, 3, 1, 2, 4, 3, 2, 1, 5, 0, 1]) ws (vs) := ⟨nf_in hl rfl, sgq_1644 (vc_Mo_layers_5_0 (v_iv (n_v vs 2)) (v_iv (n_v vs 3)) (v_iv (n_v vs 12)) (v_iv (n_v vs 13)) (w_ei ws (w_ar ws (n_v vs 0) 2)) (w_fi ws (n_v vs 0) 5) (w_fi ws (n_v vs 0) 81) k2 k3 k12 k13 d0 d2 (shm_7 f1) (shm_22 f2) (shm_130 f14) (shm_131 f15) (shm_499 f23) kz_0_81)⟩
  have nf1 : fc_1 PRD (20, [0, 13], [50, 1, 0, 80, 1, 3, 2, 0, 80, 1, 1]) ws (vs) := ⟨nf_in hl rfl, sgq_549 (vc_Mo_layers_5_1 (v_iv (n_v vs 2)) (v_iv (n_v vs 8)) (v_iv (n_v vs 12)) (v_iv (n_v vs 13)) (w_fi ws (n_v vs 0) 80) (w_fi ws (n_v vs 0) 81) k2 k8 k12 k13 d0 (shm_7 f1) (shm_22 f2) (shm_7 f8) (shm_22 f9) (shm_555 f22) (shm_499 f23) kz_0_80 kz_0_81)⟩
  have nf2 : fc_1 PRD (20, [0, 13], [50, 1, 0, 81, 1, 3, 2, 0, 81, 1, 1]) ws (vs) := ⟨nf_in hl rfl, sgq_493 (vc_Mo_layers_5_2 (v_iv (n_v vs 2)) (v_iv (n_v vs 12)) (v_iv (n_v vs 13)) (w_fi ws (n_v vs 0) 81) k2 k12 k13 d0 (shm_7 f1) (shm_22 f2) (shm_499 f23) kz_0_81)⟩
  refine ⟨(fun _ h => (by cases h)), [], trivial, ?_, (fun _ h => (by cases h))⟩
  rw [List.append_nil]
  exact List.forall_mem_cons.mpr ⟨⟨show (20 : Nat) < 100 from by decide, nf0⟩, List.forall_mem_cons.mpr ⟨⟨show (20 : Nat) < 100 from by decide, nf1⟩, List.forall_mem_cons.mpr ⟨⟨show (20 : Nat) < 100 from by decide, nf2⟩, (fun _ h => (by cases h))⟩⟩⟩
set_option maxHeartbeats 4000000 in
theorem vc_Mo_layers_6_0 (x5 : Int) (x6 : Int) (all_0 : Int → Int) (r_0 : Int) (k6 : 0 ≤ x6 ∧ x6 ≤ 0) (f2 : SGR (r_0) (all_0)) : x6 ≤ all_0 ((r_0 + 1)) := by
  try simp only [Int.add_zero] at *
  first
    | omega
    | (have h := ‹SGR _ _›.1; omega)
    | (have h := lyp_d (e := x5) (a := x10) (b := x8) (ya := x11) (yb := x9) ‹LYP _ _ _ _› (by omega) (by omega) (by assumption) (by assumption) (by assumption) (by assumption)
       have q := Int.mul_le_mul (show x16 ≤ 9 by omega) (show x12 ≤ 23 by omega) (by omega) (by omega)
       have q0 := Int.mul_nonneg (show 0 ≤ x16 by omega) (show 0 ≤ x12 by omega)
       omega)
set_option maxHeartbeats 4000000 in
theorem vc_Mo_layers_6_1 (x2 : Int) (x5 : Int) (all_0 : Int → Int) (r_0 : Int) (spot_0 : Int → Int) (itemLayer_0 : Int → Int) (k2 : 0 ≤ x2 ∧ x2 ≤ 24) (k5 : 0 ≤ x5 ∧ x5 ≤ 24) (d0 : x2 + 0 ≤ x5 ∧ x5 ≤ x2 + 4294967296) (d1 : x2 + (-4294967296) ≤ x5 ∧ x5 ≤ x2 + 0) (f0 : x2 ≤ x5) (f5 : ILE (itemLayer_0) (spot_0) (x5)) (f6 : x2 = all_0 (r_0)) : ILX (r_0) (all_0) (itemLayer_0) (spot_0) := by
  try simp only [Int.add_zero] at *
  first
    | assumption
    | exact fun j a b => ‹ILE _ _ _› j a (by omega)
set_option maxHeartbeats 4000000 in
theorem vc_Mo_layers_6_2 (x3 : Int) (x6 : Int) (all_0 : Int → Int) (r_0 : Int) (turned_0 : Int → Int) (spot_0 : Int → Int) (k3 : 0 ≤ x3 ∧ x3 ≤ 0) (k6 : 0 ≤ x6 ∧ x6 ≤ 0) : JNT (r_0) (all_0) (turned_0) (spot_0) (x6) (x3) := by
  first
    | exact jnt_zero (by omega) (by omega)
    | exact jnt_step (a := x10) (b := x8) (ya := x11) (yb := x9) (d := x12) ‹JNT _ _ _ _ _ _› (by omega) (by assumption) (by assumption) (by assumption) (by assumption) (by assumption) (by assumption) (by omega)
set_option maxHeartbeats 4000000 in
theorem vc_Mo_layers_6_3 (x3 : Int) (x5 : Int) (x6 : Int) (k3 : 0 ≤ x3 ∧ x3 ≤ 0) (k6 : 0 ≤ x6 ∧ x6 ≤ 0) : (0 ≤ x3) ∧ (x3 ≤ (22 * x6)) := by
  try simp only [Int.add_zero] at *
  first
    | omega
    | (have h := ‹SGR _ _›.1; omega)
    | (have h := lyp_d (e := x5) (a := x10) (b := x8) (ya := x11) (yb := x9) ‹LYP _ _ _ _› (by omega) (by omega) (by assumption) (by assumption) (by assumption) (by assumption)
       have q := Int.mul_le_mul (show x16 ≤ 9 by omega) (show x12 ≤ 23 by omega) (by omega) (by omega)
       have q0 := Int.mul_nonneg (show 0 ≤ x16 by omega) (show 0 ≤ x12 by omega)
       omega)
set_option maxHeartbeats 4000000 in
theorem vc_Mo_layers_6_4 (x4 : Int) (x5 : Int) (x6 : Int) (k4 : 0 ≤ x4 ∧ x4 ≤ 0) (k6 : 0 ≤ x6 ∧ x6 ≤ 0) : (0 ≤ x4) ∧ (x4 ≤ (207 * x6)) := by
  try simp only [Int.add_zero] at *
  first
    | omega
    | (have h := ‹SGR _ _›.1; omega)
    | (have h := lyp_d (e := x5) (a := x10) (b := x8) (ya := x11) (yb := x9) ‹LYP _ _ _ _› (by omega) (by omega) (by assumption) (by assumption) (by assumption) (by assumption)
       have q := Int.mul_le_mul (show x16 ≤ 9 by omega) (show x12 ≤ 23 by omega) (by omega) (by omega)
       have q0 := Int.mul_nonneg (show 0 ≤ x16 by omega) (show 0 ≤ x12 by omega)
       omega)
def o_Mo_layers_6 : or_T := (119, 7, [(2, (0, 0, 24, [])), (3, (0, 0, 0, [])), (4, (0, 0, 0, [])), (5, (0, 0, 24, [])), (6, (0, 0, 0, []))], [(7, [5, 2], [3]), (20, [0], [60, 1, 1, 197, 5, 2]), (20, [0, 5], [60, 0, 2, 436, 102, 82]), (20, [2, 0], [50, 1, 1, 1005, 1002, 1, 2, 1, 0, 3, 1, 2, 2, 1, 5])], [], [], [(20, [6, 0], [50, 1, 1, 1005, 1002, 0, 2, 1, 0, 3, 1, 2, 4, 3, 2, 1, 5, 0, 1]), (20, [0], [60, 1, 3, 492, 5, 2, 102, 82]), (20, [0, 6, 3], [60, 1, 3, 437, 5, 2, 95, 82]), (20, [3, 6], [50, 0, 0, 2, 6, 0, 2, 0, 0, 1, 0, 0, 2, 1, 0, 6, 2, 0, 22, 1, 1]), (20, [4, 6], [50, 0, 0, 2, 6, 0, 2, 0, 0, 1, 0, 0, 2, 1, 0, 6, 2, 0, 207, 1, 1])], [], [(5, 2, 0, 4294967296), (5, 2, -4294967296, 0)])
theorem oo_Mo_layers_6 {kA : Nat → ClassId} : or_ok PRD kA GG o_Mo_layers_6 := by
  refine or_mk fun A ta ws vs hD hth hl => ?_
  intro t2 k2 t3 k3 t4 k4 t5 k5 t6 k6 d0 d1 f0 f2 f5 f6
  have nf0 : fc_1 PRD (20, [6, 0], [50, 1, 1, 1005, 1002, 0, 2, 1, 0, 3, 1, 2, 4, 3, 2, 1, 5, 0, 1]) ws (vs) := ⟨nf_in hl rfl, sgq_1644 (vc_Mo_layers_6_0 (v_iv (n_v vs 5)) (v_iv (n_v vs 6)) (w_ei ws (w_ar ws (n_v vs 0) 2)) (w_fi ws (n_v vs 0) 5) k6 (shm_1403 f2))⟩
  have nf1 : fc_1 PRD (20, [0], [60, 1, 3, 492, 5, 2, 102, 82]) ws (vs) := ⟨nf_in hl rfl, sgq_2064 (vc_Mo_layers_6_1 (v_iv (n_v vs 2)) (v_iv (n_v vs 5)) (w_ei ws (w_ar ws (n_v vs 0) 2)) (w_fi ws (n_v vs 0) 5) (w_ei ws (w_ar ws (n_v vs 0) 82)) (w_ei ws (w_ar ws (n_v vs 0) 102)) k2 k5 d0 d1 (shm_2 f0) (shm_2063 f5) (shm_1518 f6))⟩
  have nf2 : fc_1 PRD (20, [0, 6, 3], [60, 1, 3, 437, 5, 2, 95, 82]) ws (vs) := ⟨nf_in hl rfl, sgq_2065 (vc_Mo_layers_6_2 (v_iv (n_v vs 3)) (v_iv (n_v vs 6)) (w_ei ws (w_ar ws (n_v vs 0) 2)) (w_fi ws (n_v vs 0) 5) (w_ei ws (w_ar ws (n_v vs 0) 95)) (w_ei ws (w_ar ws (n_v vs 0) 82)) k3 k6)⟩
  have nf3 : fc_1 PRD (20, [3, 6], [50, 0, 0, 2, 6, 0, 2, 0, 0, 1, 0, 0, 2, 1, 0, 6, 2, 0, 22, 1, 1]) ws (vs) := ⟨nf_in hl rfl, sgq_2066 (vc_Mo_layers_6_3 (v_iv (n_v vs 3)) (v_iv (n_v vs 5)) (v_iv (n_v vs 6)) k3 k6)⟩
  have nf4 : fc_1 PRD (20, [4, 6], [50, 0, 0, 2, 6, 0, 2, 0, 0, 1, 0, 0, 2, 1, 0, 6, 2, 0, 207, 1, 1]) ws (vs) := ⟨nf_in hl rfl, sgq_2067 (vc_Mo_layers_6_4 (v_iv (n_v vs 4)) (v_iv (n_v vs 5)) (v_iv (n_v vs 6)) k4 k6)⟩
  refine ⟨(fun _ h => (by cases h)), [], trivial, ?_, (fun _ h => (by cases h))⟩
  rw [List.append_nil]
  exact List.forall_mem_cons.mpr ⟨⟨show (20 : Nat) < 100 from by decide, nf0⟩, List.forall_mem_cons.mpr ⟨⟨show (20 : Nat) < 100 from by decide, nf1⟩, List.forall_mem_cons.mpr ⟨⟨show (20 : Nat) < 100 from by decide, nf2⟩, List.forall_mem_cons.mpr ⟨⟨show (20 : Nat) < 100 from by decide, nf3⟩, List.forall_mem_cons.mpr ⟨⟨show (20 : Nat) < 100 from by decide, nf4⟩, (fun _ h => (by cases h))⟩⟩⟩⟩⟩
set_option maxHeartbeats 4000000 in
theorem vc_Mo_layers_7_r0 (x2 : Int) (x5 : Int) (x8 : Int) (spot_0 : Int → Int) (all_0 : Int → Int) (r_0 : Int) (turned_0 : Int → Int) (k2 : 1 ≤ x2 ∧ x2 ≤ 24) (k5 : 0 ≤ x5 ∧ x5 ≤ 23) (k8 : 0 ≤ x8 ∧ x8 ≤ 221100000) (d0 : x2 + (-4294967296) ≤ x5 ∧ x5 ≤ x2 + (-1)) (h0 : x8 = spot_0 (x5)) (f7 : LYP (r_0) (all_0) (turned_0) (spot_0)) (f9 : x2 = all_0 (r_0)) : 0 ≤ x8 ∧ x8 ≤ 23 := by
  have h := ‹LYP _ _ _ _›.2.1 x5 (by omega) (by omega)
  omega
def o_Mo_layers_7 : or_T := (109, 9, [(0, (2, 0, 0, [165])), (2, (0, 1, 24, [])), (5, (0, 0, 23, [])), (6, (2, 0, 0, [235])), (7, (2, 0, 0, [219])), (8, (0, 0, 221100000, []))], [(10, [8, 7, 5], []), (9, [7, 0], [82]), (9, [6, 0], [102]), (7, [5, 2], [2]), (20, [0], [60, 0, 3, 367, 110, 111, 112]), (20, [0], [60, 1, 1, 197, 5, 2]), (20, [0], [50, 1, 1, 5, 2, 0, 2, 0, 1, 3, 0, 2, 2, 0, 5]), (20, [0], [60, 1, 3, 435, 5, 2, 95, 82]), (20, [0, 5], [60, 0, 2, 436, 102, 82]), (20, [2, 0], [50, 1, 1, 1005, 1002, 1, 2, 1, 0, 3, 1, 2, 2, 1, 5])], [(8, (0, 0, 23, []))], [], [], [], [(5, 2, -4294967296, -1), (5, 2, -4294967296, 0)])
theorem oo_Mo_layers_7 {kA : Nat → ClassId} : or_ok PRD kA GG o_Mo_layers_7 := by
  refine or_mk fun A ta ws vs hD hth hl => ?_
  intro t0 r0 t2 k2 t5 k5 t6 r6 t7 r7 t8 k8 d0 d1 f0 f1 f2 f3 f4 f5 f6 f7 f8 f9
  replace f0 := shm_106 f0
  replace f1 := shm_1134 f1
  have ad_7 : v_ad (n_v vs 7) = w_ar ws (n_v vs 0) 82 := congrArg v_ad f1
  simp only [ad_7] at f0
  have h0 : v_iv (n_v vs 8) = w_ei ws (w_ar ws (n_v vs 0) 82) (v_iv (n_v vs 5)) := f0
  have hrf0 : 0 ≤ v_iv (n_v vs 8) ∧ v_iv (n_v vs 8) ≤ 23 := vc_Mo_layers_7_r0 (v_iv (n_v vs 2)) (v_iv (n_v vs 5)) (v_iv (n_v vs 8)) (w_ei ws (w_ar ws (n_v vs 0) 82)) (w_ei ws (w_ar ws (n_v vs 0) 2)) (w_fi ws (n_v vs 0) 5) (w_ei ws (w_ar ws (n_v vs 0) 95)) k2 k5 k8 d0 h0 (shm_2062 f7) (shm_1518 f9)
  have rf8 : tv_ok ta (0, 0, 23, []) (n_v vs 8) := tv_in t8 (by first | omega | grind) (by first | omega | grind)
  refine ⟨List.forall_mem_cons.mpr ⟨rf8, (fun _ h => (by cases h))⟩, [], trivial, ?_, (fun _ h => (by cases h))⟩
  rw [List.append_nil]
  exact (fun _ h => (by cases h))
set_option maxHeartbeats 4000000 in
theorem vc_Mo_layers_8_0 (x5 : Int) (x8 : Int) (x9 : Int) (permBegin_0 : Int → Int) (permMany_0 : Int → Int) (perm_0 : Int → Int) (all_0 : Int → Int) (r_0 : Int) (turned_0 : Int → Int) (spot_0 : Int → Int) (spot_1 : Int → Int) (permBegin_1 : Int → Int) (permMany_1 : Int → Int) (perm_1 : Int → Int) (all_1 : Int → Int) (r_1 : Int) (turned_1 : Int → Int) (itemLayer_1 : Int → Int) (itemLayer_0 : Int → Int) (k5 : 0 ≤ x5 ∧ x5 ≤ 23) (k8 : 0 ≤ x8 ∧ x8 ≤ 23) (k9 : 1 ≤ x9 ∧ x9 ≤ 24) (f0 : x9 = x5 + 1) (h7 : x8 = spot_1 (x5)) (f15 : ILE (itemLayer_1) (spot_1) (x5)) (fe_0_5_1 : r_0 = r_1) (hE_0_2_1 : ∀ j : Int, all_0 j = all_1 j) (hE_0_82_1 : ∀ j : Int, spot_0 j = spot_1 j) (hE_0_95_1 : ∀ j : Int, turned_0 j = turned_1 j) (hE_0_102_1 : ∀ j : Int, 0 ≤ j → (j = x5 → itemLayer_0 j = x8) ∧ (j ≠ x5 → itemLayer_0 j = itemLayer_1 j)) (hE_0_110_1 : ∀ j : Int, permBegin_0 j = permBegin_1 j) (hE_0_111_1 : ∀ j : Int, permMany_0 j = permMany_1 j) (hE_0_112_1 : ∀ j : Int, perm_0 j = perm_1 j) : ILE (itemLayer_0) (spot_0) (x9) := by
  subst fe_0_5_1
  have e_hE_0_2_1 := funext hE_0_2_1; subst e_hE_0_2_1
  have e_hE_0_82_1 := funext hE_0_82_1; subst e_hE_0_82_1
  have e_hE_0_95_1 := funext hE_0_95_1; subst e_hE_0_95_1
  have e_hE_0_110_1 := funext hE_0_110_1; subst e_hE_0_110_1
  have e_hE_0_111_1 := funext hE_0_111_1; subst e_hE_0_111_1
  have e_hE_0_112_1 := funext hE_0_112_1; subst e_hE_0_112_1
  first
    | (intro j a b; exfalso; omega)
    | exact ile_step ‹ILE _ _ _› (by assumption) (by assumption) rfl (by assumption)
def o_Mo_layers_8 : or_T := (90, 10, [(0, (2, 0, 0, [165])), (5, (0, 0, 23, [])), (6, (2, 0, 0, [235])), (8, (0, 0, 23, [])), (9, (0, 1, 24, []))], [(6, [9, 5], [1]), (100, [6, 5, 8], []), (10, [8, 7, 5], []), (9, [7, 0], [82]), (9, [6, 0], [102]), (20, [0, 5], [60, 0, 2, 436, 102, 82])], [], [], [(20, [0, 9], [60, 0, 2, 436, 102, 82])], [], [(9, 5, 1, 1), (5, 2, -4294967296, -1), (5, 2, -4294967296, 0)])
theorem oo_Mo_layers_8 {kA : Nat → ClassId} : or_ok PRD kA GG o_Mo_layers_8 := by
  refine or_mk fun A ta ws vs hD hth hl => ?_
  intro t0 r0 t5 k5 t6 r6 t8 k8 t9 k9 d0 d3 d4 f0 ta1 w1 le1 s1 f7 f8 f9 f15
  have s1 : (∀ b j, w_el ws b j = if b = v_ad (n_v vs 6) ∧ j = (v_iv (n_v vs 5)).toNat then v_iv (n_v vs 8) else w_el w1 b j) ∧ ∀ b k, w_fd ws b k = w_fd w1 b k := s1.2
  replace f7 := shm_106 f7
  replace f8 := shm_1134 f8
  replace f9 := shm_660 f9
  replace f15 := shm_2063 f15
  have ar_0_2_1 : w_ar w1 (n_v vs 0) 2 = w_ar ws (n_v vs 0) 2 := congrArg v_ad (s1.2 _ _).symm
  have cr_0_2 := fdq_12 hD hth r0
  have ar_0_82_1 : w_ar w1 (n_v vs 0) 82 = w_ar ws (n_v vs 0) 82 := congrArg v_ad (s1.2 _ _).symm
  have cr_0_82 := fdq_225 hD hth r0
  have ar_0_95_1 : w_ar w1 (n_v vs 0) 95 = w_ar ws (n_v vs 0) 95 := congrArg v_ad (s1.2 _ _).symm
  have cr_0_95 := fdq_129 hD hth r0
  have ar_0_102_1 : w_ar w1 (n_v vs 0) 102 = w_ar ws (n_v vs 0) 102 := congrArg v_ad (s1.2 _ _).symm
  have ar_0_110_1 : w_ar w1 (n_v vs 0) 110 = w_ar ws (n_v vs 0) 110 := congrArg v_ad (s1.2 _ _).symm
  have cr_0_110 := fdq_183 hD hth r0
  have ar_0_111_1 : w_ar w1 (n_v vs 0) 111 = w_ar ws (n_v vs 0) 111 := congrArg v_ad (s1.2 _ _).symm
  have cr_0_111 := fdq_184 hD hth r0
  have ar_0_112_1 : w_ar w1 (n_v vs 0) 112 = w_ar ws (n_v vs 0) 112 := congrArg v_ad (s1.2 _ _).symm
  have cr_0_112 := fdq_185 hD hth r0
  have ad_7 : v_ad (n_v vs 7) = w_ar ws (n_v vs 0) 82 := (congrArg v_ad f8).trans ar_0_82_1
  have ad_6 : v_ad (n_v vs 6) = w_ar ws (n_v vs 0) 102 := (congrArg v_ad f9).trans ar_0_102_1
  simp only [ad_7] at f7
  have h7 : v_iv (n_v vs 8) = w_ei w1 (w_ar ws (n_v vs 0) 82) (v_iv (n_v vs 5)) := f7
  simp only [ar_0_110_1, ar_0_111_1, ar_0_112_1, ar_0_2_1, ar_0_82_1, ar_0_95_1, ar_0_102_1] at f15
  have fe_0_5_1 : w_fi ws (n_v vs 0) 5 = w_fi w1 (n_v vs 0) 5 := congrArg v_iv (s1.2 _ _)
  have hE_0_2_1 : ∀ j : Int, w_ei ws (w_ar ws (n_v vs 0) 2) j = w_ei w1 (w_ar ws (n_v vs 0) 2) j := el_kp s1.1 r6 cr_0_2 (by decide)
  have hE_0_82_1 : ∀ j : Int, w_ei ws (w_ar ws (n_v vs 0) 82) j = w_ei w1 (w_ar ws (n_v vs 0) 82) j := el_kp s1.1 r6 cr_0_82 (by decide)
  have hE_0_95_1 : ∀ j : Int, w_ei ws (w_ar ws (n_v vs 0) 95) j = w_ei w1 (w_ar ws (n_v vs 0) 95) j := el_kp s1.1 r6 cr_0_95 (by decide)
  have hE_0_102_1 : ∀ j : Int, 0 ≤ j → (j = v_iv (n_v vs 5) → w_ei ws (w_ar ws (n_v vs 0) 102) j = v_iv (n_v vs 8)) ∧ (j ≠ v_iv (n_v vs 5) → w_ei ws (w_ar ws (n_v vs 0) 102) j = w_ei w1 (w_ar ws (n_v vs 0) 102) j) := fun j hj => ⟨fun h => by unfold w_ei; rw [s1.1, if_pos ⟨ad_6.symm, by rw [h]⟩], fun h => by unfold w_ei; rw [s1.1, if_neg (fun e => h (by have := e.2; omega))]⟩
  have hE_0_110_1 : ∀ j : Int, w_ei ws (w_ar ws (n_v vs 0) 110) j = w_ei w1 (w_ar ws (n_v vs 0) 110) j := el_kp s1.1 r6 cr_0_110 (by decide)
  have hE_0_111_1 : ∀ j : Int, w_ei ws (w_ar ws (n_v vs 0) 111) j = w_ei w1 (w_ar ws (n_v vs 0) 111) j := el_kp s1.1 r6 cr_0_111 (by decide)
  have hE_0_112_1 : ∀ j : Int, w_ei ws (w_ar ws (n_v vs 0) 112) j = w_ei w1 (w_ar ws (n_v vs 0) 112) j := el_kp s1.1 r6 cr_0_112 (by decide)
  have nf0 : fc_1 PRD (20, [0, 9], [60, 0, 2, 436, 102, 82]) ws (vs) := ⟨nf_in hl rfl, sgq_2063 (vc_Mo_layers_8_0 (v_iv (n_v vs 5)) (v_iv (n_v vs 8)) (v_iv (n_v vs 9)) (w_ei ws (w_ar ws (n_v vs 0) 110)) (w_ei ws (w_ar ws (n_v vs 0) 111)) (w_ei ws (w_ar ws (n_v vs 0) 112)) (w_ei ws (w_ar ws (n_v vs 0) 2)) (w_fi ws (n_v vs 0) 5) (w_ei ws (w_ar ws (n_v vs 0) 95)) (w_ei ws (w_ar ws (n_v vs 0) 82)) (w_ei w1 (w_ar ws (n_v vs 0) 82)) (w_ei w1 (w_ar ws (n_v vs 0) 110)) (w_ei w1 (w_ar ws (n_v vs 0) 111)) (w_ei w1 (w_ar ws (n_v vs 0) 112)) (w_ei w1 (w_ar ws (n_v vs 0) 2)) (w_fi w1 (n_v vs 0) 5) (w_ei w1 (w_ar ws (n_v vs 0) 95)) (w_ei w1 (w_ar ws (n_v vs 0) 102)) (w_ei ws (w_ar ws (n_v vs 0) 102)) k5 k8 k9 (shm_4 f0) h7 f15 fe_0_5_1 hE_0_2_1 hE_0_82_1 hE_0_95_1 hE_0_102_1 hE_0_110_1 hE_0_111_1 hE_0_112_1)⟩
  refine ⟨(fun _ h => (by cases h)), [], trivial, ?_, (fun _ h => (by cases h))⟩
  rw [List.append_nil]
  exact List.forall_mem_cons.mpr ⟨⟨show (20 : Nat) < 100 from by decide, nf0⟩, (fun _ h => (by cases h))⟩
set_option maxHeartbeats 4000000 in
theorem vc_Mo_layers_9_0 (x2 : Int) (x3 : Int) (x5 : Int) (x6 : Int) (x7 : Int) (all_0 : Int → Int) (r_0 : Int) (turned_0 : Int → Int) (spot_0 : Int → Int) (itemLayer_0 : Int → Int) (k2 : 0 ≤ x2 ∧ x2 ≤ 24) (k3 : 0 ≤ x3 ∧ x3 ≤ 72) (k5 : 0 ≤ x5 ∧ x5 ≤ 48) (k6 : 0 ≤ x6 ∧ x6 ≤ 48) (k7 : 0 ≤ x7 ∧ x7 ≤ 72) (d2 : x6 + 0 ≤ x5 ∧ x5 ≤ x6 + 4294967296) (f1 : x7 = x2 + x3) (f2 : x6 ≤ x5) (f3 : 1 * x6 + ((-1) * all_0 (r_0 + 1) + 0) ≤ 0) (f4 : (-1) * x6 + (1 * all_0 (r_0 + 1) + 0) ≤ 0) (f7 : 1 ≤ all_0 (r_0)) (f8 : x5 ≤ all_0 ((r_0 + 1))) (f9 : LYP (r_0) (all_0) (turned_0) (spot_0)) (f10 : ILX (r_0) (all_0) (itemLayer_0) (spot_0)) (f11 : x2 = all_0 (r_0)) (f12 : JNT (r_0) (all_0) (turned_0) (spot_0) (x5) (x3)) : LYJ (r_0) (all_0) (turned_0) (itemLayer_0) := by
  try simp only [Int.add_zero] at *
  exact lyj_of ‹LYP _ _ _ _› ‹ILX _ _ _ _› (by omega) ‹JNT _ _ _ _ _ _› (by omega) (by omega)
def o_Mo_layers_9 : or_T := (193, 9, [(2, (0, 0, 24, [])), (3, (0, 0, 72, [])), (5, (0, 0, 48, [])), (6, (0, 0, 48, [])), (7, (0, 0, 72, []))], [(1, [7, 2, 3], []), (7, [5, 6], [3]), (20, [6, 0], [30, 0, 1, 0, 0, -1, 3, 2005001]), (20, [6, 0], [30, 0, -1, 0, 0, 1, 3, 2005001]), (20, [0], [50, 1, 1, 5, 2, 0, 2, 0, 1, 3, 0, 2, 2, 0, 5]), (20, [5, 0], [50, 1, 1, 1005, 1002, 0, 2, 1, 0, 3, 1, 2, 4, 3, 2, 1, 5, 0, 1]), (20, [0], [60, 1, 3, 435, 5, 2, 95, 82]), (20, [0], [60, 1, 3, 492, 5, 2, 102, 82]), (20, [2, 0], [50, 1, 1, 1005, 1002, 1, 2, 1, 0, 3, 1, 2, 2, 1, 5]), (20, [0, 5, 3], [60, 1, 3, 437, 5, 2, 95, 82])], [], [], [(20, [0], [60, 1, 3, 438, 5, 2, 95, 102])], [], [(5, 6, 0, 4294967296)])
theorem oo_Mo_layers_9 {kA : Nat → ClassId} : or_ok PRD kA GG o_Mo_layers_9 := by
  refine or_mk fun A ta ws vs hD hth hl => ?_
  intro t2 k2 t3 k3 t5 k5 t6 k6 t7 k7 d2 f1 f2 f3 f4 f7 f8 f9 f10 f11 f12
  have nf0 : fc_1 PRD (20, [0], [60, 1, 3, 438, 5, 2, 95, 102]) ws (vs) := ⟨nf_in hl rfl, sgq_1641 (vc_Mo_layers_9_0 (v_iv (n_v vs 2)) (v_iv (n_v vs 3)) (v_iv (n_v vs 5)) (v_iv (n_v vs 6)) (v_iv (n_v vs 7)) (w_ei ws (w_ar ws (n_v vs 0) 2)) (w_fi ws (n_v vs 0) 5) (w_ei ws (w_ar ws (n_v vs 0) 95)) (w_ei ws (w_ar ws (n_v vs 0) 82)) (w_ei ws (w_ar ws (n_v vs 0) 102)) k2 k3 k5 k6 k7 d2 (shm_12 f1) (shm_2 f2) (shm_130 f3) (shm_131 f4) (shm_2060 f7) (shm_1644 f8) (shm_2062 f9) (shm_2064 f10) (shm_1518 f11) (shm_2065 f12))⟩
  refine ⟨(fun _ h => (by cases h)), [], trivial, ?_, (fun _ h => (by cases h))⟩
  rw [List.append_nil]
  exact List.forall_mem_cons.mpr ⟨⟨show (20 : Nat) < 100 from by decide, nf0⟩, (fun _ h => (by cases h))⟩
set_option maxHeartbeats 4000000 in
theorem vc_Mo_layers_10_0 (x9 : Int) (layerSize_0 : Int → Int) (layerMany_0 : Int) (k9 : 1 ≤ x9 ∧ x9 ≤ 1) (f0 : x9 ≠ 0) (f1 : ISS (layerMany_0) (layerSize_0) (x9)) (kz_0_101 : 0 ≤ layerMany_0 ∧ layerMany_0 ≤ 76) : ISY (layerMany_0) (layerSize_0) := by
  exact ‹ISS _ _ _› (by omega)
set_option maxHeartbeats 4000000 in
theorem vc_Mo_layers_10_1 (x2 : Int) (layerMany_0 : Int) (all_0 : Int → Int) (r_0 : Int) (turned_0 : Int → Int) (itemLayer_0 : Int → Int) (firstJoint_0 : Int → Int) (lineA_0 : Int → Int) (lineB_0 : Int → Int) (items_0 : Int) (lines_0 : Int) (k2 : 0 ≤ x2 ∧ x2 ≤ 24) (f6 : 1 ≤ all_0 (r_0)) (f9 : x2 = all_0 (r_0)) (f13 : LSA (r_0) (items_0) (layerMany_0) (lines_0) (all_0) (turned_0) (itemLayer_0) (firstJoint_0) (lineA_0) (lineB_0)) (kz_0_100 : 0 ≤ items_0 ∧ items_0 ≤ 76) (kz_0_101 : 0 ≤ layerMany_0 ∧ layerMany_0 ≤ 76) (kz_0_107 : 0 ≤ lines_0 ∧ lines_0 ≤ 130) : 1 ≤ layerMany_0 := by
  try simp only [Int.add_zero] at *
  first
    | omega
    | (have h := ‹SGR _ _›.1; omega)
    | (have h := ‹LSA _ _ _ _ _ _ _ _ _ _›.2.1; have h2 := ‹LSA _ _ _ _ _ _ _ _ _ _›.2.2.1 0 (by omega) (by omega); omega)
def o_Mo_layers_10 : or_T := (204, 10, [(0, (2, 0, 0, [165])), (2, (0, 0, 24, [])), (9, (0, 1, 1, []))], [(8, [9], [1]), (20, [0, 9], [60, 1, 1, 459, 101, 105]), (20, [0], [50, 1, 1, 5, 2, 0, 2, 0, 1, 3, 0, 2, 2, 0, 5]), (20, [2, 0], [50, 1, 1, 1005, 1002, 1, 2, 1, 0, 3, 1, 2, 2, 1, 5]), (20, [0], [60, 4, 6, 445, 5, 100, 101, 107, 2, 95, 102, 104, 108, 109])], [], [], [(20, [0], [60, 1, 1, 461, 101, 105]), (20, [0], [50, 1, 0, 101, 0, 2, 0, 1, 2, 0, 101])], [], [])
theorem oo_Mo_layers_10 {kA : Nat → ClassId} : or_ok PRD kA GG o_Mo_layers_10 := by
  refine or_mk fun A ta ws vs hD hth hl => ?_
  intro t0 r0 t2 k2 t9 k9 f0 f1 f6 f9 f13
  have kz_0_100 := fdq_161 hD hth r0
  have kz_0_101 := fdq_124 hD hth r0
  have kz_0_107 := fdq_162 hD hth r0
  have nf0 : fc_1 PRD (20, [0], [60, 1, 1, 461, 101, 105]) ws (vs) := ⟨nf_in hl rfl, sgq_1488 (vc_Mo_layers_10_0 (v_iv (n_v vs 9)) (w_ei ws (w_ar ws (n_v vs 0) 105)) (w_fi ws (n_v vs 0) 101) k9 (shm_154 f0) (shm_606 f1) kz_0_101)⟩
  have nf1 : fc_1 PRD (20, [0], [50, 1, 0, 101, 0, 2, 0, 1, 2, 0, 101]) ws (vs) := ⟨nf_in hl rfl, sgq_1489 (vc_Mo_layers_10_1 (v_iv (n_v vs 2)) (w_fi ws (n_v vs 0) 101) (w_ei ws (w_ar ws (n_v vs 0) 2)) (w_fi ws (n_v vs 0) 5) (w_ei ws (w_ar ws (n_v vs 0) 95)) (w_ei ws (w_ar ws (n_v vs 0) 102)) (w_ei ws (w_ar ws (n_v vs 0) 104)) (w_ei ws (w_ar ws (n_v vs 0) 108)) (w_ei ws (w_ar ws (n_v vs 0) 109)) (w_fi ws (n_v vs 0) 100) (w_fi ws (n_v vs 0) 107) k2 (shm_2060 f6) (shm_1518 f9) (shm_661 f13) kz_0_100 kz_0_101 kz_0_107)⟩
  refine ⟨(fun _ h => (by cases h)), [], trivial, ?_, (fun _ h => (by cases h))⟩
  rw [List.append_nil]
  exact List.forall_mem_cons.mpr ⟨⟨show (20 : Nat) < 100 from by decide, nf0⟩, List.forall_mem_cons.mpr ⟨⟨show (20 : Nat) < 100 from by decide, nf1⟩, (fun _ h => (by cases h))⟩⟩
set_option maxHeartbeats 4000000 in
theorem vc_Mo_layers_11_r0 (x5 : Int) (x6 : Int) (x8 : Int) (x9 : Int) (spot_0 : Int → Int) (all_0 : Int → Int) (turned_0 : Int → Int) (r_0 : Int) (k5 : 0 ≤ x5 ∧ x5 ≤ 47) (k6 : 1 ≤ x6 ∧ x6 ≤ 48) (k8 : 0 ≤ x8 ∧ x8 ≤ 23) (k9 : 0 ≤ x9 ∧ x9 ≤ 221100000) (d0 : x6 + (-4294967296) ≤ x5 ∧ x5 ≤ x6 + (-1)) (h0 : x9 = spot_0 (x8)) (f1 : TOO (r_0) (all_0) (turned_0) (x5) (x8)) (f4 : 1 * x6 + ((-1) * all_0 (r_0 + 1) + 0) ≤ 0) (f5 : (-1) * x6 + (1 * all_0 (r_0 + 1) + 0) ≤ 0) (f10 : LYP (r_0) (all_0) (turned_0) (spot_0)) : 0 ≤ x9 ∧ x9 ≤ 23 := by
  have f := ft_in (x := x8) ‹LYP _ _ _ _›.1 (e := x5) (by omega) (by omega) (Or.inr (by assumption))
  have h := ‹LYP _ _ _ _›.2.1 x8 f.1 f.2
  omega
def o_Mo_layers_11 : or_T := (139, 10, [(0, (2, 0, 0, [165])), (2, (0, 0, 24, [])), (3, (0, 0, 1056, [])), (4, (0, 0, 9936, [])), (5, (0, 0, 47, [])), (6, (0, 1, 48, [])), (7, (2, 0, 0, [219])), (8, (0, 0, 23, [])), (9, (0, 0, 221100000, []))], [(10, [9, 7, 8], []), (20, [0, 5, 8], [60, 1, 2, 433, 5, 2, 95]), (9, [7, 0], [82]), (7, [5, 6], [2]), (20, [6, 0], [30, 0, 1, 0, 0, -1, 3, 2005001]), (20, [6, 0], [30, 0, -1, 0, 0, 1, 3, 2005001]), (20, [0], [60, 0, 3, 367, 110, 111, 112]), (20, [0], [60, 1, 1, 197, 5, 2]), (20, [0], [50, 1, 1, 5, 2, 0, 2, 0, 1, 3, 0, 2, 2, 0, 5]), (20, [5, 0], [50, 1, 1, 1005, 1002, 0, 2, 1, 0, 3, 1, 2, 4, 3, 2, 1, 5, 0, 1]), (20, [0], [60, 1, 3, 435, 5, 2, 95, 82]), (20, [0], [60, 1, 3, 492, 5, 2, 102, 82]), (20, [2, 0], [50, 1, 1, 1005, 1002, 1, 2, 1, 0, 3, 1, 2, 2, 1, 5]), (20, [0, 5, 3], [60, 1, 3, 437, 5, 2, 95, 82]), (20, [3, 5], [50, 0, 0, 2, 6, 0, 2, 0, 0, 1, 0, 0, 2, 1, 0, 6, 2, 0, 22, 1, 1]), (20, [4, 5], [50, 0, 0, 2, 6, 0, 2, 0, 0, 1, 0, 0, 2, 1, 0, 6, 2, 0, 207, 1, 1])], [(9, (0, 0, 23, []))], [], [], [], [(5, 6, -4294967296, -1)])
theorem oo_Mo_layers_11 {kA : Nat → ClassId} : or_ok PRD kA GG o_Mo_layers_11 := by
  refine or_mk fun A ta ws vs hD hth hl => ?_
  intro t0 r0 t2 k2 t3 k3 t4 k4 t5 k5 t6 k6 t7 r7 t8 k8 t9 k9 d0 f0 f1 f2 f3 f4 f5 f6 f7 f8 f9 f10 f11 f12 f13 f14 f15
  replace f0 := shm_106 f0
  replace f2 := shm_1134 f2
  have ad_7 : v_ad (n_v vs 7) = w_ar ws (n_v vs 0) 82 := congrArg v_ad f2
  simp only [ad_7] at f0
  have h0 : v_iv (n_v vs 9) = w_ei ws (w_ar ws (n_v vs 0) 82) (v_iv (n_v vs 8)) := f0
  have hrf0 : 0 ≤ v_iv (n_v vs 9) ∧ v_iv (n_v vs 9) ≤ 23 := vc_Mo_layers_11_r0 (v_iv (n_v vs 5)) (v_iv (n_v vs 6)) (v_iv (n_v vs 8)) (v_iv (n_v vs 9)) (w_ei ws (w_ar ws (n_v vs 0) 82)) (w_ei ws (w_ar ws (n_v vs 0) 2)) (w_ei ws (w_ar ws (n_v vs 0) 95)) (w_fi ws (n_v vs 0) 5) k5 k6 k8 k9 d0 h0 (shm_503 f1) (shm_130 f4) (shm_131 f5) (shm_2062 f10)
  have rf9 : tv_ok ta (0, 0, 23, []) (n_v vs 9) := tv_in t9 (by first | omega | grind) (by first | omega | grind)
  refine ⟨List.forall_mem_cons.mpr ⟨rf9, (fun _ h => (by cases h))⟩, [], trivial, ?_, (fun _ h => (by cases h))⟩
  rw [List.append_nil]
  exact (fun _ h => (by cases h))
set_option maxHeartbeats 4000000 in
theorem vc_Mo_layers_12_r0 (x5 : Int) (x6 : Int) (x10 : Int) (x11 : Int) (spot_0 : Int → Int) (all_0 : Int → Int) (turned_0 : Int → Int) (r_0 : Int) (k5 : 0 ≤ x5 ∧ x5 ≤ 47) (k6 : 1 ≤ x6 ∧ x6 ≤ 48) (k10 : 0 ≤ x10 ∧ x10 ≤ 23) (k11 : 0 ≤ x11 ∧ x11 ≤ 221100000) (d0 : x6 + (-4294967296) ≤ x5 ∧ x5 ≤ x6 + (-1)) (h0 : x11 = spot_0 (x10)) (f1 : FRO (r_0) (all_0) (turned_0) (x5) (x10)) (f6 : 1 * x6 + ((-1) * all_0 (r_0 + 1) + 0) ≤ 0) (f7 : (-1) * x6 + (1 * all_0 (r_0 + 1) + 0) ≤ 0) (f12 : LYP (r_0) (all_0) (turned_0) (spot_0)) : 0 ≤ x11 ∧ x11 ≤ 23 := by
  have f := ft_in (x := x10) ‹LYP _ _ _ _›.1 (e := x5) (by omega) (by omega) (Or.inl (by assumption))
  have h := ‹LYP _ _ _ _›.2.1 x10 f.1 f.2
  omega
def o_Mo_layers_12 : or_T := (150, 12, [(0, (2, 0, 0, [165])), (2, (0, 0, 24, [])), (3, (0, 0, 1056, [])), (4, (0, 0, 9936, [])), (5, (0, 0, 47, [])), (6, (0, 1, 48, [])), (7, (2, 0, 0, [219])), (8, (0, 0, 23, [])), (9, (0, 0, 23, [])), (10, (0, 0, 23, [])), (11, (0, 0, 221100000, []))], [(10, [11, 7, 10], []), (20, [0, 5, 10], [60, 1, 2, 432, 5, 2, 95]), (9, [7, 0], [82]), (10, [9, 7, 8], []), (20, [0, 5, 8], [60, 1, 2, 433, 5, 2, 95]), (7, [5, 6], [2]), (20, [6, 0], [30, 0, 1, 0, 0, -1, 3, 2005001]), (20, [6, 0], [30, 0, -1, 0, 0, 1, 3, 2005001]), (20, [0], [60, 0, 3, 367, 110, 111, 112]), (20, [0], [60, 1, 1, 197, 5, 2]), (20, [0], [50, 1, 1, 5, 2, 0, 2, 0, 1, 3, 0, 2, 2, 0, 5]), (20, [5, 0], [50, 1, 1, 1005, 1002, 0, 2, 1, 0, 3, 1, 2, 4, 3, 2, 1, 5, 0, 1]), (20, [0], [60, 1, 3, 435, 5, 2, 95, 82]), (20, [0], [60, 1, 3, 492, 5, 2, 102, 82]), (20, [2, 0], [50, 1, 1, 1005, 1002, 1, 2, 1, 0, 3, 1, 2, 2, 1, 5]), (20, [0, 5, 3], [60, 1, 3, 437, 5, 2, 95, 82]), (20, [3, 5], [50, 0, 0, 2, 6, 0, 2, 0, 0, 1, 0, 0, 2, 1, 0, 6, 2, 0, 22, 1, 1]), (20, [4, 5], [50, 0, 0, 2, 6, 0, 2, 0, 0, 1, 0, 0, 2, 1, 0, 6, 2, 0, 207, 1, 1])], [(11, (0, 0, 23, []))], [], [], [], [(5, 6, -4294967296, -1)])
theorem oo_Mo_layers_12 {kA : Nat → ClassId} : or_ok PRD kA GG o_Mo_layers_12 := by
  refine or_mk fun A ta ws vs hD hth hl => ?_
  intro t0 r0 t2 k2 t3 k3 t4 k4 t5 k5 t6 k6 t7 r7 t8 k8 t9 k9 t10 k10 t11 k11 d0 f0 f1 f2 f3 f4 f5 f6 f7 f8 f9 f10 f11 f12 f13 f14 f15 f16 f17
  replace f0 := shm_106 f0
  replace f2 := shm_1134 f2
  have ad_7 : v_ad (n_v vs 7) = w_ar ws (n_v vs 0) 82 := congrArg v_ad f2
  simp only [ad_7] at f0
  have h0 : v_iv (n_v vs 11) = w_ei ws (w_ar ws (n_v vs 0) 82) (v_iv (n_v vs 10)) := f0
  have hrf0 : 0 ≤ v_iv (n_v vs 11) ∧ v_iv (n_v vs 11) ≤ 23 := vc_Mo_layers_12_r0 (v_iv (n_v vs 5)) (v_iv (n_v vs 6)) (v_iv (n_v vs 10)) (v_iv (n_v vs 11)) (w_ei ws (w_ar ws (n_v vs 0) 82)) (w_ei ws (w_ar ws (n_v vs 0) 2)) (w_ei ws (w_ar ws (n_v vs 0) 95)) (w_fi ws (n_v vs 0) 5) k5 k6 k10 k11 d0 h0 (shm_502 f1) (shm_130 f6) (shm_131 f7) (shm_2062 f12)
  have rf11 : tv_ok ta (0, 0, 23, []) (n_v vs 11) := tv_in t11 (by first | omega | grind) (by first | omega | grind)
  refine ⟨List.forall_mem_cons.mpr ⟨rf11, (fun _ h => (by cases h))⟩, [], trivial, ?_, (fun _ h => (by cases h))⟩
  rw [List.append_nil]
  exact (fun _ h => (by cases h))
set_option maxHeartbeats 4000000 in
theorem vc_Mo_layers_13_r0 (x3 : Int) (x5 : Int) (x6 : Int) (x8 : Int) (x9 : Int) (x10 : Int) (x11 : Int) (x12 : Int) (x14 : Int) (x15 : Int) (spot_0 : Int → Int) (all_0 : Int → Int) (turned_0 : Int → Int) (r_0 : Int) (k3 : 0 ≤ x3 ∧ x3 ≤ 1056) (k5 : 0 ≤ x5 ∧ x5 ≤ 47) (k6 : 1 ≤ x6 ∧ x6 ≤ 48) (k8 : 0 ≤ x8 ∧ x8 ≤ 23) (k9 : 0 ≤ x9 ∧ x9 ≤ 23) (k10 : 0 ≤ x10 ∧ x10 ≤ 23) (k11 : 0 ≤ x11 ∧ x11 ≤ 23) (k12 : (-23) ≤ x12 ∧ x12 ≤ 23) (k14 : (-24) ≤ x14 ∧ x14 ≤ 22) (k15 : (-24) ≤ x15 ∧ x15 ≤ 1078) (d1 : x12 + (-1) ≤ x15 ∧ x15 ≤ x12 + 1055) (d3 : x3 + (-24) ≤ x15 ∧ x15 ≤ x3 + 22) (d4 : x12 + (-1) ≤ x14 ∧ x14 ≤ x12 + (-1)) (d7 : x6 + (-4294967296) ≤ x5 ∧ x5 ≤ x6 + (-1)) (f0 : x15 = x3 + x14) (f2 : x12 = x9 - x11) (h3 : x11 = spot_0 (x10)) (f4 : FRO (r_0) (all_0) (turned_0) (x5) (x10)) (h6 : x9 = spot_0 (x8)) (f7 : TOO (r_0) (all_0) (turned_0) (x5) (x8)) (f9 : 1 * x6 + ((-1) * all_0 (r_0 + 1) + 0) ≤ 0) (f10 : (-1) * x6 + (1 * all_0 (r_0 + 1) + 0) ≤ 0) (f15 : LYP (r_0) (all_0) (turned_0) (spot_0)) (f19 : (0 ≤ x3) ∧ (x3 ≤ (22 * x5))) : 0 ≤ x15 ∧ x15 ≤ 1056 := by
  first
    | omega
    | (have h := lyp_d (e := x5) (a := x10) (b := x8) (ya := x11) (yb := x9) ‹LYP _ _ _ _› (by omega) (by omega) (by assumption) (by assumption) (by assumption) (by assumption); omega)
def o_Mo_layers_13 : or_T := (159, 16, [(0, (2, 0, 0, [165])), (2, (0, 0, 24, [])), (3, (0, 0, 1056, [])), (4, (0, 0, 9936, [])), (5, (0, 0, 47, [])), (6, (0, 1, 48, [])), (7, (2, 0, 0, [219])), (8, (0, 0, 23, [])), (9, (0, 0, 23, [])), (10, (0, 0, 23, [])), (11, (0, 0, 23, [])), (12, (0, -23, 23, [])), (13, (0, 1, 1, [])), (14, (0, -24, 22, [])), (15, (0, -24, 1078, []))], [(1, [15, 3, 14], []), (2, [14, 12, 13], []), (2, [12, 9, 11], []), (10, [11, 7, 10], []), (20, [0, 5, 10], [60, 1, 2, 432, 5, 2, 95]), (9, [7, 0], [82]), (10, [9, 7, 8], []), (20, [0, 5, 8], [60, 1, 2, 433, 5, 2, 95]), (7, [5, 6], [2]), (20, [6, 0], [30, 0, 1, 0, 0, -1, 3, 2005001]), (20, [6, 0], [30, 0, -1, 0, 0, 1, 3, 2005001]), (20, [0], [60, 0, 3, 367, 110, 111, 112]), (20, [0], [60, 1, 1, 197, 5, 2]), (20, [0], [50, 1, 1, 5, 2, 0, 2, 0, 1, 3, 0, 2, 2, 0, 5]), (20, [5, 0], [50, 1, 1, 1005, 1002, 0, 2, 1, 0, 3, 1, 2, 4, 3, 2, 1, 5, 0, 1]), (20, [0], [60, 1, 3, 435, 5, 2, 95, 82]), (20, [0], [60, 1, 3, 492, 5, 2, 102, 82]), (20, [2, 0], [50, 1, 1, 1005, 1002, 1, 2, 1, 0, 3, 1, 2, 2, 1, 5]), (20, [0, 5, 3], [60, 1, 3, 437, 5, 2, 95, 82]), (20, [3, 5], [50, 0, 0, 2, 6, 0, 2, 0, 0, 1, 0, 0, 2, 1, 0, 6, 2, 0, 22, 1, 1]), (20, [4, 5], [50, 0, 0, 2, 6, 0, 2, 0, 0, 1, 0, 0, 2, 1, 0, 6, 2, 0, 207, 1, 1])], [(15, (0, 0, 1056, []))], [], [], [], [(15, 14, 0, 1056), (15, 12, -1, 1055), (15, 9, -24, 1055), (15, 3, -24, 22), (14, 12, -1, -1), (14, 9, -24, -1), (12, 9, -23, 0), (5, 6, -4294967296, -1)])
theorem oo_Mo_layers_13 {kA : Nat → ClassId} : or_ok PRD kA GG o_Mo_layers_13 := by
  refine or_mk fun A ta ws vs hD hth hl => ?_
  intro t0 r0 t2 k2 t3 k3 t4 k4 t5 k5 t6 k6 t7 r7 t8 k8 t9 k9 t10 k10 t11 k11 t12 k12 t13 k13 t14 k14 t15 k15 d0 d1 d2 d3 d4 d5 d6 d7 f0 f1 f2 f3 f4 f5 f6 f7 f8 f9 f10 f11 f12 f13 f14 f15 f16 f17 f18 f19 f20
  replace f3 := shm_106 f3
  replace f5 := shm_1134 f5
  replace f6 := shm_106 f6
  have ad_7 : v_ad (n_v vs 7) = w_ar ws (n_v vs 0) 82 := congrArg v_ad f5
  simp only [ad_7] at f3
  have h3 : v_iv (n_v vs 11) = w_ei ws (w_ar ws (n_v vs 0) 82) (v_iv (n_v vs 10)) := f3
  simp only [ad_7] at f6
  have h6 : v_iv (n_v vs 9) = w_ei ws (w_ar ws (n_v vs 0) 82) (v_iv (n_v vs 8)) := f6
  have hrf0 : 0 ≤ v_iv (n_v vs 15) ∧ v_iv (n_v vs 15) ≤ 1056 := vc_Mo_layers_13_r0 (v_iv (n_v vs 3)) (v_iv (n_v vs 5)) (v_iv (n_v vs 6)) (v_iv (n_v vs 8)) (v_iv (n_v vs 9)) (v_iv (n_v vs 10)) (v_iv (n_v vs 11)) (v_iv (n_v vs 12)) (v_iv (n_v vs 14)) (v_iv (n_v vs 15)) (w_ei ws (w_ar ws (n_v vs 0) 82)) (w_ei ws (w_ar ws (n_v vs 0) 2)) (w_ei ws (w_ar ws (n_v vs 0) 95)) (w_fi ws (n_v vs 0) 5) k3 k5 k6 k8 k9 k10 k11 k12 k14 k15 d1 d3 d4 d7 (shm_12 f0) (shm_14 f2) h3 (shm_502 f4) h6 (shm_503 f7) (shm_130 f9) (shm_131 f10) (shm_2062 f15) (shm_2066 f19)
  have rf15 : tv_ok ta (0, 0, 1056, []) (n_v vs 15) := tv_in t15 (by first | omega | grind) (by first | omega | grind)
  refine ⟨List.forall_mem_cons.mpr ⟨rf15, (fun _ h => (by cases h))⟩, [], trivial, ?_, (fun _ h => (by cases h))⟩
  rw [List.append_nil]
  exact (fun _ h => (by cases h))
set_option maxHeartbeats 4000000 in
theorem vc_Mo_layers_14_r0 (x3 : Int) (x4 : Int) (x5 : Int) (x6 : Int) (x8 : Int) (x9 : Int) (x10 : Int) (x11 : Int) (x12 : Int) (x14 : Int) (x15 : Int) (x16 : Int) (x17 : Int) (x18 : Int) (spot_0 : Int → Int) (all_0 : Int → Int) (turned_0 : Int → Int) (r_0 : Int) (k3 : 0 ≤ x3 ∧ x3 ≤ 1056) (k4 : 0 ≤ x4 ∧ x4 ≤ 9936) (k5 : 0 ≤ x5 ∧ x5 ≤ 47) (k6 : 1 ≤ x6 ∧ x6 ≤ 48) (k8 : 0 ≤ x8 ∧ x8 ≤ 23) (k9 : 0 ≤ x9 ∧ x9 ≤ 23) (k10 : 0 ≤ x10 ∧ x10 ≤ 23) (k11 : 0 ≤ x11 ∧ x11 ≤ 23) (k12 : (-23) ≤ x12 ∧ x12 ≤ 23) (k14 : (-24) ≤ x14 ∧ x14 ≤ 22) (k15 : 0 ≤ x15 ∧ x15 ≤ 1056) (k16 : 0 ≤ x16 ∧ x16 ≤ 9) (k17 : (-207) ≤ x17 ∧ x17 ≤ 207) (k18 : (-207) ≤ x18 ∧ x18 ≤ 10143) (d5 : x3 + (-24) ≤ x15 ∧ x15 ≤ x3 + 22) (d6 : x12 + (-1) ≤ x14 ∧ x14 ≤ x12 + (-1)) (d9 : x6 + (-4294967296) ≤ x5 ∧ x5 ≤ x6 + (-1)) (f0 : x18 = x4 + x17) (f1 : x17 = x16 * x12) (f2 : x15 = x3 + x14) (f4 : x12 = x9 - x11) (h5 : x11 = spot_0 (x10)) (f6 : FRO (r_0) (all_0) (turned_0) (x5) (x10)) (h8 : x9 = spot_0 (x8)) (f9 : TOO (r_0) (all_0) (turned_0) (x5) (x8)) (f11 : 1 * x6 + ((-1) * all_0 (r_0 + 1) + 0) ≤ 0) (f12 : (-1) * x6 + (1 * all_0 (r_0 + 1) + 0) ≤ 0) (f17 : LYP (r_0) (all_0) (turned_0) (spot_0)) (f22 : (0 ≤ x4) ∧ (x4 ≤ (207 * x5))) : 0 ≤ x18 ∧ x18 ≤ 9936 := by
  first
    | omega
    | (have h := lyp_d (e := x5) (a := x10) (b := x8) (ya := x11) (yb := x9) ‹LYP _ _ _ _› (by omega) (by omega) (by assumption) (by assumption) (by assumption) (by assumption)
       have q := Int.mul_le_mul (show x16 ≤ 9 by omega) (show x12 ≤ 23 by omega) (by omega) (by omega)
       have q0 := Int.mul_nonneg (show 0 ≤ x16 by omega) (show 0 ≤ x12 by omega)
       omega)
def o_Mo_layers_14 : or_T := (172, 19, [(0, (2, 0, 0, [165])), (2, (0, 0, 24, [])), (3, (0, 0, 1056, [])), (4, (0, 0, 9936, [])), (5, (0, 0, 47, [])), (6, (0, 1, 48, [])), (7, (2, 0, 0, [219])), (8, (0, 0, 23, [])), (9, (0, 0, 23, [])), (10, (0, 0, 23, [])), (11, (0, 0, 23, [])), (12, (0, -23, 23, [])), (13, (0, 1, 1, [])), (14, (0, -24, 22, [])), (15, (0, 0, 1056, [])), (16, (0, 0, 9, [])), (17, (0, -207, 207, [])), (18, (0, -207, 10143, []))], [(1, [18, 4, 17], []), (3, [17, 16, 12], []), (1, [15, 3, 14], []), (2, [14, 12, 13], []), (2, [12, 9, 11], []), (10, [11, 7, 10], []), (20, [0, 5, 10], [60, 1, 2, 432, 5, 2, 95]), (9, [7, 0], [82]), (10, [9, 7, 8], []), (20, [0, 5, 8], [60, 1, 2, 433, 5, 2, 95]), (7, [5, 6], [2]), (20, [6, 0], [30, 0, 1, 0, 0, -1, 3, 2005001]), (20, [6, 0], [30, 0, -1, 0, 0, 1, 3, 2005001]), (20, [0], [60, 0, 3, 367, 110, 111, 112]), (20, [0], [60, 1, 1, 197, 5, 2]), (20, [0], [50, 1, 1, 5, 2, 0, 2, 0, 1, 3, 0, 2, 2, 0, 5]), (20, [5, 0], [50, 1, 1, 1005, 1002, 0, 2, 1, 0, 3, 1, 2, 4, 3, 2, 1, 5, 0, 1]), (20, [0], [60, 1, 3, 435, 5, 2, 95, 82]), (20, [0], [60, 1, 3, 492, 5, 2, 102, 82]), (20, [2, 0], [50, 1, 1, 1005, 1002, 1, 2, 1, 0, 3, 1, 2, 2, 1, 5]), (20, [0, 5, 3], [60, 1, 3, 437, 5, 2, 95, 82]), (20, [3, 5], [50, 0, 0, 2, 6, 0, 2, 0, 0, 1, 0, 0, 2, 1, 0, 6, 2, 0, 22, 1, 1]), (20, [4, 5], [50, 0, 0, 2, 6, 0, 2, 0, 0, 1, 0, 0, 2, 1, 0, 6, 2, 0, 207, 1, 1])], [(18, (0, 0, 9936, []))], [], [], [], [(18, 17, 0, 9936), (18, 4, -207, 207), (15, 14, 0, 1056), (15, 12, -1, 1055), (15, 9, -24, 1055), (15, 3, -24, 22), (14, 12, -1, -1), (14, 9, -24, -1), (12, 9, -23, 0), (5, 6, -4294967296, -1)])
theorem oo_Mo_layers_14 {kA : Nat → ClassId} : or_ok PRD kA GG o_Mo_layers_14 := by
  refine or_mk fun A ta ws vs hD hth hl => ?_
  intro t0 r0 t2 k2 t3 k3 t4 k4 t5 k5 t6 k6 t7 r7 t8 k8 t9 k9 t10 k10 t11 k11 t12 k12 t13 k13 t14 k14 t15 k15 t16 k16 t17 k17 t18 k18 d0 d1 d2 d3 d4 d5 d6 d7 d8 d9 f0 f1 f2 f3 f4 f5 f6 f7 f8 f9 f10 f11 f12 f13 f14 f15 f16 f17 f18 f19 f20 f21 f22
  replace f5 := shm_106 f5
  replace f7 := shm_1134 f7
  replace f8 := shm_106 f8
  have ad_7 : v_ad (n_v vs 7) = w_ar ws (n_v vs 0) 82 := congrArg v_ad f7
  simp only [ad_7] at f5
  have h5 : v_iv (n_v vs 11) = w_ei ws (w_ar ws (n_v vs 0) 82) (v_iv (n_v vs 10)) := f5
  simp only [ad_7] at f8
  have h8 : v_iv (n_v vs 9) = w_ei ws (w_ar ws (n_v vs 0) 82) (v_iv (n_v vs 8)) := f8
  have hrf0 : 0 ≤ v_iv (n_v vs 18) ∧ v_iv (n_v vs 18) ≤ 9936 := vc_Mo_layers_14_r0 (v_iv (n_v vs 3)) (v_iv (n_v vs 4)) (v_iv (n_v vs 5)) (v_iv (n_v vs 6)) (v_iv (n_v vs 8)) (v_iv (n_v vs 9)) (v_iv (n_v vs 10)) (v_iv (n_v vs 11)) (v_iv (n_v vs 12)) (v_iv (n_v vs 14)) (v_iv (n_v vs 15)) (v_iv (n_v vs 16)) (v_iv (n_v vs 17)) (v_iv (n_v vs 18)) (w_ei ws (w_ar ws (n_v vs 0) 82)) (w_ei ws (w_ar ws (n_v vs 0) 2)) (w_ei ws (w_ar ws (n_v vs 0) 95)) (w_fi ws (n_v vs 0) 5) k3 k4 k5 k6 k8 k9 k10 k11 k12 k14 k15 k16 k17 k18 d5 d6 d9 (shm_12 f0) (shm_38 f1) (shm_12 f2) (shm_14 f4) h5 (shm_502 f6) h8 (shm_503 f9) (shm_130 f11) (shm_131 f12) (shm_2062 f17) (shm_2067 f22)
  have rf18 : tv_ok ta (0, 0, 9936, []) (n_v vs 18) := tv_in t18 (by first | omega | grind) (by first | omega | grind)
  refine ⟨List.forall_mem_cons.mpr ⟨rf18, (fun _ h => (by cases h))⟩, [], trivial, ?_, (fun _ h => (by cases h))⟩
  rw [List.append_nil]
  exact (fun _ h => (by cases h))
