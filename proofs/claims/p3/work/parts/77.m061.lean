
set_option maxHeartbeats 4000000 in
theorem vc_Mo_writeGroup_at_l4_0_0 (x2 : Int) (x3 : Int) (texts_0 : Int) (k2 : 0 ≤ x2 ∧ x2 ≤ 99985891) (k3 : 0 ≤ x3 ∧ x3 ≤ 0) (f0 : 1 * texts_0 + ((-1) * x2 + 0) ≤ 0) (kz_0_170 : 0 ≤ texts_0 ∧ texts_0 ≤ 100000000) : 1 * texts_0 + ((-1) * x2 + ((-36) * x3 + 0)) ≤ 0 := by
  first | assumption | omega | grind
def o_Mo_writeGroup_at_l4_0 : or_T := (2, 4, [(0, (2, 0, 0, [165])), (2, (0, 0, 99985891, [])), (3, (0, 0, 0, []))], [(20, [0, 2], [30, 0, 1, 1, 170, -1, 0, 0])], [], [], [(20, [0, 2, 3], [30, 0, 1, 1, 170, -1, 0, 0, -36, 0, 0]), (24, [0, 0], [])], [], [])
theorem oo_Mo_writeGroup_at_l4_0 {kA : Nat → ClassId} : or_ok PRD kA GG o_Mo_writeGroup_at_l4_0 := by
  refine or_mk fun A ta ws vs hD hth hl => ?_
  intro t0 r0 t2 k2 t3 k3 f0
  have kz_0_170 := fdq_11 hD hth r0
  have nf0 : fc_1 PRD (20, [0, 2, 3], [30, 0, 1, 1, 170, -1, 0, 0, -36, 0, 0]) ws (vs) := ⟨nf_in hl rfl, sgq_2035 (vc_Mo_writeGroup_at_l4_0_0 (v_iv (n_v vs 2)) (v_iv (n_v vs 3)) (w_fi ws (n_v vs 0) 170) k2 k3 (shm_131 f0) kz_0_170)⟩
  have nf1 : fc_1 PRD (24, [0, 0], []) ws (vs) := by
    refine ⟨nf_in hl rfl, sgq_1 ?_⟩
    · show n_v vs 0 = n_v vs 0
      first | rfl | simp only [true_and]
  refine ⟨(fun _ h => (by cases h)), [], trivial, ?_, (fun _ h => (by cases h))⟩
  rw [List.append_nil]
  exact List.forall_mem_cons.mpr ⟨⟨show (20 : Nat) < 100 from by decide, nf0⟩, List.forall_mem_cons.mpr ⟨⟨show (24 : Nat) < 100 from by decide, nf1⟩, (fun _ h => (by cases h))⟩⟩
set_option maxHeartbeats 4000000 in
theorem vc_Mo_writeGroup_at_l4_1_0 (x2 : Int) (x4 : Int) (x5 : Int) (x6 : Int) (x7 : Int) (x8 : Int) (all_0 : Int → Int) (r_0 : Int) (texts_0 : Int) (k2 : 0 ≤ x2 ∧ x2 ≤ 99985891) (k4 : 4 ≤ x4 ∧ x4 ≤ 7) (k5 : 0 ≤ x5 ∧ x5 ≤ 24) (k6 : 0 ≤ x6 ∧ x6 ≤ 24) (k7 : 1 ≤ x7 ∧ x7 ≤ 1) (k8 : 5 ≤ x8 ∧ x8 ≤ 8) (d0 : x4 + 1 ≤ x8 ∧ x8 ≤ x4 + 1) (d1 : x6 + 0 ≤ x5 ∧ x5 ≤ x6 + 4294967296) (f0 : x8 = x4 + x7) (f1 : x6 ≤ x5) (f2 : 1 * x6 + ((-1) * all_0 (r_0 + 0) + 0) ≤ 0) (f3 : (-1) * x6 + (1 * all_0 (r_0 + 0) + 0) ≤ 0) (f4 : 1 * texts_0 + ((-1) * x2 + ((-36) * x5 + 0)) ≤ 0) (kz_0_170 : 0 ≤ texts_0 ∧ texts_0 ≤ 100000000) : 1 * texts_0 + ((-1) * x2 + ((-4415) * x8 + (4415 * x4 + 0))) ≤ (-3551) := by
  first | assumption | omega | grind
def o_Mo_writeGroup_at_l4_1 : or_T := (83, 9, [(0, (2, 0, 0, [165])), (2, (0, 0, 99985891, [])), (4, (0, 4, 7, [])), (5, (0, 0, 24, [])), (6, (0, 0, 24, [])), (7, (0, 1, 1, [])), (8, (0, 5, 8, []))], [(1, [8, 4, 7], []), (7, [5, 6], [3]), (20, [6, 3], [30, 0, 1, 0, 0, -1, 3, 2005000]), (20, [6, 3], [30, 0, -1, 0, 0, 1, 3, 2005000]), (20, [3, 2, 5], [30, 0, 1, 1, 170, -1, 0, 0, -36, 0, 0]), (24, [0, 3], [])], [], [], [(20, [3, 2, 8, 4], [30, -3551, 1, 1, 170, -1, 0, 0, -4415, 0, 0, 4415, 0, 0])], [], [(8, 4, 1, 1), (5, 6, 0, 4294967296)])
theorem oo_Mo_writeGroup_at_l4_1 {kA : Nat → ClassId} : or_ok PRD kA GG o_Mo_writeGroup_at_l4_1 := by
  refine or_mk fun A ta ws vs hD hth hl => ?_
  intro t0 r0 t2 k2 t4 k4 t5 k5 t6 k6 t7 k7 t8 k8 d0 d1 f0 f1 f2 f3 f4 f5
  replace f0 := shm_12 f0
  replace f1 := shm_2 f1
  replace f2 := shm_126 f2
  replace f3 := shm_127 f3
  replace f4 := shm_2035 f4
  replace f5 := shm_5 f5
  have q3 : n_v vs 3 = n_v vs 0 := f5.symm
  simp only [q3] at f2 f3 f4
  have kz_0_170 := fdq_11 hD hth r0
  have nf0 : fc_1 PRD (20, [3, 2, 8, 4], [30, -3551, 1, 1, 170, -1, 0, 0, -4415, 0, 0, 4415, 0, 0]) ws (vs) := by
    refine ⟨nf_in hl rfl, sgq_2071 ?_⟩
    · show 1 * w_fi ws (n_v vs 3) 170 + ((-1) * v_iv (n_v vs 2) + ((-4415) * v_iv (n_v vs 8) + (4415 * v_iv (n_v vs 4) + 0))) ≤ (-3551)
      rw [q3]
      exact vc_Mo_writeGroup_at_l4_1_0 (v_iv (n_v vs 2)) (v_iv (n_v vs 4)) (v_iv (n_v vs 5)) (v_iv (n_v vs 6)) (v_iv (n_v vs 7)) (v_iv (n_v vs 8)) (w_ei ws (w_ar ws (n_v vs 0) 2)) (w_fi ws (n_v vs 0) 5) (w_fi ws (n_v vs 0) 170) k2 k4 k5 k6 k7 k8 d0 d1 f0 f1 f2 f3 f4 kz_0_170
  refine ⟨(fun _ h => (by cases h)), [], trivial, ?_, (fun _ h => (by cases h))⟩
  rw [List.append_nil]
  exact List.forall_mem_cons.mpr ⟨⟨show (20 : Nat) < 100 from by decide, nf0⟩, (fun _ h => (by cases h))⟩
set_option maxHeartbeats 4000000 in
theorem vc_Mo_writeGroup_at_l4_2_0 (x2 : Int) (x4 : Int) (x5 : Int) (x6 : Int) (x7 : Int) (all_0 : Int → Int) (r_0 : Int) (texts_0 : Int) (gx : Int) (k2 : 0 ≤ x2 ∧ x2 ≤ 99985891) (k4 : 4 ≤ x4 ∧ x4 ≤ 7) (k5 : 0 ≤ x5 ∧ x5 ≤ 23) (k6 : 1 ≤ x6 ∧ x6 ≤ 24) (k7 : 4 ≤ x7 ∧ x7 ≤ 7) (d0 : x4 + 0 ≤ x7 ∧ x7 ≤ x4 + 0) (d1 : x6 + (-4294967296) ≤ x5 ∧ x5 ≤ x6 + (-1)) (f0 : x7 = x4) (f1 : x7 = all_0 (((r_0 + 243) + x5))) (f2 : x5 < x6) (f3 : 1 * x6 + ((-1) * all_0 (r_0 + 0) + 0) ≤ 0) (f4 : (-1) * x6 + (1 * all_0 (r_0 + 0) + 0) ≤ 0) (f5 : 1 * texts_0 + ((-1) * x2 + ((-36) * x5 + 0)) ≤ 0) (kz_0_170 : 0 ≤ texts_0 ∧ texts_0 ≤ 100000000) (ex2 : gx = texts_0) (ex3 : 0 ≤ gx ∧ gx ≤ 99999995) : 1 * texts_0 + ((-1) * gx + 0) ≤ 0 := by
  first | assumption | omega | grind
set_option maxHeartbeats 4000000 in
theorem vc_Mo_writeGroup_at_l4_2_1 (x2 : Int) (x4 : Int) (x5 : Int) (x6 : Int) (x7 : Int) (all_0 : Int → Int) (r_0 : Int) (texts_0 : Int) (gx : Int) (k2 : 0 ≤ x2 ∧ x2 ≤ 99985891) (k4 : 4 ≤ x4 ∧ x4 ≤ 7) (k5 : 0 ≤ x5 ∧ x5 ≤ 23) (k6 : 1 ≤ x6 ∧ x6 ≤ 24) (k7 : 4 ≤ x7 ∧ x7 ≤ 7) (d0 : x4 + 0 ≤ x7 ∧ x7 ≤ x4 + 0) (d1 : x6 + (-4294967296) ≤ x5 ∧ x5 ≤ x6 + (-1)) (f0 : x7 = x4) (f1 : x7 = all_0 (((r_0 + 243) + x5))) (f2 : x5 < x6) (f3 : 1 * x6 + ((-1) * all_0 (r_0 + 0) + 0) ≤ 0) (f4 : (-1) * x6 + (1 * all_0 (r_0 + 0) + 0) ≤ 0) (f5 : 1 * texts_0 + ((-1) * x2 + ((-36) * x5 + 0)) ≤ 0) (kz_0_170 : 0 ≤ texts_0 ∧ texts_0 ≤ 100000000) (ex2 : gx = texts_0) (ex3 : 0 ≤ gx ∧ gx ≤ 99999995) : 1 * gx + ((-1) * x2 + ((-36) * x5 + 0)) ≤ 0 := by
  first | assumption | omega | grind
def o_Mo_writeGroup_at_l4_2 : or_T := (26, 9, [(0, (2, 0, 0, [165])), (2, (0, 0, 99985891, [])), (3, (2, 0, 0, [165])), (4, (0, 4, 7, [])), (5, (0, 0, 23, [])), (6, (0, 1, 24, [])), (7, (0, 4, 7, []))], [(7, [7, 4], [0]), (20, [7, 3, 5], [50, 1, 1, 1005, 1002, 1, 2, 1, 0, 3, 1, 2, 4, 7, 4, 3, 2, 1, 5, 0, 243, 1, 2]), (7, [5, 6], [2]), (20, [6, 3], [30, 0, 1, 0, 0, -1, 3, 2005000]), (20, [6, 3], [30, 0, -1, 0, 0, 1, 3, 2005000]), (20, [3, 2, 5], [30, 0, 1, 1, 170, -1, 0, 0, -36, 0, 0]), (24, [0, 3], [])], [], [(0, 0, 99999995, [])], [(20, [3, 9], [30, 0, 1, 1, 170, -1, 0, 0]), (23, [9, 2, 5], [0, 1, -1, -36])], [], [(7, 4, 0, 0), (5, 6, -4294967296, -1)])
theorem oo_Mo_writeGroup_at_l4_2 {kA : Nat → ClassId} : or_ok PRD kA GG o_Mo_writeGroup_at_l4_2 := by
  refine or_mk fun A ta ws vs hD hth hl => ?_
  intro t0 r0 t2 k2 t3 r3 t4 k4 t5 k5 t6 k6 t7 k7 d0 d1 f0 f1 f2 f3 f4 f5 f6
  replace f0 := shm_37 f0
  replace f1 := shm_597 f1
  replace f2 := shm_6 f2
  replace f3 := shm_126 f3
  replace f4 := shm_127 f4
  replace f5 := shm_2035 f5
  replace f6 := shm_5 f6
  have q3 : n_v vs 3 = n_v vs 0 := f6.symm
  simp only [q3] at f1 f3 f4 f5
  have cr_0_2 := fdq_10 hD hth r0
  have br_0_2_F5_0_0 : w_ei ws (w_ar ws (n_v vs 0) 2) (w_fi ws (n_v vs 0) 5 + 0) = w_el ws (w_ar ws (n_v vs 0) 2) (w_fi ws (n_v vs 0) 5 + 0).toNat := rfl
  have kz_0_170 := fdq_11 hD hth r0
  have kv0 := fdq_11 hD hth r0
  obtain ⟨x, ex, hx⟩ := iv_ex (ta := ta) (lo := 0) (hi := 99999995) (z := w_fi ws (n_v vs 0) 170) (by omega) (by omega) (by omega) (by omega)
  have ex2 : v_iv (Value.int x) = w_fi ws (n_v vs 0) 170 := ex
  have ex3 : 0 ≤ v_iv (Value.int x) ∧ v_iv (Value.int x) ≤ 99999995 := tv_rng hx
  have e_2 : n_v (vs ++ [Value.int x]) 2 = n_v vs 2 := n_v_old (by rw [hl]; decide)
  have e_3 : n_v (vs ++ [Value.int x]) 3 = n_v vs 3 := n_v_old (by rw [hl]; decide)
  have e_5 : n_v (vs ++ [Value.int x]) 5 = n_v vs 5 := n_v_old (by rw [hl]; decide)
  have e_9 : n_v (vs ++ [Value.int x]) 9 = Value.int x := n_v_new hl
  have nf0 : fc_1 PRD (20, [3, 9], [30, 0, 1, 1, 170, -1, 0, 0]) ws (vs ++ [Value.int x]) := by
    refine ⟨nf_inA hl rfl, sgq_131 ?_⟩
    · show 1 * w_fi ws (n_v (vs ++ [Value.int x]) 3) 170 + ((-1) * v_iv (n_v (vs ++ [Value.int x]) 9) + 0) ≤ 0
      simp only [e_3, e_9, q3]
      exact vc_Mo_writeGroup_at_l4_2_0 (v_iv (n_v vs 2)) (v_iv (n_v vs 4)) (v_iv (n_v vs 5)) (v_iv (n_v vs 6)) (v_iv (n_v vs 7)) (w_ei ws (w_ar ws (n_v vs 0) 2)) (w_fi ws (n_v vs 0) 5) (w_fi ws (n_v vs 0) 170) (v_iv (Value.int x)) k2 k4 k5 k6 k7 d0 d1 f0 f1 f2 f3 f4 f5 kz_0_170 ex2 ex3
  have nf1 : fc_1 PRD (23, [9, 2, 5], [0, 1, -1, -36]) ws (vs ++ [Value.int x]) := by
    refine ⟨nf_inA hl rfl, sgq_2037 ?_⟩
    · show 1 * v_iv (n_v (vs ++ [Value.int x]) 9) + ((-1) * v_iv (n_v (vs ++ [Value.int x]) 2) + ((-36) * v_iv (n_v (vs ++ [Value.int x]) 5) + 0)) ≤ 0
      simp only [e_2, e_5, e_9]
      exact vc_Mo_writeGroup_at_l4_2_1 (v_iv (n_v vs 2)) (v_iv (n_v vs 4)) (v_iv (n_v vs 5)) (v_iv (n_v vs 6)) (v_iv (n_v vs 7)) (w_ei ws (w_ar ws (n_v vs 0) 2)) (w_fi ws (n_v vs 0) 5) (w_fi ws (n_v vs 0) 170) (v_iv (Value.int x)) k2 k4 k5 k6 k7 d0 d1 f0 f1 f2 f3 f4 f5 kz_0_170 ex2 ex3
  exact ⟨(fun _ h => (by cases h)), [Value.int x], ag_one hx, List.forall_mem_cons.mpr ⟨⟨show (20 : Nat) < 100 from by decide, nf0⟩, List.forall_mem_cons.mpr ⟨⟨show (23 : Nat) < 100 from by decide, nf1⟩, (fun _ h => (by cases h))⟩⟩, (fun _ h => (by cases h))⟩
set_option maxHeartbeats 4000000 in
theorem vc_Mo_writeGroup_at_l4_3_0 (x2 : Int) (x4 : Int) (x5 : Int) (x6 : Int) (x7 : Int) (x9 : Int) (all_0 : Int → Int) (r_0 : Int) (texts_0 : Int) (gx : Int) (k2 : 0 ≤ x2 ∧ x2 ≤ 99985891) (k4 : 4 ≤ x4 ∧ x4 ≤ 7) (k5 : 0 ≤ x5 ∧ x5 ≤ 23) (k6 : 1 ≤ x6 ∧ x6 ≤ 24) (k7 : 4 ≤ x7 ∧ x7 ≤ 7) (k9 : 0 ≤ x9 ∧ x9 ≤ 99999995) (d0 : x4 + 0 ≤ x7 ∧ x7 ≤ x4 + 0) (d1 : x6 + (-4294967296) ≤ x5 ∧ x5 ≤ x6 + (-1)) (f0 : 1 * x9 + ((-1) * x2 + ((-36) * x5 + 0)) ≤ 0) (f1 : x7 = all_0 (((r_0 + 243) + x5))) (f2 : 1 * x6 + ((-1) * all_0 (r_0 + 0) + 0) ≤ 0) (f3 : (-1) * x6 + (1 * all_0 (r_0 + 0) + 0) ≤ 0) (f5 : 1 * texts_0 + ((-1) * x9 + 0) ≤ 5) (f7 : 1 * x9 + ((-1) * x2 + ((-36) * x5 + 0)) ≤ 0) (f8 : x7 = x4) (f9 : x5 < x6) (kz_0_170 : 0 ≤ texts_0 ∧ texts_0 ≤ 100000000) (ex2 : gx = texts_0) (ex3 : 0 ≤ gx ∧ gx ≤ 99999992) : 1 * texts_0 + ((-1) * gx + 0) ≤ 0 := by
  first | assumption | omega | grind
set_option maxHeartbeats 4000000 in
theorem vc_Mo_writeGroup_at_l4_3_1 (x2 : Int) (x4 : Int) (x5 : Int) (x6 : Int) (x7 : Int) (x9 : Int) (all_0 : Int → Int) (r_0 : Int) (texts_0 : Int) (gx : Int) (k2 : 0 ≤ x2 ∧ x2 ≤ 99985891) (k4 : 4 ≤ x4 ∧ x4 ≤ 7) (k5 : 0 ≤ x5 ∧ x5 ≤ 23) (k6 : 1 ≤ x6 ∧ x6 ≤ 24) (k7 : 4 ≤ x7 ∧ x7 ≤ 7) (k9 : 0 ≤ x9 ∧ x9 ≤ 99999995) (d0 : x4 + 0 ≤ x7 ∧ x7 ≤ x4 + 0) (d1 : x6 + (-4294967296) ≤ x5 ∧ x5 ≤ x6 + (-1)) (f0 : 1 * x9 + ((-1) * x2 + ((-36) * x5 + 0)) ≤ 0) (f1 : x7 = all_0 (((r_0 + 243) + x5))) (f2 : 1 * x6 + ((-1) * all_0 (r_0 + 0) + 0) ≤ 0) (f3 : (-1) * x6 + (1 * all_0 (r_0 + 0) + 0) ≤ 0) (f5 : 1 * texts_0 + ((-1) * x9 + 0) ≤ 5) (f7 : 1 * x9 + ((-1) * x2 + ((-36) * x5 + 0)) ≤ 0) (f8 : x7 = x4) (f9 : x5 < x6) (kz_0_170 : 0 ≤ texts_0 ∧ texts_0 ≤ 100000000) (ex2 : gx = texts_0) (ex3 : 0 ≤ gx ∧ gx ≤ 99999992) : 1 * gx + ((-1) * x2 + ((-36) * x5 + 0)) ≤ 5 := by
  first | assumption | omega | grind
def o_Mo_writeGroup_at_l4_3 : or_T := (31, 10, [(0, (2, 0, 0, [165])), (2, (0, 0, 99985891, [])), (3, (2, 0, 0, [165])), (4, (0, 4, 7, [])), (5, (0, 0, 23, [])), (6, (0, 1, 24, [])), (7, (0, 4, 7, [])), (9, (0, 0, 99999995, []))], [(23, [9, 2, 5], [0, 1, -1, -36]), (20, [7, 3, 5], [50, 1, 1, 1005, 1002, 1, 2, 1, 0, 3, 1, 2, 4, 7, 4, 3, 2, 1, 5, 0, 243, 1, 2]), (20, [6, 3], [30, 0, 1, 0, 0, -1, 3, 2005000]), (20, [6, 3], [30, 0, -1, 0, 0, 1, 3, 2005000]), (24, [0, 3], []), (20, [3, 9], [30, 5, 1, 1, 170, -1, 0, 0]), (102, [9], [7770675568902916283677847627294075626569627356208558085007249638955617140820833992704, 165170]), (23, [9, 2, 5], [0, 1, -1, -36]), (7, [7, 4], [0]), (7, [5, 6], [2])], [], [(0, 0, 99999992, [])], [(20, [3, 10], [30, 0, 1, 1, 170, -1, 0, 0]), (23, [10, 2, 5], [5, 1, -1, -36])], [], [(7, 4, 0, 0), (5, 6, -4294967296, -1)])
theorem oo_Mo_writeGroup_at_l4_3 {kA : Nat → ClassId} : or_ok PRD kA GG o_Mo_writeGroup_at_l4_3 := by
  refine or_mk fun A ta ws vs hD hth hl => ?_
  intro t0 r0 t2 k2 t3 r3 t4 k4 t5 k5 t6 k6 t7 k7 t9 k9 d0 d1 f0 f1 f2 f3 f4 f5 ta1 w1 le1 s1 f7 f8 f9
  replace f0 := shm_2037 f0
  replace f1 := shm_597 f1
  replace f2 := shm_126 f2
  replace f3 := shm_127 f3
  replace f4 := shm_5 f4
  replace f5 := shm_208 f5
  replace f7 := shm_2037 f7
  replace f8 := shm_37 f8
  replace f9 := shm_6 f9
  have q3 : n_v vs 3 = n_v vs 0 := f4.symm
  simp only [q3] at f1 f2 f3 f5
  have cr_0_2 := fdq_10 hD hth r0
  have br_0_2_F5_0_0 : w_ei ws (w_ar ws (n_v vs 0) 2) (w_fi ws (n_v vs 0) 5 + 0) = w_el ws (w_ar ws (n_v vs 0) 2) (w_fi ws (n_v vs 0) 5 + 0).toNat := rfl
  have kz_0_170 := fdq_11 hD hth r0
  have kv0 := fdq_11 hD hth r0
  obtain ⟨x, ex, hx⟩ := iv_ex (ta := ta) (lo := 0) (hi := 99999992) (z := w_fi ws (n_v vs 0) 170) (by omega) (by omega) (by omega) (by omega)
  have ex2 : v_iv (Value.int x) = w_fi ws (n_v vs 0) 170 := ex
  have ex3 : 0 ≤ v_iv (Value.int x) ∧ v_iv (Value.int x) ≤ 99999992 := tv_rng hx
  have e_2 : n_v (vs ++ [Value.int x]) 2 = n_v vs 2 := n_v_old (by rw [hl]; decide)
  have e_3 : n_v (vs ++ [Value.int x]) 3 = n_v vs 3 := n_v_old (by rw [hl]; decide)
  have e_5 : n_v (vs ++ [Value.int x]) 5 = n_v vs 5 := n_v_old (by rw [hl]; decide)
  have e_10 : n_v (vs ++ [Value.int x]) 10 = Value.int x := n_v_new hl
  have nf0 : fc_1 PRD (20, [3, 10], [30, 0, 1, 1, 170, -1, 0, 0]) ws (vs ++ [Value.int x]) := by
    refine ⟨nf_inA hl rfl, sgq_131 ?_⟩
    · show 1 * w_fi ws (n_v (vs ++ [Value.int x]) 3) 170 + ((-1) * v_iv (n_v (vs ++ [Value.int x]) 10) + 0) ≤ 0
      simp only [e_3, e_10, q3]
      exact vc_Mo_writeGroup_at_l4_3_0 (v_iv (n_v vs 2)) (v_iv (n_v vs 4)) (v_iv (n_v vs 5)) (v_iv (n_v vs 6)) (v_iv (n_v vs 7)) (v_iv (n_v vs 9)) (w_ei ws (w_ar ws (n_v vs 0) 2)) (w_fi ws (n_v vs 0) 5) (w_fi ws (n_v vs 0) 170) (v_iv (Value.int x)) k2 k4 k5 k6 k7 k9 d0 d1 f0 f1 f2 f3 f5 f7 f8 f9 kz_0_170 ex2 ex3
  have nf1 : fc_1 PRD (23, [10, 2, 5], [5, 1, -1, -36]) ws (vs ++ [Value.int x]) := by
    refine ⟨nf_inA hl rfl, sgq_2038 ?_⟩
    · show 1 * v_iv (n_v (vs ++ [Value.int x]) 10) + ((-1) * v_iv (n_v (vs ++ [Value.int x]) 2) + ((-36) * v_iv (n_v (vs ++ [Value.int x]) 5) + 0)) ≤ 5
      simp only [e_2, e_5, e_10]
      exact vc_Mo_writeGroup_at_l4_3_1 (v_iv (n_v vs 2)) (v_iv (n_v vs 4)) (v_iv (n_v vs 5)) (v_iv (n_v vs 6)) (v_iv (n_v vs 7)) (v_iv (n_v vs 9)) (w_ei ws (w_ar ws (n_v vs 0) 2)) (w_fi ws (n_v vs 0) 5) (w_fi ws (n_v vs 0) 170) (v_iv (Value.int x)) k2 k4 k5 k6 k7 k9 d0 d1 f0 f1 f2 f3 f5 f7 f8 f9 kz_0_170 ex2 ex3
  exact ⟨(fun _ h => (by cases h)), [Value.int x], ag_one hx, List.forall_mem_cons.mpr ⟨⟨show (20 : Nat) < 100 from by decide, nf0⟩, List.forall_mem_cons.mpr ⟨⟨show (23 : Nat) < 100 from by decide, nf1⟩, (fun _ h => (by cases h))⟩⟩, (fun _ h => (by cases h))⟩
set_option maxHeartbeats 4000000 in
theorem vc_Mo_writeGroup_at_l4_4_0 (x2 : Int) (x4 : Int) (x5 : Int) (x6 : Int) (x7 : Int) (x9 : Int) (x10 : Int) (x11 : Int) (x12 : Int) (all_0 : Int → Int) (r_0 : Int) (texts_0 : Int) (gx : Int) (k2 : 0 ≤ x2 ∧ x2 ≤ 99985891) (k4 : 4 ≤ x4 ∧ x4 ≤ 7) (k5 : 0 ≤ x5 ∧ x5 ≤ 23) (k6 : 1 ≤ x6 ∧ x6 ≤ 24) (k7 : 4 ≤ x7 ∧ x7 ≤ 7) (k9 : 0 ≤ x9 ∧ x9 ≤ 99999995) (k10 : 0 ≤ x10 ∧ x10 ≤ 99999992) (k11 : 0 ≤ x11 ∧ x11 ≤ 1) (k12 : 1 ≤ x12 ∧ x12 ≤ 1) (d0 : x4 + 0 ≤ x7 ∧ x7 ≤ x4 + 0) (d1 : x6 + (-4294967296) ≤ x5 ∧ x5 ≤ x6 + (-1)) (f0 : x11 ≤ x12) (f1 : x11 = all_0 (((r_0 + 219) + x5))) (f2 : 1 * x10 + ((-1) * x2 + ((-36) * x5 + 0)) ≤ 5) (f3 : 1 * x9 + ((-1) * x2 + ((-36) * x5 + 0)) ≤ 0) (f4 : x7 = all_0 (((r_0 + 243) + x5))) (f5 : 1 * x6 + ((-1) * all_0 (r_0 + 0) + 0) ≤ 0) (f6 : (-1) * x6 + (1 * all_0 (r_0 + 0) + 0) ≤ 0) (f8 : 1 * texts_0 + ((-1) * x10 + 0) ≤ 8) (f10 : 1 * x10 + ((-1) * x2 + ((-36) * x5 + 0)) ≤ 5) (f11 : 1 * x9 + ((-1) * x2 + ((-36) * x5 + 0)) ≤ 0) (f13 : 1 * x9 + ((-1) * x2 + ((-36) * x5 + 0)) ≤ 0) (f14 : x7 = x4) (f15 : x5 < x6) (kz_0_170 : 0 ≤ texts_0 ∧ texts_0 ≤ 100000000) (ex2 : gx = texts_0) (ex3 : 0 ≤ gx ∧ gx ≤ 99999998) : 1 * texts_0 + ((-1) * gx + 0) ≤ 0 := by
  first | assumption | omega | grind
set_option maxHeartbeats 4000000 in
theorem vc_Mo_writeGroup_at_l4_4_1 (x2 : Int) (x4 : Int) (x5 : Int) (x6 : Int) (x7 : Int) (x9 : Int) (x10 : Int) (x11 : Int) (x12 : Int) (all_0 : Int → Int) (r_0 : Int) (texts_0 : Int) (gx : Int) (k2 : 0 ≤ x2 ∧ x2 ≤ 99985891) (k4 : 4 ≤ x4 ∧ x4 ≤ 7) (k5 : 0 ≤ x5 ∧ x5 ≤ 23) (k6 : 1 ≤ x6 ∧ x6 ≤ 24) (k7 : 4 ≤ x7 ∧ x7 ≤ 7) (k9 : 0 ≤ x9 ∧ x9 ≤ 99999995) (k10 : 0 ≤ x10 ∧ x10 ≤ 99999992) (k11 : 0 ≤ x11 ∧ x11 ≤ 1) (k12 : 1 ≤ x12 ∧ x12 ≤ 1) (d0 : x4 + 0 ≤ x7 ∧ x7 ≤ x4 + 0) (d1 : x6 + (-4294967296) ≤ x5 ∧ x5 ≤ x6 + (-1)) (f0 : x11 ≤ x12) (f1 : x11 = all_0 (((r_0 + 219) + x5))) (f2 : 1 * x10 + ((-1) * x2 + ((-36) * x5 + 0)) ≤ 5) (f3 : 1 * x9 + ((-1) * x2 + ((-36) * x5 + 0)) ≤ 0) (f4 : x7 = all_0 (((r_0 + 243) + x5))) (f5 : 1 * x6 + ((-1) * all_0 (r_0 + 0) + 0) ≤ 0) (f6 : (-1) * x6 + (1 * all_0 (r_0 + 0) + 0) ≤ 0) (f8 : 1 * texts_0 + ((-1) * x10 + 0) ≤ 8) (f10 : 1 * x10 + ((-1) * x2 + ((-36) * x5 + 0)) ≤ 5) (f11 : 1 * x9 + ((-1) * x2 + ((-36) * x5 + 0)) ≤ 0) (f13 : 1 * x9 + ((-1) * x2 + ((-36) * x5 + 0)) ≤ 0) (f14 : x7 = x4) (f15 : x5 < x6) (kz_0_170 : 0 ≤ texts_0 ∧ texts_0 ≤ 100000000) (ex2 : gx = texts_0) (ex3 : 0 ≤ gx ∧ gx ≤ 99999998) : 1 * gx + ((-1) * x2 + ((-36) * x5 + 0)) ≤ 34 := by
  first | assumption | omega | grind
def o_Mo_writeGroup_at_l4_4 : or_T := (70, 14, [(0, (2, 0, 0, [165])), (2, (0, 0, 99985891, [])), (3, (2, 0, 0, [165])), (4, (0, 4, 7, [])), (5, (0, 0, 23, [])), (6, (0, 1, 24, [])), (7, (0, 4, 7, [])), (9, (0, 0, 99999995, [])), (10, (0, 0, 99999992, [])), (11, (0, 0, 1, [])), (12, (0, 1, 1, []))], [(7, [11, 12], [5]), (20, [11, 3, 5], [50, 1, 1, 1005, 1002, 1, 2, 1, 0, 3, 1, 2, 4, 7, 4, 3, 2, 1, 5, 0, 219, 1, 2]), (23, [10, 2, 5], [5, 1, -1, -36]), (23, [9, 2, 5], [0, 1, -1, -36]), (20, [7, 3, 5], [50, 1, 1, 1005, 1002, 1, 2, 1, 0, 3, 1, 2, 4, 7, 4, 3, 2, 1, 5, 0, 243, 1, 2]), (20, [6, 3], [30, 0, 1, 0, 0, -1, 3, 2005000]), (20, [6, 3], [30, 0, -1, 0, 0, 1, 3, 2005000]), (24, [0, 3], []), (20, [3, 10], [30, 8, 1, 1, 170, -1, 0, 0]), (102, [10], [7770675568902916283677847627294075626569627356208558085007249638955617140820833992704, 165170]), (23, [10, 2, 5], [5, 1, -1, -36]), (23, [9, 2, 5], [0, 1, -1, -36]), (102, [9], [7770675568902916283677847627294075626569627356208558085007249638955617140820833992704, 165170]), (23, [9, 2, 5], [0, 1, -1, -36]), (7, [7, 4], [0]), (7, [5, 6], [2])], [], [(0, 0, 99999998, [])], [(20, [3, 14], [30, 0, 1, 1, 170, -1, 0, 0]), (23, [14, 2, 5], [34, 1, -1, -36])], [], [(7, 4, 0, 0), (5, 6, -4294967296, -1)])
theorem oo_Mo_writeGroup_at_l4_4 {kA : Nat → ClassId} : or_ok PRD kA GG o_Mo_writeGroup_at_l4_4 := by
  refine or_mk fun A ta ws vs hD hth hl => ?_
  intro t0 r0 t2 k2 t3 r3 t4 k4 t5 k5 t6 k6 t7 k7 t9 k9 t10 k10 t11 k11 t12 k12 d0 d1 f0 f1 f2 f3 f4 f5 f6 f7 f8 ta1 w1 le1 s1 f10 f11 ta2 w2 le2 s2 f13 f14 f15
  replace f0 := shm_24 f0
  replace f1 := shm_732 f1
  replace f2 := shm_2038 f2
  replace f3 := shm_2037 f3
  replace f4 := shm_597 f4
  replace f5 := shm_126 f5
  replace f6 := shm_127 f6
  replace f7 := shm_5 f7
  replace f8 := shm_160 f8
  replace f10 := shm_2038 f10
  replace f11 := shm_2037 f11
  replace f13 := shm_2037 f13
  replace f14 := shm_37 f14
  replace f15 := shm_6 f15
  have q3 : n_v vs 3 = n_v vs 0 := f7.symm
  simp only [q3] at f1 f4 f5 f6 f8
  have cr_0_2 := fdq_10 hD hth r0
  have br_0_2_F5_0_0 : w_ei ws (w_ar ws (n_v vs 0) 2) (w_fi ws (n_v vs 0) 5 + 0) = w_el ws (w_ar ws (n_v vs 0) 2) (w_fi ws (n_v vs 0) 5 + 0).toNat := rfl
  have kz_0_170 := fdq_11 hD hth r0
  have kv0 := fdq_11 hD hth r0
  obtain ⟨x, ex, hx⟩ := iv_ex (ta := ta) (lo := 0) (hi := 99999998) (z := w_fi ws (n_v vs 0) 170) (by omega) (by omega) (by omega) (by omega)
  have ex2 : v_iv (Value.int x) = w_fi ws (n_v vs 0) 170 := ex
  have ex3 : 0 ≤ v_iv (Value.int x) ∧ v_iv (Value.int x) ≤ 99999998 := tv_rng hx
  have e_2 : n_v (vs ++ [Value.int x]) 2 = n_v vs 2 := n_v_old (by rw [hl]; decide)
  have e_3 : n_v (vs ++ [Value.int x]) 3 = n_v vs 3 := n_v_old (by rw [hl]; decide)
  have e_5 : n_v (vs ++ [Value.int x]) 5 = n_v vs 5 := n_v_old (by rw [hl]; decide)
  have e_14 : n_v (vs ++ [Value.int x]) 14 = Value.int x := n_v_new hl
  have nf0 : fc_1 PRD (20, [3, 14], [30, 0, 1, 1, 170, -1, 0, 0]) ws (vs ++ [Value.int x]) := by
    refine ⟨nf_inA hl rfl, sgq_131 ?_⟩
    · show 1 * w_fi ws (n_v (vs ++ [Value.int x]) 3) 170 + ((-1) * v_iv (n_v (vs ++ [Value.int x]) 14) + 0) ≤ 0
      simp only [e_3, e_14, q3]
      exact vc_Mo_writeGroup_at_l4_4_0 (v_iv (n_v vs 2)) (v_iv (n_v vs 4)) (v_iv (n_v vs 5)) (v_iv (n_v vs 6)) (v_iv (n_v vs 7)) (v_iv (n_v vs 9)) (v_iv (n_v vs 10)) (v_iv (n_v vs 11)) (v_iv (n_v vs 12)) (w_ei ws (w_ar ws (n_v vs 0) 2)) (w_fi ws (n_v vs 0) 5) (w_fi ws (n_v vs 0) 170) (v_iv (Value.int x)) k2 k4 k5 k6 k7 k9 k10 k11 k12 d0 d1 f0 f1 f2 f3 f4 f5 f6 f8 f10 f11 f13 f14 f15 kz_0_170 ex2 ex3
  have nf1 : fc_1 PRD (23, [14, 2, 5], [34, 1, -1, -36]) ws (vs ++ [Value.int x]) := by
    refine ⟨nf_inA hl rfl, sgq_2039 ?_⟩
    · show 1 * v_iv (n_v (vs ++ [Value.int x]) 14) + ((-1) * v_iv (n_v (vs ++ [Value.int x]) 2) + ((-36) * v_iv (n_v (vs ++ [Value.int x]) 5) + 0)) ≤ 34
      simp only [e_2, e_5, e_14]
      exact vc_Mo_writeGroup_at_l4_4_1 (v_iv (n_v vs 2)) (v_iv (n_v vs 4)) (v_iv (n_v vs 5)) (v_iv (n_v vs 6)) (v_iv (n_v vs 7)) (v_iv (n_v vs 9)) (v_iv (n_v vs 10)) (v_iv (n_v vs 11)) (v_iv (n_v vs 12)) (w_ei ws (w_ar ws (n_v vs 0) 2)) (w_fi ws (n_v vs 0) 5) (w_fi ws (n_v vs 0) 170) (v_iv (Value.int x)) k2 k4 k5 k6 k7 k9 k10 k11 k12 d0 d1 f0 f1 f2 f3 f4 f5 f6 f8 f10 f11 f13 f14 f15 kz_0_170 ex2 ex3
  exact ⟨(fun _ h => (by cases h)), [Value.int x], ag_one hx, List.forall_mem_cons.mpr ⟨⟨show (20 : Nat) < 100 from by decide, nf0⟩, List.forall_mem_cons.mpr ⟨⟨show (23 : Nat) < 100 from by decide, nf1⟩, (fun _ h => (by cases h))⟩⟩, (fun _ h => (by cases h))⟩
set_option maxHeartbeats 4000000 in
theorem vc_Mo_writeGroup_at_l4_5_0 (x2 : Int) (x4 : Int) (x5 : Int) (x6 : Int) (x7 : Int) (x9 : Int) (x10 : Int) (x11 : Int) (x12 : Int) (x14 : Int) (x15 : Int) (all_0 : Int → Int) (r_0 : Int) (texts_0 : Int) (k2 : 0 ≤ x2 ∧ x2 ≤ 99985891) (k4 : 4 ≤ x4 ∧ x4 ≤ 7) (k5 : 0 ≤ x5 ∧ x5 ≤ 23) (k6 : 1 ≤ x6 ∧ x6 ≤ 24) (k7 : 4 ≤ x7 ∧ x7 ≤ 7) (k9 : 0 ≤ x9 ∧ x9 ≤ 99999995) (k10 : 0 ≤ x10 ∧ x10 ≤ 99999992) (k11 : 0 ≤ x11 ∧ x11 ≤ 1) (k12 : 1 ≤ x12 ∧ x12 ≤ 1) (k14 : 0 ≤ x14 ∧ x14 ≤ 99999998) (k15 : 1 ≤ x15 ∧ x15 ≤ 24) (d0 : x5 + 1 ≤ x15 ∧ x15 ≤ x5 + 1) (d1 : x6 + (-4294967296) ≤ x15 ∧ x15 ≤ x6 + 0) (d2 : x4 + 0 ≤ x7 ∧ x7 ≤ x4 + 0) (d3 : x6 + (-4294967296) ≤ x5 ∧ x5 ≤ x6 + (-1)) (f0 : x15 = x5 + 1) (f1 : 1 * x14 + ((-1) * x2 + ((-36) * x5 + 0)) ≤ 34) (f2 : x11 = all_0 (((r_0 + 219) + x5))) (f3 : 1 * x10 + ((-1) * x2 + ((-36) * x5 + 0)) ≤ 5) (f4 : 1 * x9 + ((-1) * x2 + ((-36) * x5 + 0)) ≤ 0) (f5 : x7 = all_0 (((r_0 + 243) + x5))) (f6 : 1 * x6 + ((-1) * all_0 (r_0 + 0) + 0) ≤ 0) (f7 : (-1) * x6 + (1 * all_0 (r_0 + 0) + 0) ≤ 0) (f9 : 1 * texts_0 + ((-1) * x14 + 0) ≤ 2) (f11 : 1 * x14 + ((-1) * x2 + ((-36) * x5 + 0)) ≤ 34) (f12 : x11 ≤ x12) (f13 : 1 * x10 + ((-1) * x2 + ((-36) * x5 + 0)) ≤ 5) (f14 : 1 * x9 + ((-1) * x2 + ((-36) * x5 + 0)) ≤ 0) (f16 : 1 * x10 + ((-1) * x2 + ((-36) * x5 + 0)) ≤ 5) (f17 : 1 * x9 + ((-1) * x2 + ((-36) * x5 + 0)) ≤ 0) (f19 : 1 * x9 + ((-1) * x2 + ((-36) * x5 + 0)) ≤ 0) (f20 : x7 = x4) (f21 : x5 < x6) (kz_0_170 : 0 ≤ texts_0 ∧ texts_0 ≤ 100000000) : 1 * texts_0 + ((-1) * x2 + ((-36) * x15 + 0)) ≤ 0 := by
  first | assumption | omega | grind
def o_Mo_writeGroup_at_l4_5 : or_T := (2, 16, [(0, (2, 0, 0, [165])), (2, (0, 0, 99985891, [])), (4, (0, 4, 7, [])), (5, (0, 0, 23, [])), (6, (0, 1, 24, [])), (7, (0, 4, 7, [])), (9, (0, 0, 99999995, [])), (10, (0, 0, 99999992, [])), (11, (0, 0, 1, [])), (12, (0, 1, 1, [])), (14, (0, 0, 99999998, [])), (15, (0, 1, 24, []))], [(6, [15, 5], [1]), (23, [14, 2, 5], [34, 1, -1, -36]), (20, [11, 3, 5], [50, 1, 1, 1005, 1002, 1, 2, 1, 0, 3, 1, 2, 4, 7, 4, 3, 2, 1, 5, 0, 219, 1, 2]), (23, [10, 2, 5], [5, 1, -1, -36]), (23, [9, 2, 5], [0, 1, -1, -36]), (20, [7, 3, 5], [50, 1, 1, 1005, 1002, 1, 2, 1, 0, 3, 1, 2, 4, 7, 4, 3, 2, 1, 5, 0, 243, 1, 2]), (20, [6, 3], [30, 0, 1, 0, 0, -1, 3, 2005000]), (20, [6, 3], [30, 0, -1, 0, 0, 1, 3, 2005000]), (24, [0, 3], []), (20, [3, 14], [30, 2, 1, 1, 170, -1, 0, 0]), (102, [14], [7770675568902916283677847627294075626569627356208558085007249638955617140820833992704, 165170]), (23, [14, 2, 5], [34, 1, -1, -36]), (7, [11, 12], [5]), (23, [10, 2, 5], [5, 1, -1, -36]), (23, [9, 2, 5], [0, 1, -1, -36]), (102, [10], [7770675568902916283677847627294075626569627356208558085007249638955617140820833992704, 165170]), (23, [10, 2, 5], [5, 1, -1, -36]), (23, [9, 2, 5], [0, 1, -1, -36]), (102, [9], [7770675568902916283677847627294075626569627356208558085007249638955617140820833992704, 165170]), (23, [9, 2, 5], [0, 1, -1, -36]), (7, [7, 4], [0]), (7, [5, 6], [2])], [], [], [(20, [3, 2, 15], [30, 0, 1, 1, 170, -1, 0, 0, -36, 0, 0])], [], [(15, 5, 1, 1), (15, 6, -4294967296, 0), (7, 4, 0, 0), (5, 6, -4294967296, -1)])
theorem oo_Mo_writeGroup_at_l4_5 {kA : Nat → ClassId} : or_ok PRD kA GG o_Mo_writeGroup_at_l4_5 := by
  refine or_mk fun A ta ws vs hD hth hl => ?_
  intro t0 r0 t2 k2 t4 k4 t5 k5 t6 k6 t7 k7 t9 k9 t10 k10 t11 k11 t12 k12 t14 k14 t15 k15 d0 d1 d2 d3 f0 f1 f2 f3 f4 f5 f6 f7 f8 f9 ta1 w1 le1 s1 f11 f12 f13 f14 ta2 w2 le2 s2 f16 f17 ta3 w3 le3 s3 f19 f20 f21
  replace f0 := shm_4 f0
  replace f1 := shm_2039 f1
  replace f2 := shm_732 f2
  replace f3 := shm_2038 f3
  replace f4 := shm_2037 f4
  replace f5 := shm_597 f5
  replace f6 := shm_126 f6
  replace f7 := shm_127 f7
  replace f8 := shm_5 f8
  replace f9 := shm_210 f9
  replace f11 := shm_2039 f11
  replace f12 := shm_24 f12
  replace f13 := shm_2038 f13
  replace f14 := shm_2037 f14
  replace f16 := shm_2038 f16
  replace f17 := shm_2037 f17
  replace f19 := shm_2037 f19
  replace f20 := shm_37 f20
  replace f21 := shm_6 f21
  have q3 : n_v vs 3 = n_v vs 0 := f8.symm
  simp only [q3] at f2 f5 f6 f7 f9
  have kz_0_170 := fdq_11 hD hth r0
  have nf0 : fc_1 PRD (20, [3, 2, 15], [30, 0, 1, 1, 170, -1, 0, 0, -36, 0, 0]) ws (vs) := by
    refine ⟨nf_in hl rfl, sgq_2035 ?_⟩
    · show 1 * w_fi ws (n_v vs 3) 170 + ((-1) * v_iv (n_v vs 2) + ((-36) * v_iv (n_v vs 15) + 0)) ≤ 0
      rw [q3]
      exact vc_Mo_writeGroup_at_l4_5_0 (v_iv (n_v vs 2)) (v_iv (n_v vs 4)) (v_iv (n_v vs 5)) (v_iv (n_v vs 6)) (v_iv (n_v vs 7)) (v_iv (n_v vs 9)) (v_iv (n_v vs 10)) (v_iv (n_v vs 11)) (v_iv (n_v vs 12)) (v_iv (n_v vs 14)) (v_iv (n_v vs 15)) (w_ei ws (w_ar ws (n_v vs 0) 2)) (w_fi ws (n_v vs 0) 5) (w_fi ws (n_v vs 0) 170) k2 k4 k5 k6 k7 k9 k10 k11 k12 k14 k15 d0 d1 d2 d3 f0 f1 f2 f3 f4 f5 f6 f7 f9 f11 f12 f13 f14 f16 f17 f19 f20 f21 kz_0_170
  refine ⟨(fun _ h => (by cases h)), [], trivial, ?_, (fun _ h => (by cases h))⟩
  rw [List.append_nil]
  exact List.forall_mem_cons.mpr ⟨⟨show (20 : Nat) < 100 from by decide, nf0⟩, (fun _ h => (by cases h))⟩
set_option maxHeartbeats 4000000 in
theorem vc_Mo_writeGroup_at_l4_6_0 (x2 : Int) (x4 : Int) (x5 : Int) (x6 : Int) (x7 : Int) (x9 : Int) (x10 : Int) (x11 : Int) (x12 : Int) (all_0 : Int → Int) (r_0 : Int) (texts_0 : Int) (gx : Int) (k2 : 0 ≤ x2 ∧ x2 ≤ 99985891) (k4 : 4 ≤ x4 ∧ x4 ≤ 7) (k5 : 0 ≤ x5 ∧ x5 ≤ 23) (k6 : 1 ≤ x6 ∧ x6 ≤ 24) (k7 : 4 ≤ x7 ∧ x7 ≤ 7) (k9 : 0 ≤ x9 ∧ x9 ≤ 99999995) (k10 : 0 ≤ x10 ∧ x10 ≤ 99999992) (k11 : 2 ≤ x11 ∧ x11 ≤ 99) (k12 : 1 ≤ x12 ∧ x12 ≤ 1) (d0 : x4 + 0 ≤ x7 ∧ x7 ≤ x4 + 0) (d1 : x6 + (-4294967296) ≤ x5 ∧ x5 ≤ x6 + (-1)) (f0 : x12 < x11) (f1 : x11 = all_0 (((r_0 + 219) + x5))) (f2 : 1 * x10 + ((-1) * x2 + ((-36) * x5 + 0)) ≤ 5) (f3 : 1 * x9 + ((-1) * x2 + ((-36) * x5 + 0)) ≤ 0) (f4 : x7 = all_0 (((r_0 + 243) + x5))) (f5 : 1 * x6 + ((-1) * all_0 (r_0 + 0) + 0) ≤ 0) (f6 : (-1) * x6 + (1 * all_0 (r_0 + 0) + 0) ≤ 0) (f8 : 1 * texts_0 + ((-1) * x10 + 0) ≤ 8) (f10 : 1 * x10 + ((-1) * x2 + ((-36) * x5 + 0)) ≤ 5) (f11 : 1 * x9 + ((-1) * x2 + ((-36) * x5 + 0)) ≤ 0) (f13 : 1 * x9 + ((-1) * x2 + ((-36) * x5 + 0)) ≤ 0) (f14 : x7 = x4) (f15 : x5 < x6) (kz_0_170 : 0 ≤ texts_0 ∧ texts_0 ≤ 100000000) (ex2 : gx = texts_0) (ex3 : 0 ≤ gx ∧ gx ≤ 99999993) : 1 * texts_0 + ((-1) * gx + 0) ≤ 0 := by
  first | assumption | omega | grind
set_option maxHeartbeats 4000000 in
theorem vc_Mo_writeGroup_at_l4_6_1 (x2 : Int) (x4 : Int) (x5 : Int) (x6 : Int) (x7 : Int) (x9 : Int) (x10 : Int) (x11 : Int) (x12 : Int) (all_0 : Int → Int) (r_0 : Int) (texts_0 : Int) (gx : Int) (k2 : 0 ≤ x2 ∧ x2 ≤ 99985891) (k4 : 4 ≤ x4 ∧ x4 ≤ 7) (k5 : 0 ≤ x5 ∧ x5 ≤ 23) (k6 : 1 ≤ x6 ∧ x6 ≤ 24) (k7 : 4 ≤ x7 ∧ x7 ≤ 7) (k9 : 0 ≤ x9 ∧ x9 ≤ 99999995) (k10 : 0 ≤ x10 ∧ x10 ≤ 99999992) (k11 : 2 ≤ x11 ∧ x11 ≤ 99) (k12 : 1 ≤ x12 ∧ x12 ≤ 1) (d0 : x4 + 0 ≤ x7 ∧ x7 ≤ x4 + 0) (d1 : x6 + (-4294967296) ≤ x5 ∧ x5 ≤ x6 + (-1)) (f0 : x12 < x11) (f1 : x11 = all_0 (((r_0 + 219) + x5))) (f2 : 1 * x10 + ((-1) * x2 + ((-36) * x5 + 0)) ≤ 5) (f3 : 1 * x9 + ((-1) * x2 + ((-36) * x5 + 0)) ≤ 0) (f4 : x7 = all_0 (((r_0 + 243) + x5))) (f5 : 1 * x6 + ((-1) * all_0 (r_0 + 0) + 0) ≤ 0) (f6 : (-1) * x6 + (1 * all_0 (r_0 + 0) + 0) ≤ 0) (f8 : 1 * texts_0 + ((-1) * x10 + 0) ≤ 8) (f10 : 1 * x10 + ((-1) * x2 + ((-36) * x5 + 0)) ≤ 5) (f11 : 1 * x9 + ((-1) * x2 + ((-36) * x5 + 0)) ≤ 0) (f13 : 1 * x9 + ((-1) * x2 + ((-36) * x5 + 0)) ≤ 0) (f14 : x7 = x4) (f15 : x5 < x6) (kz_0_170 : 0 ≤ texts_0 ∧ texts_0 ≤ 100000000) (ex2 : gx = texts_0) (ex3 : 0 ≤ gx ∧ gx ≤ 99999993) : 1 * gx + ((-1) * x2 + ((-36) * x5 + 0)) ≤ 13 := by
  first | assumption | omega | grind
def o_Mo_writeGroup_at_l4_6 : or_T := (47, 14, [(0, (2, 0, 0, [165])), (2, (0, 0, 99985891, [])), (3, (2, 0, 0, [165])), (4, (0, 4, 7, [])), (5, (0, 0, 23, [])), (6, (0, 1, 24, [])), (7, (0, 4, 7, [])), (9, (0, 0, 99999995, [])), (10, (0, 0, 99999992, [])), (11, (0, 2, 99, [])), (12, (0, 1, 1, []))], [(7, [11, 12], [4]), (20, [11, 3, 5], [50, 1, 1, 1005, 1002, 1, 2, 1, 0, 3, 1, 2, 4, 7, 4, 3, 2, 1, 5, 0, 219, 1, 2]), (23, [10, 2, 5], [5, 1, -1, -36]), (23, [9, 2, 5], [0, 1, -1, -36]), (20, [7, 3, 5], [50, 1, 1, 1005, 1002, 1, 2, 1, 0, 3, 1, 2, 4, 7, 4, 3, 2, 1, 5, 0, 243, 1, 2]), (20, [6, 3], [30, 0, 1, 0, 0, -1, 3, 2005000]), (20, [6, 3], [30, 0, -1, 0, 0, 1, 3, 2005000]), (24, [0, 3], []), (20, [3, 10], [30, 8, 1, 1, 170, -1, 0, 0]), (102, [10], [7770675568902916283677847627294075626569627356208558085007249638955617140820833992704, 165170]), (23, [10, 2, 5], [5, 1, -1, -36]), (23, [9, 2, 5], [0, 1, -1, -36]), (102, [9], [7770675568902916283677847627294075626569627356208558085007249638955617140820833992704, 165170]), (23, [9, 2, 5], [0, 1, -1, -36]), (7, [7, 4], [0]), (7, [5, 6], [2])], [], [(0, 0, 99999993, [])], [(20, [3, 14], [30, 0, 1, 1, 170, -1, 0, 0]), (23, [14, 2, 5], [13, 1, -1, -36])], [], [(7, 4, 0, 0), (5, 6, -4294967296, -1)])
theorem oo_Mo_writeGroup_at_l4_6 {kA : Nat → ClassId} : or_ok PRD kA GG o_Mo_writeGroup_at_l4_6 := by
  refine or_mk fun A ta ws vs hD hth hl => ?_
  intro t0 r0 t2 k2 t3 r3 t4 k4 t5 k5 t6 k6 t7 k7 t9 k9 t10 k10 t11 k11 t12 k12 d0 d1 f0 f1 f2 f3 f4 f5 f6 f7 f8 ta1 w1 le1 s1 f10 f11 ta2 w2 le2 s2 f13 f14 f15
  replace f0 := shm_21 f0
  replace f1 := shm_732 f1
  replace f2 := shm_2038 f2
  replace f3 := shm_2037 f3
  replace f4 := shm_597 f4
  replace f5 := shm_126 f5
  replace f6 := shm_127 f6
  replace f7 := shm_5 f7
  replace f8 := shm_160 f8
  replace f10 := shm_2038 f10
  replace f11 := shm_2037 f11
  replace f13 := shm_2037 f13
  replace f14 := shm_37 f14
  replace f15 := shm_6 f15
  have q3 : n_v vs 3 = n_v vs 0 := f7.symm
  simp only [q3] at f1 f4 f5 f6 f8
  have cr_0_2 := fdq_10 hD hth r0
  have br_0_2_F5_0_0 : w_ei ws (w_ar ws (n_v vs 0) 2) (w_fi ws (n_v vs 0) 5 + 0) = w_el ws (w_ar ws (n_v vs 0) 2) (w_fi ws (n_v vs 0) 5 + 0).toNat := rfl
  have kz_0_170 := fdq_11 hD hth r0
  have kv0 := fdq_11 hD hth r0
  obtain ⟨x, ex, hx⟩ := iv_ex (ta := ta) (lo := 0) (hi := 99999993) (z := w_fi ws (n_v vs 0) 170) (by omega) (by omega) (by omega) (by omega)
  have ex2 : v_iv (Value.int x) = w_fi ws (n_v vs 0) 170 := ex
  have ex3 : 0 ≤ v_iv (Value.int x) ∧ v_iv (Value.int x) ≤ 99999993 := tv_rng hx
  have e_2 : n_v (vs ++ [Value.int x]) 2 = n_v vs 2 := n_v_old (by rw [hl]; decide)
  have e_3 : n_v (vs ++ [Value.int x]) 3 = n_v vs 3 := n_v_old (by rw [hl]; decide)
  have e_5 : n_v (vs ++ [Value.int x]) 5 = n_v vs 5 := n_v_old (by rw [hl]; decide)
  have e_14 : n_v (vs ++ [Value.int x]) 14 = Value.int x := n_v_new hl
  have nf0 : fc_1 PRD (20, [3, 14], [30, 0, 1, 1, 170, -1, 0, 0]) ws (vs ++ [Value.int x]) := by
    refine ⟨nf_inA hl rfl, sgq_131 ?_⟩
    · show 1 * w_fi ws (n_v (vs ++ [Value.int x]) 3) 170 + ((-1) * v_iv (n_v (vs ++ [Value.int x]) 14) + 0) ≤ 0
      simp only [e_3, e_14, q3]
      exact vc_Mo_writeGroup_at_l4_6_0 (v_iv (n_v vs 2)) (v_iv (n_v vs 4)) (v_iv (n_v vs 5)) (v_iv (n_v vs 6)) (v_iv (n_v vs 7)) (v_iv (n_v vs 9)) (v_iv (n_v vs 10)) (v_iv (n_v vs 11)) (v_iv (n_v vs 12)) (w_ei ws (w_ar ws (n_v vs 0) 2)) (w_fi ws (n_v vs 0) 5) (w_fi ws (n_v vs 0) 170) (v_iv (Value.int x)) k2 k4 k5 k6 k7 k9 k10 k11 k12 d0 d1 f0 f1 f2 f3 f4 f5 f6 f8 f10 f11 f13 f14 f15 kz_0_170 ex2 ex3
  have nf1 : fc_1 PRD (23, [14, 2, 5], [13, 1, -1, -36]) ws (vs ++ [Value.int x]) := by
    refine ⟨nf_inA hl rfl, sgq_2040 ?_⟩
    · show 1 * v_iv (n_v (vs ++ [Value.int x]) 14) + ((-1) * v_iv (n_v (vs ++ [Value.int x]) 2) + ((-36) * v_iv (n_v (vs ++ [Value.int x]) 5) + 0)) ≤ 13
      simp only [e_2, e_5, e_14]
      exact vc_Mo_writeGroup_at_l4_6_1 (v_iv (n_v vs 2)) (v_iv (n_v vs 4)) (v_iv (n_v vs 5)) (v_iv (n_v vs 6)) (v_iv (n_v vs 7)) (v_iv (n_v vs 9)) (v_iv (n_v vs 10)) (v_iv (n_v vs 11)) (v_iv (n_v vs 12)) (w_ei ws (w_ar ws (n_v vs 0) 2)) (w_fi ws (n_v vs 0) 5) (w_fi ws (n_v vs 0) 170) (v_iv (Value.int x)) k2 k4 k5 k6 k7 k9 k10 k11 k12 d0 d1 f0 f1 f2 f3 f4 f5 f6 f8 f10 f11 f13 f14 f15 kz_0_170 ex2 ex3
  exact ⟨(fun _ h => (by cases h)), [Value.int x], ag_one hx, List.forall_mem_cons.mpr ⟨⟨show (20 : Nat) < 100 from by decide, nf0⟩, List.forall_mem_cons.mpr ⟨⟨show (23 : Nat) < 100 from by decide, nf1⟩, (fun _ h => (by cases h))⟩⟩, (fun _ h => (by cases h))⟩
set_option maxHeartbeats 4000000 in
theorem vc_Mo_writeGroup_at_l4_7_0 (x2 : Int) (x4 : Int) (x5 : Int) (x6 : Int) (x7 : Int) (x9 : Int) (x10 : Int) (x11 : Int) (x12 : Int) (x14 : Int) (x15 : Int) (all_0 : Int → Int) (r_0 : Int) (texts_0 : Int) (gx : Int) (k2 : 0 ≤ x2 ∧ x2 ≤ 99985891) (k4 : 4 ≤ x4 ∧ x4 ≤ 7) (k5 : 0 ≤ x5 ∧ x5 ≤ 23) (k6 : 1 ≤ x6 ∧ x6 ≤ 24) (k7 : 4 ≤ x7 ∧ x7 ≤ 7) (k9 : 0 ≤ x9 ∧ x9 ≤ 99999995) (k10 : 0 ≤ x10 ∧ x10 ≤ 99999992) (k11 : 2 ≤ x11 ∧ x11 ≤ 99) (k12 : 1 ≤ x12 ∧ x12 ≤ 1) (k14 : 0 ≤ x14 ∧ x14 ≤ 99999993) (k15 : 0 ≤ x15 ∧ x15 ≤ 99) (d0 : x4 + 0 ≤ x7 ∧ x7 ≤ x4 + 0) (d1 : x6 + (-4294967296) ≤ x5 ∧ x5 ≤ x6 + (-1)) (f0 : x15 = all_0 (((r_0 + 219) + x5))) (f1 : 1 * x14 + ((-1) * x2 + ((-36) * x5 + 0)) ≤ 13) (f2 : x11 = all_0 (((r_0 + 219) + x5))) (f3 : 1 * x10 + ((-1) * x2 + ((-36) * x5 + 0)) ≤ 5) (f4 : 1 * x9 + ((-1) * x2 + ((-36) * x5 + 0)) ≤ 0) (f5 : x7 = all_0 (((r_0 + 243) + x5))) (f6 : 1 * x6 + ((-1) * all_0 (r_0 + 0) + 0) ≤ 0) (f7 : (-1) * x6 + (1 * all_0 (r_0 + 0) + 0) ≤ 0) (f9 : 1 * texts_0 + ((-1) * x14 + 0) ≤ 7) (f11 : 1 * x14 + ((-1) * x2 + ((-36) * x5 + 0)) ≤ 13) (f12 : x12 < x11) (f13 : 1 * x10 + ((-1) * x2 + ((-36) * x5 + 0)) ≤ 5) (f14 : 1 * x9 + ((-1) * x2 + ((-36) * x5 + 0)) ≤ 0) (f16 : 1 * x10 + ((-1) * x2 + ((-36) * x5 + 0)) ≤ 5) (f17 : 1 * x9 + ((-1) * x2 + ((-36) * x5 + 0)) ≤ 0) (f19 : 1 * x9 + ((-1) * x2 + ((-36) * x5 + 0)) ≤ 0) (f20 : x7 = x4) (f21 : x5 < x6) (kz_0_170 : 0 ≤ texts_0 ∧ texts_0 ≤ 100000000) (ex2 : gx = texts_0) (ex3 : 0 ≤ gx ∧ gx ≤ 99999987) : 1 * texts_0 + ((-1) * gx + 0) ≤ 0 := by
  first | assumption | omega | grind
set_option maxHeartbeats 4000000 in
theorem vc_Mo_writeGroup_at_l4_7_1 (x2 : Int) (x4 : Int) (x5 : Int) (x6 : Int) (x7 : Int) (x9 : Int) (x10 : Int) (x11 : Int) (x12 : Int) (x14 : Int) (x15 : Int) (all_0 : Int → Int) (r_0 : Int) (texts_0 : Int) (gx : Int) (k2 : 0 ≤ x2 ∧ x2 ≤ 99985891) (k4 : 4 ≤ x4 ∧ x4 ≤ 7) (k5 : 0 ≤ x5 ∧ x5 ≤ 23) (k6 : 1 ≤ x6 ∧ x6 ≤ 24) (k7 : 4 ≤ x7 ∧ x7 ≤ 7) (k9 : 0 ≤ x9 ∧ x9 ≤ 99999995) (k10 : 0 ≤ x10 ∧ x10 ≤ 99999992) (k11 : 2 ≤ x11 ∧ x11 ≤ 99) (k12 : 1 ≤ x12 ∧ x12 ≤ 1) (k14 : 0 ≤ x14 ∧ x14 ≤ 99999993) (k15 : 0 ≤ x15 ∧ x15 ≤ 99) (d0 : x4 + 0 ≤ x7 ∧ x7 ≤ x4 + 0) (d1 : x6 + (-4294967296) ≤ x5 ∧ x5 ≤ x6 + (-1)) (f0 : x15 = all_0 (((r_0 + 219) + x5))) (f1 : 1 * x14 + ((-1) * x2 + ((-36) * x5 + 0)) ≤ 13) (f2 : x11 = all_0 (((r_0 + 219) + x5))) (f3 : 1 * x10 + ((-1) * x2 + ((-36) * x5 + 0)) ≤ 5) (f4 : 1 * x9 + ((-1) * x2 + ((-36) * x5 + 0)) ≤ 0) (f5 : x7 = all_0 (((r_0 + 243) + x5))) (f6 : 1 * x6 + ((-1) * all_0 (r_0 + 0) + 0) ≤ 0) (f7 : (-1) * x6 + (1 * all_0 (r_0 + 0) + 0) ≤ 0) (f9 : 1 * texts_0 + ((-1) * x14 + 0) ≤ 7) (f11 : 1 * x14 + ((-1) * x2 + ((-36) * x5 + 0)) ≤ 13) (f12 : x12 < x11) (f13 : 1 * x10 + ((-1) * x2 + ((-36) * x5 + 0)) ≤ 5) (f14 : 1 * x9 + ((-1) * x2 + ((-36) * x5 + 0)) ≤ 0) (f16 : 1 * x10 + ((-1) * x2 + ((-36) * x5 + 0)) ≤ 5) (f17 : 1 * x9 + ((-1) * x2 + ((-36) * x5 + 0)) ≤ 0) (f19 : 1 * x9 + ((-1) * x2 + ((-36) * x5 + 0)) ≤ 0) (f20 : x7 = x4) (f21 : x5 < x6) (kz_0_170 : 0 ≤ texts_0 ∧ texts_0 ≤ 100000000) (ex2 : gx = texts_0) (ex3 : 0 ≤ gx ∧ gx ≤ 99999987) : 1 * gx + ((-1) * x2 + ((-36) * x5 + 0)) ≤ 20 := by
  first | assumption | omega | grind
def o_Mo_writeGroup_at_l4_7 : or_T := (56, 16, [(0, (2, 0, 0, [165])), (2, (0, 0, 99985891, [])), (3, (2, 0, 0, [165])), (4, (0, 4, 7, [])), (5, (0, 0, 23, [])), (6, (0, 1, 24, [])), (7, (0, 4, 7, [])), (9, (0, 0, 99999995, [])), (10, (0, 0, 99999992, [])), (11, (0, 2, 99, [])), (12, (0, 1, 1, [])), (14, (0, 0, 99999993, [])), (15, (0, 0, 99, []))], [(20, [15, 3, 5], [50, 1, 1, 1005, 1002, 1, 2, 1, 0, 3, 1, 2, 4, 7, 4, 3, 2, 1, 5, 0, 219, 1, 2]), (23, [14, 2, 5], [13, 1, -1, -36]), (20, [11, 3, 5], [50, 1, 1, 1005, 1002, 1, 2, 1, 0, 3, 1, 2, 4, 7, 4, 3, 2, 1, 5, 0, 219, 1, 2]), (23, [10, 2, 5], [5, 1, -1, -36]), (23, [9, 2, 5], [0, 1, -1, -36]), (20, [7, 3, 5], [50, 1, 1, 1005, 1002, 1, 2, 1, 0, 3, 1, 2, 4, 7, 4, 3, 2, 1, 5, 0, 243, 1, 2]), (20, [6, 3], [30, 0, 1, 0, 0, -1, 3, 2005000]), (20, [6, 3], [30, 0, -1, 0, 0, 1, 3, 2005000]), (24, [0, 3], []), (20, [3, 14], [30, 7, 1, 1, 170, -1, 0, 0]), (102, [14], [7770675568902916283677847627294075626569627356208558085007249638955617140820833992704, 165170]), (23, [14, 2, 5], [13, 1, -1, -36]), (7, [11, 12], [4]), (23, [10, 2, 5], [5, 1, -1, -36]), (23, [9, 2, 5], [0, 1, -1, -36]), (102, [10], [7770675568902916283677847627294075626569627356208558085007249638955617140820833992704, 165170]), (23, [10, 2, 5], [5, 1, -1, -36]), (23, [9, 2, 5], [0, 1, -1, -36]), (102, [9], [7770675568902916283677847627294075626569627356208558085007249638955617140820833992704, 165170]), (23, [9, 2, 5], [0, 1, -1, -36]), (7, [7, 4], [0]), (7, [5, 6], [2])], [], [(0, 0, 99999987, [])], [(20, [3, 16], [30, 0, 1, 1, 170, -1, 0, 0]), (23, [16, 2, 5], [20, 1, -1, -36])], [], [(7, 4, 0, 0), (5, 6, -4294967296, -1)])
theorem oo_Mo_writeGroup_at_l4_7 {kA : Nat → ClassId} : or_ok PRD kA GG o_Mo_writeGroup_at_l4_7 := by
  refine or_mk fun A ta ws vs hD hth hl => ?_
  intro t0 r0 t2 k2 t3 r3 t4 k4 t5 k5 t6 k6 t7 k7 t9 k9 t10 k10 t11 k11 t12 k12 t14 k14 t15 k15 d0 d1 f0 f1 f2 f3 f4 f5 f6 f7 f8 f9 ta1 w1 le1 s1 f11 f12 f13 f14 ta2 w2 le2 s2 f16 f17 ta3 w3 le3 s3 f19 f20 f21
  replace f0 := shm_732 f0
  replace f1 := shm_2040 f1
  replace f2 := shm_732 f2
  replace f3 := shm_2038 f3
  replace f4 := shm_2037 f4
  replace f5 := shm_597 f5
  replace f6 := shm_126 f6
  replace f7 := shm_127 f7
  replace f8 := shm_5 f8
  replace f9 := shm_209 f9
  replace f11 := shm_2040 f11
  replace f12 := shm_21 f12
  replace f13 := shm_2038 f13
  replace f14 := shm_2037 f14
  replace f16 := shm_2038 f16
  replace f17 := shm_2037 f17
  replace f19 := shm_2037 f19
  replace f20 := shm_37 f20
  replace f21 := shm_6 f21
  have q3 : n_v vs 3 = n_v vs 0 := f8.symm
  simp only [q3] at f0 f2 f5 f6 f7 f9
  have cr_0_2 := fdq_10 hD hth r0
  have br_0_2_F5_0_0 : w_ei ws (w_ar ws (n_v vs 0) 2) (w_fi ws (n_v vs 0) 5 + 0) = w_el ws (w_ar ws (n_v vs 0) 2) (w_fi ws (n_v vs 0) 5 + 0).toNat := rfl
  have kz_0_170 := fdq_11 hD hth r0
  have kv0 := fdq_11 hD hth r0
  obtain ⟨x, ex, hx⟩ := iv_ex (ta := ta) (lo := 0) (hi := 99999987) (z := w_fi ws (n_v vs 0) 170) (by omega) (by omega) (by omega) (by omega)
  have ex2 : v_iv (Value.int x) = w_fi ws (n_v vs 0) 170 := ex
  have ex3 : 0 ≤ v_iv (Value.int x) ∧ v_iv (Value.int x) ≤ 99999987 := tv_rng hx
  have e_2 : n_v (vs ++ [Value.int x]) 2 = n_v vs 2 := n_v_old (by rw [hl]; decide)
  have e_3 : n_v (vs ++ [Value.int x]) 3 = n_v vs 3 := n_v_old (by rw [hl]; decide)
  have e_5 : n_v (vs ++ [Value.int x]) 5 = n_v vs 5 := n_v_old (by rw [hl]; decide)
  have e_16 : n_v (vs ++ [Value.int x]) 16 = Value.int x := n_v_new hl
  have nf0 : fc_1 PRD (20, [3, 16], [30, 0, 1, 1, 170, -1, 0, 0]) ws (vs ++ [Value.int x]) := by
    refine ⟨nf_inA hl rfl, sgq_131 ?_⟩
    · show 1 * w_fi ws (n_v (vs ++ [Value.int x]) 3) 170 + ((-1) * v_iv (n_v (vs ++ [Value.int x]) 16) + 0) ≤ 0
      simp only [e_3, e_16, q3]
      exact vc_Mo_writeGroup_at_l4_7_0 (v_iv (n_v vs 2)) (v_iv (n_v vs 4)) (v_iv (n_v vs 5)) (v_iv (n_v vs 6)) (v_iv (n_v vs 7)) (v_iv (n_v vs 9)) (v_iv (n_v vs 10)) (v_iv (n_v vs 11)) (v_iv (n_v vs 12)) (v_iv (n_v vs 14)) (v_iv (n_v vs 15)) (w_ei ws (w_ar ws (n_v vs 0) 2)) (w_fi ws (n_v vs 0) 5) (w_fi ws (n_v vs 0) 170) (v_iv (Value.int x)) k2 k4 k5 k6 k7 k9 k10 k11 k12 k14 k15 d0 d1 f0 f1 f2 f3 f4 f5 f6 f7 f9 f11 f12 f13 f14 f16 f17 f19 f20 f21 kz_0_170 ex2 ex3
  have nf1 : fc_1 PRD (23, [16, 2, 5], [20, 1, -1, -36]) ws (vs ++ [Value.int x]) := by
    refine ⟨nf_inA hl rfl, sgq_2041 ?_⟩
    · show 1 * v_iv (n_v (vs ++ [Value.int x]) 16) + ((-1) * v_iv (n_v (vs ++ [Value.int x]) 2) + ((-36) * v_iv (n_v (vs ++ [Value.int x]) 5) + 0)) ≤ 20
      simp only [e_2, e_5, e_16]
      exact vc_Mo_writeGroup_at_l4_7_1 (v_iv (n_v vs 2)) (v_iv (n_v vs 4)) (v_iv (n_v vs 5)) (v_iv (n_v vs 6)) (v_iv (n_v vs 7)) (v_iv (n_v vs 9)) (v_iv (n_v vs 10)) (v_iv (n_v vs 11)) (v_iv (n_v vs 12)) (v_iv (n_v vs 14)) (v_iv (n_v vs 15)) (w_ei ws (w_ar ws (n_v vs 0) 2)) (w_fi ws (n_v vs 0) 5) (w_fi ws (n_v vs 0) 170) (v_iv (Value.int x)) k2 k4 k5 k6 k7 k9 k10 k11 k12 k14 k15 d0 d1 f0 f1 f2 f3 f4 f5 f6 f7 f9 f11 f12 f13 f14 f16 f17 f19 f20 f21 kz_0_170 ex2 ex3
  exact ⟨(fun _ h => (by cases h)), [Value.int x], ag_one hx, List.forall_mem_cons.mpr ⟨⟨show (20 : Nat) < 100 from by decide, nf0⟩, List.forall_mem_cons.mpr ⟨⟨show (23 : Nat) < 100 from by decide, nf1⟩, (fun _ h => (by cases h))⟩⟩, (fun _ h => (by cases h))⟩
set_option maxHeartbeats 4000000 in
theorem vc_Mo_writeGroup_at_l4_8_0 (x2 : Int) (x4 : Int) (x5 : Int) (x6 : Int) (x7 : Int) (x9 : Int) (x10 : Int) (x11 : Int) (x12 : Int) (x14 : Int) (x15 : Int) (x16 : Int) (all_0 : Int → Int) (r_0 : Int) (texts_0 : Int) (gx : Int) (k2 : 0 ≤ x2 ∧ x2 ≤ 99985891) (k4 : 4 ≤ x4 ∧ x4 ≤ 7) (k5 : 0 ≤ x5 ∧ x5 ≤ 23) (k6 : 1 ≤ x6 ∧ x6 ≤ 24) (k7 : 4 ≤ x7 ∧ x7 ≤ 7) (k9 : 0 ≤ x9 ∧ x9 ≤ 99999995) (k10 : 0 ≤ x10 ∧ x10 ≤ 99999992) (k11 : 2 ≤ x11 ∧ x11 ≤ 99) (k12 : 1 ≤ x12 ∧ x12 ≤ 1) (k14 : 0 ≤ x14 ∧ x14 ≤ 99999993) (k15 : 0 ≤ x15 ∧ x15 ≤ 99) (k16 : 0 ≤ x16 ∧ x16 ≤ 99999987) (d0 : x4 + 0 ≤ x7 ∧ x7 ≤ x4 + 0) (d1 : x6 + (-4294967296) ≤ x5 ∧ x5 ≤ x6 + (-1)) (f0 : 1 * x16 + ((-1) * x2 + ((-36) * x5 + 0)) ≤ 20) (f1 : x15 = all_0 (((r_0 + 219) + x5))) (f2 : 1 * x14 + ((-1) * x2 + ((-36) * x5 + 0)) ≤ 13) (f3 : x11 = all_0 (((r_0 + 219) + x5))) (f4 : 1 * x10 + ((-1) * x2 + ((-36) * x5 + 0)) ≤ 5) (f5 : 1 * x9 + ((-1) * x2 + ((-36) * x5 + 0)) ≤ 0) (f6 : x7 = all_0 (((r_0 + 243) + x5))) (f7 : 1 * x6 + ((-1) * all_0 (r_0 + 0) + 0) ≤ 0) (f8 : (-1) * x6 + (1 * all_0 (r_0 + 0) + 0) ≤ 0) (f10 : 1 * texts_0 + ((-1) * x16 + 0) ≤ 13) (f12 : 1 * x16 + ((-1) * x2 + ((-36) * x5 + 0)) ≤ 20) (f13 : 1 * x14 + ((-1) * x2 + ((-36) * x5 + 0)) ≤ 13) (f14 : 1 * x10 + ((-1) * x2 + ((-36) * x5 + 0)) ≤ 5) (f15 : 1 * x9 + ((-1) * x2 + ((-36) * x5 + 0)) ≤ 0) (f17 : 1 * x14 + ((-1) * x2 + ((-36) * x5 + 0)) ≤ 13) (f18 : x12 < x11) (f19 : 1 * x10 + ((-1) * x2 + ((-36) * x5 + 0)) ≤ 5) (f20 : 1 * x9 + ((-1) * x2 + ((-36) * x5 + 0)) ≤ 0) (f22 : 1 * x10 + ((-1) * x2 + ((-36) * x5 + 0)) ≤ 5) (f23 : 1 * x9 + ((-1) * x2 + ((-36) * x5 + 0)) ≤ 0) (f25 : 1 * x9 + ((-1) * x2 + ((-36) * x5 + 0)) ≤ 0) (f26 : x7 = x4) (f27 : x5 < x6) (kz_0_170 : 0 ≤ texts_0 ∧ texts_0 ≤ 100000000) (ex2 : gx = texts_0) (ex3 : 0 ≤ gx ∧ gx ≤ 99999999) : 1 * texts_0 + ((-1) * gx + 0) ≤ 0 := by
  first | assumption | omega | grind
set_option maxHeartbeats 4000000 in
theorem vc_Mo_writeGroup_at_l4_8_1 (x2 : Int) (x4 : Int) (x5 : Int) (x6 : Int) (x7 : Int) (x9 : Int) (x10 : Int) (x11 : Int) (x12 : Int) (x14 : Int) (x15 : Int) (x16 : Int) (all_0 : Int → Int) (r_0 : Int) (texts_0 : Int) (gx : Int) (k2 : 0 ≤ x2 ∧ x2 ≤ 99985891) (k4 : 4 ≤ x4 ∧ x4 ≤ 7) (k5 : 0 ≤ x5 ∧ x5 ≤ 23) (k6 : 1 ≤ x6 ∧ x6 ≤ 24) (k7 : 4 ≤ x7 ∧ x7 ≤ 7) (k9 : 0 ≤ x9 ∧ x9 ≤ 99999995) (k10 : 0 ≤ x10 ∧ x10 ≤ 99999992) (k11 : 2 ≤ x11 ∧ x11 ≤ 99) (k12 : 1 ≤ x12 ∧ x12 ≤ 1) (k14 : 0 ≤ x14 ∧ x14 ≤ 99999993) (k15 : 0 ≤ x15 ∧ x15 ≤ 99) (k16 : 0 ≤ x16 ∧ x16 ≤ 99999987) (d0 : x4 + 0 ≤ x7 ∧ x7 ≤ x4 + 0) (d1 : x6 + (-4294967296) ≤ x5 ∧ x5 ≤ x6 + (-1)) (f0 : 1 * x16 + ((-1) * x2 + ((-36) * x5 + 0)) ≤ 20) (f1 : x15 = all_0 (((r_0 + 219) + x5))) (f2 : 1 * x14 + ((-1) * x2 + ((-36) * x5 + 0)) ≤ 13) (f3 : x11 = all_0 (((r_0 + 219) + x5))) (f4 : 1 * x10 + ((-1) * x2 + ((-36) * x5 + 0)) ≤ 5) (f5 : 1 * x9 + ((-1) * x2 + ((-36) * x5 + 0)) ≤ 0) (f6 : x7 = all_0 (((r_0 + 243) + x5))) (f7 : 1 * x6 + ((-1) * all_0 (r_0 + 0) + 0) ≤ 0) (f8 : (-1) * x6 + (1 * all_0 (r_0 + 0) + 0) ≤ 0) (f10 : 1 * texts_0 + ((-1) * x16 + 0) ≤ 13) (f12 : 1 * x16 + ((-1) * x2 + ((-36) * x5 + 0)) ≤ 20) (f13 : 1 * x14 + ((-1) * x2 + ((-36) * x5 + 0)) ≤ 13) (f14 : 1 * x10 + ((-1) * x2 + ((-36) * x5 + 0)) ≤ 5) (f15 : 1 * x9 + ((-1) * x2 + ((-36) * x5 + 0)) ≤ 0) (f17 : 1 * x14 + ((-1) * x2 + ((-36) * x5 + 0)) ≤ 13) (f18 : x12 < x11) (f19 : 1 * x10 + ((-1) * x2 + ((-36) * x5 + 0)) ≤ 5) (f20 : 1 * x9 + ((-1) * x2 + ((-36) * x5 + 0)) ≤ 0) (f22 : 1 * x10 + ((-1) * x2 + ((-36) * x5 + 0)) ≤ 5) (f23 : 1 * x9 + ((-1) * x2 + ((-36) * x5 + 0)) ≤ 0) (f25 : 1 * x9 + ((-1) * x2 + ((-36) * x5 + 0)) ≤ 0) (f26 : x7 = x4) (f27 : x5 < x6) (kz_0_170 : 0 ≤ texts_0 ∧ texts_0 ≤ 100000000) (ex2 : gx = texts_0) (ex3 : 0 ≤ gx ∧ gx ≤ 99999999) : 1 * gx + ((-1) * x2 + ((-36) * x5 + 0)) ≤ 33 := by
  first | assumption | omega | grind
def o_Mo_writeGroup_at_l4_8 : or_T := (63, 18, [(0, (2, 0, 0, [165])), (2, (0, 0, 99985891, [])), (3, (2, 0, 0, [165])), (4, (0, 4, 7, [])), (5, (0, 0, 23, [])), (6, (0, 1, 24, [])), (7, (0, 4, 7, [])), (9, (0, 0, 99999995, [])), (10, (0, 0, 99999992, [])), (11, (0, 2, 99, [])), (12, (0, 1, 1, [])), (14, (0, 0, 99999993, [])), (15, (0, 0, 99, [])), (16, (0, 0, 99999987, []))], [(23, [16, 2, 5], [20, 1, -1, -36]), (20, [15, 3, 5], [50, 1, 1, 1005, 1002, 1, 2, 1, 0, 3, 1, 2, 4, 7, 4, 3, 2, 1, 5, 0, 219, 1, 2]), (23, [14, 2, 5], [13, 1, -1, -36]), (20, [11, 3, 5], [50, 1, 1, 1005, 1002, 1, 2, 1, 0, 3, 1, 2, 4, 7, 4, 3, 2, 1, 5, 0, 219, 1, 2]), (23, [10, 2, 5], [5, 1, -1, -36]), (23, [9, 2, 5], [0, 1, -1, -36]), (20, [7, 3, 5], [50, 1, 1, 1005, 1002, 1, 2, 1, 0, 3, 1, 2, 4, 7, 4, 3, 2, 1, 5, 0, 243, 1, 2]), (20, [6, 3], [30, 0, 1, 0, 0, -1, 3, 2005000]), (20, [6, 3], [30, 0, -1, 0, 0, 1, 3, 2005000]), (24, [0, 3], []), (20, [3, 16], [30, 13, 1, 1, 170, -1, 0, 0]), (102, [16], [7770675568902916283677847627294075626569627356208558085007249638955617140820833992704, 165170]), (23, [16, 2, 5], [20, 1, -1, -36]), (23, [14, 2, 5], [13, 1, -1, -36]), (23, [10, 2, 5], [5, 1, -1, -36]), (23, [9, 2, 5], [0, 1, -1, -36]), (102, [14], [7770675568902916283677847627294075626569627356208558085007249638955617140820833992704, 165170]), (23, [14, 2, 5], [13, 1, -1, -36]), (7, [11, 12], [4]), (23, [10, 2, 5], [5, 1, -1, -36]), (23, [9, 2, 5], [0, 1, -1, -36]), (102, [10], [7770675568902916283677847627294075626569627356208558085007249638955617140820833992704, 165170]), (23, [10, 2, 5], [5, 1, -1, -36]), (23, [9, 2, 5], [0, 1, -1, -36]), (102, [9], [7770675568902916283677847627294075626569627356208558085007249638955617140820833992704, 165170]), (23, [9, 2, 5], [0, 1, -1, -36]), (7, [7, 4], [0]), (7, [5, 6], [2])], [], [(0, 0, 99999999, [])], [(20, [3, 18], [30, 0, 1, 1, 170, -1, 0, 0]), (23, [18, 2, 5], [33, 1, -1, -36])], [], [(7, 4, 0, 0), (5, 6, -4294967296, -1)])
theorem oo_Mo_writeGroup_at_l4_8 {kA : Nat → ClassId} : or_ok PRD kA GG o_Mo_writeGroup_at_l4_8 := by
  refine or_mk fun A ta ws vs hD hth hl => ?_
  intro t0 r0 t2 k2 t3 r3 t4 k4 t5 k5 t6 k6 t7 k7 t9 k9 t10 k10 t11 k11 t12 k12 t14 k14 t15 k15 t16 k16 d0 d1 f0 f1 f2 f3 f4 f5 f6 f7 f8 f9 f10 ta1 w1 le1 s1 f12 f13 f14 f15 ta2 w2 le2 s2 f17 f18 f19 f20 ta3 w3 le3 s3 f22 f23 ta4 w4 le4 s4 f25 f26 f27
  replace f0 := shm_2041 f0
  replace f1 := shm_732 f1
  replace f2 := shm_2040 f2
  replace f3 := shm_732 f3
  replace f4 := shm_2038 f4
  replace f5 := shm_2037 f5
  replace f6 := shm_597 f6
  replace f7 := shm_126 f7
  replace f8 := shm_127 f8
  replace f9 := shm_5 f9
  replace f10 := shm_1056 f10
  replace f12 := shm_2041 f12
  replace f13 := shm_2040 f13
  replace f14 := shm_2038 f14
  replace f15 := shm_2037 f15
  replace f17 := shm_2040 f17
  replace f18 := shm_21 f18
  replace f19 := shm_2038 f19
  replace f20 := shm_2037 f20
  replace f22 := shm_2038 f22
  replace f23 := shm_2037 f23
  replace f25 := shm_2037 f25
  replace f26 := shm_37 f26
  replace f27 := shm_6 f27
  have q3 : n_v vs 3 = n_v vs 0 := f9.symm
  simp only [q3] at f1 f3 f6 f7 f8 f10
  have cr_0_2 := fdq_10 hD hth r0
  have br_0_2_F5_0_0 : w_ei ws (w_ar ws (n_v vs 0) 2) (w_fi ws (n_v vs 0) 5 + 0) = w_el ws (w_ar ws (n_v vs 0) 2) (w_fi ws (n_v vs 0) 5 + 0).toNat := rfl
  have kz_0_170 := fdq_11 hD hth r0
  have kv0 := fdq_11 hD hth r0
  obtain ⟨x, ex, hx⟩ := iv_ex (ta := ta) (lo := 0) (hi := 99999999) (z := w_fi ws (n_v vs 0) 170) (by omega) (by omega) (by omega) (by omega)
  have ex2 : v_iv (Value.int x) = w_fi ws (n_v vs 0) 170 := ex
  have ex3 : 0 ≤ v_iv (Value.int x) ∧ v_iv (Value.int x) ≤ 99999999 := tv_rng hx
  have e_2 : n_v (vs ++ [Value.int x]) 2 = n_v vs 2 := n_v_old (by rw [hl]; decide)
  have e_3 : n_v (vs ++ [Value.int x]) 3 = n_v vs 3 := n_v_old (by rw [hl]; decide)
  have e_5 : n_v (vs ++ [Value.int x]) 5 = n_v vs 5 := n_v_old (by rw [hl]; decide)
  have e_18 : n_v (vs ++ [Value.int x]) 18 = Value.int x := n_v_new hl
  have nf0 : fc_1 PRD (20, [3, 18], [30, 0, 1, 1, 170, -1, 0, 0]) ws (vs ++ [Value.int x]) := by
    refine ⟨nf_inA hl rfl, sgq_131 ?_⟩
    · show 1 * w_fi ws (n_v (vs ++ [Value.int x]) 3) 170 + ((-1) * v_iv (n_v (vs ++ [Value.int x]) 18) + 0) ≤ 0
      simp only [e_3, e_18, q3]
      exact vc_Mo_writeGroup_at_l4_8_0 (v_iv (n_v vs 2)) (v_iv (n_v vs 4)) (v_iv (n_v vs 5)) (v_iv (n_v vs 6)) (v_iv (n_v vs 7)) (v_iv (n_v vs 9)) (v_iv (n_v vs 10)) (v_iv (n_v vs 11)) (v_iv (n_v vs 12)) (v_iv (n_v vs 14)) (v_iv (n_v vs 15)) (v_iv (n_v vs 16)) (w_ei ws (w_ar ws (n_v vs 0) 2)) (w_fi ws (n_v vs 0) 5) (w_fi ws (n_v vs 0) 170) (v_iv (Value.int x)) k2 k4 k5 k6 k7 k9 k10 k11 k12 k14 k15 k16 d0 d1 f0 f1 f2 f3 f4 f5 f6 f7 f8 f10 f12 f13 f14 f15 f17 f18 f19 f20 f22 f23 f25 f26 f27 kz_0_170 ex2 ex3
  have nf1 : fc_1 PRD (23, [18, 2, 5], [33, 1, -1, -36]) ws (vs ++ [Value.int x]) := by
    refine ⟨nf_inA hl rfl, sgq_2042 ?_⟩
    · show 1 * v_iv (n_v (vs ++ [Value.int x]) 18) + ((-1) * v_iv (n_v (vs ++ [Value.int x]) 2) + ((-36) * v_iv (n_v (vs ++ [Value.int x]) 5) + 0)) ≤ 33
      simp only [e_2, e_5, e_18]
      exact vc_Mo_writeGroup_at_l4_8_1 (v_iv (n_v vs 2)) (v_iv (n_v vs 4)) (v_iv (n_v vs 5)) (v_iv (n_v vs 6)) (v_iv (n_v vs 7)) (v_iv (n_v vs 9)) (v_iv (n_v vs 10)) (v_iv (n_v vs 11)) (v_iv (n_v vs 12)) (v_iv (n_v vs 14)) (v_iv (n_v vs 15)) (v_iv (n_v vs 16)) (w_ei ws (w_ar ws (n_v vs 0) 2)) (w_fi ws (n_v vs 0) 5) (w_fi ws (n_v vs 0) 170) (v_iv (Value.int x)) k2 k4 k5 k6 k7 k9 k10 k11 k12 k14 k15 k16 d0 d1 f0 f1 f2 f3 f4 f5 f6 f7 f8 f10 f12 f13 f14 f15 f17 f18 f19 f20 f22 f23 f25 f26 f27 kz_0_170 ex2 ex3
  exact ⟨(fun _ h => (by cases h)), [Value.int x], ag_one hx, List.forall_mem_cons.mpr ⟨⟨show (20 : Nat) < 100 from by decide, nf0⟩, List.forall_mem_cons.mpr ⟨⟨show (23 : Nat) < 100 from by decide, nf1⟩, (fun _ h => (by cases h))⟩⟩, (fun _ h => (by cases h))⟩
set_option maxHeartbeats 4000000 in
theorem vc_Mo_writeGroup_at_l4_9_0 (x2 : Int) (x4 : Int) (x5 : Int) (x6 : Int) (x7 : Int) (x9 : Int) (x10 : Int) (x11 : Int) (x12 : Int) (x14 : Int) (x15 : Int) (x16 : Int) (x18 : Int) (all_0 : Int → Int) (r_0 : Int) (texts_0 : Int) (gx : Int) (k2 : 0 ≤ x2 ∧ x2 ≤ 99985891) (k4 : 4 ≤ x4 ∧ x4 ≤ 7) (k5 : 0 ≤ x5 ∧ x5 ≤ 23) (k6 : 1 ≤ x6 ∧ x6 ≤ 24) (k7 : 4 ≤ x7 ∧ x7 ≤ 7) (k9 : 0 ≤ x9 ∧ x9 ≤ 99999995) (k10 : 0 ≤ x10 ∧ x10 ≤ 99999992) (k11 : 2 ≤ x11 ∧ x11 ≤ 99) (k12 : 1 ≤ x12 ∧ x12 ≤ 1) (k14 : 0 ≤ x14 ∧ x14 ≤ 99999993) (k15 : 0 ≤ x15 ∧ x15 ≤ 99) (k16 : 0 ≤ x16 ∧ x16 ≤ 99999987) (k18 : 0 ≤ x18 ∧ x18 ≤ 99999999) (d0 : x4 + 0 ≤ x7 ∧ x7 ≤ x4 + 0) (d1 : x6 + (-4294967296) ≤ x5 ∧ x5 ≤ x6 + (-1)) (f0 : 1 * x18 + ((-1) * x2 + ((-36) * x5 + 0)) ≤ 33) (f1 : 1 * x16 + ((-1) * x2 + ((-36) * x5 + 0)) ≤ 20) (f2 : x15 = all_0 (((r_0 + 219) + x5))) (f3 : 1 * x14 + ((-1) * x2 + ((-36) * x5 + 0)) ≤ 13) (f4 : x11 = all_0 (((r_0 + 219) + x5))) (f5 : 1 * x10 + ((-1) * x2 + ((-36) * x5 + 0)) ≤ 5) (f6 : 1 * x9 + ((-1) * x2 + ((-36) * x5 + 0)) ≤ 0) (f7 : x7 = all_0 (((r_0 + 243) + x5))) (f8 : 1 * x6 + ((-1) * all_0 (r_0 + 0) + 0) ≤ 0) (f9 : (-1) * x6 + (1 * all_0 (r_0 + 0) + 0) ≤ 0) (f11 : 1 * texts_0 + ((-1) * x18 + 0) ≤ 1) (f13 : 1 * x18 + ((-1) * x2 + ((-36) * x5 + 0)) ≤ 33) (f14 : 1 * x16 + ((-1) * x2 + ((-36) * x5 + 0)) ≤ 20) (f15 : 1 * x14 + ((-1) * x2 + ((-36) * x5 + 0)) ≤ 13) (f16 : 1 * x10 + ((-1) * x2 + ((-36) * x5 + 0)) ≤ 5) (f17 : 1 * x9 + ((-1) * x2 + ((-36) * x5 + 0)) ≤ 0) (f19 : 1 * x16 + ((-1) * x2 + ((-36) * x5 + 0)) ≤ 20) (f20 : 1 * x14 + ((-1) * x2 + ((-36) * x5 + 0)) ≤ 13) (f21 : 1 * x10 + ((-1) * x2 + ((-36) * x5 + 0)) ≤ 5) (f22 : 1 * x9 + ((-1) * x2 + ((-36) * x5 + 0)) ≤ 0) (f24 : 1 * x14 + ((-1) * x2 + ((-36) * x5 + 0)) ≤ 13) (f25 : x12 < x11) (f26 : 1 * x10 + ((-1) * x2 + ((-36) * x5 + 0)) ≤ 5) (f27 : 1 * x9 + ((-1) * x2 + ((-36) * x5 + 0)) ≤ 0) (f29 : 1 * x10 + ((-1) * x2 + ((-36) * x5 + 0)) ≤ 5) (f30 : 1 * x9 + ((-1) * x2 + ((-36) * x5 + 0)) ≤ 0) (f32 : 1 * x9 + ((-1) * x2 + ((-36) * x5 + 0)) ≤ 0) (f33 : x7 = x4) (f34 : x5 < x6) (kz_0_170 : 0 ≤ texts_0 ∧ texts_0 ≤ 100000000) (ex2 : gx = texts_0) (ex3 : 0 ≤ gx ∧ gx ≤ 99999998) : 1 * texts_0 + ((-1) * gx + 0) ≤ 0 := by
  first | assumption | omega | grind
set_option maxHeartbeats 4000000 in
theorem vc_Mo_writeGroup_at_l4_9_1 (x2 : Int) (x4 : Int) (x5 : Int) (x6 : Int) (x7 : Int) (x9 : Int) (x10 : Int) (x11 : Int) (x12 : Int) (x14 : Int) (x15 : Int) (x16 : Int) (x18 : Int) (all_0 : Int → Int) (r_0 : Int) (texts_0 : Int) (gx : Int) (k2 : 0 ≤ x2 ∧ x2 ≤ 99985891) (k4 : 4 ≤ x4 ∧ x4 ≤ 7) (k5 : 0 ≤ x5 ∧ x5 ≤ 23) (k6 : 1 ≤ x6 ∧ x6 ≤ 24) (k7 : 4 ≤ x7 ∧ x7 ≤ 7) (k9 : 0 ≤ x9 ∧ x9 ≤ 99999995) (k10 : 0 ≤ x10 ∧ x10 ≤ 99999992) (k11 : 2 ≤ x11 ∧ x11 ≤ 99) (k12 : 1 ≤ x12 ∧ x12 ≤ 1) (k14 : 0 ≤ x14 ∧ x14 ≤ 99999993) (k15 : 0 ≤ x15 ∧ x15 ≤ 99) (k16 : 0 ≤ x16 ∧ x16 ≤ 99999987) (k18 : 0 ≤ x18 ∧ x18 ≤ 99999999) (d0 : x4 + 0 ≤ x7 ∧ x7 ≤ x4 + 0) (d1 : x6 + (-4294967296) ≤ x5 ∧ x5 ≤ x6 + (-1)) (f0 : 1 * x18 + ((-1) * x2 + ((-36) * x5 + 0)) ≤ 33) (f1 : 1 * x16 + ((-1) * x2 + ((-36) * x5 + 0)) ≤ 20) (f2 : x15 = all_0 (((r_0 + 219) + x5))) (f3 : 1 * x14 + ((-1) * x2 + ((-36) * x5 + 0)) ≤ 13) (f4 : x11 = all_0 (((r_0 + 219) + x5))) (f5 : 1 * x10 + ((-1) * x2 + ((-36) * x5 + 0)) ≤ 5) (f6 : 1 * x9 + ((-1) * x2 + ((-36) * x5 + 0)) ≤ 0) (f7 : x7 = all_0 (((r_0 + 243) + x5))) (f8 : 1 * x6 + ((-1) * all_0 (r_0 + 0) + 0) ≤ 0) (f9 : (-1) * x6 + (1 * all_0 (r_0 + 0) + 0) ≤ 0) (f11 : 1 * texts_0 + ((-1) * x18 + 0) ≤ 1) (f13 : 1 * x18 + ((-1) * x2 + ((-36) * x5 + 0)) ≤ 33) (f14 : 1 * x16 + ((-1) * x2 + ((-36) * x5 + 0)) ≤ 20) (f15 : 1 * x14 + ((-1) * x2 + ((-36) * x5 + 0)) ≤ 13) (f16 : 1 * x10 + ((-1) * x2 + ((-36) * x5 + 0)) ≤ 5) (f17 : 1 * x9 + ((-1) * x2 + ((-36) * x5 + 0)) ≤ 0) (f19 : 1 * x16 + ((-1) * x2 + ((-36) * x5 + 0)) ≤ 20) (f20 : 1 * x14 + ((-1) * x2 + ((-36) * x5 + 0)) ≤ 13) (f21 : 1 * x10 + ((-1) * x2 + ((-36) * x5 + 0)) ≤ 5) (f22 : 1 * x9 + ((-1) * x2 + ((-36) * x5 + 0)) ≤ 0) (f24 : 1 * x14 + ((-1) * x2 + ((-36) * x5 + 0)) ≤ 13) (f25 : x12 < x11) (f26 : 1 * x10 + ((-1) * x2 + ((-36) * x5 + 0)) ≤ 5) (f27 : 1 * x9 + ((-1) * x2 + ((-36) * x5 + 0)) ≤ 0) (f29 : 1 * x10 + ((-1) * x2 + ((-36) * x5 + 0)) ≤ 5) (f30 : 1 * x9 + ((-1) * x2 + ((-36) * x5 + 0)) ≤ 0) (f32 : 1 * x9 + ((-1) * x2 + ((-36) * x5 + 0)) ≤ 0) (f33 : x7 = x4) (f34 : x5 < x6) (kz_0_170 : 0 ≤ texts_0 ∧ texts_0 ≤ 100000000) (ex2 : gx = texts_0) (ex3 : 0 ≤ gx ∧ gx ≤ 99999998) : 1 * gx + ((-1) * x2 + ((-36) * x5 + 0)) ≤ 34 := by
  first | assumption | omega | grind
def o_Mo_writeGroup_at_l4_9 : or_T := (70, 20, [(0, (2, 0, 0, [165])), (2, (0, 0, 99985891, [])), (3, (2, 0, 0, [165])), (4, (0, 4, 7, [])), (5, (0, 0, 23, [])), (6, (0, 1, 24, [])), (7, (0, 4, 7, [])), (9, (0, 0, 99999995, [])), (10, (0, 0, 99999992, [])), (11, (0, 2, 99, [])), (12, (0, 1, 1, [])), (14, (0, 0, 99999993, [])), (15, (0, 0, 99, [])), (16, (0, 0, 99999987, [])), (18, (0, 0, 99999999, []))], [(23, [18, 2, 5], [33, 1, -1, -36]), (23, [16, 2, 5], [20, 1, -1, -36]), (20, [15, 3, 5], [50, 1, 1, 1005, 1002, 1, 2, 1, 0, 3, 1, 2, 4, 7, 4, 3, 2, 1, 5, 0, 219, 1, 2]), (23, [14, 2, 5], [13, 1, -1, -36]), (20, [11, 3, 5], [50, 1, 1, 1005, 1002, 1, 2, 1, 0, 3, 1, 2, 4, 7, 4, 3, 2, 1, 5, 0, 219, 1, 2]), (23, [10, 2, 5], [5, 1, -1, -36]), (23, [9, 2, 5], [0, 1, -1, -36]), (20, [7, 3, 5], [50, 1, 1, 1005, 1002, 1, 2, 1, 0, 3, 1, 2, 4, 7, 4, 3, 2, 1, 5, 0, 243, 1, 2]), (20, [6, 3], [30, 0, 1, 0, 0, -1, 3, 2005000]), (20, [6, 3], [30, 0, -1, 0, 0, 1, 3, 2005000]), (24, [0, 3], []), (20, [3, 18], [30, 1, 1, 1, 170, -1, 0, 0]), (102, [18], [7770675568902916283677847627294075626569627356208558085007249638955617140820833992704, 165170]), (23, [18, 2, 5], [33, 1, -1, -36]), (23, [16, 2, 5], [20, 1, -1, -36]), (23, [14, 2, 5], [13, 1, -1, -36]), (23, [10, 2, 5], [5, 1, -1, -36]), (23, [9, 2, 5], [0, 1, -1, -36]), (102, [16], [7770675568902916283677847627294075626569627356208558085007249638955617140820833992704, 165170]), (23, [16, 2, 5], [20, 1, -1, -36]), (23, [14, 2, 5], [13, 1, -1, -36]), (23, [10, 2, 5], [5, 1, -1, -36]), (23, [9, 2, 5], [0, 1, -1, -36]), (102, [14], [7770675568902916283677847627294075626569627356208558085007249638955617140820833992704, 165170]), (23, [14, 2, 5], [13, 1, -1, -36]), (7, [11, 12], [4]), (23, [10, 2, 5], [5, 1, -1, -36]), (23, [9, 2, 5], [0, 1, -1, -36]), (102, [10], [7770675568902916283677847627294075626569627356208558085007249638955617140820833992704, 165170]), (23, [10, 2, 5], [5, 1, -1, -36]), (23, [9, 2, 5], [0, 1, -1, -36]), (102, [9], [7770675568902916283677847627294075626569627356208558085007249638955617140820833992704, 165170]), (23, [9, 2, 5], [0, 1, -1, -36]), (7, [7, 4], [0]), (7, [5, 6], [2])], [], [(0, 0, 99999998, [])], [(20, [3, 20], [30, 0, 1, 1, 170, -1, 0, 0]), (23, [20, 2, 5], [34, 1, -1, -36])], [], [(7, 4, 0, 0), (5, 6, -4294967296, -1)])
theorem oo_Mo_writeGroup_at_l4_9 {kA : Nat → ClassId} : or_ok PRD kA GG o_Mo_writeGroup_at_l4_9 := by
  refine or_mk fun A ta ws vs hD hth hl => ?_
  intro t0 r0 t2 k2 t3 r3 t4 k4 t5 k5 t6 k6 t7 k7 t9 k9 t10 k10 t11 k11 t12 k12 t14 k14 t15 k15 t16 k16 t18 k18 d0 d1 f0 f1 f2 f3 f4 f5 f6 f7 f8 f9 f10 f11 ta1 w1 le1 s1 f13 f14 f15 f16 f17 ta2 w2 le2 s2 f19 f20 f21 f22 ta3 w3 le3 s3 f24 f25 f26 f27 ta4 w4 le4 s4 f29 f30 ta5 w5 le5 s5 f32 f33 f34
  replace f0 := shm_2042 f0
  replace f1 := shm_2041 f1
  replace f2 := shm_732 f2
  replace f3 := shm_2040 f3
  replace f4 := shm_732 f4
  replace f5 := shm_2038 f5
  replace f6 := shm_2037 f6
  replace f7 := shm_597 f7
  replace f8 := shm_126 f8
  replace f9 := shm_127 f9
  replace f10 := shm_5 f10
  replace f11 := shm_132 f11
  replace f13 := shm_2042 f13
  replace f14 := shm_2041 f14
  replace f15 := shm_2040 f15
  replace f16 := shm_2038 f16
  replace f17 := shm_2037 f17
  replace f19 := shm_2041 f19
  replace f20 := shm_2040 f20
  replace f21 := shm_2038 f21
  replace f22 := shm_2037 f22
  replace f24 := shm_2040 f24
  replace f25 := shm_21 f25
  replace f26 := shm_2038 f26
  replace f27 := shm_2037 f27
  replace f29 := shm_2038 f29
  replace f30 := shm_2037 f30
  replace f32 := shm_2037 f32
  replace f33 := shm_37 f33
  replace f34 := shm_6 f34
  have q3 : n_v vs 3 = n_v vs 0 := f10.symm
  simp only [q3] at f2 f4 f7 f8 f9 f11
  have cr_0_2 := fdq_10 hD hth r0
  have br_0_2_F5_0_0 : w_ei ws (w_ar ws (n_v vs 0) 2) (w_fi ws (n_v vs 0) 5 + 0) = w_el ws (w_ar ws (n_v vs 0) 2) (w_fi ws (n_v vs 0) 5 + 0).toNat := rfl
  have kz_0_170 := fdq_11 hD hth r0
  have kv0 := fdq_11 hD hth r0
  obtain ⟨x, ex, hx⟩ := iv_ex (ta := ta) (lo := 0) (hi := 99999998) (z := w_fi ws (n_v vs 0) 170) (by omega) (by omega) (by omega) (by omega)
  have ex2 : v_iv (Value.int x) = w_fi ws (n_v vs 0) 170 := ex
  have ex3 : 0 ≤ v_iv (Value.int x) ∧ v_iv (Value.int x) ≤ 99999998 := tv_rng hx
  have e_2 : n_v (vs ++ [Value.int x]) 2 = n_v vs 2 := n_v_old (by rw [hl]; decide)
  have e_3 : n_v (vs ++ [Value.int x]) 3 = n_v vs 3 := n_v_old (by rw [hl]; decide)
  have e_5 : n_v (vs ++ [Value.int x]) 5 = n_v vs 5 := n_v_old (by rw [hl]; decide)
  have e_20 : n_v (vs ++ [Value.int x]) 20 = Value.int x := n_v_new hl
  have nf0 : fc_1 PRD (20, [3, 20], [30, 0, 1, 1, 170, -1, 0, 0]) ws (vs ++ [Value.int x]) := by
    refine ⟨nf_inA hl rfl, sgq_131 ?_⟩
    · show 1 * w_fi ws (n_v (vs ++ [Value.int x]) 3) 170 + ((-1) * v_iv (n_v (vs ++ [Value.int x]) 20) + 0) ≤ 0
      simp only [e_3, e_20, q3]
      exact vc_Mo_writeGroup_at_l4_9_0 (v_iv (n_v vs 2)) (v_iv (n_v vs 4)) (v_iv (n_v vs 5)) (v_iv (n_v vs 6)) (v_iv (n_v vs 7)) (v_iv (n_v vs 9)) (v_iv (n_v vs 10)) (v_iv (n_v vs 11)) (v_iv (n_v vs 12)) (v_iv (n_v vs 14)) (v_iv (n_v vs 15)) (v_iv (n_v vs 16)) (v_iv (n_v vs 18)) (w_ei ws (w_ar ws (n_v vs 0) 2)) (w_fi ws (n_v vs 0) 5) (w_fi ws (n_v vs 0) 170) (v_iv (Value.int x)) k2 k4 k5 k6 k7 k9 k10 k11 k12 k14 k15 k16 k18 d0 d1 f0 f1 f2 f3 f4 f5 f6 f7 f8 f9 f11 f13 f14 f15 f16 f17 f19 f20 f21 f22 f24 f25 f26 f27 f29 f30 f32 f33 f34 kz_0_170 ex2 ex3
  have nf1 : fc_1 PRD (23, [20, 2, 5], [34, 1, -1, -36]) ws (vs ++ [Value.int x]) := by
    refine ⟨nf_inA hl rfl, sgq_2039 ?_⟩
    · show 1 * v_iv (n_v (vs ++ [Value.int x]) 20) + ((-1) * v_iv (n_v (vs ++ [Value.int x]) 2) + ((-36) * v_iv (n_v (vs ++ [Value.int x]) 5) + 0)) ≤ 34
      simp only [e_2, e_5, e_20]
      exact vc_Mo_writeGroup_at_l4_9_1 (v_iv (n_v vs 2)) (v_iv (n_v vs 4)) (v_iv (n_v vs 5)) (v_iv (n_v vs 6)) (v_iv (n_v vs 7)) (v_iv (n_v vs 9)) (v_iv (n_v vs 10)) (v_iv (n_v vs 11)) (v_iv (n_v vs 12)) (v_iv (n_v vs 14)) (v_iv (n_v vs 15)) (v_iv (n_v vs 16)) (v_iv (n_v vs 18)) (w_ei ws (w_ar ws (n_v vs 0) 2)) (w_fi ws (n_v vs 0) 5) (w_fi ws (n_v vs 0) 170) (v_iv (Value.int x)) k2 k4 k5 k6 k7 k9 k10 k11 k12 k14 k15 k16 k18 d0 d1 f0 f1 f2 f3 f4 f5 f6 f7 f8 f9 f11 f13 f14 f15 f16 f17 f19 f20 f21 f22 f24 f25 f26 f27 f29 f30 f32 f33 f34 kz_0_170 ex2 ex3
  exact ⟨(fun _ h => (by cases h)), [Value.int x], ag_one hx, List.forall_mem_cons.mpr ⟨⟨show (20 : Nat) < 100 from by decide, nf0⟩, List.forall_mem_cons.mpr ⟨⟨show (23 : Nat) < 100 from by decide, nf1⟩, (fun _ h => (by cases h))⟩⟩, (fun _ h => (by cases h))⟩
set_option maxHeartbeats 4000000 in
theorem vc_Mo_writeGroup_at_l4_10_0 (x2 : Int) (x4 : Int) (x5 : Int) (x6 : Int) (x7 : Int) (x9 : Int) (x10 : Int) (x11 : Int) (x12 : Int) (x14 : Int) (x15 : Int) (x16 : Int) (x18 : Int) (x20 : Int) (x21 : Int) (all_0 : Int → Int) (r_0 : Int) (texts_0 : Int) (k2 : 0 ≤ x2 ∧ x2 ≤ 99985891) (k4 : 4 ≤ x4 ∧ x4 ≤ 7) (k5 : 0 ≤ x5 ∧ x5 ≤ 23) (k6 : 1 ≤ x6 ∧ x6 ≤ 24) (k7 : 4 ≤ x7 ∧ x7 ≤ 7) (k9 : 0 ≤ x9 ∧ x9 ≤ 99999995) (k10 : 0 ≤ x10 ∧ x10 ≤ 99999992) (k11 : 2 ≤ x11 ∧ x11 ≤ 99) (k12 : 1 ≤ x12 ∧ x12 ≤ 1) (k14 : 0 ≤ x14 ∧ x14 ≤ 99999993) (k15 : 0 ≤ x15 ∧ x15 ≤ 99) (k16 : 0 ≤ x16 ∧ x16 ≤ 99999987) (k18 : 0 ≤ x18 ∧ x18 ≤ 99999999) (k20 : 0 ≤ x20 ∧ x20 ≤ 99999998) (k21 : 1 ≤ x21 ∧ x21 ≤ 24) (d0 : x5 + 1 ≤ x21 ∧ x21 ≤ x5 + 1) (d1 : x6 + (-4294967296) ≤ x21 ∧ x21 ≤ x6 + 0) (d2 : x4 + 0 ≤ x7 ∧ x7 ≤ x4 + 0) (d3 : x6 + (-4294967296) ≤ x5 ∧ x5 ≤ x6 + (-1)) (f0 : x21 = x5 + 1) (f1 : 1 * x20 + ((-1) * x2 + ((-36) * x5 + 0)) ≤ 34) (f2 : 1 * x18 + ((-1) * x2 + ((-36) * x5 + 0)) ≤ 33) (f3 : 1 * x16 + ((-1) * x2 + ((-36) * x5 + 0)) ≤ 20) (f4 : x15 = all_0 (((r_0 + 219) + x5))) (f5 : 1 * x14 + ((-1) * x2 + ((-36) * x5 + 0)) ≤ 13) (f6 : x11 = all_0 (((r_0 + 219) + x5))) (f7 : 1 * x10 + ((-1) * x2 + ((-36) * x5 + 0)) ≤ 5) (f8 : 1 * x9 + ((-1) * x2 + ((-36) * x5 + 0)) ≤ 0) (f9 : x7 = all_0 (((r_0 + 243) + x5))) (f10 : 1 * x6 + ((-1) * all_0 (r_0 + 0) + 0) ≤ 0) (f11 : (-1) * x6 + (1 * all_0 (r_0 + 0) + 0) ≤ 0) (f13 : 1 * texts_0 + ((-1) * x20 + 0) ≤ 2) (f15 : 1 * x20 + ((-1) * x2 + ((-36) * x5 + 0)) ≤ 34) (f16 : 1 * x18 + ((-1) * x2 + ((-36) * x5 + 0)) ≤ 33) (f17 : 1 * x16 + ((-1) * x2 + ((-36) * x5 + 0)) ≤ 20) (f18 : 1 * x14 + ((-1) * x2 + ((-36) * x5 + 0)) ≤ 13) (f19 : 1 * x10 + ((-1) * x2 + ((-36) * x5 + 0)) ≤ 5) (f20 : 1 * x9 + ((-1) * x2 + ((-36) * x5 + 0)) ≤ 0) (f22 : 1 * x18 + ((-1) * x2 + ((-36) * x5 + 0)) ≤ 33) (f23 : 1 * x16 + ((-1) * x2 + ((-36) * x5 + 0)) ≤ 20) (f24 : 1 * x14 + ((-1) * x2 + ((-36) * x5 + 0)) ≤ 13) (f25 : 1 * x10 + ((-1) * x2 + ((-36) * x5 + 0)) ≤ 5) (f26 : 1 * x9 + ((-1) * x2 + ((-36) * x5 + 0)) ≤ 0) (f28 : 1 * x16 + ((-1) * x2 + ((-36) * x5 + 0)) ≤ 20) (f29 : 1 * x14 + ((-1) * x2 + ((-36) * x5 + 0)) ≤ 13) (f30 : 1 * x10 + ((-1) * x2 + ((-36) * x5 + 0)) ≤ 5) (f31 : 1 * x9 + ((-1) * x2 + ((-36) * x5 + 0)) ≤ 0) (f33 : 1 * x14 + ((-1) * x2 + ((-36) * x5 + 0)) ≤ 13) (f34 : x12 < x11) (f35 : 1 * x10 + ((-1) * x2 + ((-36) * x5 + 0)) ≤ 5) (f36 : 1 * x9 + ((-1) * x2 + ((-36) * x5 + 0)) ≤ 0) (f38 : 1 * x10 + ((-1) * x2 + ((-36) * x5 + 0)) ≤ 5) (f39 : 1 * x9 + ((-1) * x2 + ((-36) * x5 + 0)) ≤ 0) (f41 : 1 * x9 + ((-1) * x2 + ((-36) * x5 + 0)) ≤ 0) (f42 : x7 = x4) (f43 : x5 < x6) (kz_0_170 : 0 ≤ texts_0 ∧ texts_0 ≤ 100000000) : 1 * texts_0 + ((-1) * x2 + ((-36) * x21 + 0)) ≤ 0 := by
  first | assumption | omega | grind
def o_Mo_writeGroup_at_l4_10 : or_T := (2, 22, [(0, (2, 0, 0, [165])), (2, (0, 0, 99985891, [])), (4, (0, 4, 7, [])), (5, (0, 0, 23, [])), (6, (0, 1, 24, [])), (7, (0, 4, 7, [])), (9, (0, 0, 99999995, [])), (10, (0, 0, 99999992, [])), (11, (0, 2, 99, [])), (12, (0, 1, 1, [])), (14, (0, 0, 99999993, [])), (15, (0, 0, 99, [])), (16, (0, 0, 99999987, [])), (18, (0, 0, 99999999, [])), (20, (0, 0, 99999998, [])), (21, (0, 1, 24, []))], [(6, [21, 5], [1]), (23, [20, 2, 5], [34, 1, -1, -36]), (23, [18, 2, 5], [33, 1, -1, -36]), (23, [16, 2, 5], [20, 1, -1, -36]), (20, [15, 3, 5], [50, 1, 1, 1005, 1002, 1, 2, 1, 0, 3, 1, 2, 4, 7, 4, 3, 2, 1, 5, 0, 219, 1, 2]), (23, [14, 2, 5], [13, 1, -1, -36]), (20, [11, 3, 5], [50, 1, 1, 1005, 1002, 1, 2, 1, 0, 3, 1, 2, 4, 7, 4, 3, 2, 1, 5, 0, 219, 1, 2]), (23, [10, 2, 5], [5, 1, -1, -36]), (23, [9, 2, 5], [0, 1, -1, -36]), (20, [7, 3, 5], [50, 1, 1, 1005, 1002, 1, 2, 1, 0, 3, 1, 2, 4, 7, 4, 3, 2, 1, 5, 0, 243, 1, 2]), (20, [6, 3], [30, 0, 1, 0, 0, -1, 3, 2005000]), (20, [6, 3], [30, 0, -1, 0, 0, 1, 3, 2005000]), (24, [0, 3], []), (20, [3, 20], [30, 2, 1, 1, 170, -1, 0, 0]), (102, [20], [7770675568902916283677847627294075626569627356208558085007249638955617140820833992704, 165170]), (23, [20, 2, 5], [34, 1, -1, -36]), (23, [18, 2, 5], [33, 1, -1, -36]), (23, [16, 2, 5], [20, 1, -1, -36]), (23, [14, 2, 5], [13, 1, -1, -36]), (23, [10, 2, 5], [5, 1, -1, -36]), (23, [9, 2, 5], [0, 1, -1, -36]), (102, [18], [7770675568902916283677847627294075626569627356208558085007249638955617140820833992704, 165170]), (23, [18, 2, 5], [33, 1, -1, -36]), (23, [16, 2, 5], [20, 1, -1, -36]), (23, [14, 2, 5], [13, 1, -1, -36]), (23, [10, 2, 5], [5, 1, -1, -36]), (23, [9, 2, 5], [0, 1, -1, -36]), (102, [16], [7770675568902916283677847627294075626569627356208558085007249638955617140820833992704, 165170]), (23, [16, 2, 5], [20, 1, -1, -36]), (23, [14, 2, 5], [13, 1, -1, -36]), (23, [10, 2, 5], [5, 1, -1, -36]), (23, [9, 2, 5], [0, 1, -1, -36]), (102, [14], [7770675568902916283677847627294075626569627356208558085007249638955617140820833992704, 165170]), (23, [14, 2, 5], [13, 1, -1, -36]), (7, [11, 12], [4]), (23, [10, 2, 5], [5, 1, -1, -36]), (23, [9, 2, 5], [0, 1, -1, -36]), (102, [10], [7770675568902916283677847627294075626569627356208558085007249638955617140820833992704, 165170]), (23, [10, 2, 5], [5, 1, -1, -36]), (23, [9, 2, 5], [0, 1, -1, -36]), (102, [9], [7770675568902916283677847627294075626569627356208558085007249638955617140820833992704, 165170]), (23, [9, 2, 5], [0, 1, -1, -36]), (7, [7, 4], [0]), (7, [5, 6], [2])], [], [], [(20, [3, 2, 21], [30, 0, 1, 1, 170, -1, 0, 0, -36, 0, 0])], [], [(21, 5, 1, 1), (21, 6, -4294967296, 0), (7, 4, 0, 0), (5, 6, -4294967296, -1)])
theorem oo_Mo_writeGroup_at_l4_10 {kA : Nat → ClassId} : or_ok PRD kA GG o_Mo_writeGroup_at_l4_10 := by
  refine or_mk fun A ta ws vs hD hth hl => ?_
  intro t0 r0 t2 k2 t4 k4 t5 k5 t6 k6 t7 k7 t9 k9 t10 k10 t11 k11 t12 k12 t14 k14 t15 k15 t16 k16 t18 k18 t20 k20 t21 k21 d0 d1 d2 d3 f0 f1 f2 f3 f4 f5 f6 f7 f8 f9 f10 f11 f12 f13 ta1 w1 le1 s1 f15 f16 f17 f18 f19 f20 ta2 w2 le2 s2 f22 f23 f24 f25 f26 ta3 w3 le3 s3 f28 f29 f30 f31 ta4 w4 le4 s4 f33 f34 f35 f36 ta5 w5 le5 s5 f38 f39 ta6 w6 le6 s6 f41 f42 f43
  replace f0 := shm_4 f0
  replace f1 := shm_2039 f1
  replace f2 := shm_2042 f2
  replace f3 := shm_2041 f3
  replace f4 := shm_732 f4
  replace f5 := shm_2040 f5
  replace f6 := shm_732 f6
  replace f7 := shm_2038 f7
  replace f8 := shm_2037 f8
  replace f9 := shm_597 f9
  replace f10 := shm_126 f10
  replace f11 := shm_127 f11
  replace f12 := shm_5 f12
  replace f13 := shm_210 f13
  replace f15 := shm_2039 f15
  replace f16 := shm_2042 f16
  replace f17 := shm_2041 f17
  replace f18 := shm_2040 f18
  replace f19 := shm_2038 f19
  replace f20 := shm_2037 f20
  replace f22 := shm_2042 f22
  replace f23 := shm_2041 f23
  replace f24 := shm_2040 f24
  replace f25 := shm_2038 f25
  replace f26 := shm_2037 f26
  replace f28 := shm_2041 f28
  replace f29 := shm_2040 f29
  replace f30 := shm_2038 f30
  replace f31 := shm_2037 f31
  replace f33 := shm_2040 f33
  replace f34 := shm_21 f34
  replace f35 := shm_2038 f35
  replace f36 := shm_2037 f36
  replace f38 := shm_2038 f38
  replace f39 := shm_2037 f39
  replace f41 := shm_2037 f41
  replace f42 := shm_37 f42
  replace f43 := shm_6 f43
  have q3 : n_v vs 3 = n_v vs 0 := f12.symm
  simp only [q3] at f4 f6 f9 f10 f11 f13
  have kz_0_170 := fdq_11 hD hth r0
  have nf0 : fc_1 PRD (20, [3, 2, 21], [30, 0, 1, 1, 170, -1, 0, 0, -36, 0, 0]) ws (vs) := by
    refine ⟨nf_in hl rfl, sgq_2035 ?_⟩
    · show 1 * w_fi ws (n_v vs 3) 170 + ((-1) * v_iv (n_v vs 2) + ((-36) * v_iv (n_v vs 21) + 0)) ≤ 0
      rw [q3]
      exact vc_Mo_writeGroup_at_l4_10_0 (v_iv (n_v vs 2)) (v_iv (n_v vs 4)) (v_iv (n_v vs 5)) (v_iv (n_v vs 6)) (v_iv (n_v vs 7)) (v_iv (n_v vs 9)) (v_iv (n_v vs 10)) (v_iv (n_v vs 11)) (v_iv (n_v vs 12)) (v_iv (n_v vs 14)) (v_iv (n_v vs 15)) (v_iv (n_v vs 16)) (v_iv (n_v vs 18)) (v_iv (n_v vs 20)) (v_iv (n_v vs 21)) (w_ei ws (w_ar ws (n_v vs 0) 2)) (w_fi ws (n_v vs 0) 5) (w_fi ws (n_v vs 0) 170) k2 k4 k5 k6 k7 k9 k10 k11 k12 k14 k15 k16 k18 k20 k21 d0 d1 d2 d3 f0 f1 f2 f3 f4 f5 f6 f7 f8 f9 f10 f11 f13 f15 f16 f17 f18 f19 f20 f22 f23 f24 f25 f26 f28 f29 f30 f31 f33 f34 f35 f36 f38 f39 f41 f42 f43 kz_0_170
  refine ⟨(fun _ h => (by cases h)), [], trivial, ?_, (fun _ h => (by cases h))⟩
  rw [List.append_nil]
  exact List.forall_mem_cons.mpr ⟨⟨show (20 : Nat) < 100 from by decide, nf0⟩, (fun _ h => (by cases h))⟩
set_option maxHeartbeats 4000000 in
theorem vc_Mo_writeGroup_at_l4_11_0 (x2 : Int) (x4 : Int) (x5 : Int) (x6 : Int) (x7 : Int) (x8 : Int) (all_0 : Int → Int) (r_0 : Int) (texts_0 : Int) (k2 : 0 ≤ x2 ∧ x2 ≤ 99985891) (k4 : 4 ≤ x4 ∧ x4 ≤ 7) (k5 : 0 ≤ x5 ∧ x5 ≤ 23) (k6 : 1 ≤ x6 ∧ x6 ≤ 24) (k7 : 0 ≤ x7 ∧ x7 ≤ 7) (k8 : 1 ≤ x8 ∧ x8 ≤ 24) (d0 : x5 + 1 ≤ x8 ∧ x8 ≤ x5 + 1) (d1 : x6 + (-4294967296) ≤ x8 ∧ x8 ≤ x6 + 0) (d2 : x6 + (-4294967296) ≤ x5 ∧ x5 ≤ x6 + (-1)) (f0 : x8 = x5 + 1) (f1 : x7 ≠ x4) (f2 : x7 = all_0 (((r_0 + 243) + x5))) (f3 : x5 < x6) (f4 : 1 * x6 + ((-1) * all_0 (r_0 + 0) + 0) ≤ 0) (f5 : (-1) * x6 + (1 * all_0 (r_0 + 0) + 0) ≤ 0) (f6 : 1 * texts_0 + ((-1) * x2 + ((-36) * x5 + 0)) ≤ 0) (kz_0_170 : 0 ≤ texts_0 ∧ texts_0 ≤ 100000000) : 1 * texts_0 + ((-1) * x2 + ((-36) * x8 + 0)) ≤ 0 := by
  first | assumption | omega | grind
def o_Mo_writeGroup_at_l4_11 : or_T := (2, 9, [(0, (2, 0, 0, [165])), (2, (0, 0, 99985891, [])), (4, (0, 4, 7, [])), (5, (0, 0, 23, [])), (6, (0, 1, 24, [])), (7, (0, 0, 7, [])), (8, (0, 1, 24, []))], [(6, [8, 5], [1]), (7, [7, 4], [1]), (20, [7, 3, 5], [50, 1, 1, 1005, 1002, 1, 2, 1, 0, 3, 1, 2, 4, 7, 4, 3, 2, 1, 5, 0, 243, 1, 2]), (7, [5, 6], [2]), (20, [6, 3], [30, 0, 1, 0, 0, -1, 3, 2005000]), (20, [6, 3], [30, 0, -1, 0, 0, 1, 3, 2005000]), (20, [3, 2, 5], [30, 0, 1, 1, 170, -1, 0, 0, -36, 0, 0]), (24, [0, 3], [])], [], [], [(20, [3, 2, 8], [30, 0, 1, 1, 170, -1, 0, 0, -36, 0, 0])], [], [(8, 5, 1, 1), (8, 6, -4294967296, 0), (5, 6, -4294967296, -1)])
theorem oo_Mo_writeGroup_at_l4_11 {kA : Nat → ClassId} : or_ok PRD kA GG o_Mo_writeGroup_at_l4_11 := by
  refine or_mk fun A ta ws vs hD hth hl => ?_
  intro t0 r0 t2 k2 t4 k4 t5 k5 t6 k6 t7 k7 t8 k8 d0 d1 d2 f0 f1 f2 f3 f4 f5 f6 f7
  replace f0 := shm_4 f0
  replace f1 := shm_40 f1
  replace f2 := shm_597 f2
  replace f3 := shm_6 f3
  replace f4 := shm_126 f4
  replace f5 := shm_127 f5
  replace f6 := shm_2035 f6
  replace f7 := shm_5 f7
  have q3 : n_v vs 3 = n_v vs 0 := f7.symm
  simp only [q3] at f2 f4 f5 f6
  have kz_0_170 := fdq_11 hD hth r0
  have nf0 : fc_1 PRD (20, [3, 2, 8], [30, 0, 1, 1, 170, -1, 0, 0, -36, 0, 0]) ws (vs) := by
    refine ⟨nf_in hl rfl, sgq_2035 ?_⟩
    · show 1 * w_fi ws (n_v vs 3) 170 + ((-1) * v_iv (n_v vs 2) + ((-36) * v_iv (n_v vs 8) + 0)) ≤ 0
      rw [q3]
      exact vc_Mo_writeGroup_at_l4_11_0 (v_iv (n_v vs 2)) (v_iv (n_v vs 4)) (v_iv (n_v vs 5)) (v_iv (n_v vs 6)) (v_iv (n_v vs 7)) (v_iv (n_v vs 8)) (w_ei ws (w_ar ws (n_v vs 0) 2)) (w_fi ws (n_v vs 0) 5) (w_fi ws (n_v vs 0) 170) k2 k4 k5 k6 k7 k8 d0 d1 d2 f0 f1 f2 f3 f4 f5 f6 kz_0_170
  refine ⟨(fun _ h => (by cases h)), [], trivial, ?_, (fun _ h => (by cases h))⟩
  rw [List.append_nil]
  exact List.forall_mem_cons.mpr ⟨⟨show (20 : Nat) < 100 from by decide, nf0⟩, (fun _ h => (by cases h))⟩
set_option maxHeartbeats 4000000 in
theorem vc_Mo_writeGroup_at_l4_12_0 (x2 : Int) (x4 : Int) (x5 : Int) (x6 : Int) (all_0 : Int → Int) (r_0 : Int) (texts_0 : Int) (k2 : 0 ≤ x2 ∧ x2 ≤ 99985891) (k4 : 4 ≤ x4 ∧ x4 ≤ 7) (k5 : 5 ≤ x5 ∧ x5 ≤ 8) (k6 : 0 ≤ x6 ∧ x6 ≤ 8) (d0 : x6 + 0 ≤ x5 ∧ x5 ≤ x6 + 4294967296) (d1 : x5 + (-4294967296) ≤ x4 ∧ x4 ≤ x5 + (-1)) (f0 : x6 ≤ x5) (f1 : 1 * x6 + ((-1) * all_0 (r_0 + 2) + 0) ≤ 0) (f2 : (-1) * x6 + (1 * all_0 (r_0 + 2) + 0) ≤ 0) (f3 : 1 * texts_0 + ((-1) * x2 + ((-4415) * x5 + (4415 * x4 + 0))) ≤ (-3551)) (kz_0_170 : 0 ≤ texts_0 ∧ texts_0 ≤ 100000000) : 1 * texts_0 + ((-1) * x2 + 0) ≤ 14109 := by
  first | assumption | omega | grind
def o_Mo_writeGroup_at_l4_12 : or_T := (177, 7, [(0, (2, 0, 0, [165])), (2, (0, 0, 99985891, [])), (4, (0, 4, 7, [])), (5, (0, 5, 8, [])), (6, (0, 0, 8, []))], [(7, [5, 6], [3]), (20, [6, 3], [30, 0, 1, 0, 0, -1, 3, 2005002]), (20, [6, 3], [30, 0, -1, 0, 0, 1, 3, 2005002]), (20, [3, 2, 5, 4], [30, -3551, 1, 1, 170, -1, 0, 0, -4415, 0, 0, 4415, 0, 0]), (24, [0, 3], [])], [], [], [(20, [0, 2], [30, 14109, 1, 1, 170, -1, 0, 0])], [], [(5, 6, 0, 4294967296), (4, 5, -4294967296, -1)])
theorem oo_Mo_writeGroup_at_l4_12 {kA : Nat → ClassId} : or_ok PRD kA GG o_Mo_writeGroup_at_l4_12 := by
  refine or_mk fun A ta ws vs hD hth hl => ?_
  intro t0 r0 t2 k2 t4 k4 t5 k5 t6 k6 d0 d1 f0 f1 f2 f3 f4
  replace f1 := shm_123 f1
  replace f2 := shm_124 f2
  replace f3 := shm_2071 f3
  replace f4 := shm_5 f4
  have q3 : n_v vs 3 = n_v vs 0 := f4.symm
  simp only [q3] at f1 f2 f3
  have kz_0_170 := fdq_11 hD hth r0
  have nf0 : fc_1 PRD (20, [0, 2], [30, 14109, 1, 1, 170, -1, 0, 0]) ws (vs) := ⟨nf_in hl rfl, sgq_2069 (vc_Mo_writeGroup_at_l4_12_0 (v_iv (n_v vs 2)) (v_iv (n_v vs 4)) (v_iv (n_v vs 5)) (v_iv (n_v vs 6)) (w_ei ws (w_ar ws (n_v vs 0) 2)) (w_fi ws (n_v vs 0) 5) (w_fi ws (n_v vs 0) 170) k2 k4 k5 k6 d0 d1 (shm_2 f0) f1 f2 f3 kz_0_170)⟩
  refine ⟨(fun _ h => (by cases h)), [], trivial, ?_, (fun _ h => (by cases h))⟩
  rw [List.append_nil]
  exact List.forall_mem_cons.mpr ⟨⟨show (20 : Nat) < 100 from by decide, nf0⟩, (fun _ h => (by cases h))⟩
def o_Mo_writeGroup_at_l4_13 : or_T := (117, 14, [(0, (2, 0, 0, [165])), (2, (0, 0, 99985891, [])), (3, (2, 0, 0, [165])), (4, (0, 4, 6, [])), (5, (0, 5, 7, [])), (6, (0, 6, 8, [])), (7, (2, 0, 0, [167])), (8, (0, 0, 66297, [])), (9, (0, 531, 531, [])), (10, (0, 531, 66828, [])), (11, (0, 536, 66835, [])), (12, (0, 4, 6, []))], [(7, [12, 4], [0]), (10, [12, 7, 11], []), (1, [11, 10, 5], []), (1, [10, 8, 9], []), (9, [8, 3], [5]), (9, [7, 3], [2]), (7, [5, 6], [2]), (20, [6, 3], [30, 0, 1, 0, 0, -1, 3, 2005002]), (20, [6, 3], [30, 0, -1, 0, 0, 1, 3, 2005002]), (20, [3, 2, 5, 4], [30, -3551, 1, 1, 170, -1, 0, 0, -4415, 0, 0, 4415, 0, 0]), (24, [0, 3], [])], [], [(0, 0, 99999994, [])], [(20, [3, 14], [30, 0, 1, 1, 170, -1, 0, 0]), (23, [14, 2, 5, 4], [-3551, 1, -1, -4415, 4415])], [], [(12, 4, 0, 0), (11, 5, 531, 66828), (11, 6, -4294967296, 66827), (11, 10, 5, 7), (11, 8, 536, 538), (10, 8, 531, 531), (5, 6, -4294967296, -1), (4, 5, -4294967296, -1)])
theorem oo_Mo_writeGroup_at_l4_13 {kA : Nat → ClassId} : or_ok PRD kA GG o_Mo_writeGroup_at_l4_13 := by
  refine or_mk fun A ta ws vs hD hth hl => ?_
  intro t0 r0 t2 k2 t3 r3 t4 k4 t5 k5 t6 k6 t7 r7 t8 k8 t9 k9 t10 k10 t11 k11 t12 k12 d0 d1 d2 d3 d4 d5 d6 d7 f0 f1 f2 f3 f4 f5 f6 f7 f8 f9 f10
  replace f0 := shm_37 f0
  replace f1 := shm_107 f1
  replace f2 := shm_12 f2
  replace f3 := shm_12 f3
  replace f4 := shm_110 f4
  replace f5 := shm_120 f5
  replace f6 := shm_6 f6
  replace f7 := shm_123 f7
  replace f8 := shm_124 f8
  replace f9 := shm_2071 f9
  replace f10 := shm_5 f10
  have q3 : n_v vs 3 = n_v vs 0 := f10.symm
  simp only [q3] at f4 f5 f7 f8 f9
  have cr_0_2 := fdq_10 hD hth r0
  have ad_7 : v_ad (n_v vs 7) = w_ar ws (n_v vs 0) 2 := congrArg v_ad f5
  simp only [ad_7] at f1
  have h1 : v_iv (n_v vs 12) = w_ei ws (w_ar ws (n_v vs 0) 2) (v_iv (n_v vs 11)) := f1
  have g4 : v_iv (n_v vs 8) = w_fi ws (n_v vs 0) 5 := congrArg v_iv f4
  have cg1_F5_2 : v_iv (n_v vs 11) = w_fi ws (n_v vs 0) 5 + 2 → w_el ws (w_ar ws (n_v vs 0) 2) (v_iv (n_v vs 11)).toNat = w_el ws (w_ar ws (n_v vs 0) 2) (w_fi ws (n_v vs 0) 5 + 2).toNat := fun h => by rw [h]
  have kz_0_170 := fdq_11 hD hth r0
  have kv0 := fdq_11 hD hth r0
  obtain ⟨x, ex, hx⟩ := iv_ex (ta := ta) (lo := 0) (hi := 99999994) (z := w_fi ws (n_v vs 0) 170) (by omega) (by omega) (by omega) (by omega)
  have ex2 : v_iv (Value.int x) = w_fi ws (n_v vs 0) 170 := ex
  have ex3 : 0 ≤ v_iv (Value.int x) ∧ v_iv (Value.int x) ≤ 99999994 := tv_rng hx
  have e_2 : n_v (vs ++ [Value.int x]) 2 = n_v vs 2 := n_v_old (by rw [hl]; decide)
  have e_3 : n_v (vs ++ [Value.int x]) 3 = n_v vs 3 := n_v_old (by rw [hl]; decide)
  have e_4 : n_v (vs ++ [Value.int x]) 4 = n_v vs 4 := n_v_old (by rw [hl]; decide)
  have e_5 : n_v (vs ++ [Value.int x]) 5 = n_v vs 5 := n_v_old (by rw [hl]; decide)
  have e_14 : n_v (vs ++ [Value.int x]) 14 = Value.int x := n_v_new hl
  have nf0 : fc_1 PRD (20, [3, 14], [30, 0, 1, 1, 170, -1, 0, 0]) ws (vs ++ [Value.int x]) := by
    refine ⟨nf_inA hl rfl, sgq_131 ?_⟩
    · show 1 * w_fi ws (n_v (vs ++ [Value.int x]) 3) 170 + ((-1) * v_iv (n_v (vs ++ [Value.int x]) 14) + 0) ≤ 0
      simp only [e_3, e_14, q3]
      omega
  have nf1 : fc_1 PRD (23, [14, 2, 5, 4], [-3551, 1, -1, -4415, 4415]) ws (vs ++ [Value.int x]) := by
    refine ⟨nf_inA hl rfl, sgq_2072 ?_⟩
    · show 1 * v_iv (n_v (vs ++ [Value.int x]) 14) + ((-1) * v_iv (n_v (vs ++ [Value.int x]) 2) + ((-4415) * v_iv (n_v (vs ++ [Value.int x]) 5) + (4415 * v_iv (n_v (vs ++ [Value.int x]) 4) + 0))) ≤ (-3551)
      simp only [e_2, e_4, e_5, e_14]
      omega
  exact ⟨(fun _ h => (by cases h)), [Value.int x], ag_one hx, List.forall_mem_cons.mpr ⟨⟨show (20 : Nat) < 100 from by decide, nf0⟩, List.forall_mem_cons.mpr ⟨⟨show (23 : Nat) < 100 from by decide, nf1⟩, (fun _ h => (by cases h))⟩⟩, (fun _ h => (by cases h))⟩
set_option maxHeartbeats 4000000 in
theorem vc_Mo_writeGroup_at_l4_14_0 (x2 : Int) (x4 : Int) (x5 : Int) (x6 : Int) (x8 : Int) (x12 : Int) (x14 : Int) (r_0 : Int) (all_0 : Int → Int) (texts_0 : Int) (gx : Int) (k2 : 0 ≤ x2 ∧ x2 ≤ 99985891) (k4 : 4 ≤ x4 ∧ x4 ≤ 6) (k5 : 5 ≤ x5 ∧ x5 ≤ 7) (k6 : 6 ≤ x6 ∧ x6 ≤ 8) (k8 : 0 ≤ x8 ∧ x8 ≤ 66297) (k12 : 4 ≤ x12 ∧ x12 ≤ 6) (k14 : 0 ≤ x14 ∧ x14 ≤ 99999994) (d0 : x4 + 0 ≤ x12 ∧ x12 ≤ x4 + 0) (d1 : x6 + (-4294967296) ≤ x5 ∧ x5 ≤ x6 + (-1)) (d2 : x5 + (-4294967296) ≤ x4 ∧ x4 ≤ x5 + (-1)) (g0 : x8 = r_0) (f2 : 1 * x14 + ((-1) * x2 + ((-4415) * x5 + (4415 * x4 + 0))) ≤ (-3551)) (f3 : 1 * x6 + ((-1) * all_0 (r_0 + 2) + 0) ≤ 0) (f4 : (-1) * x6 + (1 * all_0 (r_0 + 2) + 0) ≤ 0) (f6 : 1 * texts_0 + ((-1) * x14 + 0) ≤ 6) (f8 : 1 * x14 + ((-1) * x2 + ((-4415) * x5 + (4415 * x4 + 0))) ≤ (-3551)) (f9 : x12 = x4) (f10 : x5 < x6) (kz_0_170 : 0 ≤ texts_0 ∧ texts_0 ≤ 100000000) (ex2 : gx = texts_0) (ex3 : 0 ≤ gx ∧ gx ≤ 99999992) : 1 * texts_0 + ((-1) * gx + 0) ≤ 0 := by
  first | assumption | omega | grind
set_option maxHeartbeats 4000000 in
theorem vc_Mo_writeGroup_at_l4_14_1 (x2 : Int) (x4 : Int) (x5 : Int) (x6 : Int) (x8 : Int) (x12 : Int) (x14 : Int) (r_0 : Int) (all_0 : Int → Int) (texts_0 : Int) (gx : Int) (k2 : 0 ≤ x2 ∧ x2 ≤ 99985891) (k4 : 4 ≤ x4 ∧ x4 ≤ 6) (k5 : 5 ≤ x5 ∧ x5 ≤ 7) (k6 : 6 ≤ x6 ∧ x6 ≤ 8) (k8 : 0 ≤ x8 ∧ x8 ≤ 66297) (k12 : 4 ≤ x12 ∧ x12 ≤ 6) (k14 : 0 ≤ x14 ∧ x14 ≤ 99999994) (d0 : x4 + 0 ≤ x12 ∧ x12 ≤ x4 + 0) (d1 : x6 + (-4294967296) ≤ x5 ∧ x5 ≤ x6 + (-1)) (d2 : x5 + (-4294967296) ≤ x4 ∧ x4 ≤ x5 + (-1)) (g0 : x8 = r_0) (f2 : 1 * x14 + ((-1) * x2 + ((-4415) * x5 + (4415 * x4 + 0))) ≤ (-3551)) (f3 : 1 * x6 + ((-1) * all_0 (r_0 + 2) + 0) ≤ 0) (f4 : (-1) * x6 + (1 * all_0 (r_0 + 2) + 0) ≤ 0) (f6 : 1 * texts_0 + ((-1) * x14 + 0) ≤ 6) (f8 : 1 * x14 + ((-1) * x2 + ((-4415) * x5 + (4415 * x4 + 0))) ≤ (-3551)) (f9 : x12 = x4) (f10 : x5 < x6) (kz_0_170 : 0 ≤ texts_0 ∧ texts_0 ≤ 100000000) (ex2 : gx = texts_0) (ex3 : 0 ≤ gx ∧ gx ≤ 99999992) : 1 * gx + ((-1) * x2 + ((-4415) * x5 + (4415 * x4 + 0))) ≤ (-3545) := by
  first | assumption | omega | grind
def o_Mo_writeGroup_at_l4_14 : or_T := (149, 24, [(0, (2, 0, 0, [165])), (2, (0, 0, 99985891, [])), (3, (2, 0, 0, [165])), (4, (0, 4, 6, [])), (5, (0, 5, 7, [])), (6, (0, 6, 8, [])), (7, (2, 0, 0, [167])), (8, (0, 0, 66297, [])), (12, (0, 4, 6, [])), (14, (0, 0, 99999994, []))], [(9, [8, 3], [5]), (9, [7, 3], [2]), (23, [14, 2, 5, 4], [-3551, 1, -1, -4415, 4415]), (20, [6, 3], [30, 0, 1, 0, 0, -1, 3, 2005002]), (20, [6, 3], [30, 0, -1, 0, 0, 1, 3, 2005002]), (24, [0, 3], []), (20, [3, 14], [30, 6, 1, 1, 170, -1, 0, 0]), (102, [14], [7770675568902916283677847627294075626569627356208558085007249638955617140820833992704, 165170]), (23, [14, 2, 5, 4], [-3551, 1, -1, -4415, 4415]), (7, [12, 4], [0]), (7, [5, 6], [2])], [], [(0, 0, 99999992, [])], [(20, [3, 24], [30, 0, 1, 1, 170, -1, 0, 0]), (23, [24, 2, 5, 4], [-3545, 1, -1, -4415, 4415])], [], [(12, 4, 0, 0), (5, 6, -4294967296, -1), (4, 5, -4294967296, -1)])
theorem oo_Mo_writeGroup_at_l4_14 {kA : Nat → ClassId} : or_ok PRD kA GG o_Mo_writeGroup_at_l4_14 := by
  refine or_mk fun A ta ws vs hD hth hl => ?_
  intro t0 r0 t2 k2 t3 r3 t4 k4 t5 k5 t6 k6 t7 r7 t8 k8 t12 k12 t14 k14 d0 d1 d2 f0 f1 f2 f3 f4 f5 f6 ta1 w1 le1 s1 f8 f9 f10
  replace f0 := shm_110 f0
  replace f1 := shm_120 f1
  replace f2 := shm_2072 f2
  replace f3 := shm_123 f3
  replace f4 := shm_124 f4
  replace f5 := shm_5 f5
  replace f6 := shm_211 f6
  replace f8 := shm_2072 f8
  replace f9 := shm_37 f9
  replace f10 := shm_6 f10
  have q3 : n_v vs 3 = n_v vs 0 := f5.symm
  simp only [q3] at f0 f1 f3 f4 f6
  have cr_0_2 := fdq_10 hD hth r0
  have ad_7 : v_ad (n_v vs 7) = w_ar ws (n_v vs 0) 2 := congrArg v_ad f1
  have g0 : v_iv (n_v vs 8) = w_fi ws (n_v vs 0) 5 := congrArg v_iv f0
  have kz_0_170 := fdq_11 hD hth r0
  have kv0 := fdq_11 hD hth r0
  obtain ⟨x, ex, hx⟩ := iv_ex (ta := ta) (lo := 0) (hi := 99999992) (z := w_fi ws (n_v vs 0) 170) (by omega) (by omega) (by omega) (by omega)
  have ex2 : v_iv (Value.int x) = w_fi ws (n_v vs 0) 170 := ex
  have ex3 : 0 ≤ v_iv (Value.int x) ∧ v_iv (Value.int x) ≤ 99999992 := tv_rng hx
  have e_2 : n_v (vs ++ [Value.int x]) 2 = n_v vs 2 := n_v_old (by rw [hl]; decide)
  have e_3 : n_v (vs ++ [Value.int x]) 3 = n_v vs 3 := n_v_old (by rw [hl]; decide)
  have e_4 : n_v (vs ++ [Value.int x]) 4 = n_v vs 4 := n_v_old (by rw [hl]; decide)
  have e_5 : n_v (vs ++ [Value.int x]) 5 = n_v vs 5 := n_v_old (by rw [hl]; decide)
  have e_24 : n_v (vs ++ [Value.int x]) 24 = Value.int x := n_v_new hl
  have nf0 : fc_1 PRD (20, [3, 24], [30, 0, 1, 1, 170, -1, 0, 0]) ws (vs ++ [Value.int x]) := by
    refine ⟨nf_inA hl rfl, sgq_131 ?_⟩
    · show 1 * w_fi ws (n_v (vs ++ [Value.int x]) 3) 170 + ((-1) * v_iv (n_v (vs ++ [Value.int x]) 24) + 0) ≤ 0
      simp only [e_3, e_24, q3]
      exact vc_Mo_writeGroup_at_l4_14_0 (v_iv (n_v vs 2)) (v_iv (n_v vs 4)) (v_iv (n_v vs 5)) (v_iv (n_v vs 6)) (v_iv (n_v vs 8)) (v_iv (n_v vs 12)) (v_iv (n_v vs 14)) (w_fi ws (n_v vs 0) 5) (w_ei ws (w_ar ws (n_v vs 0) 2)) (w_fi ws (n_v vs 0) 170) (v_iv (Value.int x)) k2 k4 k5 k6 k8 k12 k14 d0 d1 d2 g0 f2 f3 f4 f6 f8 f9 f10 kz_0_170 ex2 ex3
  have nf1 : fc_1 PRD (23, [24, 2, 5, 4], [-3545, 1, -1, -4415, 4415]) ws (vs ++ [Value.int x]) := by
    refine ⟨nf_inA hl rfl, sgq_2073 ?_⟩
    · show 1 * v_iv (n_v (vs ++ [Value.int x]) 24) + ((-1) * v_iv (n_v (vs ++ [Value.int x]) 2) + ((-4415) * v_iv (n_v (vs ++ [Value.int x]) 5) + (4415 * v_iv (n_v (vs ++ [Value.int x]) 4) + 0))) ≤ (-3545)
      simp only [e_2, e_4, e_5, e_24]
      exact vc_Mo_writeGroup_at_l4_14_1 (v_iv (n_v vs 2)) (v_iv (n_v vs 4)) (v_iv (n_v vs 5)) (v_iv (n_v vs 6)) (v_iv (n_v vs 8)) (v_iv (n_v vs 12)) (v_iv (n_v vs 14)) (w_fi ws (n_v vs 0) 5) (w_ei ws (w_ar ws (n_v vs 0) 2)) (w_fi ws (n_v vs 0) 170) (v_iv (Value.int x)) k2 k4 k5 k6 k8 k12 k14 d0 d1 d2 g0 f2 f3 f4 f6 f8 f9 f10 kz_0_170 ex2 ex3
  exact ⟨(fun _ h => (by cases h)), [Value.int x], ag_one hx, List.forall_mem_cons.mpr ⟨⟨show (20 : Nat) < 100 from by decide, nf0⟩, List.forall_mem_cons.mpr ⟨⟨show (23 : Nat) < 100 from by decide, nf1⟩, (fun _ h => (by cases h))⟩⟩, (fun _ h => (by cases h))⟩
set_option maxHeartbeats 4000000 in
theorem vc_Mo_writeGroup_at_l4_15_0 (x2 : Int) (x4 : Int) (x5 : Int) (x6 : Int) (x12 : Int) (x14 : Int) (x24 : Int) (all_0 : Int → Int) (r_0 : Int) (texts_0 : Int) (gx : Int) (k2 : 0 ≤ x2 ∧ x2 ≤ 99985891) (k4 : 4 ≤ x4 ∧ x4 ≤ 6) (k5 : 5 ≤ x5 ∧ x5 ≤ 7) (k6 : 6 ≤ x6 ∧ x6 ≤ 8) (k12 : 4 ≤ x12 ∧ x12 ≤ 6) (k14 : 0 ≤ x14 ∧ x14 ≤ 99999994) (k24 : 0 ≤ x24 ∧ x24 ≤ 99999992) (d0 : x4 + 0 ≤ x12 ∧ x12 ≤ x4 + 0) (d1 : x6 + (-4294967296) ≤ x5 ∧ x5 ≤ x6 + (-1)) (d2 : x5 + (-4294967296) ≤ x4 ∧ x4 ≤ x5 + (-1)) (f0 : 1 * x24 + ((-1) * x2 + ((-4415) * x5 + (4415 * x4 + 0))) ≤ (-3545)) (f1 : 1 * x14 + ((-1) * x2 + ((-4415) * x5 + (4415 * x4 + 0))) ≤ (-3551)) (f2 : 1 * x6 + ((-1) * all_0 (r_0 + 2) + 0) ≤ 0) (f3 : (-1) * x6 + (1 * all_0 (r_0 + 2) + 0) ≤ 0) (f5 : 1 * texts_0 + ((-1) * x24 + 0) ≤ 8) (f7 : 1 * x24 + ((-1) * x2 + ((-4415) * x5 + (4415 * x4 + 0))) ≤ (-3545)) (f8 : 1 * x14 + ((-1) * x2 + ((-4415) * x5 + (4415 * x4 + 0))) ≤ (-3551)) (f10 : 1 * x14 + ((-1) * x2 + ((-4415) * x5 + (4415 * x4 + 0))) ≤ (-3551)) (f11 : x12 = x4) (f12 : x5 < x6) (kz_0_170 : 0 ≤ texts_0 ∧ texts_0 ≤ 100000000) (ex2 : gx = texts_0) (ex3 : 0 ≤ gx ∧ gx ≤ 99999997) : 1 * texts_0 + ((-1) * gx + 0) ≤ 0 := by
  first | assumption | omega | grind
set_option maxHeartbeats 4000000 in
theorem vc_Mo_writeGroup_at_l4_15_1 (x2 : Int) (x4 : Int) (x5 : Int) (x6 : Int) (x12 : Int) (x14 : Int) (x24 : Int) (all_0 : Int → Int) (r_0 : Int) (texts_0 : Int) (gx : Int) (k2 : 0 ≤ x2 ∧ x2 ≤ 99985891) (k4 : 4 ≤ x4 ∧ x4 ≤ 6) (k5 : 5 ≤ x5 ∧ x5 ≤ 7) (k6 : 6 ≤ x6 ∧ x6 ≤ 8) (k12 : 4 ≤ x12 ∧ x12 ≤ 6) (k14 : 0 ≤ x14 ∧ x14 ≤ 99999994) (k24 : 0 ≤ x24 ∧ x24 ≤ 99999992) (d0 : x4 + 0 ≤ x12 ∧ x12 ≤ x4 + 0) (d1 : x6 + (-4294967296) ≤ x5 ∧ x5 ≤ x6 + (-1)) (d2 : x5 + (-4294967296) ≤ x4 ∧ x4 ≤ x5 + (-1)) (f0 : 1 * x24 + ((-1) * x2 + ((-4415) * x5 + (4415 * x4 + 0))) ≤ (-3545)) (f1 : 1 * x14 + ((-1) * x2 + ((-4415) * x5 + (4415 * x4 + 0))) ≤ (-3551)) (f2 : 1 * x6 + ((-1) * all_0 (r_0 + 2) + 0) ≤ 0) (f3 : (-1) * x6 + (1 * all_0 (r_0 + 2) + 0) ≤ 0) (f5 : 1 * texts_0 + ((-1) * x24 + 0) ≤ 8) (f7 : 1 * x24 + ((-1) * x2 + ((-4415) * x5 + (4415 * x4 + 0))) ≤ (-3545)) (f8 : 1 * x14 + ((-1) * x2 + ((-4415) * x5 + (4415 * x4 + 0))) ≤ (-3551)) (f10 : 1 * x14 + ((-1) * x2 + ((-4415) * x5 + (4415 * x4 + 0))) ≤ (-3551)) (f11 : x12 = x4) (f12 : x5 < x6) (kz_0_170 : 0 ≤ texts_0 ∧ texts_0 ≤ 100000000) (ex2 : gx = texts_0) (ex3 : 0 ≤ gx ∧ gx ≤ 99999997) : 1 * gx + ((-1) * x2 + ((-4415) * x5 + (4415 * x4 + 0))) ≤ (-3537) := by
  first | assumption | omega | grind
def o_Mo_writeGroup_at_l4_15 : or_T := (156, 26, [(0, (2, 0, 0, [165])), (2, (0, 0, 99985891, [])), (3, (2, 0, 0, [165])), (4, (0, 4, 6, [])), (5, (0, 5, 7, [])), (6, (0, 6, 8, [])), (12, (0, 4, 6, [])), (14, (0, 0, 99999994, [])), (24, (0, 0, 99999992, []))], [(23, [24, 2, 5, 4], [-3545, 1, -1, -4415, 4415]), (23, [14, 2, 5, 4], [-3551, 1, -1, -4415, 4415]), (20, [6, 3], [30, 0, 1, 0, 0, -1, 3, 2005002]), (20, [6, 3], [30, 0, -1, 0, 0, 1, 3, 2005002]), (24, [0, 3], []), (20, [3, 24], [30, 8, 1, 1, 170, -1, 0, 0]), (102, [24], [7770675568902916283677847627294075626569627356208558085007249638955617140820833992704, 165170]), (23, [24, 2, 5, 4], [-3545, 1, -1, -4415, 4415]), (23, [14, 2, 5, 4], [-3551, 1, -1, -4415, 4415]), (102, [14], [7770675568902916283677847627294075626569627356208558085007249638955617140820833992704, 165170]), (23, [14, 2, 5, 4], [-3551, 1, -1, -4415, 4415]), (7, [12, 4], [0]), (7, [5, 6], [2])], [], [(0, 0, 99999997, [])], [(20, [3, 26], [30, 0, 1, 1, 170, -1, 0, 0]), (23, [26, 2, 5, 4], [-3537, 1, -1, -4415, 4415])], [], [(12, 4, 0, 0), (5, 6, -4294967296, -1), (4, 5, -4294967296, -1)])
theorem oo_Mo_writeGroup_at_l4_15 {kA : Nat → ClassId} : or_ok PRD kA GG o_Mo_writeGroup_at_l4_15 := by
  refine or_mk fun A ta ws vs hD hth hl => ?_
  intro t0 r0 t2 k2 t3 r3 t4 k4 t5 k5 t6 k6 t12 k12 t14 k14 t24 k24 d0 d1 d2 f0 f1 f2 f3 f4 f5 ta1 w1 le1 s1 f7 f8 ta2 w2 le2 s2 f10 f11 f12
  replace f0 := shm_2073 f0
  replace f1 := shm_2072 f1
  replace f2 := shm_123 f2
  replace f3 := shm_124 f3
  replace f4 := shm_5 f4
  replace f5 := shm_160 f5
  replace f7 := shm_2073 f7
  replace f8 := shm_2072 f8
  replace f10 := shm_2072 f10
  replace f11 := shm_37 f11
  replace f12 := shm_6 f12
  have q3 : n_v vs 3 = n_v vs 0 := f4.symm
  simp only [q3] at f2 f3 f5
  have cr_0_2 := fdq_10 hD hth r0
  have kz_0_170 := fdq_11 hD hth r0
  have kv0 := fdq_11 hD hth r0
  obtain ⟨x, ex, hx⟩ := iv_ex (ta := ta) (lo := 0) (hi := 99999997) (z := w_fi ws (n_v vs 0) 170) (by omega) (by omega) (by omega) (by omega)
  have ex2 : v_iv (Value.int x) = w_fi ws (n_v vs 0) 170 := ex
  have ex3 : 0 ≤ v_iv (Value.int x) ∧ v_iv (Value.int x) ≤ 99999997 := tv_rng hx
  have e_2 : n_v (vs ++ [Value.int x]) 2 = n_v vs 2 := n_v_old (by rw [hl]; decide)
  have e_3 : n_v (vs ++ [Value.int x]) 3 = n_v vs 3 := n_v_old (by rw [hl]; decide)
  have e_4 : n_v (vs ++ [Value.int x]) 4 = n_v vs 4 := n_v_old (by rw [hl]; decide)
  have e_5 : n_v (vs ++ [Value.int x]) 5 = n_v vs 5 := n_v_old (by rw [hl]; decide)
  have e_26 : n_v (vs ++ [Value.int x]) 26 = Value.int x := n_v_new hl
  have nf0 : fc_1 PRD (20, [3, 26], [30, 0, 1, 1, 170, -1, 0, 0]) ws (vs ++ [Value.int x]) := by
    refine ⟨nf_inA hl rfl, sgq_131 ?_⟩
    · show 1 * w_fi ws (n_v (vs ++ [Value.int x]) 3) 170 + ((-1) * v_iv (n_v (vs ++ [Value.int x]) 26) + 0) ≤ 0
      simp only [e_3, e_26, q3]
      exact vc_Mo_writeGroup_at_l4_15_0 (v_iv (n_v vs 2)) (v_iv (n_v vs 4)) (v_iv (n_v vs 5)) (v_iv (n_v vs 6)) (v_iv (n_v vs 12)) (v_iv (n_v vs 14)) (v_iv (n_v vs 24)) (w_ei ws (w_ar ws (n_v vs 0) 2)) (w_fi ws (n_v vs 0) 5) (w_fi ws (n_v vs 0) 170) (v_iv (Value.int x)) k2 k4 k5 k6 k12 k14 k24 d0 d1 d2 f0 f1 f2 f3 f5 f7 f8 f10 f11 f12 kz_0_170 ex2 ex3
  have nf1 : fc_1 PRD (23, [26, 2, 5, 4], [-3537, 1, -1, -4415, 4415]) ws (vs ++ [Value.int x]) := by
    refine ⟨nf_inA hl rfl, sgq_2074 ?_⟩
    · show 1 * v_iv (n_v (vs ++ [Value.int x]) 26) + ((-1) * v_iv (n_v (vs ++ [Value.int x]) 2) + ((-4415) * v_iv (n_v (vs ++ [Value.int x]) 5) + (4415 * v_iv (n_v (vs ++ [Value.int x]) 4) + 0))) ≤ (-3537)
      simp only [e_2, e_4, e_5, e_26]
      exact vc_Mo_writeGroup_at_l4_15_1 (v_iv (n_v vs 2)) (v_iv (n_v vs 4)) (v_iv (n_v vs 5)) (v_iv (n_v vs 6)) (v_iv (n_v vs 12)) (v_iv (n_v vs 14)) (v_iv (n_v vs 24)) (w_ei ws (w_ar ws (n_v vs 0) 2)) (w_fi ws (n_v vs 0) 5) (w_fi ws (n_v vs 0) 170) (v_iv (Value.int x)) k2 k4 k5 k6 k12 k14 k24 d0 d1 d2 f0 f1 f2 f3 f5 f7 f8 f10 f11 f12 kz_0_170 ex2 ex3
  exact ⟨(fun _ h => (by cases h)), [Value.int x], ag_one hx, List.forall_mem_cons.mpr ⟨⟨show (20 : Nat) < 100 from by decide, nf0⟩, List.forall_mem_cons.mpr ⟨⟨show (23 : Nat) < 100 from by decide, nf1⟩, (fun _ h => (by cases h))⟩⟩, (fun _ h => (by cases h))⟩
set_option maxHeartbeats 4000000 in
theorem vc_Mo_writeGroup_at_l4_16_0 (x2 : Int) (x4 : Int) (x5 : Int) (x6 : Int) (x12 : Int) (x14 : Int) (x24 : Int) (x26 : Int) (all_0 : Int → Int) (r_0 : Int) (texts_0 : Int) (gx : Int) (k2 : 0 ≤ x2 ∧ x2 ≤ 99985891) (k4 : 4 ≤ x4 ∧ x4 ≤ 6) (k5 : 5 ≤ x5 ∧ x5 ≤ 7) (k6 : 6 ≤ x6 ∧ x6 ≤ 8) (k12 : 4 ≤ x12 ∧ x12 ≤ 6) (k14 : 0 ≤ x14 ∧ x14 ≤ 99999994) (k24 : 0 ≤ x24 ∧ x24 ≤ 99999992) (k26 : 0 ≤ x26 ∧ x26 ≤ 99999997) (d0 : x4 + 0 ≤ x12 ∧ x12 ≤ x4 + 0) (d1 : x6 + (-4294967296) ≤ x5 ∧ x5 ≤ x6 + (-1)) (d2 : x5 + (-4294967296) ≤ x4 ∧ x4 ≤ x5 + (-1)) (f0 : 1 * x26 + ((-1) * x2 + ((-4415) * x5 + (4415 * x4 + 0))) ≤ (-3537)) (f1 : 1 * x24 + ((-1) * x2 + ((-4415) * x5 + (4415 * x4 + 0))) ≤ (-3545)) (f2 : 1 * x14 + ((-1) * x2 + ((-4415) * x5 + (4415 * x4 + 0))) ≤ (-3551)) (f3 : 1 * x6 + ((-1) * all_0 (r_0 + 2) + 0) ≤ 0) (f4 : (-1) * x6 + (1 * all_0 (r_0 + 2) + 0) ≤ 0) (f6 : 1 * texts_0 + ((-1) * x26 + 0) ≤ 3) (f8 : 1 * x26 + ((-1) * x2 + ((-4415) * x5 + (4415 * x4 + 0))) ≤ (-3537)) (f9 : 1 * x24 + ((-1) * x2 + ((-4415) * x5 + (4415 * x4 + 0))) ≤ (-3545)) (f10 : 1 * x14 + ((-1) * x2 + ((-4415) * x5 + (4415 * x4 + 0))) ≤ (-3551)) (f12 : 1 * x24 + ((-1) * x2 + ((-4415) * x5 + (4415 * x4 + 0))) ≤ (-3545)) (f13 : 1 * x14 + ((-1) * x2 + ((-4415) * x5 + (4415 * x4 + 0))) ≤ (-3551)) (f15 : 1 * x14 + ((-1) * x2 + ((-4415) * x5 + (4415 * x4 + 0))) ≤ (-3551)) (f16 : x12 = x4) (f17 : x5 < x6) (kz_0_170 : 0 ≤ texts_0 ∧ texts_0 ≤ 100000000) (ex2 : gx = texts_0) (ex3 : 0 ≤ gx ∧ gx ≤ 99995604) : 1 * texts_0 + ((-1) * gx + 0) ≤ 0 := by
  first | assumption | omega | grind
set_option maxHeartbeats 4000000 in
theorem vc_Mo_writeGroup_at_l4_16_1 (x2 : Int) (x4 : Int) (x5 : Int) (x6 : Int) (x12 : Int) (x14 : Int) (x24 : Int) (x26 : Int) (all_0 : Int → Int) (r_0 : Int) (texts_0 : Int) (gx : Int) (k2 : 0 ≤ x2 ∧ x2 ≤ 99985891) (k4 : 4 ≤ x4 ∧ x4 ≤ 6) (k5 : 5 ≤ x5 ∧ x5 ≤ 7) (k6 : 6 ≤ x6 ∧ x6 ≤ 8) (k12 : 4 ≤ x12 ∧ x12 ≤ 6) (k14 : 0 ≤ x14 ∧ x14 ≤ 99999994) (k24 : 0 ≤ x24 ∧ x24 ≤ 99999992) (k26 : 0 ≤ x26 ∧ x26 ≤ 99999997) (d0 : x4 + 0 ≤ x12 ∧ x12 ≤ x4 + 0) (d1 : x6 + (-4294967296) ≤ x5 ∧ x5 ≤ x6 + (-1)) (d2 : x5 + (-4294967296) ≤ x4 ∧ x4 ≤ x5 + (-1)) (f0 : 1 * x26 + ((-1) * x2 + ((-4415) * x5 + (4415 * x4 + 0))) ≤ (-3537)) (f1 : 1 * x24 + ((-1) * x2 + ((-4415) * x5 + (4415 * x4 + 0))) ≤ (-3545)) (f2 : 1 * x14 + ((-1) * x2 + ((-4415) * x5 + (4415 * x4 + 0))) ≤ (-3551)) (f3 : 1 * x6 + ((-1) * all_0 (r_0 + 2) + 0) ≤ 0) (f4 : (-1) * x6 + (1 * all_0 (r_0 + 2) + 0) ≤ 0) (f6 : 1 * texts_0 + ((-1) * x26 + 0) ≤ 3) (f8 : 1 * x26 + ((-1) * x2 + ((-4415) * x5 + (4415 * x4 + 0))) ≤ (-3537)) (f9 : 1 * x24 + ((-1) * x2 + ((-4415) * x5 + (4415 * x4 + 0))) ≤ (-3545)) (f10 : 1 * x14 + ((-1) * x2 + ((-4415) * x5 + (4415 * x4 + 0))) ≤ (-3551)) (f12 : 1 * x24 + ((-1) * x2 + ((-4415) * x5 + (4415 * x4 + 0))) ≤ (-3545)) (f13 : 1 * x14 + ((-1) * x2 + ((-4415) * x5 + (4415 * x4 + 0))) ≤ (-3551)) (f15 : 1 * x14 + ((-1) * x2 + ((-4415) * x5 + (4415 * x4 + 0))) ≤ (-3551)) (f16 : x12 = x4) (f17 : x5 < x6) (kz_0_170 : 0 ≤ texts_0 ∧ texts_0 ≤ 100000000) (ex2 : gx = texts_0) (ex3 : 0 ≤ gx ∧ gx ≤ 99995604) : 1 * gx + ((-1) * x2 + ((-4415) * x5 + (4415 * x4 + 0))) ≤ (-3534) := by
  first | assumption | omega | grind
def o_Mo_writeGroup_at_l4_16 : or_T := (161, 27, [(0, (2, 0, 0, [165])), (2, (0, 0, 99985891, [])), (3, (2, 0, 0, [165])), (4, (0, 4, 6, [])), (5, (0, 5, 7, [])), (6, (0, 6, 8, [])), (12, (0, 4, 6, [])), (14, (0, 0, 99999994, [])), (24, (0, 0, 99999992, [])), (26, (0, 0, 99999997, []))], [(23, [26, 2, 5, 4], [-3537, 1, -1, -4415, 4415]), (23, [24, 2, 5, 4], [-3545, 1, -1, -4415, 4415]), (23, [14, 2, 5, 4], [-3551, 1, -1, -4415, 4415]), (20, [6, 3], [30, 0, 1, 0, 0, -1, 3, 2005002]), (20, [6, 3], [30, 0, -1, 0, 0, 1, 3, 2005002]), (24, [0, 3], []), (20, [3, 26], [30, 3, 1, 1, 170, -1, 0, 0]), (102, [26], [7770675568902916283677847627294075626569627356208558085007249638955617140820833992704, 165170]), (23, [26, 2, 5, 4], [-3537, 1, -1, -4415, 4415]), (23, [24, 2, 5, 4], [-3545, 1, -1, -4415, 4415]), (23, [14, 2, 5, 4], [-3551, 1, -1, -4415, 4415]), (102, [24], [7770675568902916283677847627294075626569627356208558085007249638955617140820833992704, 165170]), (23, [24, 2, 5, 4], [-3545, 1, -1, -4415, 4415]), (23, [14, 2, 5, 4], [-3551, 1, -1, -4415, 4415]), (102, [14], [7770675568902916283677847627294075626569627356208558085007249638955617140820833992704, 165170]), (23, [14, 2, 5, 4], [-3551, 1, -1, -4415, 4415]), (7, [12, 4], [0]), (7, [5, 6], [2])], [], [(0, 0, 99995604, [])], [(20, [3, 27], [30, 0, 1, 1, 170, -1, 0, 0]), (23, [27, 2, 5, 4], [-3534, 1, -1, -4415, 4415])], [], [(12, 4, 0, 0), (5, 6, -4294967296, -1), (4, 5, -4294967296, -1)])
theorem oo_Mo_writeGroup_at_l4_16 {kA : Nat → ClassId} : or_ok PRD kA GG o_Mo_writeGroup_at_l4_16 := by
  refine or_mk fun A ta ws vs hD hth hl => ?_
  intro t0 r0 t2 k2 t3 r3 t4 k4 t5 k5 t6 k6 t12 k12 t14 k14 t24 k24 t26 k26 d0 d1 d2 f0 f1 f2 f3 f4 f5 f6 ta1 w1 le1 s1 f8 f9 f10 ta2 w2 le2 s2 f12 f13 ta3 w3 le3 s3 f15 f16 f17
  replace f0 := shm_2074 f0
  replace f1 := shm_2073 f1
  replace f2 := shm_2072 f2
  replace f3 := shm_123 f3
  replace f4 := shm_124 f4
  replace f5 := shm_5 f5
  replace f6 := shm_212 f6
  replace f8 := shm_2074 f8
  replace f9 := shm_2073 f9
  replace f10 := shm_2072 f10
  replace f12 := shm_2073 f12
  replace f13 := shm_2072 f13
  replace f15 := shm_2072 f15
  replace f16 := shm_37 f16
  replace f17 := shm_6 f17
  have q3 : n_v vs 3 = n_v vs 0 := f5.symm
  simp only [q3] at f3 f4 f6
  have cr_0_2 := fdq_10 hD hth r0
  have kz_0_170 := fdq_11 hD hth r0
  have kv0 := fdq_11 hD hth r0
  obtain ⟨x, ex, hx⟩ := iv_ex (ta := ta) (lo := 0) (hi := 99995604) (z := w_fi ws (n_v vs 0) 170) (by omega) (by omega) (by omega) (by omega)
  have ex2 : v_iv (Value.int x) = w_fi ws (n_v vs 0) 170 := ex
  have ex3 : 0 ≤ v_iv (Value.int x) ∧ v_iv (Value.int x) ≤ 99995604 := tv_rng hx
  have e_2 : n_v (vs ++ [Value.int x]) 2 = n_v vs 2 := n_v_old (by rw [hl]; decide)
  have e_3 : n_v (vs ++ [Value.int x]) 3 = n_v vs 3 := n_v_old (by rw [hl]; decide)
  have e_4 : n_v (vs ++ [Value.int x]) 4 = n_v vs 4 := n_v_old (by rw [hl]; decide)
  have e_5 : n_v (vs ++ [Value.int x]) 5 = n_v vs 5 := n_v_old (by rw [hl]; decide)
  have e_27 : n_v (vs ++ [Value.int x]) 27 = Value.int x := n_v_new hl
  have nf0 : fc_1 PRD (20, [3, 27], [30, 0, 1, 1, 170, -1, 0, 0]) ws (vs ++ [Value.int x]) := by
    refine ⟨nf_inA hl rfl, sgq_131 ?_⟩
    · show 1 * w_fi ws (n_v (vs ++ [Value.int x]) 3) 170 + ((-1) * v_iv (n_v (vs ++ [Value.int x]) 27) + 0) ≤ 0
      simp only [e_3, e_27, q3]
      exact vc_Mo_writeGroup_at_l4_16_0 (v_iv (n_v vs 2)) (v_iv (n_v vs 4)) (v_iv (n_v vs 5)) (v_iv (n_v vs 6)) (v_iv (n_v vs 12)) (v_iv (n_v vs 14)) (v_iv (n_v vs 24)) (v_iv (n_v vs 26)) (w_ei ws (w_ar ws (n_v vs 0) 2)) (w_fi ws (n_v vs 0) 5) (w_fi ws (n_v vs 0) 170) (v_iv (Value.int x)) k2 k4 k5 k6 k12 k14 k24 k26 d0 d1 d2 f0 f1 f2 f3 f4 f6 f8 f9 f10 f12 f13 f15 f16 f17 kz_0_170 ex2 ex3
  have nf1 : fc_1 PRD (23, [27, 2, 5, 4], [-3534, 1, -1, -4415, 4415]) ws (vs ++ [Value.int x]) := by
    refine ⟨nf_inA hl rfl, sgq_2075 ?_⟩
    · show 1 * v_iv (n_v (vs ++ [Value.int x]) 27) + ((-1) * v_iv (n_v (vs ++ [Value.int x]) 2) + ((-4415) * v_iv (n_v (vs ++ [Value.int x]) 5) + (4415 * v_iv (n_v (vs ++ [Value.int x]) 4) + 0))) ≤ (-3534)
      simp only [e_2, e_4, e_5, e_27]
      exact vc_Mo_writeGroup_at_l4_16_1 (v_iv (n_v vs 2)) (v_iv (n_v vs 4)) (v_iv (n_v vs 5)) (v_iv (n_v vs 6)) (v_iv (n_v vs 12)) (v_iv (n_v vs 14)) (v_iv (n_v vs 24)) (v_iv (n_v vs 26)) (w_ei ws (w_ar ws (n_v vs 0) 2)) (w_fi ws (n_v vs 0) 5) (w_fi ws (n_v vs 0) 170) (v_iv (Value.int x)) k2 k4 k5 k6 k12 k14 k24 k26 d0 d1 d2 f0 f1 f2 f3 f4 f6 f8 f9 f10 f12 f13 f15 f16 f17 kz_0_170 ex2 ex3
  exact ⟨(fun _ h => (by cases h)), [Value.int x], ag_one hx, List.forall_mem_cons.mpr ⟨⟨show (20 : Nat) < 100 from by decide, nf0⟩, List.forall_mem_cons.mpr ⟨⟨show (23 : Nat) < 100 from by decide, nf1⟩, (fun _ h => (by cases h))⟩⟩, (fun _ h => (by cases h))⟩
set_option maxHeartbeats 4000000 in
theorem vc_Mo_writeGroup_at_l4_17_0 (x2 : Int) (x4 : Int) (x5 : Int) (x6 : Int) (x12 : Int) (x14 : Int) (x24 : Int) (x26 : Int) (x27 : Int) (all_0 : Int → Int) (r_0 : Int) (texts_0 : Int) (gx : Int) (k2 : 0 ≤ x2 ∧ x2 ≤ 99985891) (k4 : 4 ≤ x4 ∧ x4 ≤ 6) (k5 : 5 ≤ x5 ∧ x5 ≤ 7) (k6 : 6 ≤ x6 ∧ x6 ≤ 8) (k12 : 4 ≤ x12 ∧ x12 ≤ 6) (k14 : 0 ≤ x14 ∧ x14 ≤ 99999994) (k24 : 0 ≤ x24 ∧ x24 ≤ 99999992) (k26 : 0 ≤ x26 ∧ x26 ≤ 99999997) (k27 : 0 ≤ x27 ∧ x27 ≤ 99995604) (d0 : x4 + 0 ≤ x12 ∧ x12 ≤ x4 + 0) (d1 : x6 + (-4294967296) ≤ x5 ∧ x5 ≤ x6 + (-1)) (d2 : x5 + (-4294967296) ≤ x4 ∧ x4 ≤ x5 + (-1)) (f0 : 1 * x27 + ((-1) * x2 + ((-4415) * x5 + (4415 * x4 + 0))) ≤ (-3534)) (f1 : 1 * x26 + ((-1) * x2 + ((-4415) * x5 + (4415 * x4 + 0))) ≤ (-3537)) (f2 : 1 * x24 + ((-1) * x2 + ((-4415) * x5 + (4415 * x4 + 0))) ≤ (-3545)) (f3 : 1 * x14 + ((-1) * x2 + ((-4415) * x5 + (4415 * x4 + 0))) ≤ (-3551)) (f4 : 1 * x6 + ((-1) * all_0 (r_0 + 2) + 0) ≤ 0) (f5 : (-1) * x6 + (1 * all_0 (r_0 + 2) + 0) ≤ 0) (f7 : 1 * texts_0 + ((-1) * x27 + 0) ≤ 4396) (f9 : 1 * x27 + ((-1) * x2 + ((-4415) * x5 + (4415 * x4 + 0))) ≤ (-3534)) (f10 : 1 * x26 + ((-1) * x2 + ((-4415) * x5 + (4415 * x4 + 0))) ≤ (-3537)) (f11 : 1 * x24 + ((-1) * x2 + ((-4415) * x5 + (4415 * x4 + 0))) ≤ (-3545)) (f12 : 1 * x14 + ((-1) * x2 + ((-4415) * x5 + (4415 * x4 + 0))) ≤ (-3551)) (f14 : 1 * x26 + ((-1) * x2 + ((-4415) * x5 + (4415 * x4 + 0))) ≤ (-3537)) (f15 : 1 * x24 + ((-1) * x2 + ((-4415) * x5 + (4415 * x4 + 0))) ≤ (-3545)) (f16 : 1 * x14 + ((-1) * x2 + ((-4415) * x5 + (4415 * x4 + 0))) ≤ (-3551)) (f18 : 1 * x24 + ((-1) * x2 + ((-4415) * x5 + (4415 * x4 + 0))) ≤ (-3545)) (f19 : 1 * x14 + ((-1) * x2 + ((-4415) * x5 + (4415 * x4 + 0))) ≤ (-3551)) (f21 : 1 * x14 + ((-1) * x2 + ((-4415) * x5 + (4415 * x4 + 0))) ≤ (-3551)) (f22 : x12 = x4) (f23 : x5 < x6) (kz_0_170 : 0 ≤ texts_0 ∧ texts_0 ≤ 100000000) (ex2 : gx = texts_0) (ex3 : 0 ≤ gx ∧ gx ≤ 99999998) : 1 * texts_0 + ((-1) * gx + 0) ≤ 0 := by
  first | assumption | omega | grind
set_option maxHeartbeats 4000000 in
theorem vc_Mo_writeGroup_at_l4_17_1 (x2 : Int) (x4 : Int) (x5 : Int) (x6 : Int) (x12 : Int) (x14 : Int) (x24 : Int) (x26 : Int) (x27 : Int) (all_0 : Int → Int) (r_0 : Int) (texts_0 : Int) (gx : Int) (k2 : 0 ≤ x2 ∧ x2 ≤ 99985891) (k4 : 4 ≤ x4 ∧ x4 ≤ 6) (k5 : 5 ≤ x5 ∧ x5 ≤ 7) (k6 : 6 ≤ x6 ∧ x6 ≤ 8) (k12 : 4 ≤ x12 ∧ x12 ≤ 6) (k14 : 0 ≤ x14 ∧ x14 ≤ 99999994) (k24 : 0 ≤ x24 ∧ x24 ≤ 99999992) (k26 : 0 ≤ x26 ∧ x26 ≤ 99999997) (k27 : 0 ≤ x27 ∧ x27 ≤ 99995604) (d0 : x4 + 0 ≤ x12 ∧ x12 ≤ x4 + 0) (d1 : x6 + (-4294967296) ≤ x5 ∧ x5 ≤ x6 + (-1)) (d2 : x5 + (-4294967296) ≤ x4 ∧ x4 ≤ x5 + (-1)) (f0 : 1 * x27 + ((-1) * x2 + ((-4415) * x5 + (4415 * x4 + 0))) ≤ (-3534)) (f1 : 1 * x26 + ((-1) * x2 + ((-4415) * x5 + (4415 * x4 + 0))) ≤ (-3537)) (f2 : 1 * x24 + ((-1) * x2 + ((-4415) * x5 + (4415 * x4 + 0))) ≤ (-3545)) (f3 : 1 * x14 + ((-1) * x2 + ((-4415) * x5 + (4415 * x4 + 0))) ≤ (-3551)) (f4 : 1 * x6 + ((-1) * all_0 (r_0 + 2) + 0) ≤ 0) (f5 : (-1) * x6 + (1 * all_0 (r_0 + 2) + 0) ≤ 0) (f7 : 1 * texts_0 + ((-1) * x27 + 0) ≤ 4396) (f9 : 1 * x27 + ((-1) * x2 + ((-4415) * x5 + (4415 * x4 + 0))) ≤ (-3534)) (f10 : 1 * x26 + ((-1) * x2 + ((-4415) * x5 + (4415 * x4 + 0))) ≤ (-3537)) (f11 : 1 * x24 + ((-1) * x2 + ((-4415) * x5 + (4415 * x4 + 0))) ≤ (-3545)) (f12 : 1 * x14 + ((-1) * x2 + ((-4415) * x5 + (4415 * x4 + 0))) ≤ (-3551)) (f14 : 1 * x26 + ((-1) * x2 + ((-4415) * x5 + (4415 * x4 + 0))) ≤ (-3537)) (f15 : 1 * x24 + ((-1) * x2 + ((-4415) * x5 + (4415 * x4 + 0))) ≤ (-3545)) (f16 : 1 * x14 + ((-1) * x2 + ((-4415) * x5 + (4415 * x4 + 0))) ≤ (-3551)) (f18 : 1 * x24 + ((-1) * x2 + ((-4415) * x5 + (4415 * x4 + 0))) ≤ (-3545)) (f19 : 1 * x14 + ((-1) * x2 + ((-4415) * x5 + (4415 * x4 + 0))) ≤ (-3551)) (f21 : 1 * x14 + ((-1) * x2 + ((-4415) * x5 + (4415 * x4 + 0))) ≤ (-3551)) (f22 : x12 = x4) (f23 : x5 < x6) (kz_0_170 : 0 ≤ texts_0 ∧ texts_0 ≤ 100000000) (ex2 : gx = texts_0) (ex3 : 0 ≤ gx ∧ gx ≤ 99999998) : 1 * gx + ((-1) * x2 + ((-4415) * x5 + (4415 * x4 + 0))) ≤ 862 := by
  first | assumption | omega | grind
def o_Mo_writeGroup_at_l4_17 : or_T := (168, 29, [(0, (2, 0, 0, [165])), (2, (0, 0, 99985891, [])), (3, (2, 0, 0, [165])), (4, (0, 4, 6, [])), (5, (0, 5, 7, [])), (6, (0, 6, 8, [])), (12, (0, 4, 6, [])), (14, (0, 0, 99999994, [])), (24, (0, 0, 99999992, [])), (26, (0, 0, 99999997, [])), (27, (0, 0, 99995604, []))], [(23, [27, 2, 5, 4], [-3534, 1, -1, -4415, 4415]), (23, [26, 2, 5, 4], [-3537, 1, -1, -4415, 4415]), (23, [24, 2, 5, 4], [-3545, 1, -1, -4415, 4415]), (23, [14, 2, 5, 4], [-3551, 1, -1, -4415, 4415]), (20, [6, 3], [30, 0, 1, 0, 0, -1, 3, 2005002]), (20, [6, 3], [30, 0, -1, 0, 0, 1, 3, 2005002]), (24, [0, 3], []), (20, [3, 27], [30, 4396, 1, 1, 170, -1, 0, 0]), (102, [27], [7770675568902916283677847627294075626569627356208558085007249638955617140820833992704, 165170]), (23, [27, 2, 5, 4], [-3534, 1, -1, -4415, 4415]), (23, [26, 2, 5, 4], [-3537, 1, -1, -4415, 4415]), (23, [24, 2, 5, 4], [-3545, 1, -1, -4415, 4415]), (23, [14, 2, 5, 4], [-3551, 1, -1, -4415, 4415]), (102, [26], [7770675568902916283677847627294075626569627356208558085007249638955617140820833992704, 165170]), (23, [26, 2, 5, 4], [-3537, 1, -1, -4415, 4415]), (23, [24, 2, 5, 4], [-3545, 1, -1, -4415, 4415]), (23, [14, 2, 5, 4], [-3551, 1, -1, -4415, 4415]), (102, [24], [7770675568902916283677847627294075626569627356208558085007249638955617140820833992704, 165170]), (23, [24, 2, 5, 4], [-3545, 1, -1, -4415, 4415]), (23, [14, 2, 5, 4], [-3551, 1, -1, -4415, 4415]), (102, [14], [7770675568902916283677847627294075626569627356208558085007249638955617140820833992704, 165170]), (23, [14, 2, 5, 4], [-3551, 1, -1, -4415, 4415]), (7, [12, 4], [0]), (7, [5, 6], [2])], [], [(0, 0, 99999998, [])], [(20, [3, 29], [30, 0, 1, 1, 170, -1, 0, 0]), (23, [29, 2, 5, 4], [862, 1, -1, -4415, 4415])], [], [(12, 4, 0, 0), (5, 6, -4294967296, -1), (4, 5, -4294967296, -1)])
theorem oo_Mo_writeGroup_at_l4_17 {kA : Nat → ClassId} : or_ok PRD kA GG o_Mo_writeGroup_at_l4_17 := by
  refine or_mk fun A ta ws vs hD hth hl => ?_
  intro t0 r0 t2 k2 t3 r3 t4 k4 t5 k5 t6 k6 t12 k12 t14 k14 t24 k24 t26 k26 t27 k27 d0 d1 d2 f0 f1 f2 f3 f4 f5 f6 f7 ta1 w1 le1 s1 f9 f10 f11 f12 ta2 w2 le2 s2 f14 f15 f16 ta3 w3 le3 s3 f18 f19 ta4 w4 le4 s4 f21 f22 f23
  replace f0 := shm_2075 f0
  replace f1 := shm_2074 f1
  replace f2 := shm_2073 f2
  replace f3 := shm_2072 f3
  replace f4 := shm_123 f4
  replace f5 := shm_124 f5
  replace f6 := shm_5 f6
  replace f7 := shm_2076 f7
  replace f9 := shm_2075 f9
  replace f10 := shm_2074 f10
  replace f11 := shm_2073 f11
  replace f12 := shm_2072 f12
  replace f14 := shm_2074 f14
  replace f15 := shm_2073 f15
  replace f16 := shm_2072 f16
  replace f18 := shm_2073 f18
  replace f19 := shm_2072 f19
  replace f21 := shm_2072 f21
  replace f22 := shm_37 f22
  replace f23 := shm_6 f23
  have q3 : n_v vs 3 = n_v vs 0 := f6.symm
  simp only [q3] at f4 f5 f7
  have cr_0_2 := fdq_10 hD hth r0
  have kz_0_170 := fdq_11 hD hth r0
  have kv0 := fdq_11 hD hth r0
  obtain ⟨x, ex, hx⟩ := iv_ex (ta := ta) (lo := 0) (hi := 99999998) (z := w_fi ws (n_v vs 0) 170) (by omega) (by omega) (by omega) (by omega)
  have ex2 : v_iv (Value.int x) = w_fi ws (n_v vs 0) 170 := ex
  have ex3 : 0 ≤ v_iv (Value.int x) ∧ v_iv (Value.int x) ≤ 99999998 := tv_rng hx
  have e_2 : n_v (vs ++ [Value.int x]) 2 = n_v vs 2 := n_v_old (by rw [hl]; decide)
  have e_3 : n_v (vs ++ [Value.int x]) 3 = n_v vs 3 := n_v_old (by rw [hl]; decide)
  have e_4 : n_v (vs ++ [Value.int x]) 4 = n_v vs 4 := n_v_old (by rw [hl]; decide)
  have e_5 : n_v (vs ++ [Value.int x]) 5 = n_v vs 5 := n_v_old (by rw [hl]; decide)
  have e_29 : n_v (vs ++ [Value.int x]) 29 = Value.int x := n_v_new hl
  have nf0 : fc_1 PRD (20, [3, 29], [30, 0, 1, 1, 170, -1, 0, 0]) ws (vs ++ [Value.int x]) := by
    refine ⟨nf_inA hl rfl, sgq_131 ?_⟩
    · show 1 * w_fi ws (n_v (vs ++ [Value.int x]) 3) 170 + ((-1) * v_iv (n_v (vs ++ [Value.int x]) 29) + 0) ≤ 0
      simp only [e_3, e_29, q3]
      exact vc_Mo_writeGroup_at_l4_17_0 (v_iv (n_v vs 2)) (v_iv (n_v vs 4)) (v_iv (n_v vs 5)) (v_iv (n_v vs 6)) (v_iv (n_v vs 12)) (v_iv (n_v vs 14)) (v_iv (n_v vs 24)) (v_iv (n_v vs 26)) (v_iv (n_v vs 27)) (w_ei ws (w_ar ws (n_v vs 0) 2)) (w_fi ws (n_v vs 0) 5) (w_fi ws (n_v vs 0) 170) (v_iv (Value.int x)) k2 k4 k5 k6 k12 k14 k24 k26 k27 d0 d1 d2 f0 f1 f2 f3 f4 f5 f7 f9 f10 f11 f12 f14 f15 f16 f18 f19 f21 f22 f23 kz_0_170 ex2 ex3
  have nf1 : fc_1 PRD (23, [29, 2, 5, 4], [862, 1, -1, -4415, 4415]) ws (vs ++ [Value.int x]) := by
    refine ⟨nf_inA hl rfl, sgq_2077 ?_⟩
    · show 1 * v_iv (n_v (vs ++ [Value.int x]) 29) + ((-1) * v_iv (n_v (vs ++ [Value.int x]) 2) + ((-4415) * v_iv (n_v (vs ++ [Value.int x]) 5) + (4415 * v_iv (n_v (vs ++ [Value.int x]) 4) + 0))) ≤ 862
      simp only [e_2, e_4, e_5, e_29]
      exact vc_Mo_writeGroup_at_l4_17_1 (v_iv (n_v vs 2)) (v_iv (n_v vs 4)) (v_iv (n_v vs 5)) (v_iv (n_v vs 6)) (v_iv (n_v vs 12)) (v_iv (n_v vs 14)) (v_iv (n_v vs 24)) (v_iv (n_v vs 26)) (v_iv (n_v vs 27)) (w_ei ws (w_ar ws (n_v vs 0) 2)) (w_fi ws (n_v vs 0) 5) (w_fi ws (n_v vs 0) 170) (v_iv (Value.int x)) k2 k4 k5 k6 k12 k14 k24 k26 k27 d0 d1 d2 f0 f1 f2 f3 f4 f5 f7 f9 f10 f11 f12 f14 f15 f16 f18 f19 f21 f22 f23 kz_0_170 ex2 ex3
  exact ⟨(fun _ h => (by cases h)), [Value.int x], ag_one hx, List.forall_mem_cons.mpr ⟨⟨show (20 : Nat) < 100 from by decide, nf0⟩, List.forall_mem_cons.mpr ⟨⟨show (23 : Nat) < 100 from by decide, nf1⟩, (fun _ h => (by cases h))⟩⟩, (fun _ h => (by cases h))⟩
set_option maxHeartbeats 4000000 in
theorem vc_Mo_writeGroup_at_l4_18_0 (x2 : Int) (x4 : Int) (x5 : Int) (x6 : Int) (x12 : Int) (x14 : Int) (x24 : Int) (x26 : Int) (x27 : Int) (x29 : Int) (x30 : Int) (all_0 : Int → Int) (r_0 : Int) (texts_0 : Int) (k2 : 0 ≤ x2 ∧ x2 ≤ 99985891) (k4 : 4 ≤ x4 ∧ x4 ≤ 6) (k5 : 5 ≤ x5 ∧ x5 ≤ 7) (k6 : 6 ≤ x6 ∧ x6 ≤ 8) (k12 : 4 ≤ x12 ∧ x12 ≤ 6) (k14 : 0 ≤ x14 ∧ x14 ≤ 99999994) (k24 : 0 ≤ x24 ∧ x24 ≤ 99999992) (k26 : 0 ≤ x26 ∧ x26 ≤ 99999997) (k27 : 0 ≤ x27 ∧ x27 ≤ 99995604) (k29 : 0 ≤ x29 ∧ x29 ≤ 99999998) (k30 : 6 ≤ x30 ∧ x30 ≤ 8) (d0 : x5 + 1 ≤ x30 ∧ x30 ≤ x5 + 1) (d1 : x6 + (-4294967296) ≤ x30 ∧ x30 ≤ x6 + 0) (d2 : x4 + 0 ≤ x12 ∧ x12 ≤ x4 + 0) (d3 : x6 + (-4294967296) ≤ x5 ∧ x5 ≤ x6 + (-1)) (d4 : x5 + (-4294967296) ≤ x4 ∧ x4 ≤ x5 + (-1)) (f0 : x30 = x5 + 1) (f1 : 1 * x29 + ((-1) * x2 + ((-4415) * x5 + (4415 * x4 + 0))) ≤ 862) (f2 : 1 * x27 + ((-1) * x2 + ((-4415) * x5 + (4415 * x4 + 0))) ≤ (-3534)) (f3 : 1 * x26 + ((-1) * x2 + ((-4415) * x5 + (4415 * x4 + 0))) ≤ (-3537)) (f4 : 1 * x24 + ((-1) * x2 + ((-4415) * x5 + (4415 * x4 + 0))) ≤ (-3545)) (f5 : 1 * x14 + ((-1) * x2 + ((-4415) * x5 + (4415 * x4 + 0))) ≤ (-3551)) (f6 : 1 * x6 + ((-1) * all_0 (r_0 + 2) + 0) ≤ 0) (f7 : (-1) * x6 + (1 * all_0 (r_0 + 2) + 0) ≤ 0) (f9 : 1 * texts_0 + ((-1) * x29 + 0) ≤ 2) (f11 : 1 * x29 + ((-1) * x2 + ((-4415) * x5 + (4415 * x4 + 0))) ≤ 862) (f12 : 1 * x27 + ((-1) * x2 + ((-4415) * x5 + (4415 * x4 + 0))) ≤ (-3534)) (f13 : 1 * x26 + ((-1) * x2 + ((-4415) * x5 + (4415 * x4 + 0))) ≤ (-3537)) (f14 : 1 * x24 + ((-1) * x2 + ((-4415) * x5 + (4415 * x4 + 0))) ≤ (-3545)) (f15 : 1 * x14 + ((-1) * x2 + ((-4415) * x5 + (4415 * x4 + 0))) ≤ (-3551)) (f17 : 1 * x27 + ((-1) * x2 + ((-4415) * x5 + (4415 * x4 + 0))) ≤ (-3534)) (f18 : 1 * x26 + ((-1) * x2 + ((-4415) * x5 + (4415 * x4 + 0))) ≤ (-3537)) (f19 : 1 * x24 + ((-1) * x2 + ((-4415) * x5 + (4415 * x4 + 0))) ≤ (-3545)) (f20 : 1 * x14 + ((-1) * x2 + ((-4415) * x5 + (4415 * x4 + 0))) ≤ (-3551)) (f22 : 1 * x26 + ((-1) * x2 + ((-4415) * x5 + (4415 * x4 + 0))) ≤ (-3537)) (f23 : 1 * x24 + ((-1) * x2 + ((-4415) * x5 + (4415 * x4 + 0))) ≤ (-3545)) (f24 : 1 * x14 + ((-1) * x2 + ((-4415) * x5 + (4415 * x4 + 0))) ≤ (-3551)) (f26 : 1 * x24 + ((-1) * x2 + ((-4415) * x5 + (4415 * x4 + 0))) ≤ (-3545)) (f27 : 1 * x14 + ((-1) * x2 + ((-4415) * x5 + (4415 * x4 + 0))) ≤ (-3551)) (f29 : 1 * x14 + ((-1) * x2 + ((-4415) * x5 + (4415 * x4 + 0))) ≤ (-3551)) (f30 : x12 = x4) (f31 : x5 < x6) (kz_0_170 : 0 ≤ texts_0 ∧ texts_0 ≤ 100000000) : 1 * texts_0 + ((-1) * x2 + ((-4415) * x30 + (4415 * x4 + 0))) ≤ (-3551) := by
  first | assumption | omega | grind
def o_Mo_writeGroup_at_l4_18 : or_T := (83, 31, [(0, (2, 0, 0, [165])), (2, (0, 0, 99985891, [])), (4, (0, 4, 6, [])), (5, (0, 5, 7, [])), (6, (0, 6, 8, [])), (12, (0, 4, 6, [])), (14, (0, 0, 99999994, [])), (24, (0, 0, 99999992, [])), (26, (0, 0, 99999997, [])), (27, (0, 0, 99995604, [])), (29, (0, 0, 99999998, [])), (30, (0, 6, 8, []))], [(6, [30, 5], [1]), (23, [29, 2, 5, 4], [862, 1, -1, -4415, 4415]), (23, [27, 2, 5, 4], [-3534, 1, -1, -4415, 4415]), (23, [26, 2, 5, 4], [-3537, 1, -1, -4415, 4415]), (23, [24, 2, 5, 4], [-3545, 1, -1, -4415, 4415]), (23, [14, 2, 5, 4], [-3551, 1, -1, -4415, 4415]), (20, [6, 3], [30, 0, 1, 0, 0, -1, 3, 2005002]), (20, [6, 3], [30, 0, -1, 0, 0, 1, 3, 2005002]), (24, [0, 3], []), (20, [3, 29], [30, 2, 1, 1, 170, -1, 0, 0]), (102, [29], [7770675568902916283677847627294075626569627356208558085007249638955617140820833992704, 165170]), (23, [29, 2, 5, 4], [862, 1, -1, -4415, 4415]), (23, [27, 2, 5, 4], [-3534, 1, -1, -4415, 4415]), (23, [26, 2, 5, 4], [-3537, 1, -1, -4415, 4415]), (23, [24, 2, 5, 4], [-3545, 1, -1, -4415, 4415]), (23, [14, 2, 5, 4], [-3551, 1, -1, -4415, 4415]), (102, [27], [7770675568902916283677847627294075626569627356208558085007249638955617140820833992704, 165170]), (23, [27, 2, 5, 4], [-3534, 1, -1, -4415, 4415]), (23, [26, 2, 5, 4], [-3537, 1, -1, -4415, 4415]), (23, [24, 2, 5, 4], [-3545, 1, -1, -4415, 4415]), (23, [14, 2, 5, 4], [-3551, 1, -1, -4415, 4415]), (102, [26], [7770675568902916283677847627294075626569627356208558085007249638955617140820833992704, 165170]), (23, [26, 2, 5, 4], [-3537, 1, -1, -4415, 4415]), (23, [24, 2, 5, 4], [-3545, 1, -1, -4415, 4415]), (23, [14, 2, 5, 4], [-3551, 1, -1, -4415, 4415]), (102, [24], [7770675568902916283677847627294075626569627356208558085007249638955617140820833992704, 165170]), (23, [24, 2, 5, 4], [-3545, 1, -1, -4415, 4415]), (23, [14, 2, 5, 4], [-3551, 1, -1, -4415, 4415]), (102, [14], [7770675568902916283677847627294075626569627356208558085007249638955617140820833992704, 165170]), (23, [14, 2, 5, 4], [-3551, 1, -1, -4415, 4415]), (7, [12, 4], [0]), (7, [5, 6], [2])], [], [], [(20, [3, 2, 30, 4], [30, -3551, 1, 1, 170, -1, 0, 0, -4415, 0, 0, 4415, 0, 0])], [], [(30, 5, 1, 1), (30, 6, -4294967296, 0), (12, 4, 0, 0), (5, 6, -4294967296, -1), (4, 5, -4294967296, -1)])
theorem oo_Mo_writeGroup_at_l4_18 {kA : Nat → ClassId} : or_ok PRD kA GG o_Mo_writeGroup_at_l4_18 := by
  refine or_mk fun A ta ws vs hD hth hl => ?_
  intro t0 r0 t2 k2 t4 k4 t5 k5 t6 k6 t12 k12 t14 k14 t24 k24 t26 k26 t27 k27 t29 k29 t30 k30 d0 d1 d2 d3 d4 f0 f1 f2 f3 f4 f5 f6 f7 f8 f9 ta1 w1 le1 s1 f11 f12 f13 f14 f15 ta2 w2 le2 s2 f17 f18 f19 f20 ta3 w3 le3 s3 f22 f23 f24 ta4 w4 le4 s4 f26 f27 ta5 w5 le5 s5 f29 f30 f31
  replace f0 := shm_4 f0
  replace f1 := shm_2077 f1
  replace f2 := shm_2075 f2
  replace f3 := shm_2074 f3
  replace f4 := shm_2073 f4
  replace f5 := shm_2072 f5
  replace f6 := shm_123 f6
  replace f7 := shm_124 f7
  replace f8 := shm_5 f8
  replace f9 := shm_210 f9
  replace f11 := shm_2077 f11
  replace f12 := shm_2075 f12
  replace f13 := shm_2074 f13
  replace f14 := shm_2073 f14
  replace f15 := shm_2072 f15
  replace f17 := shm_2075 f17
  replace f18 := shm_2074 f18
  replace f19 := shm_2073 f19
  replace f20 := shm_2072 f20
  replace f22 := shm_2074 f22
  replace f23 := shm_2073 f23
  replace f24 := shm_2072 f24
  replace f26 := shm_2073 f26
  replace f27 := shm_2072 f27
  replace f29 := shm_2072 f29
  replace f30 := shm_37 f30
  replace f31 := shm_6 f31
  have q3 : n_v vs 3 = n_v vs 0 := f8.symm
  simp only [q3] at f6 f7 f9
  have kz_0_170 := fdq_11 hD hth r0
  have nf0 : fc_1 PRD (20, [3, 2, 30, 4], [30, -3551, 1, 1, 170, -1, 0, 0, -4415, 0, 0, 4415, 0, 0]) ws (vs) := by
    refine ⟨nf_in hl rfl, sgq_2071 ?_⟩
    · show 1 * w_fi ws (n_v vs 3) 170 + ((-1) * v_iv (n_v vs 2) + ((-4415) * v_iv (n_v vs 30) + (4415 * v_iv (n_v vs 4) + 0))) ≤ (-3551)
      rw [q3]
      exact vc_Mo_writeGroup_at_l4_18_0 (v_iv (n_v vs 2)) (v_iv (n_v vs 4)) (v_iv (n_v vs 5)) (v_iv (n_v vs 6)) (v_iv (n_v vs 12)) (v_iv (n_v vs 14)) (v_iv (n_v vs 24)) (v_iv (n_v vs 26)) (v_iv (n_v vs 27)) (v_iv (n_v vs 29)) (v_iv (n_v vs 30)) (w_ei ws (w_ar ws (n_v vs 0) 2)) (w_fi ws (n_v vs 0) 5) (w_fi ws (n_v vs 0) 170) k2 k4 k5 k6 k12 k14 k24 k26 k27 k29 k30 d0 d1 d2 d3 d4 f0 f1 f2 f3 f4 f5 f6 f7 f9 f11 f12 f13 f14 f15 f17 f18 f19 f20 f22 f23 f24 f26 f27 f29 f30 f31 kz_0_170
  refine ⟨(fun _ h => (by cases h)), [], trivial, ?_, (fun _ h => (by cases h))⟩
  rw [List.append_nil]
  exact List.forall_mem_cons.mpr ⟨⟨show (20 : Nat) < 100 from by decide, nf0⟩, (fun _ h => (by cases h))⟩
def o_Mo_writeGroup_at_l4_19 : or_T := (83, 14, [(0, (2, 0, 0, [165])), (2, (0, 0, 99985891, [])), (3, (2, 0, 0, [165])), (4, (0, 4, 6, [])), (5, (0, 5, 7, [])), (6, (0, 6, 8, [])), (7, (2, 0, 0, [167])), (8, (0, 0, 66297, [])), (9, (0, 531, 531, [])), (10, (0, 531, 66828, [])), (11, (0, 536, 66835, [])), (12, (0, -1, 6, [])), (13, (0, 6, 8, []))], [(6, [13, 5], [1]), (7, [12, 4], [1]), (10, [12, 7, 11], []), (1, [11, 10, 5], []), (1, [10, 8, 9], []), (9, [8, 3], [5]), (9, [7, 3], [2]), (7, [5, 6], [2]), (20, [6, 3], [30, 0, 1, 0, 0, -1, 3, 2005002]), (20, [6, 3], [30, 0, -1, 0, 0, 1, 3, 2005002]), (20, [3, 2, 5, 4], [30, -3551, 1, 1, 170, -1, 0, 0, -4415, 0, 0, 4415, 0, 0]), (24, [0, 3], [])], [], [], [(20, [3, 2, 13, 4], [30, -3551, 1, 1, 170, -1, 0, 0, -4415, 0, 0, 4415, 0, 0])], [], [(13, 5, 1, 1), (13, 6, -4294967296, 0), (11, 5, 531, 66828), (11, 6, -4294967296, 66827), (11, 10, 5, 7), (11, 8, 536, 538), (10, 8, 531, 531), (5, 6, -4294967296, -1), (4, 5, -4294967296, -1)])
theorem oo_Mo_writeGroup_at_l4_19 {kA : Nat → ClassId} : or_ok PRD kA GG o_Mo_writeGroup_at_l4_19 := by
  refine or_mk fun A ta ws vs hD hth hl => ?_
  intro t0 r0 t2 k2 t3 r3 t4 k4 t5 k5 t6 k6 t7 r7 t8 k8 t9 k9 t10 k10 t11 k11 t12 k12 t13 k13 d0 d1 d2 d3 d4 d5 d6 d7 d8 f0 f1 f2 f3 f4 f5 f6 f7 f8 f9 f10 f11
  replace f0 := shm_4 f0
  replace f1 := shm_40 f1
  replace f2 := shm_107 f2
  replace f3 := shm_12 f3
  replace f4 := shm_12 f4
  replace f5 := shm_110 f5
  replace f6 := shm_120 f6
  replace f7 := shm_6 f7
  replace f8 := shm_123 f8
  replace f9 := shm_124 f9
  replace f10 := shm_2071 f10
  replace f11 := shm_5 f11
  have q3 : n_v vs 3 = n_v vs 0 := f11.symm
  simp only [q3] at f5 f6 f8 f9 f10
  have cr_0_2 := fdq_10 hD hth r0
  have ad_7 : v_ad (n_v vs 7) = w_ar ws (n_v vs 0) 2 := congrArg v_ad f6
  simp only [ad_7] at f2
  have h2 : v_iv (n_v vs 12) = w_ei ws (w_ar ws (n_v vs 0) 2) (v_iv (n_v vs 11)) := f2
  have g5 : v_iv (n_v vs 8) = w_fi ws (n_v vs 0) 5 := congrArg v_iv f5
  have cg2_F5_2 : v_iv (n_v vs 11) = w_fi ws (n_v vs 0) 5 + 2 → w_el ws (w_ar ws (n_v vs 0) 2) (v_iv (n_v vs 11)).toNat = w_el ws (w_ar ws (n_v vs 0) 2) (w_fi ws (n_v vs 0) 5 + 2).toNat := fun h => by rw [h]
  have kz_0_170 := fdq_11 hD hth r0
  have nf0 : fc_1 PRD (20, [3, 2, 13, 4], [30, -3551, 1, 1, 170, -1, 0, 0, -4415, 0, 0, 4415, 0, 0]) ws (vs) := by
    refine ⟨nf_in hl rfl, sgq_2071 ?_⟩
    · show 1 * w_fi ws (n_v vs 3) 170 + ((-1) * v_iv (n_v vs 2) + ((-4415) * v_iv (n_v vs 13) + (4415 * v_iv (n_v vs 4) + 0))) ≤ (-3551)
      rw [q3]
      omega
  refine ⟨(fun _ h => (by cases h)), [], trivial, ?_, (fun _ h => (by cases h))⟩
  rw [List.append_nil]
  exact List.forall_mem_cons.mpr ⟨⟨show (20 : Nat) < 100 from by decide, nf0⟩, (fun _ h => (by cases h))⟩
def n_Mo_writeGroup_at_l4_an : List an_T := [(2, [(0, (2, 0, 0, [165])), (1, (0, 4, 7, [])), (2, (0, 0, 24, []))], [], (0, 0), [(0, 0, 99998), (1, 5, 24), (0, 0, 100000)], [(1, 4, (Int.negSucc 999999999999), 0), (4, 1, (Int.negSucc 999999999999), 0)], [], [(2, 0, 0, [165]), (0, 4, 7, []), (0, 0, 99985891, [])], 0, [], [(20, [3, 2, 5], [30, 0, 1, 1, 170, (Int.negSucc 0), 0, 0, (Int.negSucc 35), 0, 0]), (24, [0, 3], [])]), (83, [(0, (2, 0, 0, [165])), (1, (0, 4, 7, [])), (2, (0, 5, 8, []))], [], (0, 0), [(0, 0, 99917), (1, 5, 8), (0, 0, 100000)], [(1, 4, (Int.negSucc 999999999999), 0), (1, 5, (Int.negSucc 999999999999), (Int.negSucc 0)), (4, 1, (Int.negSucc 999999999999), 0), (4, 5, (Int.negSucc 999999999999), (Int.negSucc 0))], [], [(2, 0, 0, [165]), (0, 4, 7, []), (0, 0, 99985891, [])], 0, [], [(20, [3, 2, 5, 4], [30, (Int.negSucc 3550), 1, 1, 170, (Int.negSucc 0), 0, 0, (Int.negSucc 4414), 0, 0, 4415, 0, 0]), (24, [0, 3], [])])]
def t_Mo_writeGroup_at_l4_ct : ct_L := [(1, 475, e_Mo_nodes), (1, 509, e_Mo_groups), (1, 723, e_Mo_size), (1, 725, e_Mo_groupOf), (1, 1285, e_Mo_writeName), (1, 1293, e_Mo_writeNode), (1, 1298, e_Mo_writeNumber), (82, 1290, e_Mo_write_at_s5013), (145, 1290, e_Mo_write_at_s5014), (193, 1290, e_Mo_write_at_s5045), (214, 1290, e_Mo_write_at_s5015), (355, 1290, e_Mo_write_at_s5016), (472, 1290, e_Mo_write_at_s5017), (487, 1309, e_Mo_writeGroup_at_l5), (508, 1290, e_Mo_write_at_s5018), (1000001, 1288, en_ro [] (2, 0, 0, [5013])), (1000001, 1296, en_ro [] (2, 0, 0, [5014])), (1000001, 1301, en_ro [] (2, 0, 0, [5045])), (1000001, 1303, en_ro [] (2, 0, 0, [5015])), (1000001, 1305, en_ro [] (2, 0, 0, [5016])), (1000001, 1307, en_ro [] (2, 0, 0, [5017])), (1000001, 1312, en_ro [] (2, 0, 0, [5018]))]
set_option maxRecDepth 100000 in
theorem c_Mo_writeGroup_at_l4 {l : Launch} {D : va_G} {kA : Nat → ClassId} (h_Mo_groupOf : ct_ok PRD l D kA GG y_Mo_groupOf z_Mo_groupOf e_Mo_groupOf) (h_Mo_groups : ct_ok PRD l D kA GG y_Mo_groups z_Mo_groups e_Mo_groups) (h_Mo_nodes : ct_ok PRD l D kA GG y_Mo_nodes z_Mo_nodes e_Mo_nodes) (h_Mo_size : ct_ok PRD l D kA GG y_Mo_size z_Mo_size e_Mo_size) (h_Mo_writeGroup_at_l5 : ct_ok PRD l D kA GG y_Mo_writeGroup_at_l5 z_Mo_writeGroup_at_l5 e_Mo_writeGroup_at_l5) (h_Mo_writeName : ct_ok PRD l D kA GG y_Mo_writeName z_Mo_writeName e_Mo_writeName) (h_Mo_writeNode : ct_ok PRD l D kA GG y_Mo_writeNode z_Mo_writeNode e_Mo_writeNode) (h_Mo_writeNumber : ct_ok PRD l D kA GG y_Mo_writeNumber z_Mo_writeNumber e_Mo_writeNumber) (h_Mo_write_at_s5013 : ct_ok PRD l D kA GG y_Mo_write_at_s5013 z_Mo_write_at_s5013 e_Mo_write_at_s5013) (h_Mo_write_at_s5014 : ct_ok PRD l D kA GG y_Mo_write_at_s5014 z_Mo_write_at_s5014 e_Mo_write_at_s5014) (h_Mo_write_at_s5015 : ct_ok PRD l D kA GG y_Mo_write_at_s5015 z_Mo_write_at_s5015 e_Mo_write_at_s5015) (h_Mo_write_at_s5016 : ct_ok PRD l D kA GG y_Mo_write_at_s5016 z_Mo_write_at_s5016 e_Mo_write_at_s5016) (h_Mo_write_at_s5017 : ct_ok PRD l D kA GG y_Mo_write_at_s5017 z_Mo_write_at_s5017 e_Mo_write_at_s5017) (h_Mo_write_at_s5018 : ct_ok PRD l D kA GG y_Mo_write_at_s5018 z_Mo_write_at_s5018 e_Mo_write_at_s5018) (h_Mo_write_at_s5045 : ct_ok PRD l D kA GG y_Mo_write_at_s5045 z_Mo_write_at_s5045 e_Mo_write_at_s5045) : ct_ok PRD l D kA GG y_Mo_writeGroup_at_l4 z_Mo_writeGroup_at_l4 e_Mo_writeGroup_at_l4 := chk_all_ok (FT := [(16, 13, 2), (391, 13, 5)]) (PT := []) (CT := t_Mo_writeGroup_at_l4_ct) (KT := []) (NT := []) (AN := n_Mo_writeGroup_at_l4_an) (OT := [o_Mo_writeGroup_at_l4_0, o_Mo_writeGroup_at_l4_1, o_Mo_writeGroup_at_l4_2, o_Mo_writeGroup_at_l4_3, o_Mo_writeGroup_at_l4_4, o_Mo_writeGroup_at_l4_5, o_Mo_writeGroup_at_l4_6, o_Mo_writeGroup_at_l4_7, o_Mo_writeGroup_at_l4_8, o_Mo_writeGroup_at_l4_9, o_Mo_writeGroup_at_l4_10, o_Mo_writeGroup_at_l4_11, o_Mo_writeGroup_at_l4_12, o_Mo_writeGroup_at_l4_13, o_Mo_writeGroup_at_l4_14, o_Mo_writeGroup_at_l4_15, o_Mo_writeGroup_at_l4_16, o_Mo_writeGroup_at_l4_17, o_Mo_writeGroup_at_l4_18, o_Mo_writeGroup_at_l4_19]) 3 408 (List.forall_mem_cons.mpr ⟨oo_Mo_writeGroup_at_l4_0, List.forall_mem_cons.mpr ⟨oo_Mo_writeGroup_at_l4_1, List.forall_mem_cons.mpr ⟨oo_Mo_writeGroup_at_l4_2, List.forall_mem_cons.mpr ⟨oo_Mo_writeGroup_at_l4_3, List.forall_mem_cons.mpr ⟨oo_Mo_writeGroup_at_l4_4, List.forall_mem_cons.mpr ⟨oo_Mo_writeGroup_at_l4_5, List.forall_mem_cons.mpr ⟨oo_Mo_writeGroup_at_l4_6, List.forall_mem_cons.mpr ⟨oo_Mo_writeGroup_at_l4_7, List.forall_mem_cons.mpr ⟨oo_Mo_writeGroup_at_l4_8, List.forall_mem_cons.mpr ⟨oo_Mo_writeGroup_at_l4_9, List.forall_mem_cons.mpr ⟨oo_Mo_writeGroup_at_l4_10, List.forall_mem_cons.mpr ⟨oo_Mo_writeGroup_at_l4_11, List.forall_mem_cons.mpr ⟨oo_Mo_writeGroup_at_l4_12, List.forall_mem_cons.mpr ⟨oo_Mo_writeGroup_at_l4_13, List.forall_mem_cons.mpr ⟨oo_Mo_writeGroup_at_l4_14, List.forall_mem_cons.mpr ⟨oo_Mo_writeGroup_at_l4_15, List.forall_mem_cons.mpr ⟨oo_Mo_writeGroup_at_l4_16, List.forall_mem_cons.mpr ⟨oo_Mo_writeGroup_at_l4_17, List.forall_mem_cons.mpr ⟨oo_Mo_writeGroup_at_l4_18, List.forall_mem_cons.mpr ⟨oo_Mo_writeGroup_at_l4_19, List.forall_mem_nil _⟩⟩⟩⟩⟩⟩⟩⟩⟩⟩⟩⟩⟩⟩⟩⟩⟩⟩⟩⟩) (by decide +kernel) ⟨List.forall_mem_cons.mpr ⟨gf_Mo_16, List.forall_mem_cons.mpr ⟨gf_Mo_391, List.forall_mem_nil _⟩⟩, List.forall_mem_nil _, List.forall_mem_cons.mpr ⟨cl_virtual (y := y_Mo_nodes) (ci := 13) rfl rfl ⟨_, _, rfl⟩ (by decide +kernel) h_Mo_nodes wm_3025 wm_9 wm_3022 wm_3024 wv_13_3 ⟨by decide, by decide, by decide +kernel⟩ (by decide), List.forall_mem_cons.mpr ⟨cl_virtual (y := y_Mo_groups) (ci := 13) rfl rfl ⟨_, _, rfl⟩ (by decide +kernel) h_Mo_groups wm_3070 wm_9 wm_3067 wm_3069 wv_13_14 ⟨by decide, by decide, by decide +kernel⟩ (by decide), List.forall_mem_cons.mpr ⟨cl_virtual (y := y_Mo_size) (ci := 13) rfl rfl ⟨_, _, rfl⟩ (by decide +kernel) h_Mo_size wm_3307 wm_9 wm_3304 wm_3306 wv_17_0 ⟨by decide, by decide, by decide +kernel⟩ (by decide), List.forall_mem_cons.mpr ⟨cl_virtual (y := y_Mo_groupOf) (ci := 13) rfl rfl ⟨_, _, rfl⟩ (by decide +kernel) h_Mo_groupOf wm_3311 wm_9 wm_3308 wm_3310 wv_17_1 ⟨by decide, by decide, by decide +kernel⟩ (by decide), List.forall_mem_cons.mpr ⟨cl_virtual (y := y_Mo_writeName) (ci := 13) rfl rfl ⟨_, _, rfl⟩ (by decide +kernel) h_Mo_writeName wm_3922 wm_9 wm_3919 wm_3921 wv_24_10 ⟨by decide, by decide, by decide +kernel⟩ (by decide), List.forall_mem_cons.mpr ⟨cl_virtual (y := y_Mo_writeNode) (ci := 13) rfl rfl ⟨_, _, rfl⟩ (by decide +kernel) h_Mo_writeNode wm_3918 wm_9 wm_3915 wm_3917 wv_24_9 ⟨by decide, by decide, by decide +kernel⟩ (by decide), List.forall_mem_cons.mpr ⟨cl_virtual (y := y_Mo_writeNumber) (ci := 13) rfl rfl ⟨_, _, rfl⟩ (by decide +kernel) h_Mo_writeNumber wm_3927 wm_9 wm_3924 wm_3926 wv_24_11 ⟨by decide, by decide, by decide +kernel⟩ (by decide), List.forall_mem_cons.mpr ⟨cl_virtual (y := y_Mo_write_at_s5013) (ci := 13) rfl rfl ⟨_, _, rfl⟩ (by decide +kernel) h_Mo_write_at_s5013 wm_3910 wm_9 wm_3907 wm_3909 wv_24_7 ⟨by decide, by decide, by decide +kernel⟩ (by decide), List.forall_mem_cons.mpr ⟨cl_virtual (y := y_Mo_write_at_s5014) (ci := 13) rfl rfl ⟨_, _, rfl⟩ (by decide +kernel) h_Mo_write_at_s5014 wm_3910 wm_9 wm_3907 wm_3909 wv_24_7 ⟨by decide, by decide, by decide +kernel⟩ (by decide), List.forall_mem_cons.mpr ⟨cl_virtual (y := y_Mo_write_at_s5045) (ci := 13) rfl rfl ⟨_, _, rfl⟩ (by decide +kernel) h_Mo_write_at_s5045 wm_3910 wm_9 wm_3907 wm_3909 wv_24_7 ⟨by decide, by decide, by decide +kernel⟩ (by decide), List.forall_mem_cons.mpr ⟨cl_virtual (y := y_Mo_write_at_s5015) (ci := 13) rfl rfl ⟨_, _, rfl⟩ (by decide +kernel) h_Mo_write_at_s5015 wm_3910 wm_9 wm_3907 wm_3909 wv_24_7 ⟨by decide, by decide, by decide +kernel⟩ (by decide), List.forall_mem_cons.mpr ⟨cl_virtual (y := y_Mo_write_at_s5016) (ci := 13) rfl rfl ⟨_, _, rfl⟩ (by decide +kernel) h_Mo_write_at_s5016 wm_3910 wm_9 wm_3907 wm_3909 wv_24_7 ⟨by decide, by decide, by decide +kernel⟩ (by decide), List.forall_mem_cons.mpr ⟨cl_virtual (y := y_Mo_write_at_s5017) (ci := 13) rfl rfl ⟨_, _, rfl⟩ (by decide +kernel) h_Mo_write_at_s5017 wm_3910 wm_9 wm_3907 wm_3909 wv_24_7 ⟨by decide, by decide, by decide +kernel⟩ (by decide), List.forall_mem_cons.mpr ⟨cl_virtual (y := y_Mo_writeGroup_at_l5) (ci := 13) rfl rfl ⟨_, _, rfl⟩ (by decide +kernel) h_Mo_writeGroup_at_l5 wm_3905 wm_9 wm_3902 wm_3904 wv_24_6 ⟨by decide, by decide, by decide +kernel⟩ (by decide), List.forall_mem_cons.mpr ⟨cl_virtual (y := y_Mo_write_at_s5018) (ci := 13) rfl rfl ⟨_, _, rfl⟩ (by decide +kernel) h_Mo_write_at_s5018 wm_3910 wm_9 wm_3907 wm_3909 wv_24_7 ⟨by decide, by decide, by decide +kernel⟩ (by decide), List.forall_mem_cons.mpr ⟨cl_ldcw (own := "DrawingHouseModel") (idx := 1288) (i := 13) (tx := "node ") (by decide +kernel) (by decide +kernel) (by decide +kernel), List.forall_mem_cons.mpr ⟨cl_ldcw (own := "DrawingHouseModel") (idx := 1296) (i := 14) (tx := " [size=") (by decide +kernel) (by decide +kernel) (by decide +kernel), List.forall_mem_cons.mpr ⟨cl_ldcw (own := "DrawingHouseModel") (idx := 1301) (i := 45) (tx := "]") (by decide +kernel) (by decide +kernel) (by decide +kernel), List.forall_mem_cons.mpr ⟨cl_ldcw (own := "DrawingHouseModel") (idx := 1303) (i := 15) (tx := ";\n") (by decide +kernel) (by decide +kernel) (by decide +kernel), List.forall_mem_cons.mpr ⟨cl_ldcw (own := "DrawingHouseModel") (idx := 1305) (i := 16) (tx := "group ") (by decide +kernel) (by decide +kernel) (by decide +kernel), List.forall_mem_cons.mpr ⟨cl_ldcw (own := "DrawingHouseModel") (idx := 1307) (i := 17) (tx := " {\n") (by decide +kernel) (by decide +kernel) (by decide +kernel), List.forall_mem_cons.mpr ⟨cl_ldcw (own := "DrawingHouseModel") (idx := 1312) (i := 18) (tx := "}\n") (by decide +kernel) (by decide +kernel) (by decide +kernel), List.forall_mem_nil _⟩⟩⟩⟩⟩⟩⟩⟩⟩⟩⟩⟩⟩⟩⟩⟩⟩⟩⟩⟩⟩⟩, List.forall_mem_nil _, List.forall_mem_nil _, GG_pl⟩ (by decide +kernel)

set_option maxHeartbeats 4000000 in
theorem vc_Mo_writeGroup_at_l5_0_0 (x2 : Int) (x3 : Int) (texts_0 : Int) (k2 : 0 ≤ x2 ∧ x2 ≤ 99995604) (k3 : 0 ≤ x3 ∧ x3 ≤ 0) (f0 : 1 * texts_0 + ((-1) * x2 + 0) ≤ 0) (kz_0_170 : 0 ≤ texts_0 ∧ texts_0 ≤ 100000000) : 1 * texts_0 + ((-1) * x2 + ((-36) * x3 + 0)) ≤ 0 := by
  first | assumption | omega | grind
def o_Mo_writeGroup_at_l5_0 : or_T := (2, 4, [(0, (2, 0, 0, [165])), (2, (0, 0, 99995604, [])), (3, (0, 0, 0, []))], [(20, [0, 2], [30, 0, 1, 1, 170, -1, 0, 0])], [], [], [(20, [0, 2, 3], [30, 0, 1, 1, 170, -1, 0, 0, -36, 0, 0]), (24, [0, 0], [])], [], [])
theorem oo_Mo_writeGroup_at_l5_0 {kA : Nat → ClassId} : or_ok PRD kA GG o_Mo_writeGroup_at_l5_0 := by
  refine or_mk fun A ta ws vs hD hth hl => ?_
  intro t0 r0 t2 k2 t3 k3 f0
  have kz_0_170 := fdq_11 hD hth r0
  have nf0 : fc_1 PRD (20, [0, 2, 3], [30, 0, 1, 1, 170, -1, 0, 0, -36, 0, 0]) ws (vs) := ⟨nf_in hl rfl, sgq_2035 (vc_Mo_writeGroup_at_l5_0_0 (v_iv (n_v vs 2)) (v_iv (n_v vs 3)) (w_fi ws (n_v vs 0) 170) k2 k3 (shm_131 f0) kz_0_170)⟩
  have nf1 : fc_1 PRD (24, [0, 0], []) ws (vs) := by
    refine ⟨nf_in hl rfl, sgq_1 ?_⟩
    · show n_v vs 0 = n_v vs 0
      first | rfl | simp only [true_and]
  refine ⟨(fun _ h => (by cases h)), [], trivial, ?_, (fun _ h => (by cases h))⟩
  rw [List.append_nil]
  exact List.forall_mem_cons.mpr ⟨⟨show (20 : Nat) < 100 from by decide, nf0⟩, List.forall_mem_cons.mpr ⟨⟨show (24 : Nat) < 100 from by decide, nf1⟩, (fun _ h => (by cases h))⟩⟩
set_option maxHeartbeats 4000000 in
theorem vc_Mo_writeGroup_at_l5_1_0 (x2 : Int) (x4 : Int) (x5 : Int) (x6 : Int) (x7 : Int) (x8 : Int) (all_0 : Int → Int) (r_0 : Int) (texts_0 : Int) (k2 : 0 ≤ x2 ∧ x2 ≤ 99995604) (k4 : 5 ≤ x4 ∧ x4 ≤ 7) (k5 : 0 ≤ x5 ∧ x5 ≤ 24) (k6 : 0 ≤ x6 ∧ x6 ≤ 24) (k7 : 1 ≤ x7 ∧ x7 ≤ 1) (k8 : 6 ≤ x8 ∧ x8 ≤ 8) (d0 : x4 + 1 ≤ x8 ∧ x8 ≤ x4 + 1) (d1 : x6 + 0 ≤ x5 ∧ x5 ≤ x6 + 4294967296) (f0 : x8 = x4 + x7) (f1 : x6 ≤ x5) (f2 : 1 * x6 + ((-1) * all_0 (r_0 + 0) + 0) ≤ 0) (f3 : (-1) * x6 + (1 * all_0 (r_0 + 0) + 0) ≤ 0) (f4 : 1 * texts_0 + ((-1) * x2 + ((-36) * x5 + 0)) ≤ 0) (kz_0_170 : 0 ≤ texts_0 ∧ texts_0 ≤ 100000000) : 1 * texts_0 + ((-1) * x2 + ((-1766) * x8 + (1766 * x4 + 0))) ≤ (-902) := by
  first | assumption | omega | grind
def o_Mo_writeGroup_at_l5_1 : or_T := (83, 9, [(0, (2, 0, 0, [165])), (2, (0, 0, 99995604, [])), (4, (0, 5, 7, [])), (5, (0, 0, 24, [])), (6, (0, 0, 24, [])), (7, (0, 1, 1, [])), (8, (0, 6, 8, []))], [(1, [8, 4, 7], []), (7, [5, 6], [3]), (20, [6, 3], [30, 0, 1, 0, 0, -1, 3, 2005000]), (20, [6, 3], [30, 0, -1, 0, 0, 1, 3, 2005000]), (20, [3, 2, 5], [30, 0, 1, 1, 170, -1, 0, 0, -36, 0, 0]), (24, [0, 3], [])], [], [], [(20, [3, 2, 8, 4], [30, -902, 1, 1, 170, -1, 0, 0, -1766, 0, 0, 1766, 0, 0])], [], [(8, 4, 1, 1), (5, 6, 0, 4294967296)])
theorem oo_Mo_writeGroup_at_l5_1 {kA : Nat → ClassId} : or_ok PRD kA GG o_Mo_writeGroup_at_l5_1 := by
  refine or_mk fun A ta ws vs hD hth hl => ?_
  intro t0 r0 t2 k2 t4 k4 t5 k5 t6 k6 t7 k7 t8 k8 d0 d1 f0 f1 f2 f3 f4 f5
  replace f0 := shm_12 f0
  replace f1 := shm_2 f1
  replace f2 := shm_126 f2
  replace f3 := shm_127 f3
  replace f4 := shm_2035 f4
  replace f5 := shm_5 f5
  have q3 : n_v vs 3 = n_v vs 0 := f5.symm
  simp only [q3] at f2 f3 f4
  have kz_0_170 := fdq_11 hD hth r0
  have nf0 : fc_1 PRD (20, [3, 2, 8, 4], [30, -902, 1, 1, 170, -1, 0, 0, -1766, 0, 0, 1766, 0, 0]) ws (vs) := by
    refine ⟨nf_in hl rfl, sgq_2078 ?_⟩
    · show 1 * w_fi ws (n_v vs 3) 170 + ((-1) * v_iv (n_v vs 2) + ((-1766) * v_iv (n_v vs 8) + (1766 * v_iv (n_v vs 4) + 0))) ≤ (-902)
      rw [q3]
      exact vc_Mo_writeGroup_at_l5_1_0 (v_iv (n_v vs 2)) (v_iv (n_v vs 4)) (v_iv (n_v vs 5)) (v_iv (n_v vs 6)) (v_iv (n_v vs 7)) (v_iv (n_v vs 8)) (w_ei ws (w_ar ws (n_v vs 0) 2)) (w_fi ws (n_v vs 0) 5) (w_fi ws (n_v vs 0) 170) k2 k4 k5 k6 k7 k8 d0 d1 f0 f1 f2 f3 f4 kz_0_170
  refine ⟨(fun _ h => (by cases h)), [], trivial, ?_, (fun _ h => (by cases h))⟩
  rw [List.append_nil]
  exact List.forall_mem_cons.mpr ⟨⟨show (20 : Nat) < 100 from by decide, nf0⟩, (fun _ h => (by cases h))⟩
set_option maxHeartbeats 4000000 in
theorem vc_Mo_writeGroup_at_l5_2_0 (x2 : Int) (x4 : Int) (x5 : Int) (x6 : Int) (x7 : Int) (all_0 : Int → Int) (r_0 : Int) (texts_0 : Int) (gx : Int) (k2 : 0 ≤ x2 ∧ x2 ≤ 99995604) (k4 : 5 ≤ x4 ∧ x4 ≤ 7) (k5 : 0 ≤ x5 ∧ x5 ≤ 23) (k6 : 1 ≤ x6 ∧ x6 ≤ 24) (k7 : 5 ≤ x7 ∧ x7 ≤ 7) (d0 : x4 + 0 ≤ x7 ∧ x7 ≤ x4 + 0) (d1 : x6 + (-4294967296) ≤ x5 ∧ x5 ≤ x6 + (-1)) (f0 : x7 = x4) (f1 : x7 = all_0 (((r_0 + 243) + x5))) (f2 : x5 < x6) (f3 : 1 * x6 + ((-1) * all_0 (r_0 + 0) + 0) ≤ 0) (f4 : (-1) * x6 + (1 * all_0 (r_0 + 0) + 0) ≤ 0) (f5 : 1 * texts_0 + ((-1) * x2 + ((-36) * x5 + 0)) ≤ 0) (kz_0_170 : 0 ≤ texts_0 ∧ texts_0 ≤ 100000000) (ex2 : gx = texts_0) (ex3 : 0 ≤ gx ∧ gx ≤ 99999995) : 1 * texts_0 + ((-1) * gx + 0) ≤ 0 := by
  first | assumption | omega | grind
set_option maxHeartbeats 4000000 in
theorem vc_Mo_writeGroup_at_l5_2_1 (x2 : Int) (x4 : Int) (x5 : Int) (x6 : Int) (x7 : Int) (all_0 : Int → Int) (r_0 : Int) (texts_0 : Int) (gx : Int) (k2 : 0 ≤ x2 ∧ x2 ≤ 99995604) (k4 : 5 ≤ x4 ∧ x4 ≤ 7) (k5 : 0 ≤ x5 ∧ x5 ≤ 23) (k6 : 1 ≤ x6 ∧ x6 ≤ 24) (k7 : 5 ≤ x7 ∧ x7 ≤ 7) (d0 : x4 + 0 ≤ x7 ∧ x7 ≤ x4 + 0) (d1 : x6 + (-4294967296) ≤ x5 ∧ x5 ≤ x6 + (-1)) (f0 : x7 = x4) (f1 : x7 = all_0 (((r_0 + 243) + x5))) (f2 : x5 < x6) (f3 : 1 * x6 + ((-1) * all_0 (r_0 + 0) + 0) ≤ 0) (f4 : (-1) * x6 + (1 * all_0 (r_0 + 0) + 0) ≤ 0) (f5 : 1 * texts_0 + ((-1) * x2 + ((-36) * x5 + 0)) ≤ 0) (kz_0_170 : 0 ≤ texts_0 ∧ texts_0 ≤ 100000000) (ex2 : gx = texts_0) (ex3 : 0 ≤ gx ∧ gx ≤ 99999995) : 1 * gx + ((-1) * x2 + ((-36) * x5 + 0)) ≤ 0 := by
  first | assumption | omega | grind
def o_Mo_writeGroup_at_l5_2 : or_T := (26, 9, [(0, (2, 0, 0, [165])), (2, (0, 0, 99995604, [])), (3, (2, 0, 0, [165])), (4, (0, 5, 7, [])), (5, (0, 0, 23, [])), (6, (0, 1, 24, [])), (7, (0, 5, 7, []))], [(7, [7, 4], [0]), (20, [7, 3, 5], [50, 1, 1, 1005, 1002, 1, 2, 1, 0, 3, 1, 2, 4, 7, 4, 3, 2, 1, 5, 0, 243, 1, 2]), (7, [5, 6], [2]), (20, [6, 3], [30, 0, 1, 0, 0, -1, 3, 2005000]), (20, [6, 3], [30, 0, -1, 0, 0, 1, 3, 2005000]), (20, [3, 2, 5], [30, 0, 1, 1, 170, -1, 0, 0, -36, 0, 0]), (24, [0, 3], [])], [], [(0, 0, 99999995, [])], [(20, [3, 9], [30, 0, 1, 1, 170, -1, 0, 0]), (23, [9, 2, 5], [0, 1, -1, -36])], [], [(7, 4, 0, 0), (5, 6, -4294967296, -1)])
theorem oo_Mo_writeGroup_at_l5_2 {kA : Nat → ClassId} : or_ok PRD kA GG o_Mo_writeGroup_at_l5_2 := by
  refine or_mk fun A ta ws vs hD hth hl => ?_
  intro t0 r0 t2 k2 t3 r3 t4 k4 t5 k5 t6 k6 t7 k7 d0 d1 f0 f1 f2 f3 f4 f5 f6
  replace f0 := shm_37 f0
  replace f1 := shm_597 f1
  replace f2 := shm_6 f2
  replace f3 := shm_126 f3
  replace f4 := shm_127 f4
  replace f5 := shm_2035 f5
  replace f6 := shm_5 f6
  have q3 : n_v vs 3 = n_v vs 0 := f6.symm
  simp only [q3] at f1 f3 f4 f5
  have cr_0_2 := fdq_10 hD hth r0
  have br_0_2_F5_0_0 : w_ei ws (w_ar ws (n_v vs 0) 2) (w_fi ws (n_v vs 0) 5 + 0) = w_el ws (w_ar ws (n_v vs 0) 2) (w_fi ws (n_v vs 0) 5 + 0).toNat := rfl
  have kz_0_170 := fdq_11 hD hth r0
  have kv0 := fdq_11 hD hth r0
  obtain ⟨x, ex, hx⟩ := iv_ex (ta := ta) (lo := 0) (hi := 99999995) (z := w_fi ws (n_v vs 0) 170) (by omega) (by omega) (by omega) (by omega)
  have ex2 : v_iv (Value.int x) = w_fi ws (n_v vs 0) 170 := ex
  have ex3 : 0 ≤ v_iv (Value.int x) ∧ v_iv (Value.int x) ≤ 99999995 := tv_rng hx
  have e_2 : n_v (vs ++ [Value.int x]) 2 = n_v vs 2 := n_v_old (by rw [hl]; decide)
  have e_3 : n_v (vs ++ [Value.int x]) 3 = n_v vs 3 := n_v_old (by rw [hl]; decide)
  have e_5 : n_v (vs ++ [Value.int x]) 5 = n_v vs 5 := n_v_old (by rw [hl]; decide)
  have e_9 : n_v (vs ++ [Value.int x]) 9 = Value.int x := n_v_new hl
  have nf0 : fc_1 PRD (20, [3, 9], [30, 0, 1, 1, 170, -1, 0, 0]) ws (vs ++ [Value.int x]) := by
    refine ⟨nf_inA hl rfl, sgq_131 ?_⟩
    · show 1 * w_fi ws (n_v (vs ++ [Value.int x]) 3) 170 + ((-1) * v_iv (n_v (vs ++ [Value.int x]) 9) + 0) ≤ 0
      simp only [e_3, e_9, q3]
      exact vc_Mo_writeGroup_at_l5_2_0 (v_iv (n_v vs 2)) (v_iv (n_v vs 4)) (v_iv (n_v vs 5)) (v_iv (n_v vs 6)) (v_iv (n_v vs 7)) (w_ei ws (w_ar ws (n_v vs 0) 2)) (w_fi ws (n_v vs 0) 5) (w_fi ws (n_v vs 0) 170) (v_iv (Value.int x)) k2 k4 k5 k6 k7 d0 d1 f0 f1 f2 f3 f4 f5 kz_0_170 ex2 ex3
  have nf1 : fc_1 PRD (23, [9, 2, 5], [0, 1, -1, -36]) ws (vs ++ [Value.int x]) := by
    refine ⟨nf_inA hl rfl, sgq_2037 ?_⟩
    · show 1 * v_iv (n_v (vs ++ [Value.int x]) 9) + ((-1) * v_iv (n_v (vs ++ [Value.int x]) 2) + ((-36) * v_iv (n_v (vs ++ [Value.int x]) 5) + 0)) ≤ 0
      simp only [e_2, e_5, e_9]
      exact vc_Mo_writeGroup_at_l5_2_1 (v_iv (n_v vs 2)) (v_iv (n_v vs 4)) (v_iv (n_v vs 5)) (v_iv (n_v vs 6)) (v_iv (n_v vs 7)) (w_ei ws (w_ar ws (n_v vs 0) 2)) (w_fi ws (n_v vs 0) 5) (w_fi ws (n_v vs 0) 170) (v_iv (Value.int x)) k2 k4 k5 k6 k7 d0 d1 f0 f1 f2 f3 f4 f5 kz_0_170 ex2 ex3
  exact ⟨(fun _ h => (by cases h)), [Value.int x], ag_one hx, List.forall_mem_cons.mpr ⟨⟨show (20 : Nat) < 100 from by decide, nf0⟩, List.forall_mem_cons.mpr ⟨⟨show (23 : Nat) < 100 from by decide, nf1⟩, (fun _ h => (by cases h))⟩⟩, (fun _ h => (by cases h))⟩
set_option maxHeartbeats 4000000 in
theorem vc_Mo_writeGroup_at_l5_3_0 (x2 : Int) (x4 : Int) (x5 : Int) (x6 : Int) (x7 : Int) (x9 : Int) (all_0 : Int → Int) (r_0 : Int) (texts_0 : Int) (gx : Int) (k2 : 0 ≤ x2 ∧ x2 ≤ 99995604) (k4 : 5 ≤ x4 ∧ x4 ≤ 7) (k5 : 0 ≤ x5 ∧ x5 ≤ 23) (k6 : 1 ≤ x6 ∧ x6 ≤ 24) (k7 : 5 ≤ x7 ∧ x7 ≤ 7) (k9 : 0 ≤ x9 ∧ x9 ≤ 99999995) (d0 : x4 + 0 ≤ x7 ∧ x7 ≤ x4 + 0) (d1 : x6 + (-4294967296) ≤ x5 ∧ x5 ≤ x6 + (-1)) (f0 : 1 * x9 + ((-1) * x2 + ((-36) * x5 + 0)) ≤ 0) (f1 : x7 = all_0 (((r_0 + 243) + x5))) (f2 : 1 * x6 + ((-1) * all_0 (r_0 + 0) + 0) ≤ 0) (f3 : (-1) * x6 + (1 * all_0 (r_0 + 0) + 0) ≤ 0) (f5 : 1 * texts_0 + ((-1) * x9 + 0) ≤ 5) (f7 : 1 * x9 + ((-1) * x2 + ((-36) * x5 + 0)) ≤ 0) (f8 : x7 = x4) (f9 : x5 < x6) (kz_0_170 : 0 ≤ texts_0 ∧ texts_0 ≤ 100000000) (ex2 : gx = texts_0) (ex3 : 0 ≤ gx ∧ gx ≤ 99999992) : 1 * texts_0 + ((-1) * gx + 0) ≤ 0 := by
  first | assumption | omega | grind
set_option maxHeartbeats 4000000 in
theorem vc_Mo_writeGroup_at_l5_3_1 (x2 : Int) (x4 : Int) (x5 : Int) (x6 : Int) (x7 : Int) (x9 : Int) (all_0 : Int → Int) (r_0 : Int) (texts_0 : Int) (gx : Int) (k2 : 0 ≤ x2 ∧ x2 ≤ 99995604) (k4 : 5 ≤ x4 ∧ x4 ≤ 7) (k5 : 0 ≤ x5 ∧ x5 ≤ 23) (k6 : 1 ≤ x6 ∧ x6 ≤ 24) (k7 : 5 ≤ x7 ∧ x7 ≤ 7) (k9 : 0 ≤ x9 ∧ x9 ≤ 99999995) (d0 : x4 + 0 ≤ x7 ∧ x7 ≤ x4 + 0) (d1 : x6 + (-4294967296) ≤ x5 ∧ x5 ≤ x6 + (-1)) (f0 : 1 * x9 + ((-1) * x2 + ((-36) * x5 + 0)) ≤ 0) (f1 : x7 = all_0 (((r_0 + 243) + x5))) (f2 : 1 * x6 + ((-1) * all_0 (r_0 + 0) + 0) ≤ 0) (f3 : (-1) * x6 + (1 * all_0 (r_0 + 0) + 0) ≤ 0) (f5 : 1 * texts_0 + ((-1) * x9 + 0) ≤ 5) (f7 : 1 * x9 + ((-1) * x2 + ((-36) * x5 + 0)) ≤ 0) (f8 : x7 = x4) (f9 : x5 < x6) (kz_0_170 : 0 ≤ texts_0 ∧ texts_0 ≤ 100000000) (ex2 : gx = texts_0) (ex3 : 0 ≤ gx ∧ gx ≤ 99999992) : 1 * gx + ((-1) * x2 + ((-36) * x5 + 0)) ≤ 5 := by
  first | assumption | omega | grind
def o_Mo_writeGroup_at_l5_3 : or_T := (31, 10, [(0, (2, 0, 0, [165])), (2, (0, 0, 99995604, [])), (3, (2, 0, 0, [165])), (4, (0, 5, 7, [])), (5, (0, 0, 23, [])), (6, (0, 1, 24, [])), (7, (0, 5, 7, [])), (9, (0, 0, 99999995, []))], [(23, [9, 2, 5], [0, 1, -1, -36]), (20, [7, 3, 5], [50, 1, 1, 1005, 1002, 1, 2, 1, 0, 3, 1, 2, 4, 7, 4, 3, 2, 1, 5, 0, 243, 1, 2]), (20, [6, 3], [30, 0, 1, 0, 0, -1, 3, 2005000]), (20, [6, 3], [30, 0, -1, 0, 0, 1, 3, 2005000]), (24, [0, 3], []), (20, [3, 9], [30, 5, 1, 1, 170, -1, 0, 0]), (102, [9], [7770675568902916283677847627294075626569627356208558085007249638955617140820833992704, 165170]), (23, [9, 2, 5], [0, 1, -1, -36]), (7, [7, 4], [0]), (7, [5, 6], [2])], [], [(0, 0, 99999992, [])], [(20, [3, 10], [30, 0, 1, 1, 170, -1, 0, 0]), (23, [10, 2, 5], [5, 1, -1, -36])], [], [(7, 4, 0, 0), (5, 6, -4294967296, -1)])
theorem oo_Mo_writeGroup_at_l5_3 {kA : Nat → ClassId} : or_ok PRD kA GG o_Mo_writeGroup_at_l5_3 := by
  refine or_mk fun A ta ws vs hD hth hl => ?_
  intro t0 r0 t2 k2 t3 r3 t4 k4 t5 k5 t6 k6 t7 k7 t9 k9 d0 d1 f0 f1 f2 f3 f4 f5 ta1 w1 le1 s1 f7 f8 f9
  replace f0 := shm_2037 f0
  replace f1 := shm_597 f1
  replace f2 := shm_126 f2
  replace f3 := shm_127 f3
  replace f4 := shm_5 f4
  replace f5 := shm_208 f5
  replace f7 := shm_2037 f7
  replace f8 := shm_37 f8
  replace f9 := shm_6 f9
  have q3 : n_v vs 3 = n_v vs 0 := f4.symm
  simp only [q3] at f1 f2 f3 f5
  have cr_0_2 := fdq_10 hD hth r0
  have br_0_2_F5_0_0 : w_ei ws (w_ar ws (n_v vs 0) 2) (w_fi ws (n_v vs 0) 5 + 0) = w_el ws (w_ar ws (n_v vs 0) 2) (w_fi ws (n_v vs 0) 5 + 0).toNat := rfl
  have kz_0_170 := fdq_11 hD hth r0
  have kv0 := fdq_11 hD hth r0
  obtain ⟨x, ex, hx⟩ := iv_ex (ta := ta) (lo := 0) (hi := 99999992) (z := w_fi ws (n_v vs 0) 170) (by omega) (by omega) (by omega) (by omega)
  have ex2 : v_iv (Value.int x) = w_fi ws (n_v vs 0) 170 := ex
  have ex3 : 0 ≤ v_iv (Value.int x) ∧ v_iv (Value.int x) ≤ 99999992 := tv_rng hx
  have e_2 : n_v (vs ++ [Value.int x]) 2 = n_v vs 2 := n_v_old (by rw [hl]; decide)
  have e_3 : n_v (vs ++ [Value.int x]) 3 = n_v vs 3 := n_v_old (by rw [hl]; decide)
  have e_5 : n_v (vs ++ [Value.int x]) 5 = n_v vs 5 := n_v_old (by rw [hl]; decide)
  have e_10 : n_v (vs ++ [Value.int x]) 10 = Value.int x := n_v_new hl
  have nf0 : fc_1 PRD (20, [3, 10], [30, 0, 1, 1, 170, -1, 0, 0]) ws (vs ++ [Value.int x]) := by
    refine ⟨nf_inA hl rfl, sgq_131 ?_⟩
    · show 1 * w_fi ws (n_v (vs ++ [Value.int x]) 3) 170 + ((-1) * v_iv (n_v (vs ++ [Value.int x]) 10) + 0) ≤ 0
      simp only [e_3, e_10, q3]
      exact vc_Mo_writeGroup_at_l5_3_0 (v_iv (n_v vs 2)) (v_iv (n_v vs 4)) (v_iv (n_v vs 5)) (v_iv (n_v vs 6)) (v_iv (n_v vs 7)) (v_iv (n_v vs 9)) (w_ei ws (w_ar ws (n_v vs 0) 2)) (w_fi ws (n_v vs 0) 5) (w_fi ws (n_v vs 0) 170) (v_iv (Value.int x)) k2 k4 k5 k6 k7 k9 d0 d1 f0 f1 f2 f3 f5 f7 f8 f9 kz_0_170 ex2 ex3
  have nf1 : fc_1 PRD (23, [10, 2, 5], [5, 1, -1, -36]) ws (vs ++ [Value.int x]) := by
    refine ⟨nf_inA hl rfl, sgq_2038 ?_⟩
    · show 1 * v_iv (n_v (vs ++ [Value.int x]) 10) + ((-1) * v_iv (n_v (vs ++ [Value.int x]) 2) + ((-36) * v_iv (n_v (vs ++ [Value.int x]) 5) + 0)) ≤ 5
      simp only [e_2, e_5, e_10]
      exact vc_Mo_writeGroup_at_l5_3_1 (v_iv (n_v vs 2)) (v_iv (n_v vs 4)) (v_iv (n_v vs 5)) (v_iv (n_v vs 6)) (v_iv (n_v vs 7)) (v_iv (n_v vs 9)) (w_ei ws (w_ar ws (n_v vs 0) 2)) (w_fi ws (n_v vs 0) 5) (w_fi ws (n_v vs 0) 170) (v_iv (Value.int x)) k2 k4 k5 k6 k7 k9 d0 d1 f0 f1 f2 f3 f5 f7 f8 f9 kz_0_170 ex2 ex3
  exact ⟨(fun _ h => (by cases h)), [Value.int x], ag_one hx, List.forall_mem_cons.mpr ⟨⟨show (20 : Nat) < 100 from by decide, nf0⟩, List.forall_mem_cons.mpr ⟨⟨show (23 : Nat) < 100 from by decide, nf1⟩, (fun _ h => (by cases h))⟩⟩, (fun _ h => (by cases h))⟩
set_option maxHeartbeats 4000000 in
theorem vc_Mo_writeGroup_at_l5_4_0 (x2 : Int) (x4 : Int) (x5 : Int) (x6 : Int) (x7 : Int) (x9 : Int) (x10 : Int) (x11 : Int) (x12 : Int) (all_0 : Int → Int) (r_0 : Int) (texts_0 : Int) (gx : Int) (k2 : 0 ≤ x2 ∧ x2 ≤ 99995604) (k4 : 5 ≤ x4 ∧ x4 ≤ 7) (k5 : 0 ≤ x5 ∧ x5 ≤ 23) (k6 : 1 ≤ x6 ∧ x6 ≤ 24) (k7 : 5 ≤ x7 ∧ x7 ≤ 7) (k9 : 0 ≤ x9 ∧ x9 ≤ 99999995) (k10 : 0 ≤ x10 ∧ x10 ≤ 99999992) (k11 : 0 ≤ x11 ∧ x11 ≤ 1) (k12 : 1 ≤ x12 ∧ x12 ≤ 1) (d0 : x4 + 0 ≤ x7 ∧ x7 ≤ x4 + 0) (d1 : x6 + (-4294967296) ≤ x5 ∧ x5 ≤ x6 + (-1)) (f0 : x11 ≤ x12) (f1 : x11 = all_0 (((r_0 + 219) + x5))) (f2 : 1 * x10 + ((-1) * x2 + ((-36) * x5 + 0)) ≤ 5) (f3 : 1 * x9 + ((-1) * x2 + ((-36) * x5 + 0)) ≤ 0) (f4 : x7 = all_0 (((r_0 + 243) + x5))) (f5 : 1 * x6 + ((-1) * all_0 (r_0 + 0) + 0) ≤ 0) (f6 : (-1) * x6 + (1 * all_0 (r_0 + 0) + 0) ≤ 0) (f8 : 1 * texts_0 + ((-1) * x10 + 0) ≤ 8) (f10 : 1 * x10 + ((-1) * x2 + ((-36) * x5 + 0)) ≤ 5) (f11 : 1 * x9 + ((-1) * x2 + ((-36) * x5 + 0)) ≤ 0) (f13 : 1 * x9 + ((-1) * x2 + ((-36) * x5 + 0)) ≤ 0) (f14 : x7 = x4) (f15 : x5 < x6) (kz_0_170 : 0 ≤ texts_0 ∧ texts_0 ≤ 100000000) (ex2 : gx = texts_0) (ex3 : 0 ≤ gx ∧ gx ≤ 99999998) : 1 * texts_0 + ((-1) * gx + 0) ≤ 0 := by
  first | assumption | omega | grind
set_option maxHeartbeats 4000000 in
theorem vc_Mo_writeGroup_at_l5_4_1 (x2 : Int) (x4 : Int) (x5 : Int) (x6 : Int) (x7 : Int) (x9 : Int) (x10 : Int) (x11 : Int) (x12 : Int) (all_0 : Int → Int) (r_0 : Int) (texts_0 : Int) (gx : Int) (k2 : 0 ≤ x2 ∧ x2 ≤ 99995604) (k4 : 5 ≤ x4 ∧ x4 ≤ 7) (k5 : 0 ≤ x5 ∧ x5 ≤ 23) (k6 : 1 ≤ x6 ∧ x6 ≤ 24) (k7 : 5 ≤ x7 ∧ x7 ≤ 7) (k9 : 0 ≤ x9 ∧ x9 ≤ 99999995) (k10 : 0 ≤ x10 ∧ x10 ≤ 99999992) (k11 : 0 ≤ x11 ∧ x11 ≤ 1) (k12 : 1 ≤ x12 ∧ x12 ≤ 1) (d0 : x4 + 0 ≤ x7 ∧ x7 ≤ x4 + 0) (d1 : x6 + (-4294967296) ≤ x5 ∧ x5 ≤ x6 + (-1)) (f0 : x11 ≤ x12) (f1 : x11 = all_0 (((r_0 + 219) + x5))) (f2 : 1 * x10 + ((-1) * x2 + ((-36) * x5 + 0)) ≤ 5) (f3 : 1 * x9 + ((-1) * x2 + ((-36) * x5 + 0)) ≤ 0) (f4 : x7 = all_0 (((r_0 + 243) + x5))) (f5 : 1 * x6 + ((-1) * all_0 (r_0 + 0) + 0) ≤ 0) (f6 : (-1) * x6 + (1 * all_0 (r_0 + 0) + 0) ≤ 0) (f8 : 1 * texts_0 + ((-1) * x10 + 0) ≤ 8) (f10 : 1 * x10 + ((-1) * x2 + ((-36) * x5 + 0)) ≤ 5) (f11 : 1 * x9 + ((-1) * x2 + ((-36) * x5 + 0)) ≤ 0) (f13 : 1 * x9 + ((-1) * x2 + ((-36) * x5 + 0)) ≤ 0) (f14 : x7 = x4) (f15 : x5 < x6) (kz_0_170 : 0 ≤ texts_0 ∧ texts_0 ≤ 100000000) (ex2 : gx = texts_0) (ex3 : 0 ≤ gx ∧ gx ≤ 99999998) : 1 * gx + ((-1) * x2 + ((-36) * x5 + 0)) ≤ 34 := by
  first | assumption | omega | grind
def o_Mo_writeGroup_at_l5_4 : or_T := (70, 14, [(0, (2, 0, 0, [165])), (2, (0, 0, 99995604, [])), (3, (2, 0, 0, [165])), (4, (0, 5, 7, [])), (5, (0, 0, 23, [])), (6, (0, 1, 24, [])), (7, (0, 5, 7, [])), (9, (0, 0, 99999995, [])), (10, (0, 0, 99999992, [])), (11, (0, 0, 1, [])), (12, (0, 1, 1, []))], [(7, [11, 12], [5]), (20, [11, 3, 5], [50, 1, 1, 1005, 1002, 1, 2, 1, 0, 3, 1, 2, 4, 7, 4, 3, 2, 1, 5, 0, 219, 1, 2]), (23, [10, 2, 5], [5, 1, -1, -36]), (23, [9, 2, 5], [0, 1, -1, -36]), (20, [7, 3, 5], [50, 1, 1, 1005, 1002, 1, 2, 1, 0, 3, 1, 2, 4, 7, 4, 3, 2, 1, 5, 0, 243, 1, 2]), (20, [6, 3], [30, 0, 1, 0, 0, -1, 3, 2005000]), (20, [6, 3], [30, 0, -1, 0, 0, 1, 3, 2005000]), (24, [0, 3], []), (20, [3, 10], [30, 8, 1, 1, 170, -1, 0, 0]), (102, [10], [7770675568902916283677847627294075626569627356208558085007249638955617140820833992704, 165170]), (23, [10, 2, 5], [5, 1, -1, -36]), (23, [9, 2, 5], [0, 1, -1, -36]), (102, [9], [7770675568902916283677847627294075626569627356208558085007249638955617140820833992704, 165170]), (23, [9, 2, 5], [0, 1, -1, -36]), (7, [7, 4], [0]), (7, [5, 6], [2])], [], [(0, 0, 99999998, [])], [(20, [3, 14], [30, 0, 1, 1, 170, -1, 0, 0]), (23, [14, 2, 5], [34, 1, -1, -36])], [], [(7, 4, 0, 0), (5, 6, -4294967296, -1)])
theorem oo_Mo_writeGroup_at_l5_4 {kA : Nat → ClassId} : or_ok PRD kA GG o_Mo_writeGroup_at_l5_4 := by
  refine or_mk fun A ta ws vs hD hth hl => ?_
  intro t0 r0 t2 k2 t3 r3 t4 k4 t5 k5 t6 k6 t7 k7 t9 k9 t10 k10 t11 k11 t12 k12 d0 d1 f0 f1 f2 f3 f4 f5 f6 f7 f8 ta1 w1 le1 s1 f10 f11 ta2 w2 le2 s2 f13 f14 f15
  replace f0 := shm_24 f0
  replace f1 := shm_732 f1
  replace f2 := shm_2038 f2
  replace f3 := shm_2037 f3
  replace f4 := shm_597 f4
  replace f5 := shm_126 f5
  replace f6 := shm_127 f6
  replace f7 := shm_5 f7
  replace f8 := shm_160 f8
  replace f10 := shm_2038 f10
  replace f11 := shm_2037 f11
  replace f13 := shm_2037 f13
  replace f14 := shm_37 f14
  replace f15 := shm_6 f15
  have q3 : n_v vs 3 = n_v vs 0 := f7.symm
  simp only [q3] at f1 f4 f5 f6 f8
  have cr_0_2 := fdq_10 hD hth r0
  have br_0_2_F5_0_0 : w_ei ws (w_ar ws (n_v vs 0) 2) (w_fi ws (n_v vs 0) 5 + 0) = w_el ws (w_ar ws (n_v vs 0) 2) (w_fi ws (n_v vs 0) 5 + 0).toNat := rfl
  have kz_0_170 := fdq_11 hD hth r0
  have kv0 := fdq_11 hD hth r0
  obtain ⟨x, ex, hx⟩ := iv_ex (ta := ta) (lo := 0) (hi := 99999998) (z := w_fi ws (n_v vs 0) 170) (by omega) (by omega) (by omega) (by omega)
  have ex2 : v_iv (Value.int x) = w_fi ws (n_v vs 0) 170 := ex
  have ex3 : 0 ≤ v_iv (Value.int x) ∧ v_iv (Value.int x) ≤ 99999998 := tv_rng hx
  have e_2 : n_v (vs ++ [Value.int x]) 2 = n_v vs 2 := n_v_old (by rw [hl]; decide)
  have e_3 : n_v (vs ++ [Value.int x]) 3 = n_v vs 3 := n_v_old (by rw [hl]; decide)
  have e_5 : n_v (vs ++ [Value.int x]) 5 = n_v vs 5 := n_v_old (by rw [hl]; decide)
  have e_14 : n_v (vs ++ [Value.int x]) 14 = Value.int x := n_v_new hl
  have nf0 : fc_1 PRD (20, [3, 14], [30, 0, 1, 1, 170, -1, 0, 0]) ws (vs ++ [Value.int x]) := by
    refine ⟨nf_inA hl rfl, sgq_131 ?_⟩
    · show 1 * w_fi ws (n_v (vs ++ [Value.int x]) 3) 170 + ((-1) * v_iv (n_v (vs ++ [Value.int x]) 14) + 0) ≤ 0
      simp only [e_3, e_14, q3]
      exact vc_Mo_writeGroup_at_l5_4_0 (v_iv (n_v vs 2)) (v_iv (n_v vs 4)) (v_iv (n_v vs 5)) (v_iv (n_v vs 6)) (v_iv (n_v vs 7)) (v_iv (n_v vs 9)) (v_iv (n_v vs 10)) (v_iv (n_v vs 11)) (v_iv (n_v vs 12)) (w_ei ws (w_ar ws (n_v vs 0) 2)) (w_fi ws (n_v vs 0) 5) (w_fi ws (n_v vs 0) 170) (v_iv (Value.int x)) k2 k4 k5 k6 k7 k9 k10 k11 k12 d0 d1 f0 f1 f2 f3 f4 f5 f6 f8 f10 f11 f13 f14 f15 kz_0_170 ex2 ex3
  have nf1 : fc_1 PRD (23, [14, 2, 5], [34, 1, -1, -36]) ws (vs ++ [Value.int x]) := by
    refine ⟨nf_inA hl rfl, sgq_2039 ?_⟩
    · show 1 * v_iv (n_v (vs ++ [Value.int x]) 14) + ((-1) * v_iv (n_v (vs ++ [Value.int x]) 2) + ((-36) * v_iv (n_v (vs ++ [Value.int x]) 5) + 0)) ≤ 34
      simp only [e_2, e_5, e_14]
      exact vc_Mo_writeGroup_at_l5_4_1 (v_iv (n_v vs 2)) (v_iv (n_v vs 4)) (v_iv (n_v vs 5)) (v_iv (n_v vs 6)) (v_iv (n_v vs 7)) (v_iv (n_v vs 9)) (v_iv (n_v vs 10)) (v_iv (n_v vs 11)) (v_iv (n_v vs 12)) (w_ei ws (w_ar ws (n_v vs 0) 2)) (w_fi ws (n_v vs 0) 5) (w_fi ws (n_v vs 0) 170) (v_iv (Value.int x)) k2 k4 k5 k6 k7 k9 k10 k11 k12 d0 d1 f0 f1 f2 f3 f4 f5 f6 f8 f10 f11 f13 f14 f15 kz_0_170 ex2 ex3
  exact ⟨(fun _ h => (by cases h)), [Value.int x], ag_one hx, List.forall_mem_cons.mpr ⟨⟨show (20 : Nat) < 100 from by decide, nf0⟩, List.forall_mem_cons.mpr ⟨⟨show (23 : Nat) < 100 from by decide, nf1⟩, (fun _ h => (by cases h))⟩⟩, (fun _ h => (by cases h))⟩
set_option maxHeartbeats 4000000 in
theorem vc_Mo_writeGroup_at_l5_5_0 (x2 : Int) (x4 : Int) (x5 : Int) (x6 : Int) (x7 : Int) (x9 : Int) (x10 : Int) (x11 : Int) (x12 : Int) (x14 : Int) (x15 : Int) (all_0 : Int → Int) (r_0 : Int) (texts_0 : Int) (k2 : 0 ≤ x2 ∧ x2 ≤ 99995604) (k4 : 5 ≤ x4 ∧ x4 ≤ 7) (k5 : 0 ≤ x5 ∧ x5 ≤ 23) (k6 : 1 ≤ x6 ∧ x6 ≤ 24) (k7 : 5 ≤ x7 ∧ x7 ≤ 7) (k9 : 0 ≤ x9 ∧ x9 ≤ 99999995) (k10 : 0 ≤ x10 ∧ x10 ≤ 99999992) (k11 : 0 ≤ x11 ∧ x11 ≤ 1) (k12 : 1 ≤ x12 ∧ x12 ≤ 1) (k14 : 0 ≤ x14 ∧ x14 ≤ 99999998) (k15 : 1 ≤ x15 ∧ x15 ≤ 24) (d0 : x5 + 1 ≤ x15 ∧ x15 ≤ x5 + 1) (d1 : x6 + (-4294967296) ≤ x15 ∧ x15 ≤ x6 + 0) (d2 : x4 + 0 ≤ x7 ∧ x7 ≤ x4 + 0) (d3 : x6 + (-4294967296) ≤ x5 ∧ x5 ≤ x6 + (-1)) (f0 : x15 = x5 + 1) (f1 : 1 * x14 + ((-1) * x2 + ((-36) * x5 + 0)) ≤ 34) (f2 : x11 = all_0 (((r_0 + 219) + x5))) (f3 : 1 * x10 + ((-1) * x2 + ((-36) * x5 + 0)) ≤ 5) (f4 : 1 * x9 + ((-1) * x2 + ((-36) * x5 + 0)) ≤ 0) (f5 : x7 = all_0 (((r_0 + 243) + x5))) (f6 : 1 * x6 + ((-1) * all_0 (r_0 + 0) + 0) ≤ 0) (f7 : (-1) * x6 + (1 * all_0 (r_0 + 0) + 0) ≤ 0) (f9 : 1 * texts_0 + ((-1) * x14 + 0) ≤ 2) (f11 : 1 * x14 + ((-1) * x2 + ((-36) * x5 + 0)) ≤ 34) (f12 : x11 ≤ x12) (f13 : 1 * x10 + ((-1) * x2 + ((-36) * x5 + 0)) ≤ 5) (f14 : 1 * x9 + ((-1) * x2 + ((-36) * x5 + 0)) ≤ 0) (f16 : 1 * x10 + ((-1) * x2 + ((-36) * x5 + 0)) ≤ 5) (f17 : 1 * x9 + ((-1) * x2 + ((-36) * x5 + 0)) ≤ 0) (f19 : 1 * x9 + ((-1) * x2 + ((-36) * x5 + 0)) ≤ 0) (f20 : x7 = x4) (f21 : x5 < x6) (kz_0_170 : 0 ≤ texts_0 ∧ texts_0 ≤ 100000000) : 1 * texts_0 + ((-1) * x2 + ((-36) * x15 + 0)) ≤ 0 := by
  first | assumption | omega | grind
def o_Mo_writeGroup_at_l5_5 : or_T := (2, 16, [(0, (2, 0, 0, [165])), (2, (0, 0, 99995604, [])), (4, (0, 5, 7, [])), (5, (0, 0, 23, [])), (6, (0, 1, 24, [])), (7, (0, 5, 7, [])), (9, (0, 0, 99999995, [])), (10, (0, 0, 99999992, [])), (11, (0, 0, 1, [])), (12, (0, 1, 1, [])), (14, (0, 0, 99999998, [])), (15, (0, 1, 24, []))], [(6, [15, 5], [1]), (23, [14, 2, 5], [34, 1, -1, -36]), (20, [11, 3, 5], [50, 1, 1, 1005, 1002, 1, 2, 1, 0, 3, 1, 2, 4, 7, 4, 3, 2, 1, 5, 0, 219, 1, 2]), (23, [10, 2, 5], [5, 1, -1, -36]), (23, [9, 2, 5], [0, 1, -1, -36]), (20, [7, 3, 5], [50, 1, 1, 1005, 1002, 1, 2, 1, 0, 3, 1, 2, 4, 7, 4, 3, 2, 1, 5, 0, 243, 1, 2]), (20, [6, 3], [30, 0, 1, 0, 0, -1, 3, 2005000]), (20, [6, 3], [30, 0, -1, 0, 0, 1, 3, 2005000]), (24, [0, 3], []), (20, [3, 14], [30, 2, 1, 1, 170, -1, 0, 0]), (102, [14], [7770675568902916283677847627294075626569627356208558085007249638955617140820833992704, 165170]), (23, [14, 2, 5], [34, 1, -1, -36]), (7, [11, 12], [5]), (23, [10, 2, 5], [5, 1, -1, -36]), (23, [9, 2, 5], [0, 1, -1, -36]), (102, [10], [7770675568902916283677847627294075626569627356208558085007249638955617140820833992704, 165170]), (23, [10, 2, 5], [5, 1, -1, -36]), (23, [9, 2, 5], [0, 1, -1, -36]), (102, [9], [7770675568902916283677847627294075626569627356208558085007249638955617140820833992704, 165170]), (23, [9, 2, 5], [0, 1, -1, -36]), (7, [7, 4], [0]), (7, [5, 6], [2])], [], [], [(20, [3, 2, 15], [30, 0, 1, 1, 170, -1, 0, 0, -36, 0, 0])], [], [(15, 5, 1, 1), (15, 6, -4294967296, 0), (7, 4, 0, 0), (5, 6, -4294967296, -1)])
theorem oo_Mo_writeGroup_at_l5_5 {kA : Nat → ClassId} : or_ok PRD kA GG o_Mo_writeGroup_at_l5_5 := by
  refine or_mk fun A ta ws vs hD hth hl => ?_
  intro t0 r0 t2 k2 t4 k4 t5 k5 t6 k6 t7 k7 t9 k9 t10 k10 t11 k11 t12 k12 t14 k14 t15 k15 d0 d1 d2 d3 f0 f1 f2 f3 f4 f5 f6 f7 f8 f9 ta1 w1 le1 s1 f11 f12 f13 f14 ta2 w2 le2 s2 f16 f17 ta3 w3 le3 s3 f19 f20 f21
  replace f0 := shm_4 f0
  replace f1 := shm_2039 f1
  replace f2 := shm_732 f2
  replace f3 := shm_2038 f3
  replace f4 := shm_2037 f4
  replace f5 := shm_597 f5
  replace f6 := shm_126 f6
  replace f7 := shm_127 f7
  replace f8 := shm_5 f8
  replace f9 := shm_210 f9
  replace f11 := shm_2039 f11
  replace f12 := shm_24 f12
  replace f13 := shm_2038 f13
  replace f14 := shm_2037 f14
  replace f16 := shm_2038 f16
  replace f17 := shm_2037 f17
  replace f19 := shm_2037 f19
  replace f20 := shm_37 f20
  replace f21 := shm_6 f21
  have q3 : n_v vs 3 = n_v vs 0 := f8.symm
  simp only [q3] at f2 f5 f6 f7 f9
  have kz_0_170 := fdq_11 hD hth r0
  have nf0 : fc_1 PRD (20, [3, 2, 15], [30, 0, 1, 1, 170, -1, 0, 0, -36, 0, 0]) ws (vs) := by
    refine ⟨nf_in hl rfl, sgq_2035 ?_⟩
    · show 1 * w_fi ws (n_v vs 3) 170 + ((-1) * v_iv (n_v vs 2) + ((-36) * v_iv (n_v vs 15) + 0)) ≤ 0
      rw [q3]
      exact vc_Mo_writeGroup_at_l5_5_0 (v_iv (n_v vs 2)) (v_iv (n_v vs 4)) (v_iv (n_v vs 5)) (v_iv (n_v vs 6)) (v_iv (n_v vs 7)) (v_iv (n_v vs 9)) (v_iv (n_v vs 10)) (v_iv (n_v vs 11)) (v_iv (n_v vs 12)) (v_iv (n_v vs 14)) (v_iv (n_v vs 15)) (w_ei ws (w_ar ws (n_v vs 0) 2)) (w_fi ws (n_v vs 0) 5) (w_fi ws (n_v vs 0) 170) k2 k4 k5 k6 k7 k9 k10 k11 k12 k14 k15 d0 d1 d2 d3 f0 f1 f2 f3 f4 f5 f6 f7 f9 f11 f12 f13 f14 f16 f17 f19 f20 f21 kz_0_170
  refine ⟨(fun _ h => (by cases h)), [], trivial, ?_, (fun _ h => (by cases h))⟩
  rw [List.append_nil]
  exact List.forall_mem_cons.mpr ⟨⟨show (20 : Nat) < 100 from by decide, nf0⟩, (fun _ h => (by cases h))⟩
set_option maxHeartbeats 4000000 in
theorem vc_Mo_writeGroup_at_l5_6_0 (x2 : Int) (x4 : Int) (x5 : Int) (x6 : Int) (x7 : Int) (x9 : Int) (x10 : Int) (x11 : Int) (x12 : Int) (all_0 : Int → Int) (r_0 : Int) (texts_0 : Int) (gx : Int) (k2 : 0 ≤ x2 ∧ x2 ≤ 99995604) (k4 : 5 ≤ x4 ∧ x4 ≤ 7) (k5 : 0 ≤ x5 ∧ x5 ≤ 23) (k6 : 1 ≤ x6 ∧ x6 ≤ 24) (k7 : 5 ≤ x7 ∧ x7 ≤ 7) (k9 : 0 ≤ x9 ∧ x9 ≤ 99999995) (k10 : 0 ≤ x10 ∧ x10 ≤ 99999992) (k11 : 2 ≤ x11 ∧ x11 ≤ 99) (k12 : 1 ≤ x12 ∧ x12 ≤ 1) (d0 : x4 + 0 ≤ x7 ∧ x7 ≤ x4 + 0) (d1 : x6 + (-4294967296) ≤ x5 ∧ x5 ≤ x6 + (-1)) (f0 : x12 < x11) (f1 : x11 = all_0 (((r_0 + 219) + x5))) (f2 : 1 * x10 + ((-1) * x2 + ((-36) * x5 + 0)) ≤ 5) (f3 : 1 * x9 + ((-1) * x2 + ((-36) * x5 + 0)) ≤ 0) (f4 : x7 = all_0 (((r_0 + 243) + x5))) (f5 : 1 * x6 + ((-1) * all_0 (r_0 + 0) + 0) ≤ 0) (f6 : (-1) * x6 + (1 * all_0 (r_0 + 0) + 0) ≤ 0) (f8 : 1 * texts_0 + ((-1) * x10 + 0) ≤ 8) (f10 : 1 * x10 + ((-1) * x2 + ((-36) * x5 + 0)) ≤ 5) (f11 : 1 * x9 + ((-1) * x2 + ((-36) * x5 + 0)) ≤ 0) (f13 : 1 * x9 + ((-1) * x2 + ((-36) * x5 + 0)) ≤ 0) (f14 : x7 = x4) (f15 : x5 < x6) (kz_0_170 : 0 ≤ texts_0 ∧ texts_0 ≤ 100000000) (ex2 : gx = texts_0) (ex3 : 0 ≤ gx ∧ gx ≤ 99999993) : 1 * texts_0 + ((-1) * gx + 0) ≤ 0 := by
  first | assumption | omega | grind
set_option maxHeartbeats 4000000 in
theorem vc_Mo_writeGroup_at_l5_6_1 (x2 : Int) (x4 : Int) (x5 : Int) (x6 : Int) (x7 : Int) (x9 : Int) (x10 : Int) (x11 : Int) (x12 : Int) (all_0 : Int → Int) (r_0 : Int) (texts_0 : Int) (gx : Int) (k2 : 0 ≤ x2 ∧ x2 ≤ 99995604) (k4 : 5 ≤ x4 ∧ x4 ≤ 7) (k5 : 0 ≤ x5 ∧ x5 ≤ 23) (k6 : 1 ≤ x6 ∧ x6 ≤ 24) (k7 : 5 ≤ x7 ∧ x7 ≤ 7) (k9 : 0 ≤ x9 ∧ x9 ≤ 99999995) (k10 : 0 ≤ x10 ∧ x10 ≤ 99999992) (k11 : 2 ≤ x11 ∧ x11 ≤ 99) (k12 : 1 ≤ x12 ∧ x12 ≤ 1) (d0 : x4 + 0 ≤ x7 ∧ x7 ≤ x4 + 0) (d1 : x6 + (-4294967296) ≤ x5 ∧ x5 ≤ x6 + (-1)) (f0 : x12 < x11) (f1 : x11 = all_0 (((r_0 + 219) + x5))) (f2 : 1 * x10 + ((-1) * x2 + ((-36) * x5 + 0)) ≤ 5) (f3 : 1 * x9 + ((-1) * x2 + ((-36) * x5 + 0)) ≤ 0) (f4 : x7 = all_0 (((r_0 + 243) + x5))) (f5 : 1 * x6 + ((-1) * all_0 (r_0 + 0) + 0) ≤ 0) (f6 : (-1) * x6 + (1 * all_0 (r_0 + 0) + 0) ≤ 0) (f8 : 1 * texts_0 + ((-1) * x10 + 0) ≤ 8) (f10 : 1 * x10 + ((-1) * x2 + ((-36) * x5 + 0)) ≤ 5) (f11 : 1 * x9 + ((-1) * x2 + ((-36) * x5 + 0)) ≤ 0) (f13 : 1 * x9 + ((-1) * x2 + ((-36) * x5 + 0)) ≤ 0) (f14 : x7 = x4) (f15 : x5 < x6) (kz_0_170 : 0 ≤ texts_0 ∧ texts_0 ≤ 100000000) (ex2 : gx = texts_0) (ex3 : 0 ≤ gx ∧ gx ≤ 99999993) : 1 * gx + ((-1) * x2 + ((-36) * x5 + 0)) ≤ 13 := by
  first | assumption | omega | grind
def o_Mo_writeGroup_at_l5_6 : or_T := (47, 14, [(0, (2, 0, 0, [165])), (2, (0, 0, 99995604, [])), (3, (2, 0, 0, [165])), (4, (0, 5, 7, [])), (5, (0, 0, 23, [])), (6, (0, 1, 24, [])), (7, (0, 5, 7, [])), (9, (0, 0, 99999995, [])), (10, (0, 0, 99999992, [])), (11, (0, 2, 99, [])), (12, (0, 1, 1, []))], [(7, [11, 12], [4]), (20, [11, 3, 5], [50, 1, 1, 1005, 1002, 1, 2, 1, 0, 3, 1, 2, 4, 7, 4, 3, 2, 1, 5, 0, 219, 1, 2]), (23, [10, 2, 5], [5, 1, -1, -36]), (23, [9, 2, 5], [0, 1, -1, -36]), (20, [7, 3, 5], [50, 1, 1, 1005, 1002, 1, 2, 1, 0, 3, 1, 2, 4, 7, 4, 3, 2, 1, 5, 0, 243, 1, 2]), (20, [6, 3], [30, 0, 1, 0, 0, -1, 3, 2005000]), (20, [6, 3], [30, 0, -1, 0, 0, 1, 3, 2005000]), (24, [0, 3], []), (20, [3, 10], [30, 8, 1, 1, 170, -1, 0, 0]), (102, [10], [7770675568902916283677847627294075626569627356208558085007249638955617140820833992704, 165170]), (23, [10, 2, 5], [5, 1, -1, -36]), (23, [9, 2, 5], [0, 1, -1, -36]), (102, [9], [7770675568902916283677847627294075626569627356208558085007249638955617140820833992704, 165170]), (23, [9, 2, 5], [0, 1, -1, -36]), (7, [7, 4], [0]), (7, [5, 6], [2])], [], [(0, 0, 99999993, [])], [(20, [3, 14], [30, 0, 1, 1, 170, -1, 0, 0]), (23, [14, 2, 5], [13, 1, -1, -36])], [], [(7, 4, 0, 0), (5, 6, -4294967296, -1)])
theorem oo_Mo_writeGroup_at_l5_6 {kA : Nat → ClassId} : or_ok PRD kA GG o_Mo_writeGroup_at_l5_6 := by
  refine or_mk fun A ta ws vs hD hth hl => ?_
  intro t0 r0 t2 k2 t3 r3 t4 k4 t5 k5 t6 k6 t7 k7 t9 k9 t10 k10 t11 k11 t12 k12 d0 d1 f0 f1 f2 f3 f4 f5 f6 f7 f8 ta1 w1 le1 s1 f10 f11 ta2 w2 le2 s2 f13 f14 f15
  replace f0 := shm_21 f0
  replace f1 := shm_732 f1
  replace f2 := shm_2038 f2
  replace f3 := shm_2037 f3
  replace f4 := shm_597 f4
  replace f5 := shm_126 f5
  replace f6 := shm_127 f6
  replace f7 := shm_5 f7
  replace f8 := shm_160 f8
  replace f10 := shm_2038 f10
  replace f11 := shm_2037 f11
  replace f13 := shm_2037 f13
  replace f14 := shm_37 f14
  replace f15 := shm_6 f15
  have q3 : n_v vs 3 = n_v vs 0 := f7.symm
  simp only [q3] at f1 f4 f5 f6 f8
  have cr_0_2 := fdq_10 hD hth r0
  have br_0_2_F5_0_0 : w_ei ws (w_ar ws (n_v vs 0) 2) (w_fi ws (n_v vs 0) 5 + 0) = w_el ws (w_ar ws (n_v vs 0) 2) (w_fi ws (n_v vs 0) 5 + 0).toNat := rfl
  have kz_0_170 := fdq_11 hD hth r0
  have kv0 := fdq_11 hD hth r0
  obtain ⟨x, ex, hx⟩ := iv_ex (ta := ta) (lo := 0) (hi := 99999993) (z := w_fi ws (n_v vs 0) 170) (by omega) (by omega) (by omega) (by omega)
  have ex2 : v_iv (Value.int x) = w_fi ws (n_v vs 0) 170 := ex
  have ex3 : 0 ≤ v_iv (Value.int x) ∧ v_iv (Value.int x) ≤ 99999993 := tv_rng hx
  have e_2 : n_v (vs ++ [Value.int x]) 2 = n_v vs 2 := n_v_old (by rw [hl]; decide)
  have e_3 : n_v (vs ++ [Value.int x]) 3 = n_v vs 3 := n_v_old (by rw [hl]; decide)
  have e_5 : n_v (vs ++ [Value.int x]) 5 = n_v vs 5 := n_v_old (by rw [hl]; decide)
  have e_14 : n_v (vs ++ [Value.int x]) 14 = Value.int x := n_v_new hl
  have nf0 : fc_1 PRD (20, [3, 14], [30, 0, 1, 1, 170, -1, 0, 0]) ws (vs ++ [Value.int x]) := by
    refine ⟨nf_inA hl rfl, sgq_131 ?_⟩
    · show 1 * w_fi ws (n_v (vs ++ [Value.int x]) 3) 170 + ((-1) * v_iv (n_v (vs ++ [Value.int x]) 14) + 0) ≤ 0
      simp only [e_3, e_14, q3]
      exact vc_Mo_writeGroup_at_l5_6_0 (v_iv (n_v vs 2)) (v_iv (n_v vs 4)) (v_iv (n_v vs 5)) (v_iv (n_v vs 6)) (v_iv (n_v vs 7)) (v_iv (n_v vs 9)) (v_iv (n_v vs 10)) (v_iv (n_v vs 11)) (v_iv (n_v vs 12)) (w_ei ws (w_ar ws (n_v vs 0) 2)) (w_fi ws (n_v vs 0) 5) (w_fi ws (n_v vs 0) 170) (v_iv (Value.int x)) k2 k4 k5 k6 k7 k9 k10 k11 k12 d0 d1 f0 f1 f2 f3 f4 f5 f6 f8 f10 f11 f13 f14 f15 kz_0_170 ex2 ex3
  have nf1 : fc_1 PRD (23, [14, 2, 5], [13, 1, -1, -36]) ws (vs ++ [Value.int x]) := by
    refine ⟨nf_inA hl rfl, sgq_2040 ?_⟩
    · show 1 * v_iv (n_v (vs ++ [Value.int x]) 14) + ((-1) * v_iv (n_v (vs ++ [Value.int x]) 2) + ((-36) * v_iv (n_v (vs ++ [Value.int x]) 5) + 0)) ≤ 13
      simp only [e_2, e_5, e_14]
      exact vc_Mo_writeGroup_at_l5_6_1 (v_iv (n_v vs 2)) (v_iv (n_v vs 4)) (v_iv (n_v vs 5)) (v_iv (n_v vs 6)) (v_iv (n_v vs 7)) (v_iv (n_v vs 9)) (v_iv (n_v vs 10)) (v_iv (n_v vs 11)) (v_iv (n_v vs 12)) (w_ei ws (w_ar ws (n_v vs 0) 2)) (w_fi ws (n_v vs 0) 5) (w_fi ws (n_v vs 0) 170) (v_iv (Value.int x)) k2 k4 k5 k6 k7 k9 k10 k11 k12 d0 d1 f0 f1 f2 f3 f4 f5 f6 f8 f10 f11 f13 f14 f15 kz_0_170 ex2 ex3
  exact ⟨(fun _ h => (by cases h)), [Value.int x], ag_one hx, List.forall_mem_cons.mpr ⟨⟨show (20 : Nat) < 100 from by decide, nf0⟩, List.forall_mem_cons.mpr ⟨⟨show (23 : Nat) < 100 from by decide, nf1⟩, (fun _ h => (by cases h))⟩⟩, (fun _ h => (by cases h))⟩
set_option maxHeartbeats 4000000 in
theorem vc_Mo_writeGroup_at_l5_7_0 (x2 : Int) (x4 : Int) (x5 : Int) (x6 : Int) (x7 : Int) (x9 : Int) (x10 : Int) (x11 : Int) (x12 : Int) (x14 : Int) (x15 : Int) (all_0 : Int → Int) (r_0 : Int) (texts_0 : Int) (gx : Int) (k2 : 0 ≤ x2 ∧ x2 ≤ 99995604) (k4 : 5 ≤ x4 ∧ x4 ≤ 7) (k5 : 0 ≤ x5 ∧ x5 ≤ 23) (k6 : 1 ≤ x6 ∧ x6 ≤ 24) (k7 : 5 ≤ x7 ∧ x7 ≤ 7) (k9 : 0 ≤ x9 ∧ x9 ≤ 99999995) (k10 : 0 ≤ x10 ∧ x10 ≤ 99999992) (k11 : 2 ≤ x11 ∧ x11 ≤ 99) (k12 : 1 ≤ x12 ∧ x12 ≤ 1) (k14 : 0 ≤ x14 ∧ x14 ≤ 99999993) (k15 : 0 ≤ x15 ∧ x15 ≤ 99) (d0 : x4 + 0 ≤ x7 ∧ x7 ≤ x4 + 0) (d1 : x6 + (-4294967296) ≤ x5 ∧ x5 ≤ x6 + (-1)) (f0 : x15 = all_0 (((r_0 + 219) + x5))) (f1 : 1 * x14 + ((-1) * x2 + ((-36) * x5 + 0)) ≤ 13) (f2 : x11 = all_0 (((r_0 + 219) + x5))) (f3 : 1 * x10 + ((-1) * x2 + ((-36) * x5 + 0)) ≤ 5) (f4 : 1 * x9 + ((-1) * x2 + ((-36) * x5 + 0)) ≤ 0) (f5 : x7 = all_0 (((r_0 + 243) + x5))) (f6 : 1 * x6 + ((-1) * all_0 (r_0 + 0) + 0) ≤ 0) (f7 : (-1) * x6 + (1 * all_0 (r_0 + 0) + 0) ≤ 0) (f9 : 1 * texts_0 + ((-1) * x14 + 0) ≤ 7) (f11 : 1 * x14 + ((-1) * x2 + ((-36) * x5 + 0)) ≤ 13) (f12 : x12 < x11) (f13 : 1 * x10 + ((-1) * x2 + ((-36) * x5 + 0)) ≤ 5) (f14 : 1 * x9 + ((-1) * x2 + ((-36) * x5 + 0)) ≤ 0) (f16 : 1 * x10 + ((-1) * x2 + ((-36) * x5 + 0)) ≤ 5) (f17 : 1 * x9 + ((-1) * x2 + ((-36) * x5 + 0)) ≤ 0) (f19 : 1 * x9 + ((-1) * x2 + ((-36) * x5 + 0)) ≤ 0) (f20 : x7 = x4) (f21 : x5 < x6) (kz_0_170 : 0 ≤ texts_0 ∧ texts_0 ≤ 100000000) (ex2 : gx = texts_0) (ex3 : 0 ≤ gx ∧ gx ≤ 99999987) : 1 * texts_0 + ((-1) * gx + 0) ≤ 0 := by
  first | assumption | omega | grind
set_option maxHeartbeats 4000000 in
theorem vc_Mo_writeGroup_at_l5_7_1 (x2 : Int) (x4 : Int) (x5 : Int) (x6 : Int) (x7 : Int) (x9 : Int) (x10 : Int) (x11 : Int) (x12 : Int) (x14 : Int) (x15 : Int) (all_0 : Int → Int) (r_0 : Int) (texts_0 : Int) (gx : Int) (k2 : 0 ≤ x2 ∧ x2 ≤ 99995604) (k4 : 5 ≤ x4 ∧ x4 ≤ 7) (k5 : 0 ≤ x5 ∧ x5 ≤ 23) (k6 : 1 ≤ x6 ∧ x6 ≤ 24) (k7 : 5 ≤ x7 ∧ x7 ≤ 7) (k9 : 0 ≤ x9 ∧ x9 ≤ 99999995) (k10 : 0 ≤ x10 ∧ x10 ≤ 99999992) (k11 : 2 ≤ x11 ∧ x11 ≤ 99) (k12 : 1 ≤ x12 ∧ x12 ≤ 1) (k14 : 0 ≤ x14 ∧ x14 ≤ 99999993) (k15 : 0 ≤ x15 ∧ x15 ≤ 99) (d0 : x4 + 0 ≤ x7 ∧ x7 ≤ x4 + 0) (d1 : x6 + (-4294967296) ≤ x5 ∧ x5 ≤ x6 + (-1)) (f0 : x15 = all_0 (((r_0 + 219) + x5))) (f1 : 1 * x14 + ((-1) * x2 + ((-36) * x5 + 0)) ≤ 13) (f2 : x11 = all_0 (((r_0 + 219) + x5))) (f3 : 1 * x10 + ((-1) * x2 + ((-36) * x5 + 0)) ≤ 5) (f4 : 1 * x9 + ((-1) * x2 + ((-36) * x5 + 0)) ≤ 0) (f5 : x7 = all_0 (((r_0 + 243) + x5))) (f6 : 1 * x6 + ((-1) * all_0 (r_0 + 0) + 0) ≤ 0) (f7 : (-1) * x6 + (1 * all_0 (r_0 + 0) + 0) ≤ 0) (f9 : 1 * texts_0 + ((-1) * x14 + 0) ≤ 7) (f11 : 1 * x14 + ((-1) * x2 + ((-36) * x5 + 0)) ≤ 13) (f12 : x12 < x11) (f13 : 1 * x10 + ((-1) * x2 + ((-36) * x5 + 0)) ≤ 5) (f14 : 1 * x9 + ((-1) * x2 + ((-36) * x5 + 0)) ≤ 0) (f16 : 1 * x10 + ((-1) * x2 + ((-36) * x5 + 0)) ≤ 5) (f17 : 1 * x9 + ((-1) * x2 + ((-36) * x5 + 0)) ≤ 0) (f19 : 1 * x9 + ((-1) * x2 + ((-36) * x5 + 0)) ≤ 0) (f20 : x7 = x4) (f21 : x5 < x6) (kz_0_170 : 0 ≤ texts_0 ∧ texts_0 ≤ 100000000) (ex2 : gx = texts_0) (ex3 : 0 ≤ gx ∧ gx ≤ 99999987) : 1 * gx + ((-1) * x2 + ((-36) * x5 + 0)) ≤ 20 := by
  first | assumption | omega | grind
def o_Mo_writeGroup_at_l5_7 : or_T := (56, 16, [(0, (2, 0, 0, [165])), (2, (0, 0, 99995604, [])), (3, (2, 0, 0, [165])), (4, (0, 5, 7, [])), (5, (0, 0, 23, [])), (6, (0, 1, 24, [])), (7, (0, 5, 7, [])), (9, (0, 0, 99999995, [])), (10, (0, 0, 99999992, [])), (11, (0, 2, 99, [])), (12, (0, 1, 1, [])), (14, (0, 0, 99999993, [])), (15, (0, 0, 99, []))], [(20, [15, 3, 5], [50, 1, 1, 1005, 1002, 1, 2, 1, 0, 3, 1, 2, 4, 7, 4, 3, 2, 1, 5, 0, 219, 1, 2]), (23, [14, 2, 5], [13, 1, -1, -36]), (20, [11, 3, 5], [50, 1, 1, 1005, 1002, 1, 2, 1, 0, 3, 1, 2, 4, 7, 4, 3, 2, 1, 5, 0, 219, 1, 2]), (23, [10, 2, 5], [5, 1, -1, -36]), (23, [9, 2, 5], [0, 1, -1, -36]), (20, [7, 3, 5], [50, 1, 1, 1005, 1002, 1, 2, 1, 0, 3, 1, 2, 4, 7, 4, 3, 2, 1, 5, 0, 243, 1, 2]), (20, [6, 3], [30, 0, 1, 0, 0, -1, 3, 2005000]), (20, [6, 3], [30, 0, -1, 0, 0, 1, 3, 2005000]), (24, [0, 3], []), (20, [3, 14], [30, 7, 1, 1, 170, -1, 0, 0]), (102, [14], [7770675568902916283677847627294075626569627356208558085007249638955617140820833992704, 165170]), (23, [14, 2, 5], [13, 1, -1, -36]), (7, [11, 12], [4]), (23, [10, 2, 5], [5, 1, -1, -36]), (23, [9, 2, 5], [0, 1, -1, -36]), (102, [10], [7770675568902916283677847627294075626569627356208558085007249638955617140820833992704, 165170]), (23, [10, 2, 5], [5, 1, -1, -36]), (23, [9, 2, 5], [0, 1, -1, -36]), (102, [9], [7770675568902916283677847627294075626569627356208558085007249638955617140820833992704, 165170]), (23, [9, 2, 5], [0, 1, -1, -36]), (7, [7, 4], [0]), (7, [5, 6], [2])], [], [(0, 0, 99999987, [])], [(20, [3, 16], [30, 0, 1, 1, 170, -1, 0, 0]), (23, [16, 2, 5], [20, 1, -1, -36])], [], [(7, 4, 0, 0), (5, 6, -4294967296, -1)])
theorem oo_Mo_writeGroup_at_l5_7 {kA : Nat → ClassId} : or_ok PRD kA GG o_Mo_writeGroup_at_l5_7 := by
  refine or_mk fun A ta ws vs hD hth hl => ?_
  intro t0 r0 t2 k2 t3 r3 t4 k4 t5 k5 t6 k6 t7 k7 t9 k9 t10 k10 t11 k11 t12 k12 t14 k14 t15 k15 d0 d1 f0 f1 f2 f3 f4 f5 f6 f7 f8 f9 ta1 w1 le1 s1 f11 f12 f13 f14 ta2 w2 le2 s2 f16 f17 ta3 w3 le3 s3 f19 f20 f21
  replace f0 := shm_732 f0
  replace f1 := shm_2040 f1
  replace f2 := shm_732 f2
  replace f3 := shm_2038 f3
  replace f4 := shm_2037 f4
  replace f5 := shm_597 f5
  replace f6 := shm_126 f6
  replace f7 := shm_127 f7
  replace f8 := shm_5 f8
  replace f9 := shm_209 f9
  replace f11 := shm_2040 f11
  replace f12 := shm_21 f12
  replace f13 := shm_2038 f13
  replace f14 := shm_2037 f14
  replace f16 := shm_2038 f16
  replace f17 := shm_2037 f17
  replace f19 := shm_2037 f19
  replace f20 := shm_37 f20
  replace f21 := shm_6 f21
  have q3 : n_v vs 3 = n_v vs 0 := f8.symm
  simp only [q3] at f0 f2 f5 f6 f7 f9
  have cr_0_2 := fdq_10 hD hth r0
  have br_0_2_F5_0_0 : w_ei ws (w_ar ws (n_v vs 0) 2) (w_fi ws (n_v vs 0) 5 + 0) = w_el ws (w_ar ws (n_v vs 0) 2) (w_fi ws (n_v vs 0) 5 + 0).toNat := rfl
  have kz_0_170 := fdq_11 hD hth r0
  have kv0 := fdq_11 hD hth r0
  obtain ⟨x, ex, hx⟩ := iv_ex (ta := ta) (lo := 0) (hi := 99999987) (z := w_fi ws (n_v vs 0) 170) (by omega) (by omega) (by omega) (by omega)
  have ex2 : v_iv (Value.int x) = w_fi ws (n_v vs 0) 170 := ex
  have ex3 : 0 ≤ v_iv (Value.int x) ∧ v_iv (Value.int x) ≤ 99999987 := tv_rng hx
  have e_2 : n_v (vs ++ [Value.int x]) 2 = n_v vs 2 := n_v_old (by rw [hl]; decide)
  have e_3 : n_v (vs ++ [Value.int x]) 3 = n_v vs 3 := n_v_old (by rw [hl]; decide)
  have e_5 : n_v (vs ++ [Value.int x]) 5 = n_v vs 5 := n_v_old (by rw [hl]; decide)
  have e_16 : n_v (vs ++ [Value.int x]) 16 = Value.int x := n_v_new hl
  have nf0 : fc_1 PRD (20, [3, 16], [30, 0, 1, 1, 170, -1, 0, 0]) ws (vs ++ [Value.int x]) := by
    refine ⟨nf_inA hl rfl, sgq_131 ?_⟩
    · show 1 * w_fi ws (n_v (vs ++ [Value.int x]) 3) 170 + ((-1) * v_iv (n_v (vs ++ [Value.int x]) 16) + 0) ≤ 0
      simp only [e_3, e_16, q3]
      exact vc_Mo_writeGroup_at_l5_7_0 (v_iv (n_v vs 2)) (v_iv (n_v vs 4)) (v_iv (n_v vs 5)) (v_iv (n_v vs 6)) (v_iv (n_v vs 7)) (v_iv (n_v vs 9)) (v_iv (n_v vs 10)) (v_iv (n_v vs 11)) (v_iv (n_v vs 12)) (v_iv (n_v vs 14)) (v_iv (n_v vs 15)) (w_ei ws (w_ar ws (n_v vs 0) 2)) (w_fi ws (n_v vs 0) 5) (w_fi ws (n_v vs 0) 170) (v_iv (Value.int x)) k2 k4 k5 k6 k7 k9 k10 k11 k12 k14 k15 d0 d1 f0 f1 f2 f3 f4 f5 f6 f7 f9 f11 f12 f13 f14 f16 f17 f19 f20 f21 kz_0_170 ex2 ex3
  have nf1 : fc_1 PRD (23, [16, 2, 5], [20, 1, -1, -36]) ws (vs ++ [Value.int x]) := by
    refine ⟨nf_inA hl rfl, sgq_2041 ?_⟩
    · show 1 * v_iv (n_v (vs ++ [Value.int x]) 16) + ((-1) * v_iv (n_v (vs ++ [Value.int x]) 2) + ((-36) * v_iv (n_v (vs ++ [Value.int x]) 5) + 0)) ≤ 20
      simp only [e_2, e_5, e_16]
      exact vc_Mo_writeGroup_at_l5_7_1 (v_iv (n_v vs 2)) (v_iv (n_v vs 4)) (v_iv (n_v vs 5)) (v_iv (n_v vs 6)) (v_iv (n_v vs 7)) (v_iv (n_v vs 9)) (v_iv (n_v vs 10)) (v_iv (n_v vs 11)) (v_iv (n_v vs 12)) (v_iv (n_v vs 14)) (v_iv (n_v vs 15)) (w_ei ws (w_ar ws (n_v vs 0) 2)) (w_fi ws (n_v vs 0) 5) (w_fi ws (n_v vs 0) 170) (v_iv (Value.int x)) k2 k4 k5 k6 k7 k9 k10 k11 k12 k14 k15 d0 d1 f0 f1 f2 f3 f4 f5 f6 f7 f9 f11 f12 f13 f14 f16 f17 f19 f20 f21 kz_0_170 ex2 ex3
  exact ⟨(fun _ h => (by cases h)), [Value.int x], ag_one hx, List.forall_mem_cons.mpr ⟨⟨show (20 : Nat) < 100 from by decide, nf0⟩, List.forall_mem_cons.mpr ⟨⟨show (23 : Nat) < 100 from by decide, nf1⟩, (fun _ h => (by cases h))⟩⟩, (fun _ h => (by cases h))⟩
set_option maxHeartbeats 4000000 in
theorem vc_Mo_writeGroup_at_l5_8_0 (x2 : Int) (x4 : Int) (x5 : Int) (x6 : Int) (x7 : Int) (x9 : Int) (x10 : Int) (x11 : Int) (x12 : Int) (x14 : Int) (x15 : Int) (x16 : Int) (all_0 : Int → Int) (r_0 : Int) (texts_0 : Int) (gx : Int) (k2 : 0 ≤ x2 ∧ x2 ≤ 99995604) (k4 : 5 ≤ x4 ∧ x4 ≤ 7) (k5 : 0 ≤ x5 ∧ x5 ≤ 23) (k6 : 1 ≤ x6 ∧ x6 ≤ 24) (k7 : 5 ≤ x7 ∧ x7 ≤ 7) (k9 : 0 ≤ x9 ∧ x9 ≤ 99999995) (k10 : 0 ≤ x10 ∧ x10 ≤ 99999992) (k11 : 2 ≤ x11 ∧ x11 ≤ 99) (k12 : 1 ≤ x12 ∧ x12 ≤ 1) (k14 : 0 ≤ x14 ∧ x14 ≤ 99999993) (k15 : 0 ≤ x15 ∧ x15 ≤ 99) (k16 : 0 ≤ x16 ∧ x16 ≤ 99999987) (d0 : x4 + 0 ≤ x7 ∧ x7 ≤ x4 + 0) (d1 : x6 + (-4294967296) ≤ x5 ∧ x5 ≤ x6 + (-1)) (f0 : 1 * x16 + ((-1) * x2 + ((-36) * x5 + 0)) ≤ 20) (f1 : x15 = all_0 (((r_0 + 219) + x5))) (f2 : 1 * x14 + ((-1) * x2 + ((-36) * x5 + 0)) ≤ 13) (f3 : x11 = all_0 (((r_0 + 219) + x5))) (f4 : 1 * x10 + ((-1) * x2 + ((-36) * x5 + 0)) ≤ 5) (f5 : 1 * x9 + ((-1) * x2 + ((-36) * x5 + 0)) ≤ 0) (f6 : x7 = all_0 (((r_0 + 243) + x5))) (f7 : 1 * x6 + ((-1) * all_0 (r_0 + 0) + 0) ≤ 0) (f8 : (-1) * x6 + (1 * all_0 (r_0 + 0) + 0) ≤ 0) (f10 : 1 * texts_0 + ((-1) * x16 + 0) ≤ 13) (f12 : 1 * x16 + ((-1) * x2 + ((-36) * x5 + 0)) ≤ 20) (f13 : 1 * x14 + ((-1) * x2 + ((-36) * x5 + 0)) ≤ 13) (f14 : 1 * x10 + ((-1) * x2 + ((-36) * x5 + 0)) ≤ 5) (f15 : 1 * x9 + ((-1) * x2 + ((-36) * x5 + 0)) ≤ 0) (f17 : 1 * x14 + ((-1) * x2 + ((-36) * x5 + 0)) ≤ 13) (f18 : x12 < x11) (f19 : 1 * x10 + ((-1) * x2 + ((-36) * x5 + 0)) ≤ 5) (f20 : 1 * x9 + ((-1) * x2 + ((-36) * x5 + 0)) ≤ 0) (f22 : 1 * x10 + ((-1) * x2 + ((-36) * x5 + 0)) ≤ 5) (f23 : 1 * x9 + ((-1) * x2 + ((-36) * x5 + 0)) ≤ 0) (f25 : 1 * x9 + ((-1) * x2 + ((-36) * x5 + 0)) ≤ 0) (f26 : x7 = x4) (f27 : x5 < x6) (kz_0_170 : 0 ≤ texts_0 ∧ texts_0 ≤ 100000000) (ex2 : gx = texts_0) (ex3 : 0 ≤ gx ∧ gx ≤ 99999999) : 1 * texts_0 + ((-1) * gx + 0) ≤ 0 := by
  first | assumption | omega | grind
set_option maxHeartbeats 4000000 in
theorem vc_Mo_writeGroup_at_l5_8_1 (x2 : Int) (x4 : Int) (x5 : Int) (x6 : Int) (x7 : Int) (x9 : Int) (x10 : Int) (x11 : Int) (x12 : Int) (x14 : Int) (x15 : Int) (x16 : Int) (all_0 : Int → Int) (r_0 : Int) (texts_0 : Int) (gx : Int) (k2 : 0 ≤ x2 ∧ x2 ≤ 99995604) (k4 : 5 ≤ x4 ∧ x4 ≤ 7) (k5 : 0 ≤ x5 ∧ x5 ≤ 23) (k6 : 1 ≤ x6 ∧ x6 ≤ 24) (k7 : 5 ≤ x7 ∧ x7 ≤ 7) (k9 : 0 ≤ x9 ∧ x9 ≤ 99999995) (k10 : 0 ≤ x10 ∧ x10 ≤ 99999992) (k11 : 2 ≤ x11 ∧ x11 ≤ 99) (k12 : 1 ≤ x12 ∧ x12 ≤ 1) (k14 : 0 ≤ x14 ∧ x14 ≤ 99999993) (k15 : 0 ≤ x15 ∧ x15 ≤ 99) (k16 : 0 ≤ x16 ∧ x16 ≤ 99999987) (d0 : x4 + 0 ≤ x7 ∧ x7 ≤ x4 + 0) (d1 : x6 + (-4294967296) ≤ x5 ∧ x5 ≤ x6 + (-1)) (f0 : 1 * x16 + ((-1) * x2 + ((-36) * x5 + 0)) ≤ 20) (f1 : x15 = all_0 (((r_0 + 219) + x5))) (f2 : 1 * x14 + ((-1) * x2 + ((-36) * x5 + 0)) ≤ 13) (f3 : x11 = all_0 (((r_0 + 219) + x5))) (f4 : 1 * x10 + ((-1) * x2 + ((-36) * x5 + 0)) ≤ 5) (f5 : 1 * x9 + ((-1) * x2 + ((-36) * x5 + 0)) ≤ 0) (f6 : x7 = all_0 (((r_0 + 243) + x5))) (f7 : 1 * x6 + ((-1) * all_0 (r_0 + 0) + 0) ≤ 0) (f8 : (-1) * x6 + (1 * all_0 (r_0 + 0) + 0) ≤ 0) (f10 : 1 * texts_0 + ((-1) * x16 + 0) ≤ 13) (f12 : 1 * x16 + ((-1) * x2 + ((-36) * x5 + 0)) ≤ 20) (f13 : 1 * x14 + ((-1) * x2 + ((-36) * x5 + 0)) ≤ 13) (f14 : 1 * x10 + ((-1) * x2 + ((-36) * x5 + 0)) ≤ 5) (f15 : 1 * x9 + ((-1) * x2 + ((-36) * x5 + 0)) ≤ 0) (f17 : 1 * x14 + ((-1) * x2 + ((-36) * x5 + 0)) ≤ 13) (f18 : x12 < x11) (f19 : 1 * x10 + ((-1) * x2 + ((-36) * x5 + 0)) ≤ 5) (f20 : 1 * x9 + ((-1) * x2 + ((-36) * x5 + 0)) ≤ 0) (f22 : 1 * x10 + ((-1) * x2 + ((-36) * x5 + 0)) ≤ 5) (f23 : 1 * x9 + ((-1) * x2 + ((-36) * x5 + 0)) ≤ 0) (f25 : 1 * x9 + ((-1) * x2 + ((-36) * x5 + 0)) ≤ 0) (f26 : x7 = x4) (f27 : x5 < x6) (kz_0_170 : 0 ≤ texts_0 ∧ texts_0 ≤ 100000000) (ex2 : gx = texts_0) (ex3 : 0 ≤ gx ∧ gx ≤ 99999999) : 1 * gx + ((-1) * x2 + ((-36) * x5 + 0)) ≤ 33 := by
  first | assumption | omega | grind
def o_Mo_writeGroup_at_l5_8 : or_T := (63, 18, [(0, (2, 0, 0, [165])), (2, (0, 0, 99995604, [])), (3, (2, 0, 0, [165])), (4, (0, 5, 7, [])), (5, (0, 0, 23, [])), (6, (0, 1, 24, [])), (7, (0, 5, 7, [])), (9, (0, 0, 99999995, [])), (10, (0, 0, 99999992, [])), (11, (0, 2, 99, [])), (12, (0, 1, 1, [])), (14, (0, 0, 99999993, [])), (15, (0, 0, 99, [])), (16, (0, 0, 99999987, []))], [(23, [16, 2, 5], [20, 1, -1, -36]), (20, [15, 3, 5], [50, 1, 1, 1005, 1002, 1, 2, 1, 0, 3, 1, 2, 4, 7, 4, 3, 2, 1, 5, 0, 219, 1, 2]), (23, [14, 2, 5], [13, 1, -1, -36]), (20, [11, 3, 5], [50, 1, 1, 1005, 1002, 1, 2, 1, 0, 3, 1, 2, 4, 7, 4, 3, 2, 1, 5, 0, 219, 1, 2]), (23, [10, 2, 5], [5, 1, -1, -36]), (23, [9, 2, 5], [0, 1, -1, -36]), (20, [7, 3, 5], [50, 1, 1, 1005, 1002, 1, 2, 1, 0, 3, 1, 2, 4, 7, 4, 3, 2, 1, 5, 0, 243, 1, 2]), (20, [6, 3], [30, 0, 1, 0, 0, -1, 3, 2005000]), (20, [6, 3], [30, 0, -1, 0, 0, 1, 3, 2005000]), (24, [0, 3], []), (20, [3, 16], [30, 13, 1, 1, 170, -1, 0, 0]), (102, [16], [7770675568902916283677847627294075626569627356208558085007249638955617140820833992704, 165170]), (23, [16, 2, 5], [20, 1, -1, -36]), (23, [14, 2, 5], [13, 1, -1, -36]), (23, [10, 2, 5], [5, 1, -1, -36]), (23, [9, 2, 5], [0, 1, -1, -36]), (102, [14], [7770675568902916283677847627294075626569627356208558085007249638955617140820833992704, 165170]), (23, [14, 2, 5], [13, 1, -1, -36]), (7, [11, 12], [4]), (23, [10, 2, 5], [5, 1, -1, -36]), (23, [9, 2, 5], [0, 1, -1, -36]), (102, [10], [7770675568902916283677847627294075626569627356208558085007249638955617140820833992704, 165170]), (23, [10, 2, 5], [5, 1, -1, -36]), (23, [9, 2, 5], [0, 1, -1, -36]), (102, [9], [7770675568902916283677847627294075626569627356208558085007249638955617140820833992704, 165170]), (23, [9, 2, 5], [0, 1, -1, -36]), (7, [7, 4], [0]), (7, [5, 6], [2])], [], [(0, 0, 99999999, [])], [(20, [3, 18], [30, 0, 1, 1, 170, -1, 0, 0]), (23, [18, 2, 5], [33, 1, -1, -36])], [], [(7, 4, 0, 0), (5, 6, -4294967296, -1)])
theorem oo_Mo_writeGroup_at_l5_8 {kA : Nat → ClassId} : or_ok PRD kA GG o_Mo_writeGroup_at_l5_8 := by
  refine or_mk fun A ta ws vs hD hth hl => ?_
  intro t0 r0 t2 k2 t3 r3 t4 k4 t5 k5 t6 k6 t7 k7 t9 k9 t10 k10 t11 k11 t12 k12 t14 k14 t15 k15 t16 k16 d0 d1 f0 f1 f2 f3 f4 f5 f6 f7 f8 f9 f10 ta1 w1 le1 s1 f12 f13 f14 f15 ta2 w2 le2 s2 f17 f18 f19 f20 ta3 w3 le3 s3 f22 f23 ta4 w4 le4 s4 f25 f26 f27
  replace f0 := shm_2041 f0
  replace f1 := shm_732 f1
  replace f2 := shm_2040 f2
  replace f3 := shm_732 f3
  replace f4 := shm_2038 f4
  replace f5 := shm_2037 f5
  replace f6 := shm_597 f6
  replace f7 := shm_126 f7
  replace f8 := shm_127 f8
  replace f9 := shm_5 f9
  replace f10 := shm_1056 f10
  replace f12 := shm_2041 f12
  replace f13 := shm_2040 f13
  replace f14 := shm_2038 f14
  replace f15 := shm_2037 f15
  replace f17 := shm_2040 f17
  replace f18 := shm_21 f18
  replace f19 := shm_2038 f19
  replace f20 := shm_2037 f20
  replace f22 := shm_2038 f22
  replace f23 := shm_2037 f23
  replace f25 := shm_2037 f25
  replace f26 := shm_37 f26
  replace f27 := shm_6 f27
  have q3 : n_v vs 3 = n_v vs 0 := f9.symm
  simp only [q3] at f1 f3 f6 f7 f8 f10
  have cr_0_2 := fdq_10 hD hth r0
  have br_0_2_F5_0_0 : w_ei ws (w_ar ws (n_v vs 0) 2) (w_fi ws (n_v vs 0) 5 + 0) = w_el ws (w_ar ws (n_v vs 0) 2) (w_fi ws (n_v vs 0) 5 + 0).toNat := rfl
  have kz_0_170 := fdq_11 hD hth r0
  have kv0 := fdq_11 hD hth r0
  obtain ⟨x, ex, hx⟩ := iv_ex (ta := ta) (lo := 0) (hi := 99999999) (z := w_fi ws (n_v vs 0) 170) (by omega) (by omega) (by omega) (by omega)
  have ex2 : v_iv (Value.int x) = w_fi ws (n_v vs 0) 170 := ex
  have ex3 : 0 ≤ v_iv (Value.int x) ∧ v_iv (Value.int x) ≤ 99999999 := tv_rng hx
  have e_2 : n_v (vs ++ [Value.int x]) 2 = n_v vs 2 := n_v_old (by rw [hl]; decide)
  have e_3 : n_v (vs ++ [Value.int x]) 3 = n_v vs 3 := n_v_old (by rw [hl]; decide)
  have e_5 : n_v (vs ++ [Value.int x]) 5 = n_v vs 5 := n_v_old (by rw [hl]; decide)
  have e_18 : n_v (vs ++ [Value.int x]) 18 = Value.int x := n_v_new hl
  have nf0 : fc_1 PRD (20, [3, 18], [30, 0, 1, 1, 170, -1, 0, 0]) ws (vs ++ [Value.int x]) := by
    refine ⟨nf_inA hl rfl, sgq_131 ?_⟩
    · show 1 * w_fi ws (n_v (vs ++ [Value.int x]) 3) 170 + ((-1) * v_iv (n_v (vs ++ [Value.int x]) 18) + 0) ≤ 0
      simp only [e_3, e_18, q3]
      exact vc_Mo_writeGroup_at_l5_8_0 (v_iv (n_v vs 2)) (v_iv (n_v vs 4)) (v_iv (n_v vs 5)) (v_iv (n_v vs 6)) (v_iv (n_v vs 7)) (v_iv (n_v vs 9)) (v_iv (n_v vs 10)) (v_iv (n_v vs 11)) (v_iv (n_v vs 12)) (v_iv (n_v vs 14)) (v_iv (n_v vs 15)) (v_iv (n_v vs 16)) (w_ei ws (w_ar ws (n_v vs 0) 2)) (w_fi ws (n_v vs 0) 5) (w_fi ws (n_v vs 0) 170) (v_iv (Value.int x)) k2 k4 k5 k6 k7 k9 k10 k11 k12 k14 k15 k16 d0 d1 f0 f1 f2 f3 f4 f5 f6 f7 f8 f10 f12 f13 f14 f15 f17 f18 f19 f20 f22 f23 f25 f26 f27 kz_0_170 ex2 ex3
  have nf1 : fc_1 PRD (23, [18, 2, 5], [33, 1, -1, -36]) ws (vs ++ [Value.int x]) := by
    refine ⟨nf_inA hl rfl, sgq_2042 ?_⟩
    · show 1 * v_iv (n_v (vs ++ [Value.int x]) 18) + ((-1) * v_iv (n_v (vs ++ [Value.int x]) 2) + ((-36) * v_iv (n_v (vs ++ [Value.int x]) 5) + 0)) ≤ 33
      simp only [e_2, e_5, e_18]
      exact vc_Mo_writeGroup_at_l5_8_1 (v_iv (n_v vs 2)) (v_iv (n_v vs 4)) (v_iv (n_v vs 5)) (v_iv (n_v vs 6)) (v_iv (n_v vs 7)) (v_iv (n_v vs 9)) (v_iv (n_v vs 10)) (v_iv (n_v vs 11)) (v_iv (n_v vs 12)) (v_iv (n_v vs 14)) (v_iv (n_v vs 15)) (v_iv (n_v vs 16)) (w_ei ws (w_ar ws (n_v vs 0) 2)) (w_fi ws (n_v vs 0) 5) (w_fi ws (n_v vs 0) 170) (v_iv (Value.int x)) k2 k4 k5 k6 k7 k9 k10 k11 k12 k14 k15 k16 d0 d1 f0 f1 f2 f3 f4 f5 f6 f7 f8 f10 f12 f13 f14 f15 f17 f18 f19 f20 f22 f23 f25 f26 f27 kz_0_170 ex2 ex3
  exact ⟨(fun _ h => (by cases h)), [Value.int x], ag_one hx, List.forall_mem_cons.mpr ⟨⟨show (20 : Nat) < 100 from by decide, nf0⟩, List.forall_mem_cons.mpr ⟨⟨show (23 : Nat) < 100 from by decide, nf1⟩, (fun _ h => (by cases h))⟩⟩, (fun _ h => (by cases h))⟩
set_option maxHeartbeats 4000000 in
theorem vc_Mo_writeGroup_at_l5_9_0 (x2 : Int) (x4 : Int) (x5 : Int) (x6 : Int) (x7 : Int) (x9 : Int) (x10 : Int) (x11 : Int) (x12 : Int) (x14 : Int) (x15 : Int) (x16 : Int) (x18 : Int) (all_0 : Int → Int) (r_0 : Int) (texts_0 : Int) (gx : Int) (k2 : 0 ≤ x2 ∧ x2 ≤ 99995604) (k4 : 5 ≤ x4 ∧ x4 ≤ 7) (k5 : 0 ≤ x5 ∧ x5 ≤ 23) (k6 : 1 ≤ x6 ∧ x6 ≤ 24) (k7 : 5 ≤ x7 ∧ x7 ≤ 7) (k9 : 0 ≤ x9 ∧ x9 ≤ 99999995) (k10 : 0 ≤ x10 ∧ x10 ≤ 99999992) (k11 : 2 ≤ x11 ∧ x11 ≤ 99) (k12 : 1 ≤ x12 ∧ x12 ≤ 1) (k14 : 0 ≤ x14 ∧ x14 ≤ 99999993) (k15 : 0 ≤ x15 ∧ x15 ≤ 99) (k16 : 0 ≤ x16 ∧ x16 ≤ 99999987) (k18 : 0 ≤ x18 ∧ x18 ≤ 99999999) (d0 : x4 + 0 ≤ x7 ∧ x7 ≤ x4 + 0) (d1 : x6 + (-4294967296) ≤ x5 ∧ x5 ≤ x6 + (-1)) (f0 : 1 * x18 + ((-1) * x2 + ((-36) * x5 + 0)) ≤ 33) (f1 : 1 * x16 + ((-1) * x2 + ((-36) * x5 + 0)) ≤ 20) (f2 : x15 = all_0 (((r_0 + 219) + x5))) (f3 : 1 * x14 + ((-1) * x2 + ((-36) * x5 + 0)) ≤ 13) (f4 : x11 = all_0 (((r_0 + 219) + x5))) (f5 : 1 * x10 + ((-1) * x2 + ((-36) * x5 + 0)) ≤ 5) (f6 : 1 * x9 + ((-1) * x2 + ((-36) * x5 + 0)) ≤ 0) (f7 : x7 = all_0 (((r_0 + 243) + x5))) (f8 : 1 * x6 + ((-1) * all_0 (r_0 + 0) + 0) ≤ 0) (f9 : (-1) * x6 + (1 * all_0 (r_0 + 0) + 0) ≤ 0) (f11 : 1 * texts_0 + ((-1) * x18 + 0) ≤ 1) (f13 : 1 * x18 + ((-1) * x2 + ((-36) * x5 + 0)) ≤ 33) (f14 : 1 * x16 + ((-1) * x2 + ((-36) * x5 + 0)) ≤ 20) (f15 : 1 * x14 + ((-1) * x2 + ((-36) * x5 + 0)) ≤ 13) (f16 : 1 * x10 + ((-1) * x2 + ((-36) * x5 + 0)) ≤ 5) (f17 : 1 * x9 + ((-1) * x2 + ((-36) * x5 + 0)) ≤ 0) (f19 : 1 * x16 + ((-1) * x2 + ((-36) * x5 + 0)) ≤ 20) (f20 : 1 * x14 + ((-1) * x2 + ((-36) * x5 + 0)) ≤ 13) (f21 : 1 * x10 + ((-1) * x2 + ((-36) * x5 + 0)) ≤ 5) (f22 : 1 * x9 + ((-1) * x2 + ((-36) * x5 + 0)) ≤ 0) (f24 : 1 * x14 + ((-1) * x2 + ((-36) * x5 + 0)) ≤ 13) (f25 : x12 < x11) (f26 : 1 * x10 + ((-1) * x2 + ((-36) * x5 + 0)) ≤ 5) (f27 : 1 * x9 + ((-1) * x2 + ((-36) * x5 + 0)) ≤ 0) (f29 : 1 * x10 + ((-1) * x2 + ((-36) * x5 + 0)) ≤ 5) (f30 : 1 * x9 + ((-1) * x2 + ((-36) * x5 + 0)) ≤ 0) (f32 : 1 * x9 + ((-1) * x2 + ((-36) * x5 + 0)) ≤ 0) (f33 : x7 = x4) (f34 : x5 < x6) (kz_0_170 : 0 ≤ texts_0 ∧ texts_0 ≤ 100000000) (ex2 : gx = texts_0) (ex3 : 0 ≤ gx ∧ gx ≤ 99999998) : 1 * texts_0 + ((-1) * gx + 0) ≤ 0 := by
  first | assumption | omega | grind
set_option maxHeartbeats 4000000 in
theorem vc_Mo_writeGroup_at_l5_9_1 (x2 : Int) (x4 : Int) (x5 : Int) (x6 : Int) (x7 : Int) (x9 : Int) (x10 : Int) (x11 : Int) (x12 : Int) (x14 : Int) (x15 : Int) (x16 : Int) (x18 : Int) (all_0 : Int → Int) (r_0 : Int) (texts_0 : Int) (gx : Int) (k2 : 0 ≤ x2 ∧ x2 ≤ 99995604) (k4 : 5 ≤ x4 ∧ x4 ≤ 7) (k5 : 0 ≤ x5 ∧ x5 ≤ 23) (k6 : 1 ≤ x6 ∧ x6 ≤ 24) (k7 : 5 ≤ x7 ∧ x7 ≤ 7) (k9 : 0 ≤ x9 ∧ x9 ≤ 99999995) (k10 : 0 ≤ x10 ∧ x10 ≤ 99999992) (k11 : 2 ≤ x11 ∧ x11 ≤ 99) (k12 : 1 ≤ x12 ∧ x12 ≤ 1) (k14 : 0 ≤ x14 ∧ x14 ≤ 99999993) (k15 : 0 ≤ x15 ∧ x15 ≤ 99) (k16 : 0 ≤ x16 ∧ x16 ≤ 99999987) (k18 : 0 ≤ x18 ∧ x18 ≤ 99999999) (d0 : x4 + 0 ≤ x7 ∧ x7 ≤ x4 + 0) (d1 : x6 + (-4294967296) ≤ x5 ∧ x5 ≤ x6 + (-1)) (f0 : 1 * x18 + ((-1) * x2 + ((-36) * x5 + 0)) ≤ 33) (f1 : 1 * x16 + ((-1) * x2 + ((-36) * x5 + 0)) ≤ 20) (f2 : x15 = all_0 (((r_0 + 219) + x5))) (f3 : 1 * x14 + ((-1) * x2 + ((-36) * x5 + 0)) ≤ 13) (f4 : x11 = all_0 (((r_0 + 219) + x5))) (f5 : 1 * x10 + ((-1) * x2 + ((-36) * x5 + 0)) ≤ 5) (f6 : 1 * x9 + ((-1) * x2 + ((-36) * x5 + 0)) ≤ 0) (f7 : x7 = all_0 (((r_0 + 243) + x5))) (f8 : 1 * x6 + ((-1) * all_0 (r_0 + 0) + 0) ≤ 0) (f9 : (-1) * x6 + (1 * all_0 (r_0 + 0) + 0) ≤ 0) (f11 : 1 * texts_0 + ((-1) * x18 + 0) ≤ 1) (f13 : 1 * x18 + ((-1) * x2 + ((-36) * x5 + 0)) ≤ 33) (f14 : 1 * x16 + ((-1) * x2 + ((-36) * x5 + 0)) ≤ 20) (f15 : 1 * x14 + ((-1) * x2 + ((-36) * x5 + 0)) ≤ 13) (f16 : 1 * x10 + ((-1) * x2 + ((-36) * x5 + 0)) ≤ 5) (f17 : 1 * x9 + ((-1) * x2 + ((-36) * x5 + 0)) ≤ 0) (f19 : 1 * x16 + ((-1) * x2 + ((-36) * x5 + 0)) ≤ 20) (f20 : 1 * x14 + ((-1) * x2 + ((-36) * x5 + 0)) ≤ 13) (f21 : 1 * x10 + ((-1) * x2 + ((-36) * x5 + 0)) ≤ 5) (f22 : 1 * x9 + ((-1) * x2 + ((-36) * x5 + 0)) ≤ 0) (f24 : 1 * x14 + ((-1) * x2 + ((-36) * x5 + 0)) ≤ 13) (f25 : x12 < x11) (f26 : 1 * x10 + ((-1) * x2 + ((-36) * x5 + 0)) ≤ 5) (f27 : 1 * x9 + ((-1) * x2 + ((-36) * x5 + 0)) ≤ 0) (f29 : 1 * x10 + ((-1) * x2 + ((-36) * x5 + 0)) ≤ 5) (f30 : 1 * x9 + ((-1) * x2 + ((-36) * x5 + 0)) ≤ 0) (f32 : 1 * x9 + ((-1) * x2 + ((-36) * x5 + 0)) ≤ 0) (f33 : x7 = x4) (f34 : x5 < x6) (kz_0_170 : 0 ≤ texts_0 ∧ texts_0 ≤ 100000000) (ex2 : gx = texts_0) (ex3 : 0 ≤ gx ∧ gx ≤ 99999998) : 1 * gx + ((-1) * x2 + ((-36) * x5 + 0)) ≤ 34 := by
  first | assumption | omega | grind
def o_Mo_writeGroup_at_l5_9 : or_T := (70, 20, [(0, (2, 0, 0, [165])), (2, (0, 0, 99995604, [])), (3, (2, 0, 0, [165])), (4, (0, 5, 7, [])), (5, (0, 0, 23, [])), (6, (0, 1, 24, [])), (7, (0, 5, 7, [])), (9, (0, 0, 99999995, [])), (10, (0, 0, 99999992, [])), (11, (0, 2, 99, [])), (12, (0, 1, 1, [])), (14, (0, 0, 99999993, [])), (15, (0, 0, 99, [])), (16, (0, 0, 99999987, [])), (18, (0, 0, 99999999, []))], [(23, [18, 2, 5], [33, 1, -1, -36]), (23, [16, 2, 5], [20, 1, -1, -36]), (20, [15, 3, 5], [50, 1, 1, 1005, 1002, 1, 2, 1, 0, 3, 1, 2, 4, 7, 4, 3, 2, 1, 5, 0, 219, 1, 2]), (23, [14, 2, 5], [13, 1, -1, -36]), (20, [11, 3, 5], [50, 1, 1, 1005, 1002, 1, 2, 1, 0, 3, 1, 2, 4, 7, 4, 3, 2, 1, 5, 0, 219, 1, 2]), (23, [10, 2, 5], [5, 1, -1, -36]), (23, [9, 2, 5], [0, 1, -1, -36]), (20, [7, 3, 5], [50, 1, 1, 1005, 1002, 1, 2, 1, 0, 3, 1, 2, 4, 7, 4, 3, 2, 1, 5, 0, 243, 1, 2]), (20, [6, 3], [30, 0, 1, 0, 0, -1, 3, 2005000]), (20, [6, 3], [30, 0, -1, 0, 0, 1, 3, 2005000]), (24, [0, 3], []), (20, [3, 18], [30, 1, 1, 1, 170, -1, 0, 0]), (102, [18], [7770675568902916283677847627294075626569627356208558085007249638955617140820833992704, 165170]), (23, [18, 2, 5], [33, 1, -1, -36]), (23, [16, 2, 5], [20, 1, -1, -36]), (23, [14, 2, 5], [13, 1, -1, -36]), (23, [10, 2, 5], [5, 1, -1, -36]), (23, [9, 2, 5], [0, 1, -1, -36]), (102, [16], [7770675568902916283677847627294075626569627356208558085007249638955617140820833992704, 165170]), (23, [16, 2, 5], [20, 1, -1, -36]), (23, [14, 2, 5], [13, 1, -1, -36]), (23, [10, 2, 5], [5, 1, -1, -36]), (23, [9, 2, 5], [0, 1, -1, -36]), (102, [14], [7770675568902916283677847627294075626569627356208558085007249638955617140820833992704, 165170]), (23, [14, 2, 5], [13, 1, -1, -36]), (7, [11, 12], [4]), (23, [10, 2, 5], [5, 1, -1, -36]), (23, [9, 2, 5], [0, 1, -1, -36]), (102, [10], [7770675568902916283677847627294075626569627356208558085007249638955617140820833992704, 165170]), (23, [10, 2, 5], [5, 1, -1, -36]), (23, [9, 2, 5], [0, 1, -1, -36]), (102, [9], [7770675568902916283677847627294075626569627356208558085007249638955617140820833992704, 165170]), (23, [9, 2, 5], [0, 1, -1, -36]), (7, [7, 4], [0]), (7, [5, 6], [2])], [], [(0, 0, 99999998, [])], [(20, [3, 20], [30, 0, 1, 1, 170, -1, 0, 0]), (23, [20, 2, 5], [34, 1, -1, -36])], [], [(7, 4, 0, 0), (5, 6, -4294967296, -1)])
theorem oo_Mo_writeGroup_at_l5_9 {kA : Nat → ClassId} : or_ok PRD kA GG o_Mo_writeGroup_at_l5_9 := by
  refine or_mk fun A ta ws vs hD hth hl => ?_
  intro t0 r0 t2 k2 t3 r3 t4 k4 t5 k5 t6 k6 t7 k7 t9 k9 t10 k10 t11 k11 t12 k12 t14 k14 t15 k15 t16 k16 t18 k18 d0 d1 f0 f1 f2 f3 f4 f5 f6 f7 f8 f9 f10 f11 ta1 w1 le1 s1 f13 f14 f15 f16 f17 ta2 w2 le2 s2 f19 f20 f21 f22 ta3 w3 le3 s3 f24 f25 f26 f27 ta4 w4 le4 s4 f29 f30 ta5 w5 le5 s5 f32 f33 f34
  replace f0 := shm_2042 f0
  replace f1 := shm_2041 f1
  replace f2 := shm_732 f2
  replace f3 := shm_2040 f3
  replace f4 := shm_732 f4
  replace f5 := shm_2038 f5
  replace f6 := shm_2037 f6
  replace f7 := shm_597 f7
  replace f8 := shm_126 f8
  replace f9 := shm_127 f9
  replace f10 := shm_5 f10
  replace f11 := shm_132 f11
  replace f13 := shm_2042 f13
  replace f14 := shm_2041 f14
  replace f15 := shm_2040 f15
  replace f16 := shm_2038 f16
  replace f17 := shm_2037 f17
  replace f19 := shm_2041 f19
  replace f20 := shm_2040 f20
  replace f21 := shm_2038 f21
  replace f22 := shm_2037 f22
  replace f24 := shm_2040 f24
  replace f25 := shm_21 f25
  replace f26 := shm_2038 f26
  replace f27 := shm_2037 f27
  replace f29 := shm_2038 f29
  replace f30 := shm_2037 f30
  replace f32 := shm_2037 f32
  replace f33 := shm_37 f33
  replace f34 := shm_6 f34
  have q3 : n_v vs 3 = n_v vs 0 := f10.symm
  simp only [q3] at f2 f4 f7 f8 f9 f11
  have cr_0_2 := fdq_10 hD hth r0
  have br_0_2_F5_0_0 : w_ei ws (w_ar ws (n_v vs 0) 2) (w_fi ws (n_v vs 0) 5 + 0) = w_el ws (w_ar ws (n_v vs 0) 2) (w_fi ws (n_v vs 0) 5 + 0).toNat := rfl
  have kz_0_170 := fdq_11 hD hth r0
  have kv0 := fdq_11 hD hth r0
  obtain ⟨x, ex, hx⟩ := iv_ex (ta := ta) (lo := 0) (hi := 99999998) (z := w_fi ws (n_v vs 0) 170) (by omega) (by omega) (by omega) (by omega)
  have ex2 : v_iv (Value.int x) = w_fi ws (n_v vs 0) 170 := ex
  have ex3 : 0 ≤ v_iv (Value.int x) ∧ v_iv (Value.int x) ≤ 99999998 := tv_rng hx
  have e_2 : n_v (vs ++ [Value.int x]) 2 = n_v vs 2 := n_v_old (by rw [hl]; decide)
  have e_3 : n_v (vs ++ [Value.int x]) 3 = n_v vs 3 := n_v_old (by rw [hl]; decide)
  have e_5 : n_v (vs ++ [Value.int x]) 5 = n_v vs 5 := n_v_old (by rw [hl]; decide)
  have e_20 : n_v (vs ++ [Value.int x]) 20 = Value.int x := n_v_new hl
  have nf0 : fc_1 PRD (20, [3, 20], [30, 0, 1, 1, 170, -1, 0, 0]) ws (vs ++ [Value.int x]) := by
    refine ⟨nf_inA hl rfl, sgq_131 ?_⟩
    · show 1 * w_fi ws (n_v (vs ++ [Value.int x]) 3) 170 + ((-1) * v_iv (n_v (vs ++ [Value.int x]) 20) + 0) ≤ 0
      simp only [e_3, e_20, q3]
      exact vc_Mo_writeGroup_at_l5_9_0 (v_iv (n_v vs 2)) (v_iv (n_v vs 4)) (v_iv (n_v vs 5)) (v_iv (n_v vs 6)) (v_iv (n_v vs 7)) (v_iv (n_v vs 9)) (v_iv (n_v vs 10)) (v_iv (n_v vs 11)) (v_iv (n_v vs 12)) (v_iv (n_v vs 14)) (v_iv (n_v vs 15)) (v_iv (n_v vs 16)) (v_iv (n_v vs 18)) (w_ei ws (w_ar ws (n_v vs 0) 2)) (w_fi ws (n_v vs 0) 5) (w_fi ws (n_v vs 0) 170) (v_iv (Value.int x)) k2 k4 k5 k6 k7 k9 k10 k11 k12 k14 k15 k16 k18 d0 d1 f0 f1 f2 f3 f4 f5 f6 f7 f8 f9 f11 f13 f14 f15 f16 f17 f19 f20 f21 f22 f24 f25 f26 f27 f29 f30 f32 f33 f34 kz_0_170 ex2 ex3
  have nf1 : fc_1 PRD (23, [20, 2, 5], [34, 1, -1, -36]) ws (vs ++ [Value.int x]) := by
    refine ⟨nf_inA hl rfl, sgq_2039 ?_⟩
    · show 1 * v_iv (n_v (vs ++ [Value.int x]) 20) + ((-1) * v_iv (n_v (vs ++ [Value.int x]) 2) + ((-36) * v_iv (n_v (vs ++ [Value.int x]) 5) + 0)) ≤ 34
      simp only [e_2, e_5, e_20]
      exact vc_Mo_writeGroup_at_l5_9_1 (v_iv (n_v vs 2)) (v_iv (n_v vs 4)) (v_iv (n_v vs 5)) (v_iv (n_v vs 6)) (v_iv (n_v vs 7)) (v_iv (n_v vs 9)) (v_iv (n_v vs 10)) (v_iv (n_v vs 11)) (v_iv (n_v vs 12)) (v_iv (n_v vs 14)) (v_iv (n_v vs 15)) (v_iv (n_v vs 16)) (v_iv (n_v vs 18)) (w_ei ws (w_ar ws (n_v vs 0) 2)) (w_fi ws (n_v vs 0) 5) (w_fi ws (n_v vs 0) 170) (v_iv (Value.int x)) k2 k4 k5 k6 k7 k9 k10 k11 k12 k14 k15 k16 k18 d0 d1 f0 f1 f2 f3 f4 f5 f6 f7 f8 f9 f11 f13 f14 f15 f16 f17 f19 f20 f21 f22 f24 f25 f26 f27 f29 f30 f32 f33 f34 kz_0_170 ex2 ex3
  exact ⟨(fun _ h => (by cases h)), [Value.int x], ag_one hx, List.forall_mem_cons.mpr ⟨⟨show (20 : Nat) < 100 from by decide, nf0⟩, List.forall_mem_cons.mpr ⟨⟨show (23 : Nat) < 100 from by decide, nf1⟩, (fun _ h => (by cases h))⟩⟩, (fun _ h => (by cases h))⟩
set_option maxHeartbeats 4000000 in
theorem vc_Mo_writeGroup_at_l5_10_0 (x2 : Int) (x4 : Int) (x5 : Int) (x6 : Int) (x7 : Int) (x9 : Int) (x10 : Int) (x11 : Int) (x12 : Int) (x14 : Int) (x15 : Int) (x16 : Int) (x18 : Int) (x20 : Int) (x21 : Int) (all_0 : Int → Int) (r_0 : Int) (texts_0 : Int) (k2 : 0 ≤ x2 ∧ x2 ≤ 99995604) (k4 : 5 ≤ x4 ∧ x4 ≤ 7) (k5 : 0 ≤ x5 ∧ x5 ≤ 23) (k6 : 1 ≤ x6 ∧ x6 ≤ 24) (k7 : 5 ≤ x7 ∧ x7 ≤ 7) (k9 : 0 ≤ x9 ∧ x9 ≤ 99999995) (k10 : 0 ≤ x10 ∧ x10 ≤ 99999992) (k11 : 2 ≤ x11 ∧ x11 ≤ 99) (k12 : 1 ≤ x12 ∧ x12 ≤ 1) (k14 : 0 ≤ x14 ∧ x14 ≤ 99999993) (k15 : 0 ≤ x15 ∧ x15 ≤ 99) (k16 : 0 ≤ x16 ∧ x16 ≤ 99999987) (k18 : 0 ≤ x18 ∧ x18 ≤ 99999999) (k20 : 0 ≤ x20 ∧ x20 ≤ 99999998) (k21 : 1 ≤ x21 ∧ x21 ≤ 24) (d0 : x5 + 1 ≤ x21 ∧ x21 ≤ x5 + 1) (d1 : x6 + (-4294967296) ≤ x21 ∧ x21 ≤ x6 + 0) (d2 : x4 + 0 ≤ x7 ∧ x7 ≤ x4 + 0) (d3 : x6 + (-4294967296) ≤ x5 ∧ x5 ≤ x6 + (-1)) (f0 : x21 = x5 + 1) (f1 : 1 * x20 + ((-1) * x2 + ((-36) * x5 + 0)) ≤ 34) (f2 : 1 * x18 + ((-1) * x2 + ((-36) * x5 + 0)) ≤ 33) (f3 : 1 * x16 + ((-1) * x2 + ((-36) * x5 + 0)) ≤ 20) (f4 : x15 = all_0 (((r_0 + 219) + x5))) (f5 : 1 * x14 + ((-1) * x2 + ((-36) * x5 + 0)) ≤ 13) (f6 : x11 = all_0 (((r_0 + 219) + x5))) (f7 : 1 * x10 + ((-1) * x2 + ((-36) * x5 + 0)) ≤ 5) (f8 : 1 * x9 + ((-1) * x2 + ((-36) * x5 + 0)) ≤ 0) (f9 : x7 = all_0 (((r_0 + 243) + x5))) (f10 : 1 * x6 + ((-1) * all_0 (r_0 + 0) + 0) ≤ 0) (f11 : (-1) * x6 + (1 * all_0 (r_0 + 0) + 0) ≤ 0) (f13 : 1 * texts_0 + ((-1) * x20 + 0) ≤ 2) (f15 : 1 * x20 + ((-1) * x2 + ((-36) * x5 + 0)) ≤ 34) (f16 : 1 * x18 + ((-1) * x2 + ((-36) * x5 + 0)) ≤ 33) (f17 : 1 * x16 + ((-1) * x2 + ((-36) * x5 + 0)) ≤ 20) (f18 : 1 * x14 + ((-1) * x2 + ((-36) * x5 + 0)) ≤ 13) (f19 : 1 * x10 + ((-1) * x2 + ((-36) * x5 + 0)) ≤ 5) (f20 : 1 * x9 + ((-1) * x2 + ((-36) * x5 + 0)) ≤ 0) (f22 : 1 * x18 + ((-1) * x2 + ((-36) * x5 + 0)) ≤ 33) (f23 : 1 * x16 + ((-1) * x2 + ((-36) * x5 + 0)) ≤ 20) (f24 : 1 * x14 + ((-1) * x2 + ((-36) * x5 + 0)) ≤ 13) (f25 : 1 * x10 + ((-1) * x2 + ((-36) * x5 + 0)) ≤ 5) (f26 : 1 * x9 + ((-1) * x2 + ((-36) * x5 + 0)) ≤ 0) (f28 : 1 * x16 + ((-1) * x2 + ((-36) * x5 + 0)) ≤ 20) (f29 : 1 * x14 + ((-1) * x2 + ((-36) * x5 + 0)) ≤ 13) (f30 : 1 * x10 + ((-1) * x2 + ((-36) * x5 + 0)) ≤ 5) (f31 : 1 * x9 + ((-1) * x2 + ((-36) * x5 + 0)) ≤ 0) (f33 : 1 * x14 + ((-1) * x2 + ((-36) * x5 + 0)) ≤ 13) (f34 : x12 < x11) (f35 : 1 * x10 + ((-1) * x2 + ((-36) * x5 + 0)) ≤ 5) (f36 : 1 * x9 + ((-1) * x2 + ((-36) * x5 + 0)) ≤ 0) (f38 : 1 * x10 + ((-1) * x2 + ((-36) * x5 + 0)) ≤ 5) (f39 : 1 * x9 + ((-1) * x2 + ((-36) * x5 + 0)) ≤ 0) (f41 : 1 * x9 + ((-1) * x2 + ((-36) * x5 + 0)) ≤ 0) (f42 : x7 = x4) (f43 : x5 < x6) (kz_0_170 : 0 ≤ texts_0 ∧ texts_0 ≤ 100000000) : 1 * texts_0 + ((-1) * x2 + ((-36) * x21 + 0)) ≤ 0 := by
  first | assumption | omega | grind
def o_Mo_writeGroup_at_l5_10 : or_T := (2, 22, [(0, (2, 0, 0, [165])), (2, (0, 0, 99995604, [])), (4, (0, 5, 7, [])), (5, (0, 0, 23, [])), (6, (0, 1, 24, [])), (7, (0, 5, 7, [])), (9, (0, 0, 99999995, [])), (10, (0, 0, 99999992, [])), (11, (0, 2, 99, [])), (12, (0, 1, 1, [])), (14, (0, 0, 99999993, [])), (15, (0, 0, 99, [])), (16, (0, 0, 99999987, [])), (18, (0, 0, 99999999, [])), (20, (0, 0, 99999998, [])), (21, (0, 1, 24, []))], [(6, [21, 5], [1]), (23, [20, 2, 5], [34, 1, -1, -36]), (23, [18, 2, 5], [33, 1, -1, -36]), (23, [16, 2, 5], [20, 1, -1, -36]), (20, [15, 3, 5], [50, 1, 1, 1005, 1002, 1, 2, 1, 0, 3, 1, 2, 4, 7, 4, 3, 2, 1, 5, 0, 219, 1, 2]), (23, [14, 2, 5], [13, 1, -1, -36]), (20, [11, 3, 5], [50, 1, 1, 1005, 1002, 1, 2, 1, 0, 3, 1, 2, 4, 7, 4, 3, 2, 1, 5, 0, 219, 1, 2]), (23, [10, 2, 5], [5, 1, -1, -36]), (23, [9, 2, 5], [0, 1, -1, -36]), (20, [7, 3, 5], [50, 1, 1, 1005, 1002, 1, 2, 1, 0, 3, 1, 2, 4, 7, 4, 3, 2, 1, 5, 0, 243, 1, 2]), (20, [6, 3], [30, 0, 1, 0, 0, -1, 3, 2005000]), (20, [6, 3], [30, 0, -1, 0, 0, 1, 3, 2005000]), (24, [0, 3], []), (20, [3, 20], [30, 2, 1, 1, 170, -1, 0, 0]), (102, [20], [7770675568902916283677847627294075626569627356208558085007249638955617140820833992704, 165170]), (23, [20, 2, 5], [34, 1, -1, -36]), (23, [18, 2, 5], [33, 1, -1, -36]), (23, [16, 2, 5], [20, 1, -1, -36]), (23, [14, 2, 5], [13, 1, -1, -36]), (23, [10, 2, 5], [5, 1, -1, -36]), (23, [9, 2, 5], [0, 1, -1, -36]), (102, [18], [7770675568902916283677847627294075626569627356208558085007249638955617140820833992704, 165170]), (23, [18, 2, 5], [33, 1, -1, -36]), (23, [16, 2, 5], [20, 1, -1, -36]), (23, [14, 2, 5], [13, 1, -1, -36]), (23, [10, 2, 5], [5, 1, -1, -36]), (23, [9, 2, 5], [0, 1, -1, -36]), (102, [16], [7770675568902916283677847627294075626569627356208558085007249638955617140820833992704, 165170]), (23, [16, 2, 5], [20, 1, -1, -36]), (23, [14, 2, 5], [13, 1, -1, -36]), (23, [10, 2, 5], [5, 1, -1, -36]), (23, [9, 2, 5], [0, 1, -1, -36]), (102, [14], [7770675568902916283677847627294075626569627356208558085007249638955617140820833992704, 165170]), (23, [14, 2, 5], [13, 1, -1, -36]), (7, [11, 12], [4]), (23, [10, 2, 5], [5, 1, -1, -36]), (23, [9, 2, 5], [0, 1, -1, -36]), (102, [10], [7770675568902916283677847627294075626569627356208558085007249638955617140820833992704, 165170]), (23, [10, 2, 5], [5, 1, -1, -36]), (23, [9, 2, 5], [0, 1, -1, -36]), (102, [9], [7770675568902916283677847627294075626569627356208558085007249638955617140820833992704, 165170]), (23, [9, 2, 5], [0, 1, -1, -36]), (7, [7, 4], [0]), (7, [5, 6], [2])], [], [], [(20, [3, 2, 21], [30, 0, 1, 1, 170, -1, 0, 0, -36, 0, 0])], [], [(21, 5, 1, 1), (21, 6, -4294967296, 0), (7, 4, 0, 0), (5, 6, -4294967296, -1)])
theorem oo_Mo_writeGroup_at_l5_10 {kA : Nat → ClassId} : or_ok PRD kA GG o_Mo_writeGroup_at_l5_10 := by
  refine or_mk fun A ta ws vs hD hth hl => ?_
  intro t0 r0 t2 k2 t4 k4 t5 k5 t6 k6 t7 k7 t9 k9 t10 k10 t11 k11 t12 k12 t14 k14 t15 k15 t16 k16 t18 k18 t20 k20 t21 k21 d0 d1 d2 d3 f0 f1 f2 f3 f4 f5 f6 f7 f8 f9 f10 f11 f12 f13 ta1 w1 le1 s1 f15 f16 f17 f18 f19 f20 ta2 w2 le2 s2 f22 f23 f24 f25 f26 ta3 w3 le3 s3 f28 f29 f30 f31 ta4 w4 le4 s4 f33 f34 f35 f36 ta5 w5 le5 s5 f38 f39 ta6 w6 le6 s6 f41 f42 f43
  replace f0 := shm_4 f0
  replace f1 := shm_2039 f1
  replace f2 := shm_2042 f2
  replace f3 := shm_2041 f3
  replace f4 := shm_732 f4
  replace f5 := shm_2040 f5
  replace f6 := shm_732 f6
  replace f7 := shm_2038 f7
  replace f8 := shm_2037 f8
  replace f9 := shm_597 f9
  replace f10 := shm_126 f10
  replace f11 := shm_127 f11
  replace f12 := shm_5 f12
  replace f13 := shm_210 f13
  replace f15 := shm_2039 f15
  replace f16 := shm_2042 f16
  replace f17 := shm_2041 f17
  replace f18 := shm_2040 f18
  replace f19 := shm_2038 f19
  replace f20 := shm_2037 f20
  replace f22 := shm_2042 f22
  replace f23 := shm_2041 f23
  replace f24 := shm_2040 f24
  replace f25 := shm_2038 f25
  replace f26 := shm_2037 f26
  replace f28 := shm_2041 f28
  replace f29 := shm_2040 f29
  replace f30 := shm_2038 f30
  replace f31 := shm_2037 f31
  replace f33 := shm_2040 f33
  replace f34 := shm_21 f34
  replace f35 := shm_2038 f35
  replace f36 := shm_2037 f36
  replace f38 := shm_2038 f38
  replace f39 := shm_2037 f39
  replace f41 := shm_2037 f41
  replace f42 := shm_37 f42
  replace f43 := shm_6 f43
  have q3 : n_v vs 3 = n_v vs 0 := f12.symm
  simp only [q3] at f4 f6 f9 f10 f11 f13
  have kz_0_170 := fdq_11 hD hth r0
  have nf0 : fc_1 PRD (20, [3, 2, 21], [30, 0, 1, 1, 170, -1, 0, 0, -36, 0, 0]) ws (vs) := by
    refine ⟨nf_in hl rfl, sgq_2035 ?_⟩
    · show 1 * w_fi ws (n_v vs 3) 170 + ((-1) * v_iv (n_v vs 2) + ((-36) * v_iv (n_v vs 21) + 0)) ≤ 0
      rw [q3]
      exact vc_Mo_writeGroup_at_l5_10_0 (v_iv (n_v vs 2)) (v_iv (n_v vs 4)) (v_iv (n_v vs 5)) (v_iv (n_v vs 6)) (v_iv (n_v vs 7)) (v_iv (n_v vs 9)) (v_iv (n_v vs 10)) (v_iv (n_v vs 11)) (v_iv (n_v vs 12)) (v_iv (n_v vs 14)) (v_iv (n_v vs 15)) (v_iv (n_v vs 16)) (v_iv (n_v vs 18)) (v_iv (n_v vs 20)) (v_iv (n_v vs 21)) (w_ei ws (w_ar ws (n_v vs 0) 2)) (w_fi ws (n_v vs 0) 5) (w_fi ws (n_v vs 0) 170) k2 k4 k5 k6 k7 k9 k10 k11 k12 k14 k15 k16 k18 k20 k21 d0 d1 d2 d3 f0 f1 f2 f3 f4 f5 f6 f7 f8 f9 f10 f11 f13 f15 f16 f17 f18 f19 f20 f22 f23 f24 f25 f26 f28 f29 f30 f31 f33 f34 f35 f36 f38 f39 f41 f42 f43 kz_0_170
  refine ⟨(fun _ h => (by cases h)), [], trivial, ?_, (fun _ h => (by cases h))⟩
  rw [List.append_nil]
  exact List.forall_mem_cons.mpr ⟨⟨show (20 : Nat) < 100 from by decide, nf0⟩, (fun _ h => (by cases h))⟩
set_option maxHeartbeats 4000000 in
theorem vc_Mo_writeGroup_at_l5_11_0 (x2 : Int) (x4 : Int) (x5 : Int) (x6 : Int) (x7 : Int) (x8 : Int) (all_0 : Int → Int) (r_0 : Int) (texts_0 : Int) (k2 : 0 ≤ x2 ∧ x2 ≤ 99995604) (k4 : 5 ≤ x4 ∧ x4 ≤ 7) (k5 : 0 ≤ x5 ∧ x5 ≤ 23) (k6 : 1 ≤ x6 ∧ x6 ≤ 24) (k7 : 0 ≤ x7 ∧ x7 ≤ 7) (k8 : 1 ≤ x8 ∧ x8 ≤ 24) (d0 : x5 + 1 ≤ x8 ∧ x8 ≤ x5 + 1) (d1 : x6 + (-4294967296) ≤ x8 ∧ x8 ≤ x6 + 0) (d2 : x6 + (-4294967296) ≤ x5 ∧ x5 ≤ x6 + (-1)) (f0 : x8 = x5 + 1) (f1 : x7 ≠ x4) (f2 : x7 = all_0 (((r_0 + 243) + x5))) (f3 : x5 < x6) (f4 : 1 * x6 + ((-1) * all_0 (r_0 + 0) + 0) ≤ 0) (f5 : (-1) * x6 + (1 * all_0 (r_0 + 0) + 0) ≤ 0) (f6 : 1 * texts_0 + ((-1) * x2 + ((-36) * x5 + 0)) ≤ 0) (kz_0_170 : 0 ≤ texts_0 ∧ texts_0 ≤ 100000000) : 1 * texts_0 + ((-1) * x2 + ((-36) * x8 + 0)) ≤ 0 := by
  first | assumption | omega | grind
def o_Mo_writeGroup_at_l5_11 : or_T := (2, 9, [(0, (2, 0, 0, [165])), (2, (0, 0, 99995604, [])), (4, (0, 5, 7, [])), (5, (0, 0, 23, [])), (6, (0, 1, 24, [])), (7, (0, 0, 7, [])), (8, (0, 1, 24, []))], [(6, [8, 5], [1]), (7, [7, 4], [1]), (20, [7, 3, 5], [50, 1, 1, 1005, 1002, 1, 2, 1, 0, 3, 1, 2, 4, 7, 4, 3, 2, 1, 5, 0, 243, 1, 2]), (7, [5, 6], [2]), (20, [6, 3], [30, 0, 1, 0, 0, -1, 3, 2005000]), (20, [6, 3], [30, 0, -1, 0, 0, 1, 3, 2005000]), (20, [3, 2, 5], [30, 0, 1, 1, 170, -1, 0, 0, -36, 0, 0]), (24, [0, 3], [])], [], [], [(20, [3, 2, 8], [30, 0, 1, 1, 170, -1, 0, 0, -36, 0, 0])], [], [(8, 5, 1, 1), (8, 6, -4294967296, 0), (5, 6, -4294967296, -1)])
theorem oo_Mo_writeGroup_at_l5_11 {kA : Nat → ClassId} : or_ok PRD kA GG o_Mo_writeGroup_at_l5_11 := by
  refine or_mk fun A ta ws vs hD hth hl => ?_
  intro t0 r0 t2 k2 t4 k4 t5 k5 t6 k6 t7 k7 t8 k8 d0 d1 d2 f0 f1 f2 f3 f4 f5 f6 f7
  replace f0 := shm_4 f0
  replace f1 := shm_40 f1
  replace f2 := shm_597 f2
  replace f3 := shm_6 f3
  replace f4 := shm_126 f4
  replace f5 := shm_127 f5
  replace f6 := shm_2035 f6
  replace f7 := shm_5 f7
  have q3 : n_v vs 3 = n_v vs 0 := f7.symm
  simp only [q3] at f2 f4 f5 f6
  have kz_0_170 := fdq_11 hD hth r0
  have nf0 : fc_1 PRD (20, [3, 2, 8], [30, 0, 1, 1, 170, -1, 0, 0, -36, 0, 0]) ws (vs) := by
    refine ⟨nf_in hl rfl, sgq_2035 ?_⟩
    · show 1 * w_fi ws (n_v vs 3) 170 + ((-1) * v_iv (n_v vs 2) + ((-36) * v_iv (n_v vs 8) + 0)) ≤ 0
      rw [q3]
      exact vc_Mo_writeGroup_at_l5_11_0 (v_iv (n_v vs 2)) (v_iv (n_v vs 4)) (v_iv (n_v vs 5)) (v_iv (n_v vs 6)) (v_iv (n_v vs 7)) (v_iv (n_v vs 8)) (w_ei ws (w_ar ws (n_v vs 0) 2)) (w_fi ws (n_v vs 0) 5) (w_fi ws (n_v vs 0) 170) k2 k4 k5 k6 k7 k8 d0 d1 d2 f0 f1 f2 f3 f4 f5 f6 kz_0_170
  refine ⟨(fun _ h => (by cases h)), [], trivial, ?_, (fun _ h => (by cases h))⟩
  rw [List.append_nil]
  exact List.forall_mem_cons.mpr ⟨⟨show (20 : Nat) < 100 from by decide, nf0⟩, (fun _ h => (by cases h))⟩
set_option maxHeartbeats 4000000 in
theorem vc_Mo_writeGroup_at_l5_12_0 (x2 : Int) (x4 : Int) (x5 : Int) (x6 : Int) (all_0 : Int → Int) (r_0 : Int) (texts_0 : Int) (k2 : 0 ≤ x2 ∧ x2 ≤ 99995604) (k4 : 5 ≤ x4 ∧ x4 ≤ 7) (k5 : 6 ≤ x5 ∧ x5 ≤ 8) (k6 : 0 ≤ x6 ∧ x6 ≤ 8) (d0 : x6 + 0 ≤ x5 ∧ x5 ≤ x6 + 4294967296) (d1 : x5 + (-4294967296) ≤ x4 ∧ x4 ≤ x5 + (-1)) (f0 : x6 ≤ x5) (f1 : 1 * x6 + ((-1) * all_0 (r_0 + 2) + 0) ≤ 0) (f2 : (-1) * x6 + (1 * all_0 (r_0 + 2) + 0) ≤ 0) (f3 : 1 * texts_0 + ((-1) * x2 + ((-1766) * x5 + (1766 * x4 + 0))) ≤ (-902)) (kz_0_170 : 0 ≤ texts_0 ∧ texts_0 ≤ 100000000) : 1 * texts_0 + ((-1) * x2 + 0) ≤ 4396 := by
  first | assumption | omega | grind
def o_Mo_writeGroup_at_l5_12 : or_T := (177, 7, [(0, (2, 0, 0, [165])), (2, (0, 0, 99995604, [])), (4, (0, 5, 7, [])), (5, (0, 6, 8, [])), (6, (0, 0, 8, []))], [(7, [5, 6], [3]), (20, [6, 3], [30, 0, 1, 0, 0, -1, 3, 2005002]), (20, [6, 3], [30, 0, -1, 0, 0, 1, 3, 2005002]), (20, [3, 2, 5, 4], [30, -902, 1, 1, 170, -1, 0, 0, -1766, 0, 0, 1766, 0, 0]), (24, [0, 3], [])], [], [], [(20, [0, 2], [30, 4396, 1, 1, 170, -1, 0, 0])], [], [(5, 6, 0, 4294967296), (4, 5, -4294967296, -1)])
theorem oo_Mo_writeGroup_at_l5_12 {kA : Nat → ClassId} : or_ok PRD kA GG o_Mo_writeGroup_at_l5_12 := by
  refine or_mk fun A ta ws vs hD hth hl => ?_
  intro t0 r0 t2 k2 t4 k4 t5 k5 t6 k6 d0 d1 f0 f1 f2 f3 f4
  replace f1 := shm_123 f1
  replace f2 := shm_124 f2
  replace f3 := shm_2078 f3
  replace f4 := shm_5 f4
  have q3 : n_v vs 3 = n_v vs 0 := f4.symm
  simp only [q3] at f1 f2 f3
  have kz_0_170 := fdq_11 hD hth r0
  have nf0 : fc_1 PRD (20, [0, 2], [30, 4396, 1, 1, 170, -1, 0, 0]) ws (vs) := ⟨nf_in hl rfl, sgq_2076 (vc_Mo_writeGroup_at_l5_12_0 (v_iv (n_v vs 2)) (v_iv (n_v vs 4)) (v_iv (n_v vs 5)) (v_iv (n_v vs 6)) (w_ei ws (w_ar ws (n_v vs 0) 2)) (w_fi ws (n_v vs 0) 5) (w_fi ws (n_v vs 0) 170) k2 k4 k5 k6 d0 d1 (shm_2 f0) f1 f2 f3 kz_0_170)⟩
  refine ⟨(fun _ h => (by cases h)), [], trivial, ?_, (fun _ h => (by cases h))⟩
  rw [List.append_nil]
  exact List.forall_mem_cons.mpr ⟨⟨show (20 : Nat) < 100 from by decide, nf0⟩, (fun _ h => (by cases h))⟩
def o_Mo_writeGroup_at_l5_13 : or_T := (117, 14, [(0, (2, 0, 0, [165])), (2, (0, 0, 99995604, [])), (3, (2, 0, 0, [165])), (4, (0, 5, 6, [])), (5, (0, 6, 7, [])), (6, (0, 7, 8, [])), (7, (2, 0, 0, [167])), (8, (0, 0, 66297, [])), (9, (0, 531, 531, [])), (10, (0, 531, 66828, [])), (11, (0, 537, 66835, [])), (12, (0, 5, 6, []))], [(7, [12, 4], [0]), (10, [12, 7, 11], []), (1, [11, 10, 5], []), (1, [10, 8, 9], []), (9, [8, 3], [5]), (9, [7, 3], [2]), (7, [5, 6], [2]), (20, [6, 3], [30, 0, 1, 0, 0, -1, 3, 2005002]), (20, [6, 3], [30, 0, -1, 0, 0, 1, 3, 2005002]), (20, [3, 2, 5, 4], [30, -902, 1, 1, 170, -1, 0, 0, -1766, 0, 0, 1766, 0, 0]), (24, [0, 3], [])], [], [(0, 0, 99999994, [])], [(20, [3, 14], [30, 0, 1, 1, 170, -1, 0, 0]), (23, [14, 2, 5, 4], [-902, 1, -1, -1766, 1766])], [], [(12, 4, 0, 0), (11, 5, 531, 66828), (11, 6, -4294967296, 66827), (11, 10, 6, 7), (11, 8, 537, 538), (10, 8, 531, 531), (5, 6, -4294967296, -1), (4, 5, -4294967296, -1)])
theorem oo_Mo_writeGroup_at_l5_13 {kA : Nat → ClassId} : or_ok PRD kA GG o_Mo_writeGroup_at_l5_13 := by
  refine or_mk fun A ta ws vs hD hth hl => ?_
  intro t0 r0 t2 k2 t3 r3 t4 k4 t5 k5 t6 k6 t7 r7 t8 k8 t9 k9 t10 k10 t11 k11 t12 k12 d0 d1 d2 d3 d4 d5 d6 d7 f0 f1 f2 f3 f4 f5 f6 f7 f8 f9 f10
  replace f0 := shm_37 f0
  replace f1 := shm_107 f1
  replace f2 := shm_12 f2
  replace f3 := shm_12 f3
  replace f4 := shm_110 f4
  replace f5 := shm_120 f5
  replace f6 := shm_6 f6
  replace f7 := shm_123 f7
  replace f8 := shm_124 f8
  replace f9 := shm_2078 f9
  replace f10 := shm_5 f10
  have q3 : n_v vs 3 = n_v vs 0 := f10.symm
  simp only [q3] at f4 f5 f7 f8 f9
  have cr_0_2 := fdq_10 hD hth r0
  have ad_7 : v_ad (n_v vs 7) = w_ar ws (n_v vs 0) 2 := congrArg v_ad f5
  simp only [ad_7] at f1
  have h1 : v_iv (n_v vs 12) = w_ei ws (w_ar ws (n_v vs 0) 2) (v_iv (n_v vs 11)) := f1
  have g4 : v_iv (n_v vs 8) = w_fi ws (n_v vs 0) 5 := congrArg v_iv f4
  have cg1_F5_2 : v_iv (n_v vs 11) = w_fi ws (n_v vs 0) 5 + 2 → w_el ws (w_ar ws (n_v vs 0) 2) (v_iv (n_v vs 11)).toNat = w_el ws (w_ar ws (n_v vs 0) 2) (w_fi ws (n_v vs 0) 5 + 2).toNat := fun h => by rw [h]
  have kz_0_170 := fdq_11 hD hth r0
  have kv0 := fdq_11 hD hth r0
  obtain ⟨x, ex, hx⟩ := iv_ex (ta := ta) (lo := 0) (hi := 99999994) (z := w_fi ws (n_v vs 0) 170) (by omega) (by omega) (by omega) (by omega)
  have ex2 : v_iv (Value.int x) = w_fi ws (n_v vs 0) 170 := ex
  have ex3 : 0 ≤ v_iv (Value.int x) ∧ v_iv (Value.int x) ≤ 99999994 := tv_rng hx
  have e_2 : n_v (vs ++ [Value.int x]) 2 = n_v vs 2 := n_v_old (by rw [hl]; decide)
  have e_3 : n_v (vs ++ [Value.int x]) 3 = n_v vs 3 := n_v_old (by rw [hl]; decide)
  have e_4 : n_v (vs ++ [Value.int x]) 4 = n_v vs 4 := n_v_old (by rw [hl]; decide)
  have e_5 : n_v (vs ++ [Value.int x]) 5 = n_v vs 5 := n_v_old (by rw [hl]; decide)
  have e_14 : n_v (vs ++ [Value.int x]) 14 = Value.int x := n_v_new hl
  have nf0 : fc_1 PRD (20, [3, 14], [30, 0, 1, 1, 170, -1, 0, 0]) ws (vs ++ [Value.int x]) := by
    refine ⟨nf_inA hl rfl, sgq_131 ?_⟩
    · show 1 * w_fi ws (n_v (vs ++ [Value.int x]) 3) 170 + ((-1) * v_iv (n_v (vs ++ [Value.int x]) 14) + 0) ≤ 0
      simp only [e_3, e_14, q3]
      omega
  have nf1 : fc_1 PRD (23, [14, 2, 5, 4], [-902, 1, -1, -1766, 1766]) ws (vs ++ [Value.int x]) := by
    refine ⟨nf_inA hl rfl, sgq_2079 ?_⟩
    · show 1 * v_iv (n_v (vs ++ [Value.int x]) 14) + ((-1) * v_iv (n_v (vs ++ [Value.int x]) 2) + ((-1766) * v_iv (n_v (vs ++ [Value.int x]) 5) + (1766 * v_iv (n_v (vs ++ [Value.int x]) 4) + 0))) ≤ (-902)
      simp only [e_2, e_4, e_5, e_14]
      omega
  exact ⟨(fun _ h => (by cases h)), [Value.int x], ag_one hx, List.forall_mem_cons.mpr ⟨⟨show (20 : Nat) < 100 from by decide, nf0⟩, List.forall_mem_cons.mpr ⟨⟨show (23 : Nat) < 100 from by decide, nf1⟩, (fun _ h => (by cases h))⟩⟩, (fun _ h => (by cases h))⟩
set_option maxHeartbeats 4000000 in
theorem vc_Mo_writeGroup_at_l5_14_0 (x2 : Int) (x4 : Int) (x5 : Int) (x6 : Int) (x8 : Int) (x12 : Int) (x14 : Int) (r_0 : Int) (all_0 : Int → Int) (texts_0 : Int) (gx : Int) (k2 : 0 ≤ x2 ∧ x2 ≤ 99995604) (k4 : 5 ≤ x4 ∧ x4 ≤ 6) (k5 : 6 ≤ x5 ∧ x5 ≤ 7) (k6 : 7 ≤ x6 ∧ x6 ≤ 8) (k8 : 0 ≤ x8 ∧ x8 ≤ 66297) (k12 : 5 ≤ x12 ∧ x12 ≤ 6) (k14 : 0 ≤ x14 ∧ x14 ≤ 99999994) (d0 : x4 + 0 ≤ x12 ∧ x12 ≤ x4 + 0) (d1 : x6 + (-4294967296) ≤ x5 ∧ x5 ≤ x6 + (-1)) (d2 : x5 + (-4294967296) ≤ x4 ∧ x4 ≤ x5 + (-1)) (g0 : x8 = r_0) (f2 : 1 * x14 + ((-1) * x2 + ((-1766) * x5 + (1766 * x4 + 0))) ≤ (-902)) (f3 : 1 * x6 + ((-1) * all_0 (r_0 + 2) + 0) ≤ 0) (f4 : (-1) * x6 + (1 * all_0 (r_0 + 2) + 0) ≤ 0) (f6 : 1 * texts_0 + ((-1) * x14 + 0) ≤ 6) (f8 : 1 * x14 + ((-1) * x2 + ((-1766) * x5 + (1766 * x4 + 0))) ≤ (-902)) (f9 : x12 = x4) (f10 : x5 < x6) (kz_0_170 : 0 ≤ texts_0 ∧ texts_0 ≤ 100000000) (ex2 : gx = texts_0) (ex3 : 0 ≤ gx ∧ gx ≤ 99999992) : 1 * texts_0 + ((-1) * gx + 0) ≤ 0 := by
  first | assumption | omega | grind
set_option maxHeartbeats 4000000 in
theorem vc_Mo_writeGroup_at_l5_14_1 (x2 : Int) (x4 : Int) (x5 : Int) (x6 : Int) (x8 : Int) (x12 : Int) (x14 : Int) (r_0 : Int) (all_0 : Int → Int) (texts_0 : Int) (gx : Int) (k2 : 0 ≤ x2 ∧ x2 ≤ 99995604) (k4 : 5 ≤ x4 ∧ x4 ≤ 6) (k5 : 6 ≤ x5 ∧ x5 ≤ 7) (k6 : 7 ≤ x6 ∧ x6 ≤ 8) (k8 : 0 ≤ x8 ∧ x8 ≤ 66297) (k12 : 5 ≤ x12 ∧ x12 ≤ 6) (k14 : 0 ≤ x14 ∧ x14 ≤ 99999994) (d0 : x4 + 0 ≤ x12 ∧ x12 ≤ x4 + 0) (d1 : x6 + (-4294967296) ≤ x5 ∧ x5 ≤ x6 + (-1)) (d2 : x5 + (-4294967296) ≤ x4 ∧ x4 ≤ x5 + (-1)) (g0 : x8 = r_0) (f2 : 1 * x14 + ((-1) * x2 + ((-1766) * x5 + (1766 * x4 + 0))) ≤ (-902)) (f3 : 1 * x6 + ((-1) * all_0 (r_0 + 2) + 0) ≤ 0) (f4 : (-1) * x6 + (1 * all_0 (r_0 + 2) + 0) ≤ 0) (f6 : 1 * texts_0 + ((-1) * x14 + 0) ≤ 6) (f8 : 1 * x14 + ((-1) * x2 + ((-1766) * x5 + (1766 * x4 + 0))) ≤ (-902)) (f9 : x12 = x4) (f10 : x5 < x6) (kz_0_170 : 0 ≤ texts_0 ∧ texts_0 ≤ 100000000) (ex2 : gx = texts_0) (ex3 : 0 ≤ gx ∧ gx ≤ 99999992) : 1 * gx + ((-1) * x2 + ((-1766) * x5 + (1766 * x4 + 0))) ≤ (-896) := by
  first | assumption | omega | grind
def o_Mo_writeGroup_at_l5_14 : or_T := (149, 24, [(0, (2, 0, 0, [165])), (2, (0, 0, 99995604, [])), (3, (2, 0, 0, [165])), (4, (0, 5, 6, [])), (5, (0, 6, 7, [])), (6, (0, 7, 8, [])), (7, (2, 0, 0, [167])), (8, (0, 0, 66297, [])), (12, (0, 5, 6, [])), (14, (0, 0, 99999994, []))], [(9, [8, 3], [5]), (9, [7, 3], [2]), (23, [14, 2, 5, 4], [-902, 1, -1, -1766, 1766]), (20, [6, 3], [30, 0, 1, 0, 0, -1, 3, 2005002]), (20, [6, 3], [30, 0, -1, 0, 0, 1, 3, 2005002]), (24, [0, 3], []), (20, [3, 14], [30, 6, 1, 1, 170, -1, 0, 0]), (102, [14], [7770675568902916283677847627294075626569627356208558085007249638955617140820833992704, 165170]), (23, [14, 2, 5, 4], [-902, 1, -1, -1766, 1766]), (7, [12, 4], [0]), (7, [5, 6], [2])], [], [(0, 0, 99999992, [])], [(20, [3, 24], [30, 0, 1, 1, 170, -1, 0, 0]), (23, [24, 2, 5, 4], [-896, 1, -1, -1766, 1766])], [], [(12, 4, 0, 0), (5, 6, -4294967296, -1), (4, 5, -4294967296, -1)])
theorem oo_Mo_writeGroup_at_l5_14 {kA : Nat → ClassId} : or_ok PRD kA GG o_Mo_writeGroup_at_l5_14 := by
  refine or_mk fun A ta ws vs hD hth hl => ?_
  intro t0 r0 t2 k2 t3 r3 t4 k4 t5 k5 t6 k6 t7 r7 t8 k8 t12 k12 t14 k14 d0 d1 d2 f0 f1 f2 f3 f4 f5 f6 ta1 w1 le1 s1 f8 f9 f10
  replace f0 := shm_110 f0
  replace f1 := shm_120 f1
  replace f2 := shm_2079 f2
  replace f3 := shm_123 f3
  replace f4 := shm_124 f4
  replace f5 := shm_5 f5
  replace f6 := shm_211 f6
  replace f8 := shm_2079 f8
  replace f9 := shm_37 f9
  replace f10 := shm_6 f10
  have q3 : n_v vs 3 = n_v vs 0 := f5.symm
  simp only [q3] at f0 f1 f3 f4 f6
  have cr_0_2 := fdq_10 hD hth r0
  have ad_7 : v_ad (n_v vs 7) = w_ar ws (n_v vs 0) 2 := congrArg v_ad f1
  have g0 : v_iv (n_v vs 8) = w_fi ws (n_v vs 0) 5 := congrArg v_iv f0
  have kz_0_170 := fdq_11 hD hth r0
  have kv0 := fdq_11 hD hth r0
  obtain ⟨x, ex, hx⟩ := iv_ex (ta := ta) (lo := 0) (hi := 99999992) (z := w_fi ws (n_v vs 0) 170) (by omega) (by omega) (by omega) (by omega)
  have ex2 : v_iv (Value.int x) = w_fi ws (n_v vs 0) 170 := ex
  have ex3 : 0 ≤ v_iv (Value.int x) ∧ v_iv (Value.int x) ≤ 99999992 := tv_rng hx
  have e_2 : n_v (vs ++ [Value.int x]) 2 = n_v vs 2 := n_v_old (by rw [hl]; decide)
  have e_3 : n_v (vs ++ [Value.int x]) 3 = n_v vs 3 := n_v_old (by rw [hl]; decide)
  have e_4 : n_v (vs ++ [Value.int x]) 4 = n_v vs 4 := n_v_old (by rw [hl]; decide)
  have e_5 : n_v (vs ++ [Value.int x]) 5 = n_v vs 5 := n_v_old (by rw [hl]; decide)
  have e_24 : n_v (vs ++ [Value.int x]) 24 = Value.int x := n_v_new hl
  have nf0 : fc_1 PRD (20, [3, 24], [30, 0, 1, 1, 170, -1, 0, 0]) ws (vs ++ [Value.int x]) := by
    refine ⟨nf_inA hl rfl, sgq_131 ?_⟩
    · show 1 * w_fi ws (n_v (vs ++ [Value.int x]) 3) 170 + ((-1) * v_iv (n_v (vs ++ [Value.int x]) 24) + 0) ≤ 0
      simp only [e_3, e_24, q3]
      exact vc_Mo_writeGroup_at_l5_14_0 (v_iv (n_v vs 2)) (v_iv (n_v vs 4)) (v_iv (n_v vs 5)) (v_iv (n_v vs 6)) (v_iv (n_v vs 8)) (v_iv (n_v vs 12)) (v_iv (n_v vs 14)) (w_fi ws (n_v vs 0) 5) (w_ei ws (w_ar ws (n_v vs 0) 2)) (w_fi ws (n_v vs 0) 170) (v_iv (Value.int x)) k2 k4 k5 k6 k8 k12 k14 d0 d1 d2 g0 f2 f3 f4 f6 f8 f9 f10 kz_0_170 ex2 ex3
  have nf1 : fc_1 PRD (23, [24, 2, 5, 4], [-896, 1, -1, -1766, 1766]) ws (vs ++ [Value.int x]) := by
    refine ⟨nf_inA hl rfl, sgq_2080 ?_⟩
    · show 1 * v_iv (n_v (vs ++ [Value.int x]) 24) + ((-1) * v_iv (n_v (vs ++ [Value.int x]) 2) + ((-1766) * v_iv (n_v (vs ++ [Value.int x]) 5) + (1766 * v_iv (n_v (vs ++ [Value.int x]) 4) + 0))) ≤ (-896)
      simp only [e_2, e_4, e_5, e_24]
      exact vc_Mo_writeGroup_at_l5_14_1 (v_iv (n_v vs 2)) (v_iv (n_v vs 4)) (v_iv (n_v vs 5)) (v_iv (n_v vs 6)) (v_iv (n_v vs 8)) (v_iv (n_v vs 12)) (v_iv (n_v vs 14)) (w_fi ws (n_v vs 0) 5) (w_ei ws (w_ar ws (n_v vs 0) 2)) (w_fi ws (n_v vs 0) 170) (v_iv (Value.int x)) k2 k4 k5 k6 k8 k12 k14 d0 d1 d2 g0 f2 f3 f4 f6 f8 f9 f10 kz_0_170 ex2 ex3
  exact ⟨(fun _ h => (by cases h)), [Value.int x], ag_one hx, List.forall_mem_cons.mpr ⟨⟨show (20 : Nat) < 100 from by decide, nf0⟩, List.forall_mem_cons.mpr ⟨⟨show (23 : Nat) < 100 from by decide, nf1⟩, (fun _ h => (by cases h))⟩⟩, (fun _ h => (by cases h))⟩
set_option maxHeartbeats 4000000 in
theorem vc_Mo_writeGroup_at_l5_15_0 (x2 : Int) (x4 : Int) (x5 : Int) (x6 : Int) (x12 : Int) (x14 : Int) (x24 : Int) (all_0 : Int → Int) (r_0 : Int) (texts_0 : Int) (gx : Int) (k2 : 0 ≤ x2 ∧ x2 ≤ 99995604) (k4 : 5 ≤ x4 ∧ x4 ≤ 6) (k5 : 6 ≤ x5 ∧ x5 ≤ 7) (k6 : 7 ≤ x6 ∧ x6 ≤ 8) (k12 : 5 ≤ x12 ∧ x12 ≤ 6) (k14 : 0 ≤ x14 ∧ x14 ≤ 99999994) (k24 : 0 ≤ x24 ∧ x24 ≤ 99999992) (d0 : x4 + 0 ≤ x12 ∧ x12 ≤ x4 + 0) (d1 : x6 + (-4294967296) ≤ x5 ∧ x5 ≤ x6 + (-1)) (d2 : x5 + (-4294967296) ≤ x4 ∧ x4 ≤ x5 + (-1)) (f0 : 1 * x24 + ((-1) * x2 + ((-1766) * x5 + (1766 * x4 + 0))) ≤ (-896)) (f1 : 1 * x14 + ((-1) * x2 + ((-1766) * x5 + (1766 * x4 + 0))) ≤ (-902)) (f2 : 1 * x6 + ((-1) * all_0 (r_0 + 2) + 0) ≤ 0) (f3 : (-1) * x6 + (1 * all_0 (r_0 + 2) + 0) ≤ 0) (f5 : 1 * texts_0 + ((-1) * x24 + 0) ≤ 8) (f7 : 1 * x24 + ((-1) * x2 + ((-1766) * x5 + (1766 * x4 + 0))) ≤ (-896)) (f8 : 1 * x14 + ((-1) * x2 + ((-1766) * x5 + (1766 * x4 + 0))) ≤ (-902)) (f10 : 1 * x14 + ((-1) * x2 + ((-1766) * x5 + (1766 * x4 + 0))) ≤ (-902)) (f11 : x12 = x4) (f12 : x5 < x6) (kz_0_170 : 0 ≤ texts_0 ∧ texts_0 ≤ 100000000) (ex2 : gx = texts_0) (ex3 : 0 ≤ gx ∧ gx ≤ 99999997) : 1 * texts_0 + ((-1) * gx + 0) ≤ 0 := by
  first | assumption | omega | grind
set_option maxHeartbeats 4000000 in
theorem vc_Mo_writeGroup_at_l5_15_1 (x2 : Int) (x4 : Int) (x5 : Int) (x6 : Int) (x12 : Int) (x14 : Int) (x24 : Int) (all_0 : Int → Int) (r_0 : Int) (texts_0 : Int) (gx : Int) (k2 : 0 ≤ x2 ∧ x2 ≤ 99995604) (k4 : 5 ≤ x4 ∧ x4 ≤ 6) (k5 : 6 ≤ x5 ∧ x5 ≤ 7) (k6 : 7 ≤ x6 ∧ x6 ≤ 8) (k12 : 5 ≤ x12 ∧ x12 ≤ 6) (k14 : 0 ≤ x14 ∧ x14 ≤ 99999994) (k24 : 0 ≤ x24 ∧ x24 ≤ 99999992) (d0 : x4 + 0 ≤ x12 ∧ x12 ≤ x4 + 0) (d1 : x6 + (-4294967296) ≤ x5 ∧ x5 ≤ x6 + (-1)) (d2 : x5 + (-4294967296) ≤ x4 ∧ x4 ≤ x5 + (-1)) (f0 : 1 * x24 + ((-1) * x2 + ((-1766) * x5 + (1766 * x4 + 0))) ≤ (-896)) (f1 : 1 * x14 + ((-1) * x2 + ((-1766) * x5 + (1766 * x4 + 0))) ≤ (-902)) (f2 : 1 * x6 + ((-1) * all_0 (r_0 + 2) + 0) ≤ 0) (f3 : (-1) * x6 + (1 * all_0 (r_0 + 2) + 0) ≤ 0) (f5 : 1 * texts_0 + ((-1) * x24 + 0) ≤ 8) (f7 : 1 * x24 + ((-1) * x2 + ((-1766) * x5 + (1766 * x4 + 0))) ≤ (-896)) (f8 : 1 * x14 + ((-1) * x2 + ((-1766) * x5 + (1766 * x4 + 0))) ≤ (-902)) (f10 : 1 * x14 + ((-1) * x2 + ((-1766) * x5 + (1766 * x4 + 0))) ≤ (-902)) (f11 : x12 = x4) (f12 : x5 < x6) (kz_0_170 : 0 ≤ texts_0 ∧ texts_0 ≤ 100000000) (ex2 : gx = texts_0) (ex3 : 0 ≤ gx ∧ gx ≤ 99999997) : 1 * gx + ((-1) * x2 + ((-1766) * x5 + (1766 * x4 + 0))) ≤ (-888) := by
  first | assumption | omega | grind
def o_Mo_writeGroup_at_l5_15 : or_T := (156, 26, [(0, (2, 0, 0, [165])), (2, (0, 0, 99995604, [])), (3, (2, 0, 0, [165])), (4, (0, 5, 6, [])), (5, (0, 6, 7, [])), (6, (0, 7, 8, [])), (12, (0, 5, 6, [])), (14, (0, 0, 99999994, [])), (24, (0, 0, 99999992, []))], [(23, [24, 2, 5, 4], [-896, 1, -1, -1766, 1766]), (23, [14, 2, 5, 4], [-902, 1, -1, -1766, 1766]), (20, [6, 3], [30, 0, 1, 0, 0, -1, 3, 2005002]), (20, [6, 3], [30, 0, -1, 0, 0, 1, 3, 2005002]), (24, [0, 3], []), (20, [3, 24], [30, 8, 1, 1, 170, -1, 0, 0]), (102, [24], [7770675568902916283677847627294075626569627356208558085007249638955617140820833992704, 165170]), (23, [24, 2, 5, 4], [-896, 1, -1, -1766, 1766]), (23, [14, 2, 5, 4], [-902, 1, -1, -1766, 1766]), (102, [14], [7770675568902916283677847627294075626569627356208558085007249638955617140820833992704, 165170]), (23, [14, 2, 5, 4], [-902, 1, -1, -1766, 1766]), (7, [12, 4], [0]), (7, [5, 6], [2])], [], [(0, 0, 99999997, [])], [(20, [3, 26], [30, 0, 1, 1, 170, -1, 0, 0]), (23, [26, 2, 5, 4], [-888, 1, -1, -1766, 1766])], [], [(12, 4, 0, 0), (5, 6, -4294967296, -1), (4, 5, -4294967296, -1)])
theorem oo_Mo_writeGroup_at_l5_15 {kA : Nat → ClassId} : or_ok PRD kA GG o_Mo_writeGroup_at_l5_15 := by
  refine or_mk fun A ta ws vs hD hth hl => ?_
  intro t0 r0 t2 k2 t3 r3 t4 k4 t5 k5 t6 k6 t12 k12 t14 k14 t24 k24 d0 d1 d2 f0 f1 f2 f3 f4 f5 ta1 w1 le1 s1 f7 f8 ta2 w2 le2 s2 f10 f11 f12
  replace f0 := shm_2080 f0
  replace f1 := shm_2079 f1
  replace f2 := shm_123 f2
  replace f3 := shm_124 f3
  replace f4 := shm_5 f4
  replace f5 := shm_160 f5
  replace f7 := shm_2080 f7
  replace f8 := shm_2079 f8
  replace f10 := shm_2079 f10
  replace f11 := shm_37 f11
  replace f12 := shm_6 f12
  have q3 : n_v vs 3 = n_v vs 0 := f4.symm
  simp only [q3] at f2 f3 f5
  have cr_0_2 := fdq_10 hD hth r0
  have kz_0_170 := fdq_11 hD hth r0
  have kv0 := fdq_11 hD hth r0
  obtain ⟨x, ex, hx⟩ := iv_ex (ta := ta) (lo := 0) (hi := 99999997) (z := w_fi ws (n_v vs 0) 170) (by omega) (by omega) (by omega) (by omega)
  have ex2 : v_iv (Value.int x) = w_fi ws (n_v vs 0) 170 := ex
  have ex3 : 0 ≤ v_iv (Value.int x) ∧ v_iv (Value.int x) ≤ 99999997 := tv_rng hx
  have e_2 : n_v (vs ++ [Value.int x]) 2 = n_v vs 2 := n_v_old (by rw [hl]; decide)
  have e_3 : n_v (vs ++ [Value.int x]) 3 = n_v vs 3 := n_v_old (by rw [hl]; decide)
  have e_4 : n_v (vs ++ [Value.int x]) 4 = n_v vs 4 := n_v_old (by rw [hl]; decide)
  have e_5 : n_v (vs ++ [Value.int x]) 5 = n_v vs 5 := n_v_old (by rw [hl]; decide)
  have e_26 : n_v (vs ++ [Value.int x]) 26 = Value.int x := n_v_new hl
  have nf0 : fc_1 PRD (20, [3, 26], [30, 0, 1, 1, 170, -1, 0, 0]) ws (vs ++ [Value.int x]) := by
    refine ⟨nf_inA hl rfl, sgq_131 ?_⟩
    · show 1 * w_fi ws (n_v (vs ++ [Value.int x]) 3) 170 + ((-1) * v_iv (n_v (vs ++ [Value.int x]) 26) + 0) ≤ 0
      simp only [e_3, e_26, q3]
      exact vc_Mo_writeGroup_at_l5_15_0 (v_iv (n_v vs 2)) (v_iv (n_v vs 4)) (v_iv (n_v vs 5)) (v_iv (n_v vs 6)) (v_iv (n_v vs 12)) (v_iv (n_v vs 14)) (v_iv (n_v vs 24)) (w_ei ws (w_ar ws (n_v vs 0) 2)) (w_fi ws (n_v vs 0) 5) (w_fi ws (n_v vs 0) 170) (v_iv (Value.int x)) k2 k4 k5 k6 k12 k14 k24 d0 d1 d2 f0 f1 f2 f3 f5 f7 f8 f10 f11 f12 kz_0_170 ex2 ex3
  have nf1 : fc_1 PRD (23, [26, 2, 5, 4], [-888, 1, -1, -1766, 1766]) ws (vs ++ [Value.int x]) := by
    refine ⟨nf_inA hl rfl, sgq_2081 ?_⟩
    · show 1 * v_iv (n_v (vs ++ [Value.int x]) 26) + ((-1) * v_iv (n_v (vs ++ [Value.int x]) 2) + ((-1766) * v_iv (n_v (vs ++ [Value.int x]) 5) + (1766 * v_iv (n_v (vs ++ [Value.int x]) 4) + 0))) ≤ (-888)
      simp only [e_2, e_4, e_5, e_26]
      exact vc_Mo_writeGroup_at_l5_15_1 (v_iv (n_v vs 2)) (v_iv (n_v vs 4)) (v_iv (n_v vs 5)) (v_iv (n_v vs 6)) (v_iv (n_v vs 12)) (v_iv (n_v vs 14)) (v_iv (n_v vs 24)) (w_ei ws (w_ar ws (n_v vs 0) 2)) (w_fi ws (n_v vs 0) 5) (w_fi ws (n_v vs 0) 170) (v_iv (Value.int x)) k2 k4 k5 k6 k12 k14 k24 d0 d1 d2 f0 f1 f2 f3 f5 f7 f8 f10 f11 f12 kz_0_170 ex2 ex3
  exact ⟨(fun _ h => (by cases h)), [Value.int x], ag_one hx, List.forall_mem_cons.mpr ⟨⟨show (20 : Nat) < 100 from by decide, nf0⟩, List.forall_mem_cons.mpr ⟨⟨show (23 : Nat) < 100 from by decide, nf1⟩, (fun _ h => (by cases h))⟩⟩, (fun _ h => (by cases h))⟩
set_option maxHeartbeats 4000000 in
theorem vc_Mo_writeGroup_at_l5_16_0 (x2 : Int) (x4 : Int) (x5 : Int) (x6 : Int) (x12 : Int) (x14 : Int) (x24 : Int) (x26 : Int) (all_0 : Int → Int) (r_0 : Int) (texts_0 : Int) (gx : Int) (k2 : 0 ≤ x2 ∧ x2 ≤ 99995604) (k4 : 5 ≤ x4 ∧ x4 ≤ 6) (k5 : 6 ≤ x5 ∧ x5 ≤ 7) (k6 : 7 ≤ x6 ∧ x6 ≤ 8) (k12 : 5 ≤ x12 ∧ x12 ≤ 6) (k14 : 0 ≤ x14 ∧ x14 ≤ 99999994) (k24 : 0 ≤ x24 ∧ x24 ≤ 99999992) (k26 : 0 ≤ x26 ∧ x26 ≤ 99999997) (d0 : x4 + 0 ≤ x12 ∧ x12 ≤ x4 + 0) (d1 : x6 + (-4294967296) ≤ x5 ∧ x5 ≤ x6 + (-1)) (d2 : x5 + (-4294967296) ≤ x4 ∧ x4 ≤ x5 + (-1)) (f0 : 1 * x26 + ((-1) * x2 + ((-1766) * x5 + (1766 * x4 + 0))) ≤ (-888)) (f1 : 1 * x24 + ((-1) * x2 + ((-1766) * x5 + (1766 * x4 + 0))) ≤ (-896)) (f2 : 1 * x14 + ((-1) * x2 + ((-1766) * x5 + (1766 * x4 + 0))) ≤ (-902)) (f3 : 1 * x6 + ((-1) * all_0 (r_0 + 2) + 0) ≤ 0) (f4 : (-1) * x6 + (1 * all_0 (r_0 + 2) + 0) ≤ 0) (f6 : 1 * texts_0 + ((-1) * x26 + 0) ≤ 3) (f8 : 1 * x26 + ((-1) * x2 + ((-1766) * x5 + (1766 * x4 + 0))) ≤ (-888)) (f9 : 1 * x24 + ((-1) * x2 + ((-1766) * x5 + (1766 * x4 + 0))) ≤ (-896)) (f10 : 1 * x14 + ((-1) * x2 + ((-1766) * x5 + (1766 * x4 + 0))) ≤ (-902)) (f12 : 1 * x24 + ((-1) * x2 + ((-1766) * x5 + (1766 * x4 + 0))) ≤ (-896)) (f13 : 1 * x14 + ((-1) * x2 + ((-1766) * x5 + (1766 * x4 + 0))) ≤ (-902)) (f15 : 1 * x14 + ((-1) * x2 + ((-1766) * x5 + (1766 * x4 + 0))) ≤ (-902)) (f16 : x12 = x4) (f17 : x5 < x6) (kz_0_170 : 0 ≤ texts_0 ∧ texts_0 ≤ 100000000) (ex2 : gx = texts_0) (ex3 : 0 ≤ gx ∧ gx ≤ 99998253) : 1 * texts_0 + ((-1) * gx + 0) ≤ 0 := by
  first | assumption | omega | grind
set_option maxHeartbeats 4000000 in
theorem vc_Mo_writeGroup_at_l5_16_1 (x2 : Int) (x4 : Int) (x5 : Int) (x6 : Int) (x12 : Int) (x14 : Int) (x24 : Int) (x26 : Int) (all_0 : Int → Int) (r_0 : Int) (texts_0 : Int) (gx : Int) (k2 : 0 ≤ x2 ∧ x2 ≤ 99995604) (k4 : 5 ≤ x4 ∧ x4 ≤ 6) (k5 : 6 ≤ x5 ∧ x5 ≤ 7) (k6 : 7 ≤ x6 ∧ x6 ≤ 8) (k12 : 5 ≤ x12 ∧ x12 ≤ 6) (k14 : 0 ≤ x14 ∧ x14 ≤ 99999994) (k24 : 0 ≤ x24 ∧ x24 ≤ 99999992) (k26 : 0 ≤ x26 ∧ x26 ≤ 99999997) (d0 : x4 + 0 ≤ x12 ∧ x12 ≤ x4 + 0) (d1 : x6 + (-4294967296) ≤ x5 ∧ x5 ≤ x6 + (-1)) (d2 : x5 + (-4294967296) ≤ x4 ∧ x4 ≤ x5 + (-1)) (f0 : 1 * x26 + ((-1) * x2 + ((-1766) * x5 + (1766 * x4 + 0))) ≤ (-888)) (f1 : 1 * x24 + ((-1) * x2 + ((-1766) * x5 + (1766 * x4 + 0))) ≤ (-896)) (f2 : 1 * x14 + ((-1) * x2 + ((-1766) * x5 + (1766 * x4 + 0))) ≤ (-902)) (f3 : 1 * x6 + ((-1) * all_0 (r_0 + 2) + 0) ≤ 0) (f4 : (-1) * x6 + (1 * all_0 (r_0 + 2) + 0) ≤ 0) (f6 : 1 * texts_0 + ((-1) * x26 + 0) ≤ 3) (f8 : 1 * x26 + ((-1) * x2 + ((-1766) * x5 + (1766 * x4 + 0))) ≤ (-888)) (f9 : 1 * x24 + ((-1) * x2 + ((-1766) * x5 + (1766 * x4 + 0))) ≤ (-896)) (f10 : 1 * x14 + ((-1) * x2 + ((-1766) * x5 + (1766 * x4 + 0))) ≤ (-902)) (f12 : 1 * x24 + ((-1) * x2 + ((-1766) * x5 + (1766 * x4 + 0))) ≤ (-896)) (f13 : 1 * x14 + ((-1) * x2 + ((-1766) * x5 + (1766 * x4 + 0))) ≤ (-902)) (f15 : 1 * x14 + ((-1) * x2 + ((-1766) * x5 + (1766 * x4 + 0))) ≤ (-902)) (f16 : x12 = x4) (f17 : x5 < x6) (kz_0_170 : 0 ≤ texts_0 ∧ texts_0 ≤ 100000000) (ex2 : gx = texts_0) (ex3 : 0 ≤ gx ∧ gx ≤ 99998253) : 1 * gx + ((-1) * x2 + ((-1766) * x5 + (1766 * x4 + 0))) ≤ (-885) := by
  first | assumption | omega | grind
def o_Mo_writeGroup_at_l5_16 : or_T := (161, 27, [(0, (2, 0, 0, [165])), (2, (0, 0, 99995604, [])), (3, (2, 0, 0, [165])), (4, (0, 5, 6, [])), (5, (0, 6, 7, [])), (6, (0, 7, 8, [])), (12, (0, 5, 6, [])), (14, (0, 0, 99999994, [])), (24, (0, 0, 99999992, [])), (26, (0, 0, 99999997, []))], [(23, [26, 2, 5, 4], [-888, 1, -1, -1766, 1766]), (23, [24, 2, 5, 4], [-896, 1, -1, -1766, 1766]), (23, [14, 2, 5, 4], [-902, 1, -1, -1766, 1766]), (20, [6, 3], [30, 0, 1, 0, 0, -1, 3, 2005002]), (20, [6, 3], [30, 0, -1, 0, 0, 1, 3, 2005002]), (24, [0, 3], []), (20, [3, 26], [30, 3, 1, 1, 170, -1, 0, 0]), (102, [26], [7770675568902916283677847627294075626569627356208558085007249638955617140820833992704, 165170]), (23, [26, 2, 5, 4], [-888, 1, -1, -1766, 1766]), (23, [24, 2, 5, 4], [-896, 1, -1, -1766, 1766]), (23, [14, 2, 5, 4], [-902, 1, -1, -1766, 1766]), (102, [24], [7770675568902916283677847627294075626569627356208558085007249638955617140820833992704, 165170]), (23, [24, 2, 5, 4], [-896, 1, -1, -1766, 1766]), (23, [14, 2, 5, 4], [-902, 1, -1, -1766, 1766]), (102, [14], [7770675568902916283677847627294075626569627356208558085007249638955617140820833992704, 165170]), (23, [14, 2, 5, 4], [-902, 1, -1, -1766, 1766]), (7, [12, 4], [0]), (7, [5, 6], [2])], [], [(0, 0, 99998253, [])], [(20, [3, 27], [30, 0, 1, 1, 170, -1, 0, 0]), (23, [27, 2, 5, 4], [-885, 1, -1, -1766, 1766])], [], [(12, 4, 0, 0), (5, 6, -4294967296, -1), (4, 5, -4294967296, -1)])
theorem oo_Mo_writeGroup_at_l5_16 {kA : Nat → ClassId} : or_ok PRD kA GG o_Mo_writeGroup_at_l5_16 := by
  refine or_mk fun A ta ws vs hD hth hl => ?_
  intro t0 r0 t2 k2 t3 r3 t4 k4 t5 k5 t6 k6 t12 k12 t14 k14 t24 k24 t26 k26 d0 d1 d2 f0 f1 f2 f3 f4 f5 f6 ta1 w1 le1 s1 f8 f9 f10 ta2 w2 le2 s2 f12 f13 ta3 w3 le3 s3 f15 f16 f17
  replace f0 := shm_2081 f0
  replace f1 := shm_2080 f1
  replace f2 := shm_2079 f2
  replace f3 := shm_123 f3
  replace f4 := shm_124 f4
  replace f5 := shm_5 f5
  replace f6 := shm_212 f6
  replace f8 := shm_2081 f8
  replace f9 := shm_2080 f9
  replace f10 := shm_2079 f10
  replace f12 := shm_2080 f12
  replace f13 := shm_2079 f13
  replace f15 := shm_2079 f15
  replace f16 := shm_37 f16
  replace f17 := shm_6 f17
  have q3 : n_v vs 3 = n_v vs 0 := f5.symm
  simp only [q3] at f3 f4 f6
  have cr_0_2 := fdq_10 hD hth r0
  have kz_0_170 := fdq_11 hD hth r0
  have kv0 := fdq_11 hD hth r0
  obtain ⟨x, ex, hx⟩ := iv_ex (ta := ta) (lo := 0) (hi := 99998253) (z := w_fi ws (n_v vs 0) 170) (by omega) (by omega) (by omega) (by omega)
  have ex2 : v_iv (Value.int x) = w_fi ws (n_v vs 0) 170 := ex
  have ex3 : 0 ≤ v_iv (Value.int x) ∧ v_iv (Value.int x) ≤ 99998253 := tv_rng hx
  have e_2 : n_v (vs ++ [Value.int x]) 2 = n_v vs 2 := n_v_old (by rw [hl]; decide)
  have e_3 : n_v (vs ++ [Value.int x]) 3 = n_v vs 3 := n_v_old (by rw [hl]; decide)
  have e_4 : n_v (vs ++ [Value.int x]) 4 = n_v vs 4 := n_v_old (by rw [hl]; decide)
  have e_5 : n_v (vs ++ [Value.int x]) 5 = n_v vs 5 := n_v_old (by rw [hl]; decide)
  have e_27 : n_v (vs ++ [Value.int x]) 27 = Value.int x := n_v_new hl
  have nf0 : fc_1 PRD (20, [3, 27], [30, 0, 1, 1, 170, -1, 0, 0]) ws (vs ++ [Value.int x]) := by
    refine ⟨nf_inA hl rfl, sgq_131 ?_⟩
    · show 1 * w_fi ws (n_v (vs ++ [Value.int x]) 3) 170 + ((-1) * v_iv (n_v (vs ++ [Value.int x]) 27) + 0) ≤ 0
      simp only [e_3, e_27, q3]
      exact vc_Mo_writeGroup_at_l5_16_0 (v_iv (n_v vs 2)) (v_iv (n_v vs 4)) (v_iv (n_v vs 5)) (v_iv (n_v vs 6)) (v_iv (n_v vs 12)) (v_iv (n_v vs 14)) (v_iv (n_v vs 24)) (v_iv (n_v vs 26)) (w_ei ws (w_ar ws (n_v vs 0) 2)) (w_fi ws (n_v vs 0) 5) (w_fi ws (n_v vs 0) 170) (v_iv (Value.int x)) k2 k4 k5 k6 k12 k14 k24 k26 d0 d1 d2 f0 f1 f2 f3 f4 f6 f8 f9 f10 f12 f13 f15 f16 f17 kz_0_170 ex2 ex3
  have nf1 : fc_1 PRD (23, [27, 2, 5, 4], [-885, 1, -1, -1766, 1766]) ws (vs ++ [Value.int x]) := by
    refine ⟨nf_inA hl rfl, sgq_2082 ?_⟩
    · show 1 * v_iv (n_v (vs ++ [Value.int x]) 27) + ((-1) * v_iv (n_v (vs ++ [Value.int x]) 2) + ((-1766) * v_iv (n_v (vs ++ [Value.int x]) 5) + (1766 * v_iv (n_v (vs ++ [Value.int x]) 4) + 0))) ≤ (-885)
      simp only [e_2, e_4, e_5, e_27]
      exact vc_Mo_writeGroup_at_l5_16_1 (v_iv (n_v vs 2)) (v_iv (n_v vs 4)) (v_iv (n_v vs 5)) (v_iv (n_v vs 6)) (v_iv (n_v vs 12)) (v_iv (n_v vs 14)) (v_iv (n_v vs 24)) (v_iv (n_v vs 26)) (w_ei ws (w_ar ws (n_v vs 0) 2)) (w_fi ws (n_v vs 0) 5) (w_fi ws (n_v vs 0) 170) (v_iv (Value.int x)) k2 k4 k5 k6 k12 k14 k24 k26 d0 d1 d2 f0 f1 f2 f3 f4 f6 f8 f9 f10 f12 f13 f15 f16 f17 kz_0_170 ex2 ex3
  exact ⟨(fun _ h => (by cases h)), [Value.int x], ag_one hx, List.forall_mem_cons.mpr ⟨⟨show (20 : Nat) < 100 from by decide, nf0⟩, List.forall_mem_cons.mpr ⟨⟨show (23 : Nat) < 100 from by decide, nf1⟩, (fun _ h => (by cases h))⟩⟩, (fun _ h => (by cases h))⟩
set_option maxHeartbeats 4000000 in
theorem vc_Mo_writeGroup_at_l5_17_0 (x2 : Int) (x4 : Int) (x5 : Int) (x6 : Int) (x12 : Int) (x14 : Int) (x24 : Int) (x26 : Int) (x27 : Int) (all_0 : Int → Int) (r_0 : Int) (texts_0 : Int) (gx : Int) (k2 : 0 ≤ x2 ∧ x2 ≤ 99995604) (k4 : 5 ≤ x4 ∧ x4 ≤ 6) (k5 : 6 ≤ x5 ∧ x5 ≤ 7) (k6 : 7 ≤ x6 ∧ x6 ≤ 8) (k12 : 5 ≤ x12 ∧ x12 ≤ 6) (k14 : 0 ≤ x14 ∧ x14 ≤ 99999994) (k24 : 0 ≤ x24 ∧ x24 ≤ 99999992) (k26 : 0 ≤ x26 ∧ x26 ≤ 99999997) (k27 : 0 ≤ x27 ∧ x27 ≤ 99998253) (d0 : x4 + 0 ≤ x12 ∧ x12 ≤ x4 + 0) (d1 : x6 + (-4294967296) ≤ x5 ∧ x5 ≤ x6 + (-1)) (d2 : x5 + (-4294967296) ≤ x4 ∧ x4 ≤ x5 + (-1)) (f0 : 1 * x27 + ((-1) * x2 + ((-1766) * x5 + (1766 * x4 + 0))) ≤ (-885)) (f1 : 1 * x26 + ((-1) * x2 + ((-1766) * x5 + (1766 * x4 + 0))) ≤ (-888)) (f2 : 1 * x24 + ((-1) * x2 + ((-1766) * x5 + (1766 * x4 + 0))) ≤ (-896)) (f3 : 1 * x14 + ((-1) * x2 + ((-1766) * x5 + (1766 * x4 + 0))) ≤ (-902)) (f4 : 1 * x6 + ((-1) * all_0 (r_0 + 2) + 0) ≤ 0) (f5 : (-1) * x6 + (1 * all_0 (r_0 + 2) + 0) ≤ 0) (f7 : 1 * texts_0 + ((-1) * x27 + 0) ≤ 1747) (f9 : 1 * x27 + ((-1) * x2 + ((-1766) * x5 + (1766 * x4 + 0))) ≤ (-885)) (f10 : 1 * x26 + ((-1) * x2 + ((-1766) * x5 + (1766 * x4 + 0))) ≤ (-888)) (f11 : 1 * x24 + ((-1) * x2 + ((-1766) * x5 + (1766 * x4 + 0))) ≤ (-896)) (f12 : 1 * x14 + ((-1) * x2 + ((-1766) * x5 + (1766 * x4 + 0))) ≤ (-902)) (f14 : 1 * x26 + ((-1) * x2 + ((-1766) * x5 + (1766 * x4 + 0))) ≤ (-888)) (f15 : 1 * x24 + ((-1) * x2 + ((-1766) * x5 + (1766 * x4 + 0))) ≤ (-896)) (f16 : 1 * x14 + ((-1) * x2 + ((-1766) * x5 + (1766 * x4 + 0))) ≤ (-902)) (f18 : 1 * x24 + ((-1) * x2 + ((-1766) * x5 + (1766 * x4 + 0))) ≤ (-896)) (f19 : 1 * x14 + ((-1) * x2 + ((-1766) * x5 + (1766 * x4 + 0))) ≤ (-902)) (f21 : 1 * x14 + ((-1) * x2 + ((-1766) * x5 + (1766 * x4 + 0))) ≤ (-902)) (f22 : x12 = x4) (f23 : x5 < x6) (kz_0_170 : 0 ≤ texts_0 ∧ texts_0 ≤ 100000000) (ex2 : gx = texts_0) (ex3 : 0 ≤ gx ∧ gx ≤ 99999998) : 1 * texts_0 + ((-1) * gx + 0) ≤ 0 := by
  first | assumption | omega | grind
set_option maxHeartbeats 4000000 in
theorem vc_Mo_writeGroup_at_l5_17_1 (x2 : Int) (x4 : Int) (x5 : Int) (x6 : Int) (x12 : Int) (x14 : Int) (x24 : Int) (x26 : Int) (x27 : Int) (all_0 : Int → Int) (r_0 : Int) (texts_0 : Int) (gx : Int) (k2 : 0 ≤ x2 ∧ x2 ≤ 99995604) (k4 : 5 ≤ x4 ∧ x4 ≤ 6) (k5 : 6 ≤ x5 ∧ x5 ≤ 7) (k6 : 7 ≤ x6 ∧ x6 ≤ 8) (k12 : 5 ≤ x12 ∧ x12 ≤ 6) (k14 : 0 ≤ x14 ∧ x14 ≤ 99999994) (k24 : 0 ≤ x24 ∧ x24 ≤ 99999992) (k26 : 0 ≤ x26 ∧ x26 ≤ 99999997) (k27 : 0 ≤ x27 ∧ x27 ≤ 99998253) (d0 : x4 + 0 ≤ x12 ∧ x12 ≤ x4 + 0) (d1 : x6 + (-4294967296) ≤ x5 ∧ x5 ≤ x6 + (-1)) (d2 : x5 + (-4294967296) ≤ x4 ∧ x4 ≤ x5 + (-1)) (f0 : 1 * x27 + ((-1) * x2 + ((-1766) * x5 + (1766 * x4 + 0))) ≤ (-885)) (f1 : 1 * x26 + ((-1) * x2 + ((-1766) * x5 + (1766 * x4 + 0))) ≤ (-888)) (f2 : 1 * x24 + ((-1) * x2 + ((-1766) * x5 + (1766 * x4 + 0))) ≤ (-896)) (f3 : 1 * x14 + ((-1) * x2 + ((-1766) * x5 + (1766 * x4 + 0))) ≤ (-902)) (f4 : 1 * x6 + ((-1) * all_0 (r_0 + 2) + 0) ≤ 0) (f5 : (-1) * x6 + (1 * all_0 (r_0 + 2) + 0) ≤ 0) (f7 : 1 * texts_0 + ((-1) * x27 + 0) ≤ 1747) (f9 : 1 * x27 + ((-1) * x2 + ((-1766) * x5 + (1766 * x4 + 0))) ≤ (-885)) (f10 : 1 * x26 + ((-1) * x2 + ((-1766) * x5 + (1766 * x4 + 0))) ≤ (-888)) (f11 : 1 * x24 + ((-1) * x2 + ((-1766) * x5 + (1766 * x4 + 0))) ≤ (-896)) (f12 : 1 * x14 + ((-1) * x2 + ((-1766) * x5 + (1766 * x4 + 0))) ≤ (-902)) (f14 : 1 * x26 + ((-1) * x2 + ((-1766) * x5 + (1766 * x4 + 0))) ≤ (-888)) (f15 : 1 * x24 + ((-1) * x2 + ((-1766) * x5 + (1766 * x4 + 0))) ≤ (-896)) (f16 : 1 * x14 + ((-1) * x2 + ((-1766) * x5 + (1766 * x4 + 0))) ≤ (-902)) (f18 : 1 * x24 + ((-1) * x2 + ((-1766) * x5 + (1766 * x4 + 0))) ≤ (-896)) (f19 : 1 * x14 + ((-1) * x2 + ((-1766) * x5 + (1766 * x4 + 0))) ≤ (-902)) (f21 : 1 * x14 + ((-1) * x2 + ((-1766) * x5 + (1766 * x4 + 0))) ≤ (-902)) (f22 : x12 = x4) (f23 : x5 < x6) (kz_0_170 : 0 ≤ texts_0 ∧ texts_0 ≤ 100000000) (ex2 : gx = texts_0) (ex3 : 0 ≤ gx ∧ gx ≤ 99999998) : 1 * gx + ((-1) * x2 + ((-1766) * x5 + (1766 * x4 + 0))) ≤ 862 := by
  first | assumption | omega | grind
def o_Mo_writeGroup_at_l5_17 : or_T := (168, 29, [(0, (2, 0, 0, [165])), (2, (0, 0, 99995604, [])), (3, (2, 0, 0, [165])), (4, (0, 5, 6, [])), (5, (0, 6, 7, [])), (6, (0, 7, 8, [])), (12, (0, 5, 6, [])), (14, (0, 0, 99999994, [])), (24, (0, 0, 99999992, [])), (26, (0, 0, 99999997, [])), (27, (0, 0, 99998253, []))], [(23, [27, 2, 5, 4], [-885, 1, -1, -1766, 1766]), (23, [26, 2, 5, 4], [-888, 1, -1, -1766, 1766]), (23, [24, 2, 5, 4], [-896, 1, -1, -1766, 1766]), (23, [14, 2, 5, 4], [-902, 1, -1, -1766, 1766]), (20, [6, 3], [30, 0, 1, 0, 0, -1, 3, 2005002]), (20, [6, 3], [30, 0, -1, 0, 0, 1, 3, 2005002]), (24, [0, 3], []), (20, [3, 27], [30, 1747, 1, 1, 170, -1, 0, 0]), (102, [27], [7770675568902916283677847627294075626569627356208558085007249638955617140820833992704, 165170]), (23, [27, 2, 5, 4], [-885, 1, -1, -1766, 1766]), (23, [26, 2, 5, 4], [-888, 1, -1, -1766, 1766]), (23, [24, 2, 5, 4], [-896, 1, -1, -1766, 1766]), (23, [14, 2, 5, 4], [-902, 1, -1, -1766, 1766]), (102, [26], [7770675568902916283677847627294075626569627356208558085007249638955617140820833992704, 165170]), (23, [26, 2, 5, 4], [-888, 1, -1, -1766, 1766]), (23, [24, 2, 5, 4], [-896, 1, -1, -1766, 1766]), (23, [14, 2, 5, 4], [-902, 1, -1, -1766, 1766]), (102, [24], [7770675568902916283677847627294075626569627356208558085007249638955617140820833992704, 165170]), (23, [24, 2, 5, 4], [-896, 1, -1, -1766, 1766]), (23, [14, 2, 5, 4], [-902, 1, -1, -1766, 1766]), (102, [14], [7770675568902916283677847627294075626569627356208558085007249638955617140820833992704, 165170]), (23, [14, 2, 5, 4], [-902, 1, -1, -1766, 1766]), (7, [12, 4], [0]), (7, [5, 6], [2])], [], [(0, 0, 99999998, [])], [(20, [3, 29], [30, 0, 1, 1, 170, -1, 0, 0]), (23, [29, 2, 5, 4], [862, 1, -1, -1766, 1766])], [], [(12, 4, 0, 0), (5, 6, -4294967296, -1), (4, 5, -4294967296, -1)])
theorem oo_Mo_writeGroup_at_l5_17 {kA : Nat → ClassId} : or_ok PRD kA GG o_Mo_writeGroup_at_l5_17 := by
  refine or_mk fun A ta ws vs hD hth hl => ?_
  intro t0 r0 t2 k2 t3 r3 t4 k4 t5 k5 t6 k6 t12 k12 t14 k14 t24 k24 t26 k26 t27 k27 d0 d1 d2 f0 f1 f2 f3 f4 f5 f6 f7 ta1 w1 le1 s1 f9 f10 f11 f12 ta2 w2 le2 s2 f14 f15 f16 ta3 w3 le3 s3 f18 f19 ta4 w4 le4 s4 f21 f22 f23
  replace f0 := shm_2082 f0
  replace f1 := shm_2081 f1
  replace f2 := shm_2080 f2
  replace f3 := shm_2079 f3
  replace f4 := shm_123 f4
  replace f5 := shm_124 f5
  replace f6 := shm_5 f6
  replace f7 := shm_2083 f7
  replace f9 := shm_2082 f9
  replace f10 := shm_2081 f10
  replace f11 := shm_2080 f11
  replace f12 := shm_2079 f12
  replace f14 := shm_2081 f14
  replace f15 := shm_2080 f15
  replace f16 := shm_2079 f16
  replace f18 := shm_2080 f18
  replace f19 := shm_2079 f19
  replace f21 := shm_2079 f21
  replace f22 := shm_37 f22
  replace f23 := shm_6 f23
  have q3 : n_v vs 3 = n_v vs 0 := f6.symm
  simp only [q3] at f4 f5 f7
  have cr_0_2 := fdq_10 hD hth r0
  have kz_0_170 := fdq_11 hD hth r0
  have kv0 := fdq_11 hD hth r0
  obtain ⟨x, ex, hx⟩ := iv_ex (ta := ta) (lo := 0) (hi := 99999998) (z := w_fi ws (n_v vs 0) 170) (by omega) (by omega) (by omega) (by omega)
  have ex2 : v_iv (Value.int x) = w_fi ws (n_v vs 0) 170 := ex
  have ex3 : 0 ≤ v_iv (Value.int x) ∧ v_iv (Value.int x) ≤ 99999998 := tv_rng hx
  have e_2 : n_v (vs ++ [Value.int x]) 2 = n_v vs 2 := n_v_old (by rw [hl]; decide)
  have e_3 : n_v (vs ++ [Value.int x]) 3 = n_v vs 3 := n_v_old (by rw [hl]; decide)
  have e_4 : n_v (vs ++ [Value.int x]) 4 = n_v vs 4 := n_v_old (by rw [hl]; decide)
  have e_5 : n_v (vs ++ [Value.int x]) 5 = n_v vs 5 := n_v_old (by rw [hl]; decide)
  have e_29 : n_v (vs ++ [Value.int x]) 29 = Value.int x := n_v_new hl
  have nf0 : fc_1 PRD (20, [3, 29], [30, 0, 1, 1, 170, -1, 0, 0]) ws (vs ++ [Value.int x]) := by
    refine ⟨nf_inA hl rfl, sgq_131 ?_⟩
    · show 1 * w_fi ws (n_v (vs ++ [Value.int x]) 3) 170 + ((-1) * v_iv (n_v (vs ++ [Value.int x]) 29) + 0) ≤ 0
      simp only [e_3, e_29, q3]
      exact vc_Mo_writeGroup_at_l5_17_0 (v_iv (n_v vs 2)) (v_iv (n_v vs 4)) (v_iv (n_v vs 5)) (v_iv (n_v vs 6)) (v_iv (n_v vs 12)) (v_iv (n_v vs 14)) (v_iv (n_v vs 24)) (v_iv (n_v vs 26)) (v_iv (n_v vs 27)) (w_ei ws (w_ar ws (n_v vs 0) 2)) (w_fi ws (n_v vs 0) 5) (w_fi ws (n_v vs 0) 170) (v_iv (Value.int x)) k2 k4 k5 k6 k12 k14 k24 k26 k27 d0 d1 d2 f0 f1 f2 f3 f4 f5 f7 f9 f10 f11 f12 f14 f15 f16 f18 f19 f21 f22 f23 kz_0_170 ex2 ex3
  have nf1 : fc_1 PRD (23, [29, 2, 5, 4], [862, 1, -1, -1766, 1766]) ws (vs ++ [Value.int x]) := by
    refine ⟨nf_inA hl rfl, sgq_2084 ?_⟩
    · show 1 * v_iv (n_v (vs ++ [Value.int x]) 29) + ((-1) * v_iv (n_v (vs ++ [Value.int x]) 2) + ((-1766) * v_iv (n_v (vs ++ [Value.int x]) 5) + (1766 * v_iv (n_v (vs ++ [Value.int x]) 4) + 0))) ≤ 862
      simp only [e_2, e_4, e_5, e_29]
      exact vc_Mo_writeGroup_at_l5_17_1 (v_iv (n_v vs 2)) (v_iv (n_v vs 4)) (v_iv (n_v vs 5)) (v_iv (n_v vs 6)) (v_iv (n_v vs 12)) (v_iv (n_v vs 14)) (v_iv (n_v vs 24)) (v_iv (n_v vs 26)) (v_iv (n_v vs 27)) (w_ei ws (w_ar ws (n_v vs 0) 2)) (w_fi ws (n_v vs 0) 5) (w_fi ws (n_v vs 0) 170) (v_iv (Value.int x)) k2 k4 k5 k6 k12 k14 k24 k26 k27 d0 d1 d2 f0 f1 f2 f3 f4 f5 f7 f9 f10 f11 f12 f14 f15 f16 f18 f19 f21 f22 f23 kz_0_170 ex2 ex3
  exact ⟨(fun _ h => (by cases h)), [Value.int x], ag_one hx, List.forall_mem_cons.mpr ⟨⟨show (20 : Nat) < 100 from by decide, nf0⟩, List.forall_mem_cons.mpr ⟨⟨show (23 : Nat) < 100 from by decide, nf1⟩, (fun _ h => (by cases h))⟩⟩, (fun _ h => (by cases h))⟩
set_option maxHeartbeats 4000000 in
theorem vc_Mo_writeGroup_at_l5_18_0 (x2 : Int) (x4 : Int) (x5 : Int) (x6 : Int) (x12 : Int) (x14 : Int) (x24 : Int) (x26 : Int) (x27 : Int) (x29 : Int) (x30 : Int) (all_0 : Int → Int) (r_0 : Int) (texts_0 : Int) (k2 : 0 ≤ x2 ∧ x2 ≤ 99995604) (k4 : 5 ≤ x4 ∧ x4 ≤ 6) (k5 : 6 ≤ x5 ∧ x5 ≤ 7) (k6 : 7 ≤ x6 ∧ x6 ≤ 8) (k12 : 5 ≤ x12 ∧ x12 ≤ 6) (k14 : 0 ≤ x14 ∧ x14 ≤ 99999994) (k24 : 0 ≤ x24 ∧ x24 ≤ 99999992) (k26 : 0 ≤ x26 ∧ x26 ≤ 99999997) (k27 : 0 ≤ x27 ∧ x27 ≤ 99998253) (k29 : 0 ≤ x29 ∧ x29 ≤ 99999998) (k30 : 7 ≤ x30 ∧ x30 ≤ 8) (d0 : x5 + 1 ≤ x30 ∧ x30 ≤ x5 + 1) (d1 : x6 + (-4294967296) ≤ x30 ∧ x30 ≤ x6 + 0) (d2 : x4 + 0 ≤ x12 ∧ x12 ≤ x4 + 0) (d3 : x6 + (-4294967296) ≤ x5 ∧ x5 ≤ x6 + (-1)) (d4 : x5 + (-4294967296) ≤ x4 ∧ x4 ≤ x5 + (-1)) (f0 : x30 = x5 + 1) (f1 : 1 * x29 + ((-1) * x2 + ((-1766) * x5 + (1766 * x4 + 0))) ≤ 862) (f2 : 1 * x27 + ((-1) * x2 + ((-1766) * x5 + (1766 * x4 + 0))) ≤ (-885)) (f3 : 1 * x26 + ((-1) * x2 + ((-1766) * x5 + (1766 * x4 + 0))) ≤ (-888)) (f4 : 1 * x24 + ((-1) * x2 + ((-1766) * x5 + (1766 * x4 + 0))) ≤ (-896)) (f5 : 1 * x14 + ((-1) * x2 + ((-1766) * x5 + (1766 * x4 + 0))) ≤ (-902)) (f6 : 1 * x6 + ((-1) * all_0 (r_0 + 2) + 0) ≤ 0) (f7 : (-1) * x6 + (1 * all_0 (r_0 + 2) + 0) ≤ 0) (f9 : 1 * texts_0 + ((-1) * x29 + 0) ≤ 2) (f11 : 1 * x29 + ((-1) * x2 + ((-1766) * x5 + (1766 * x4 + 0))) ≤ 862) (f12 : 1 * x27 + ((-1) * x2 + ((-1766) * x5 + (1766 * x4 + 0))) ≤ (-885)) (f13 : 1 * x26 + ((-1) * x2 + ((-1766) * x5 + (1766 * x4 + 0))) ≤ (-888)) (f14 : 1 * x24 + ((-1) * x2 + ((-1766) * x5 + (1766 * x4 + 0))) ≤ (-896)) (f15 : 1 * x14 + ((-1) * x2 + ((-1766) * x5 + (1766 * x4 + 0))) ≤ (-902)) (f17 : 1 * x27 + ((-1) * x2 + ((-1766) * x5 + (1766 * x4 + 0))) ≤ (-885)) (f18 : 1 * x26 + ((-1) * x2 + ((-1766) * x5 + (1766 * x4 + 0))) ≤ (-888)) (f19 : 1 * x24 + ((-1) * x2 + ((-1766) * x5 + (1766 * x4 + 0))) ≤ (-896)) (f20 : 1 * x14 + ((-1) * x2 + ((-1766) * x5 + (1766 * x4 + 0))) ≤ (-902)) (f22 : 1 * x26 + ((-1) * x2 + ((-1766) * x5 + (1766 * x4 + 0))) ≤ (-888)) (f23 : 1 * x24 + ((-1) * x2 + ((-1766) * x5 + (1766 * x4 + 0))) ≤ (-896)) (f24 : 1 * x14 + ((-1) * x2 + ((-1766) * x5 + (1766 * x4 + 0))) ≤ (-902)) (f26 : 1 * x24 + ((-1) * x2 + ((-1766) * x5 + (1766 * x4 + 0))) ≤ (-896)) (f27 : 1 * x14 + ((-1) * x2 + ((-1766) * x5 + (1766 * x4 + 0))) ≤ (-902)) (f29 : 1 * x14 + ((-1) * x2 + ((-1766) * x5 + (1766 * x4 + 0))) ≤ (-902)) (f30 : x12 = x4) (f31 : x5 < x6) (kz_0_170 : 0 ≤ texts_0 ∧ texts_0 ≤ 100000000) : 1 * texts_0 + ((-1) * x2 + ((-1766) * x30 + (1766 * x4 + 0))) ≤ (-902) := by
  first | assumption | omega | grind
def o_Mo_writeGroup_at_l5_18 : or_T := (83, 31, [(0, (2, 0, 0, [165])), (2, (0, 0, 99995604, [])), (4, (0, 5, 6, [])), (5, (0, 6, 7, [])), (6, (0, 7, 8, [])), (12, (0, 5, 6, [])), (14, (0, 0, 99999994, [])), (24, (0, 0, 99999992, [])), (26, (0, 0, 99999997, [])), (27, (0, 0, 99998253, [])), (29, (0, 0, 99999998, [])), (30, (0, 7, 8, []))], [(6, [30, 5], [1]), (23, [29, 2, 5, 4], [862, 1, -1, -1766, 1766]), (23, [27, 2, 5, 4], [-885, 1, -1, -1766, 1766]), (23, [26, 2, 5, 4], [-888, 1, -1, -1766, 1766]), (23, [24, 2, 5, 4], [-896, 1, -1, -1766, 1766]), (23, [14, 2, 5, 4], [-902, 1, -1, -1766, 1766]), (20, [6, 3], [30, 0, 1, 0, 0, -1, 3, 2005002]), (20, [6, 3], [30, 0, -1, 0, 0, 1, 3, 2005002]), (24, [0, 3], []), (20, [3, 29], [30, 2, 1, 1, 170, -1, 0, 0]), (102, [29], [7770675568902916283677847627294075626569627356208558085007249638955617140820833992704, 165170]), (23, [29, 2, 5, 4], [862, 1, -1, -1766, 1766]), (23, [27, 2, 5, 4], [-885, 1, -1, -1766, 1766]), (23, [26, 2, 5, 4], [-888, 1, -1, -1766, 1766]), (23, [24, 2, 5, 4], [-896, 1, -1, -1766, 1766]), (23, [14, 2, 5, 4], [-902, 1, -1, -1766, 1766]), (102, [27], [7770675568902916283677847627294075626569627356208558085007249638955617140820833992704, 165170]), (23, [27, 2, 5, 4], [-885, 1, -1, -1766, 1766]), (23, [26, 2, 5, 4], [-888, 1, -1, -1766, 1766]), (23, [24, 2, 5, 4], [-896, 1, -1, -1766, 1766]), (23, [14, 2, 5, 4], [-902, 1, -1, -1766, 1766]), (102, [26], [7770675568902916283677847627294075626569627356208558085007249638955617140820833992704, 165170]), (23, [26, 2, 5, 4], [-888, 1, -1, -1766, 1766]), (23, [24, 2, 5, 4], [-896, 1, -1, -1766, 1766]), (23, [14, 2, 5, 4], [-902, 1, -1, -1766, 1766]), (102, [24], [7770675568902916283677847627294075626569627356208558085007249638955617140820833992704, 165170]), (23, [24, 2, 5, 4], [-896, 1, -1, -1766, 1766]), (23, [14, 2, 5, 4], [-902, 1, -1, -1766, 1766]), (102, [14], [7770675568902916283677847627294075626569627356208558085007249638955617140820833992704, 165170]), (23, [14, 2, 5, 4], [-902, 1, -1, -1766, 1766]), (7, [12, 4], [0]), (7, [5, 6], [2])], [], [], [(20, [3, 2, 30, 4], [30, -902, 1, 1, 170, -1, 0, 0, -1766, 0, 0, 1766, 0, 0])], [], [(30, 5, 1, 1), (30, 6, -4294967296, 0), (12, 4, 0, 0), (5, 6, -4294967296, -1), (4, 5, -4294967296, -1)])
theorem oo_Mo_writeGroup_at_l5_18 {kA : Nat → ClassId} : or_ok PRD kA GG o_Mo_writeGroup_at_l5_18 := by
  refine or_mk fun A ta ws vs hD hth hl => ?_
  intro t0 r0 t2 k2 t4 k4 t5 k5 t6 k6 t12 k12 t14 k14 t24 k24 t26 k26 t27 k27 t29 k29 t30 k30 d0 d1 d2 d3 d4 f0 f1 f2 f3 f4 f5 f6 f7 f8 f9 ta1 w1 le1 s1 f11 f12 f13 f14 f15 ta2 w2 le2 s2 f17 f18 f19 f20 ta3 w3 le3 s3 f22 f23 f24 ta4 w4 le4 s4 f26 f27 ta5 w5 le5 s5 f29 f30 f31
  replace f0 := shm_4 f0
  replace f1 := shm_2084 f1
  replace f2 := shm_2082 f2
  replace f3 := shm_2081 f3
  replace f4 := shm_2080 f4
  replace f5 := shm_2079 f5
  replace f6 := shm_123 f6
  replace f7 := shm_124 f7
  replace f8 := shm_5 f8
  replace f9 := shm_210 f9
  replace f11 := shm_2084 f11
  replace f12 := shm_2082 f12
  replace f13 := shm_2081 f13
  replace f14 := shm_2080 f14
  replace f15 := shm_2079 f15
  replace f17 := shm_2082 f17
  replace f18 := shm_2081 f18
  replace f19 := shm_2080 f19
  replace f20 := shm_2079 f20
  replace f22 := shm_2081 f22
  replace f23 := shm_2080 f23
  replace f24 := shm_2079 f24
  replace f26 := shm_2080 f26
  replace f27 := shm_2079 f27
  replace f29 := shm_2079 f29
  replace f30 := shm_37 f30
  replace f31 := shm_6 f31
  have q3 : n_v vs 3 = n_v vs 0 := f8.symm
  simp only [q3] at f6 f7 f9
  have kz_0_170 := fdq_11 hD hth r0
  have nf0 : fc_1 PRD (20, [3, 2, 30, 4], [30, -902, 1, 1, 170, -1, 0, 0, -1766, 0, 0, 1766, 0, 0]) ws (vs) := by
    refine ⟨nf_in hl rfl, sgq_2078 ?_⟩
    · show 1 * w_fi ws (n_v vs 3) 170 + ((-1) * v_iv (n_v vs 2) + ((-1766) * v_iv (n_v vs 30) + (1766 * v_iv (n_v vs 4) + 0))) ≤ (-902)
      rw [q3]
      exact vc_Mo_writeGroup_at_l5_18_0 (v_iv (n_v vs 2)) (v_iv (n_v vs 4)) (v_iv (n_v vs 5)) (v_iv (n_v vs 6)) (v_iv (n_v vs 12)) (v_iv (n_v vs 14)) (v_iv (n_v vs 24)) (v_iv (n_v vs 26)) (v_iv (n_v vs 27)) (v_iv (n_v vs 29)) (v_iv (n_v vs 30)) (w_ei ws (w_ar ws (n_v vs 0) 2)) (w_fi ws (n_v vs 0) 5) (w_fi ws (n_v vs 0) 170) k2 k4 k5 k6 k12 k14 k24 k26 k27 k29 k30 d0 d1 d2 d3 d4 f0 f1 f2 f3 f4 f5 f6 f7 f9 f11 f12 f13 f14 f15 f17 f18 f19 f20 f22 f23 f24 f26 f27 f29 f30 f31 kz_0_170
  refine ⟨(fun _ h => (by cases h)), [], trivial, ?_, (fun _ h => (by cases h))⟩
  rw [List.append_nil]
  exact List.forall_mem_cons.mpr ⟨⟨show (20 : Nat) < 100 from by decide, nf0⟩, (fun _ h => (by cases h))⟩
def o_Mo_writeGroup_at_l5_19 : or_T := (83, 14, [(0, (2, 0, 0, [165])), (2, (0, 0, 99995604, [])), (3, (2, 0, 0, [165])), (4, (0, 5, 6, [])), (5, (0, 6, 7, [])), (6, (0, 7, 8, [])), (7, (2, 0, 0, [167])), (8, (0, 0, 66297, [])), (9, (0, 531, 531, [])), (10, (0, 531, 66828, [])), (11, (0, 537, 66835, [])), (12, (0, -1, 6, [])), (13, (0, 7, 8, []))], [(6, [13, 5], [1]), (7, [12, 4], [1]), (10, [12, 7, 11], []), (1, [11, 10, 5], []), (1, [10, 8, 9], []), (9, [8, 3], [5]), (9, [7, 3], [2]), (7, [5, 6], [2]), (20, [6, 3], [30, 0, 1, 0, 0, -1, 3, 2005002]), (20, [6, 3], [30, 0, -1, 0, 0, 1, 3, 2005002]), (20, [3, 2, 5, 4], [30, -902, 1, 1, 170, -1, 0, 0, -1766, 0, 0, 1766, 0, 0]), (24, [0, 3], [])], [], [], [(20, [3, 2, 13, 4], [30, -902, 1, 1, 170, -1, 0, 0, -1766, 0, 0, 1766, 0, 0])], [], [(13, 5, 1, 1), (13, 6, -4294967296, 0), (11, 5, 531, 66828), (11, 6, -4294967296, 66827), (11, 10, 6, 7), (11, 8, 537, 538), (10, 8, 531, 531), (5, 6, -4294967296, -1), (4, 5, -4294967296, -1)])
theorem oo_Mo_writeGroup_at_l5_19 {kA : Nat → ClassId} : or_ok PRD kA GG o_Mo_writeGroup_at_l5_19 := by
  refine or_mk fun A ta ws vs hD hth hl => ?_
  intro t0 r0 t2 k2 t3 r3 t4 k4 t5 k5 t6 k6 t7 r7 t8 k8 t9 k9 t10 k10 t11 k11 t12 k12 t13 k13 d0 d1 d2 d3 d4 d5 d6 d7 d8 f0 f1 f2 f3 f4 f5 f6 f7 f8 f9 f10 f11
  replace f0 := shm_4 f0
  replace f1 := shm_40 f1
  replace f2 := shm_107 f2
  replace f3 := shm_12 f3
  replace f4 := shm_12 f4
  replace f5 := shm_110 f5
  replace f6 := shm_120 f6
  replace f7 := shm_6 f7
  replace f8 := shm_123 f8
  replace f9 := shm_124 f9
  replace f10 := shm_2078 f10
  replace f11 := shm_5 f11
  have q3 : n_v vs 3 = n_v vs 0 := f11.symm
  simp only [q3] at f5 f6 f8 f9 f10
  have cr_0_2 := fdq_10 hD hth r0
  have ad_7 : v_ad (n_v vs 7) = w_ar ws (n_v vs 0) 2 := congrArg v_ad f6
  simp only [ad_7] at f2
  have h2 : v_iv (n_v vs 12) = w_ei ws (w_ar ws (n_v vs 0) 2) (v_iv (n_v vs 11)) := f2
  have g5 : v_iv (n_v vs 8) = w_fi ws (n_v vs 0) 5 := congrArg v_iv f5
  have cg2_F5_2 : v_iv (n_v vs 11) = w_fi ws (n_v vs 0) 5 + 2 → w_el ws (w_ar ws (n_v vs 0) 2) (v_iv (n_v vs 11)).toNat = w_el ws (w_ar ws (n_v vs 0) 2) (w_fi ws (n_v vs 0) 5 + 2).toNat := fun h => by rw [h]
  have kz_0_170 := fdq_11 hD hth r0
  have nf0 : fc_1 PRD (20, [3, 2, 13, 4], [30, -902, 1, 1, 170, -1, 0, 0, -1766, 0, 0, 1766, 0, 0]) ws (vs) := by
    refine ⟨nf_in hl rfl, sgq_2078 ?_⟩
    · show 1 * w_fi ws (n_v vs 3) 170 + ((-1) * v_iv (n_v vs 2) + ((-1766) * v_iv (n_v vs 13) + (1766 * v_iv (n_v vs 4) + 0))) ≤ (-902)
      rw [q3]
      omega
  refine ⟨(fun _ h => (by cases h)), [], trivial, ?_, (fun _ h => (by cases h))⟩
  rw [List.append_nil]
  exact List.forall_mem_cons.mpr ⟨⟨show (20 : Nat) < 100 from by decide, nf0⟩, (fun _ h => (by cases h))⟩
def n_Mo_writeGroup_at_l5_an : List an_T := [(2, [(0, (2, 0, 0, [165])), (1, (0, 5, 7, [])), (2, (0, 0, 24, []))], [], (0, 0), [(0, 0, 99998), (1, 5, 24), (0, 0, 100000)], [(1, 4, (Int.negSucc 999999999999), 0), (4, 1, (Int.negSucc 999999999999), 0)], [], [(2, 0, 0, [165]), (0, 5, 7, []), (0, 0, 99995604, [])], 0, [], [(20, [3, 2, 5], [30, 0, 1, 1, 170, (Int.negSucc 0), 0, 0, (Int.negSucc 35), 0, 0]), (24, [0, 3], [])]), (83, [(0, (2, 0, 0, [165])), (1, (0, 5, 7, [])), (2, (0, 6, 8, []))], [], (0, 0), [(0, 0, 99917), (1, 5, 8), (0, 0, 100000)], [(1, 4, (Int.negSucc 999999999999), 0), (1, 5, (Int.negSucc 999999999999), (Int.negSucc 0)), (4, 1, (Int.negSucc 999999999999), 0), (4, 5, (Int.negSucc 999999999999), (Int.negSucc 0))], [], [(2, 0, 0, [165]), (0, 5, 7, []), (0, 0, 99995604, [])], 0, [], [(20, [3, 2, 5, 4], [30, (Int.negSucc 901), 1, 1, 170, (Int.negSucc 0), 0, 0, (Int.negSucc 1765), 0, 0, 1766, 0, 0]), (24, [0, 3], [])])]
def t_Mo_writeGroup_at_l5_ct : ct_L := [(1, 475, e_Mo_nodes), (1, 509, e_Mo_groups), (1, 723, e_Mo_size), (1, 725, e_Mo_groupOf), (1, 1285, e_Mo_writeName), (1, 1293, e_Mo_writeNode), (1, 1298, e_Mo_writeNumber), (82, 1290, e_Mo_write_at_s5013), (145, 1290, e_Mo_write_at_s5014), (193, 1290, e_Mo_write_at_s5045), (214, 1290, e_Mo_write_at_s5015), (355, 1290, e_Mo_write_at_s5016), (472, 1290, e_Mo_write_at_s5017), (487, 1309, e_Mo_writeGroup_at_l6), (508, 1290, e_Mo_write_at_s5018), (1000001, 1288, en_ro [] (2, 0, 0, [5013])), (1000001, 1296, en_ro [] (2, 0, 0, [5014])), (1000001, 1301, en_ro [] (2, 0, 0, [5045])), (1000001, 1303, en_ro [] (2, 0, 0, [5015])), (1000001, 1305, en_ro [] (2, 0, 0, [5016])), (1000001, 1307, en_ro [] (2, 0, 0, [5017])), (1000001, 1312, en_ro [] (2, 0, 0, [5018]))]
set_option maxRecDepth 100000 in
theorem c_Mo_writeGroup_at_l5 {l : Launch} {D : va_G} {kA : Nat → ClassId} (h_Mo_groupOf : ct_ok PRD l D kA GG y_Mo_groupOf z_Mo_groupOf e_Mo_groupOf) (h_Mo_groups : ct_ok PRD l D kA GG y_Mo_groups z_Mo_groups e_Mo_groups) (h_Mo_nodes : ct_ok PRD l D kA GG y_Mo_nodes z_Mo_nodes e_Mo_nodes) (h_Mo_size : ct_ok PRD l D kA GG y_Mo_size z_Mo_size e_Mo_size) (h_Mo_writeGroup_at_l6 : ct_ok PRD l D kA GG y_Mo_writeGroup_at_l6 z_Mo_writeGroup_at_l6 e_Mo_writeGroup_at_l6) (h_Mo_writeName : ct_ok PRD l D kA GG y_Mo_writeName z_Mo_writeName e_Mo_writeName) (h_Mo_writeNode : ct_ok PRD l D kA GG y_Mo_writeNode z_Mo_writeNode e_Mo_writeNode) (h_Mo_writeNumber : ct_ok PRD l D kA GG y_Mo_writeNumber z_Mo_writeNumber e_Mo_writeNumber) (h_Mo_write_at_s5013 : ct_ok PRD l D kA GG y_Mo_write_at_s5013 z_Mo_write_at_s5013 e_Mo_write_at_s5013) (h_Mo_write_at_s5014 : ct_ok PRD l D kA GG y_Mo_write_at_s5014 z_Mo_write_at_s5014 e_Mo_write_at_s5014) (h_Mo_write_at_s5015 : ct_ok PRD l D kA GG y_Mo_write_at_s5015 z_Mo_write_at_s5015 e_Mo_write_at_s5015) (h_Mo_write_at_s5016 : ct_ok PRD l D kA GG y_Mo_write_at_s5016 z_Mo_write_at_s5016 e_Mo_write_at_s5016) (h_Mo_write_at_s5017 : ct_ok PRD l D kA GG y_Mo_write_at_s5017 z_Mo_write_at_s5017 e_Mo_write_at_s5017) (h_Mo_write_at_s5018 : ct_ok PRD l D kA GG y_Mo_write_at_s5018 z_Mo_write_at_s5018 e_Mo_write_at_s5018) (h_Mo_write_at_s5045 : ct_ok PRD l D kA GG y_Mo_write_at_s5045 z_Mo_write_at_s5045 e_Mo_write_at_s5045) : ct_ok PRD l D kA GG y_Mo_writeGroup_at_l5 z_Mo_writeGroup_at_l5 e_Mo_writeGroup_at_l5 := chk_all_ok (FT := [(16, 13, 2), (391, 13, 5)]) (PT := []) (CT := t_Mo_writeGroup_at_l5_ct) (KT := []) (NT := []) (AN := n_Mo_writeGroup_at_l5_an) (OT := [o_Mo_writeGroup_at_l5_0, o_Mo_writeGroup_at_l5_1, o_Mo_writeGroup_at_l5_2, o_Mo_writeGroup_at_l5_3, o_Mo_writeGroup_at_l5_4, o_Mo_writeGroup_at_l5_5, o_Mo_writeGroup_at_l5_6, o_Mo_writeGroup_at_l5_7, o_Mo_writeGroup_at_l5_8, o_Mo_writeGroup_at_l5_9, o_Mo_writeGroup_at_l5_10, o_Mo_writeGroup_at_l5_11, o_Mo_writeGroup_at_l5_12, o_Mo_writeGroup_at_l5_13, o_Mo_writeGroup_at_l5_14, o_Mo_writeGroup_at_l5_15, o_Mo_writeGroup_at_l5_16, o_Mo_writeGroup_at_l5_17, o_Mo_writeGroup_at_l5_18, o_Mo_writeGroup_at_l5_19]) 3 408 (List.forall_mem_cons.mpr ⟨oo_Mo_writeGroup_at_l5_0, List.forall_mem_cons.mpr ⟨oo_Mo_writeGroup_at_l5_1, List.forall_mem_cons.mpr ⟨oo_Mo_writeGroup_at_l5_2, List.forall_mem_cons.mpr ⟨oo_Mo_writeGroup_at_l5_3, List.forall_mem_cons.mpr ⟨oo_Mo_writeGroup_at_l5_4, List.forall_mem_cons.mpr ⟨oo_Mo_writeGroup_at_l5_5, List.forall_mem_cons.mpr ⟨oo_Mo_writeGroup_at_l5_6, List.forall_mem_cons.mpr ⟨oo_Mo_writeGroup_at_l5_7, List.forall_mem_cons.mpr ⟨oo_Mo_writeGroup_at_l5_8, List.forall_mem_cons.mpr ⟨oo_Mo_writeGroup_at_l5_9, List.forall_mem_cons.mpr ⟨oo_Mo_writeGroup_at_l5_10, List.forall_mem_cons.mpr ⟨oo_Mo_writeGroup_at_l5_11, List.forall_mem_cons.mpr ⟨oo_Mo_writeGroup_at_l5_12, List.forall_mem_cons.mpr ⟨oo_Mo_writeGroup_at_l5_13, List.forall_mem_cons.mpr ⟨oo_Mo_writeGroup_at_l5_14, List.forall_mem_cons.mpr ⟨oo_Mo_writeGroup_at_l5_15, List.forall_mem_cons.mpr ⟨oo_Mo_writeGroup_at_l5_16, List.forall_mem_cons.mpr ⟨oo_Mo_writeGroup_at_l5_17, List.forall_mem_cons.mpr ⟨oo_Mo_writeGroup_at_l5_18, List.forall_mem_cons.mpr ⟨oo_Mo_writeGroup_at_l5_19, List.forall_mem_nil _⟩⟩⟩⟩⟩⟩⟩⟩⟩⟩⟩⟩⟩⟩⟩⟩⟩⟩⟩⟩) (by decide +kernel) ⟨List.forall_mem_cons.mpr ⟨gf_Mo_16, List.forall_mem_cons.mpr ⟨gf_Mo_391, List.forall_mem_nil _⟩⟩, List.forall_mem_nil _, List.forall_mem_cons.mpr ⟨cl_virtual (y := y_Mo_nodes) (ci := 13) rfl rfl ⟨_, _, rfl⟩ (by decide +kernel) h_Mo_nodes wm_3025 wm_9 wm_3022 wm_3024 wv_13_3 ⟨by decide, by decide, by decide +kernel⟩ (by decide), List.forall_mem_cons.mpr ⟨cl_virtual (y := y_Mo_groups) (ci := 13) rfl rfl ⟨_, _, rfl⟩ (by decide +kernel) h_Mo_groups wm_3070 wm_9 wm_3067 wm_3069 wv_13_14 ⟨by decide, by decide, by decide +kernel⟩ (by decide), List.forall_mem_cons.mpr ⟨cl_virtual (y := y_Mo_size) (ci := 13) rfl rfl ⟨_, _, rfl⟩ (by decide +kernel) h_Mo_size wm_3307 wm_9 wm_3304 wm_3306 wv_17_0 ⟨by decide, by decide, by decide +kernel⟩ (by decide), List.forall_mem_cons.mpr ⟨cl_virtual (y := y_Mo_groupOf) (ci := 13) rfl rfl ⟨_, _, rfl⟩ (by decide +kernel) h_Mo_groupOf wm_3311 wm_9 wm_3308 wm_3310 wv_17_1 ⟨by decide, by decide, by decide +kernel⟩ (by decide), List.forall_mem_cons.mpr ⟨cl_virtual (y := y_Mo_writeName) (ci := 13) rfl rfl ⟨_, _, rfl⟩ (by decide +kernel) h_Mo_writeName wm_3922 wm_9 wm_3919 wm_3921 wv_24_10 ⟨by decide, by decide, by decide +kernel⟩ (by decide), List.forall_mem_cons.mpr ⟨cl_virtual (y := y_Mo_writeNode) (ci := 13) rfl rfl ⟨_, _, rfl⟩ (by decide +kernel) h_Mo_writeNode wm_3918 wm_9 wm_3915 wm_3917 wv_24_9 ⟨by decide, by decide, by decide +kernel⟩ (by decide), List.forall_mem_cons.mpr ⟨cl_virtual (y := y_Mo_writeNumber) (ci := 13) rfl rfl ⟨_, _, rfl⟩ (by decide +kernel) h_Mo_writeNumber wm_3927 wm_9 wm_3924 wm_3926 wv_24_11 ⟨by decide, by decide, by decide +kernel⟩ (by decide), List.forall_mem_cons.mpr ⟨cl_virtual (y := y_Mo_write_at_s5013) (ci := 13) rfl rfl ⟨_, _, rfl⟩ (by decide +kernel) h_Mo_write_at_s5013 wm_3910 wm_9 wm_3907 wm_3909 wv_24_7 ⟨by decide, by decide, by decide +kernel⟩ (by decide), List.forall_mem_cons.mpr ⟨cl_virtual (y := y_Mo_write_at_s5014) (ci := 13) rfl rfl ⟨_, _, rfl⟩ (by decide +kernel) h_Mo_write_at_s5014 wm_3910 wm_9 wm_3907 wm_3909 wv_24_7 ⟨by decide, by decide, by decide +kernel⟩ (by decide), List.forall_mem_cons.mpr ⟨cl_virtual (y := y_Mo_write_at_s5045) (ci := 13) rfl rfl ⟨_, _, rfl⟩ (by decide +kernel) h_Mo_write_at_s5045 wm_3910 wm_9 wm_3907 wm_3909 wv_24_7 ⟨by decide, by decide, by decide +kernel⟩ (by decide), List.forall_mem_cons.mpr ⟨cl_virtual (y := y_Mo_write_at_s5015) (ci := 13) rfl rfl ⟨_, _, rfl⟩ (by decide +kernel) h_Mo_write_at_s5015 wm_3910 wm_9 wm_3907 wm_3909 wv_24_7 ⟨by decide, by decide, by decide +kernel⟩ (by decide), List.forall_mem_cons.mpr ⟨cl_virtual (y := y_Mo_write_at_s5016) (ci := 13) rfl rfl ⟨_, _, rfl⟩ (by decide +kernel) h_Mo_write_at_s5016 wm_3910 wm_9 wm_3907 wm_3909 wv_24_7 ⟨by decide, by decide, by decide +kernel⟩ (by decide), List.forall_mem_cons.mpr ⟨cl_virtual (y := y_Mo_write_at_s5017) (ci := 13) rfl rfl ⟨_, _, rfl⟩ (by decide +kernel) h_Mo_write_at_s5017 wm_3910 wm_9 wm_3907 wm_3909 wv_24_7 ⟨by decide, by decide, by decide +kernel⟩ (by decide), List.forall_mem_cons.mpr ⟨cl_virtual (y := y_Mo_writeGroup_at_l6) (ci := 13) rfl rfl ⟨_, _, rfl⟩ (by decide +kernel) h_Mo_writeGroup_at_l6 wm_3905 wm_9 wm_3902 wm_3904 wv_24_6 ⟨by decide, by decide, by decide +kernel⟩ (by decide), List.forall_mem_cons.mpr ⟨cl_virtual (y := y_Mo_write_at_s5018) (ci := 13) rfl rfl ⟨_, _, rfl⟩ (by decide +kernel) h_Mo_write_at_s5018 wm_3910 wm_9 wm_3907 wm_3909 wv_24_7 ⟨by decide, by decide, by decide +kernel⟩ (by decide), List.forall_mem_cons.mpr ⟨cl_ldcw (own := "DrawingHouseModel") (idx := 1288) (i := 13) (tx := "node ") (by decide +kernel) (by decide +kernel) (by decide +kernel), List.forall_mem_cons.mpr ⟨cl_ldcw (own := "DrawingHouseModel") (idx := 1296) (i := 14) (tx := " [size=") (by decide +kernel) (by decide +kernel) (by decide +kernel), List.forall_mem_cons.mpr ⟨cl_ldcw (own := "DrawingHouseModel") (idx := 1301) (i := 45) (tx := "]") (by decide +kernel) (by decide +kernel) (by decide +kernel), List.forall_mem_cons.mpr ⟨cl_ldcw (own := "DrawingHouseModel") (idx := 1303) (i := 15) (tx := ";\n") (by decide +kernel) (by decide +kernel) (by decide +kernel), List.forall_mem_cons.mpr ⟨cl_ldcw (own := "DrawingHouseModel") (idx := 1305) (i := 16) (tx := "group ") (by decide +kernel) (by decide +kernel) (by decide +kernel), List.forall_mem_cons.mpr ⟨cl_ldcw (own := "DrawingHouseModel") (idx := 1307) (i := 17) (tx := " {\n") (by decide +kernel) (by decide +kernel) (by decide +kernel), List.forall_mem_cons.mpr ⟨cl_ldcw (own := "DrawingHouseModel") (idx := 1312) (i := 18) (tx := "}\n") (by decide +kernel) (by decide +kernel) (by decide +kernel), List.forall_mem_nil _⟩⟩⟩⟩⟩⟩⟩⟩⟩⟩⟩⟩⟩⟩⟩⟩⟩⟩⟩⟩⟩⟩, List.forall_mem_nil _, List.forall_mem_nil _, GG_pl⟩ (by decide +kernel)

set_option maxHeartbeats 4000000 in
theorem vc_Mo_writeGroup_at_l6_0_0 (x2 : Int) (x3 : Int) (texts_0 : Int) (k2 : 0 ≤ x2 ∧ x2 ≤ 99998253) (k3 : 0 ≤ x3 ∧ x3 ≤ 0) (f0 : 1 * texts_0 + ((-1) * x2 + 0) ≤ 0) (kz_0_170 : 0 ≤ texts_0 ∧ texts_0 ≤ 100000000) : 1 * texts_0 + ((-1) * x2 + ((-36) * x3 + 0)) ≤ 0 := by
  first | assumption | omega | grind
def o_Mo_writeGroup_at_l6_0 : or_T := (2, 4, [(0, (2, 0, 0, [165])), (2, (0, 0, 99998253, [])), (3, (0, 0, 0, []))], [(20, [0, 2], [30, 0, 1, 1, 170, -1, 0, 0])], [], [], [(20, [0, 2, 3], [30, 0, 1, 1, 170, -1, 0, 0, -36, 0, 0]), (24, [0, 0], [])], [], [])
theorem oo_Mo_writeGroup_at_l6_0 {kA : Nat → ClassId} : or_ok PRD kA GG o_Mo_writeGroup_at_l6_0 := by
  refine or_mk fun A ta ws vs hD hth hl => ?_
  intro t0 r0 t2 k2 t3 k3 f0
  have kz_0_170 := fdq_11 hD hth r0
  have nf0 : fc_1 PRD (20, [0, 2, 3], [30, 0, 1, 1, 170, -1, 0, 0, -36, 0, 0]) ws (vs) := ⟨nf_in hl rfl, sgq_2035 (vc_Mo_writeGroup_at_l6_0_0 (v_iv (n_v vs 2)) (v_iv (n_v vs 3)) (w_fi ws (n_v vs 0) 170) k2 k3 (shm_131 f0) kz_0_170)⟩
  have nf1 : fc_1 PRD (24, [0, 0], []) ws (vs) := by
    refine ⟨nf_in hl rfl, sgq_1 ?_⟩
    · show n_v vs 0 = n_v vs 0
      first | rfl | simp only [true_and]
  refine ⟨(fun _ h => (by cases h)), [], trivial, ?_, (fun _ h => (by cases h))⟩
  rw [List.append_nil]
  exact List.forall_mem_cons.mpr ⟨⟨show (20 : Nat) < 100 from by decide, nf0⟩, List.forall_mem_cons.mpr ⟨⟨show (24 : Nat) < 100 from by decide, nf1⟩, (fun _ h => (by cases h))⟩⟩
set_option maxHeartbeats 4000000 in
theorem vc_Mo_writeGroup_at_l6_1_0 (x2 : Int) (x4 : Int) (x5 : Int) (x6 : Int) (x7 : Int) (x8 : Int) (all_0 : Int → Int) (r_0 : Int) (texts_0 : Int) (k2 : 0 ≤ x2 ∧ x2 ≤ 99998253) (k4 : 6 ≤ x4 ∧ x4 ≤ 7) (k5 : 0 ≤ x5 ∧ x5 ≤ 24) (k6 : 0 ≤ x6 ∧ x6 ≤ 24) (k7 : 1 ≤ x7 ∧ x7 ≤ 1) (k8 : 7 ≤ x8 ∧ x8 ≤ 8) (d0 : x4 + 1 ≤ x8 ∧ x8 ≤ x4 + 1) (d1 : x6 + 0 ≤ x5 ∧ x5 ≤ x6 + 4294967296) (f0 : x8 = x4 + x7) (f1 : x6 ≤ x5) (f2 : 1 * x6 + ((-1) * all_0 (r_0 + 0) + 0) ≤ 0) (f3 : (-1) * x6 + (1 * all_0 (r_0 + 0) + 0) ≤ 0) (f4 : 1 * texts_0 + ((-1) * x2 + ((-36) * x5 + 0)) ≤ 0) (kz_0_170 : 0 ≤ texts_0 ∧ texts_0 ≤ 100000000) : 1 * texts_0 + ((-1) * x2 + ((-883) * x8 + (883 * x4 + 0))) ≤ (-19) := by
  first | assumption | omega | grind
def o_Mo_writeGroup_at_l6_1 : or_T := (83, 9, [(0, (2, 0, 0, [165])), (2, (0, 0, 99998253, [])), (4, (0, 6, 7, [])), (5, (0, 0, 24, [])), (6, (0, 0, 24, [])), (7, (0, 1, 1, [])), (8, (0, 7, 8, []))], [(1, [8, 4, 7], []), (7, [5, 6], [3]), (20, [6, 3], [30, 0, 1, 0, 0, -1, 3, 2005000]), (20, [6, 3], [30, 0, -1, 0, 0, 1, 3, 2005000]), (20, [3, 2, 5], [30, 0, 1, 1, 170, -1, 0, 0, -36, 0, 0]), (24, [0, 3], [])], [], [], [(20, [3, 2, 8, 4], [30, -19, 1, 1, 170, -1, 0, 0, -883, 0, 0, 883, 0, 0])], [], [(8, 4, 1, 1), (5, 6, 0, 4294967296)])
theorem oo_Mo_writeGroup_at_l6_1 {kA : Nat → ClassId} : or_ok PRD kA GG o_Mo_writeGroup_at_l6_1 := by
  refine or_mk fun A ta ws vs hD hth hl => ?_
  intro t0 r0 t2 k2 t4 k4 t5 k5 t6 k6 t7 k7 t8 k8 d0 d1 f0 f1 f2 f3 f4 f5
  replace f0 := shm_12 f0
  replace f1 := shm_2 f1
  replace f2 := shm_126 f2
  replace f3 := shm_127 f3
  replace f4 := shm_2035 f4
  replace f5 := shm_5 f5
  have q3 : n_v vs 3 = n_v vs 0 := f5.symm
  simp only [q3] at f2 f3 f4
  have kz_0_170 := fdq_11 hD hth r0
  have nf0 : fc_1 PRD (20, [3, 2, 8, 4], [30, -19, 1, 1, 170, -1, 0, 0, -883, 0, 0, 883, 0, 0]) ws (vs) := by
    refine ⟨nf_in hl rfl, sgq_2085 ?_⟩
    · show 1 * w_fi ws (n_v vs 3) 170 + ((-1) * v_iv (n_v vs 2) + ((-883) * v_iv (n_v vs 8) + (883 * v_iv (n_v vs 4) + 0))) ≤ (-19)
      rw [q3]
      exact vc_Mo_writeGroup_at_l6_1_0 (v_iv (n_v vs 2)) (v_iv (n_v vs 4)) (v_iv (n_v vs 5)) (v_iv (n_v vs 6)) (v_iv (n_v vs 7)) (v_iv (n_v vs 8)) (w_ei ws (w_ar ws (n_v vs 0) 2)) (w_fi ws (n_v vs 0) 5) (w_fi ws (n_v vs 0) 170) k2 k4 k5 k6 k7 k8 d0 d1 f0 f1 f2 f3 f4 kz_0_170
  refine ⟨(fun _ h => (by cases h)), [], trivial, ?_, (fun _ h => (by cases h))⟩
  rw [List.append_nil]
  exact List.forall_mem_cons.mpr ⟨⟨show (20 : Nat) < 100 from by decide, nf0⟩, (fun _ h => (by cases h))⟩
set_option maxHeartbeats 4000000 in
theorem vc_Mo_writeGroup_at_l6_2_0 (x2 : Int) (x4 : Int) (x5 : Int) (x6 : Int) (x7 : Int) (all_0 : Int → Int) (r_0 : Int) (texts_0 : Int) (gx : Int) (k2 : 0 ≤ x2 ∧ x2 ≤ 99998253) (k4 : 6 ≤ x4 ∧ x4 ≤ 7) (k5 : 0 ≤ x5 ∧ x5 ≤ 23) (k6 : 1 ≤ x6 ∧ x6 ≤ 24) (k7 : 6 ≤ x7 ∧ x7 ≤ 7) (d0 : x4 + 0 ≤ x7 ∧ x7 ≤ x4 + 0) (d1 : x6 + (-4294967296) ≤ x5 ∧ x5 ≤ x6 + (-1)) (f0 : x7 = x4) (f1 : x7 = all_0 (((r_0 + 243) + x5))) (f2 : x5 < x6) (f3 : 1 * x6 + ((-1) * all_0 (r_0 + 0) + 0) ≤ 0) (f4 : (-1) * x6 + (1 * all_0 (r_0 + 0) + 0) ≤ 0) (f5 : 1 * texts_0 + ((-1) * x2 + ((-36) * x5 + 0)) ≤ 0) (kz_0_170 : 0 ≤ texts_0 ∧ texts_0 ≤ 100000000) (ex2 : gx = texts_0) (ex3 : 0 ≤ gx ∧ gx ≤ 99999995) : 1 * texts_0 + ((-1) * gx + 0) ≤ 0 := by
  first | assumption | omega | grind
set_option maxHeartbeats 4000000 in
theorem vc_Mo_writeGroup_at_l6_2_1 (x2 : Int) (x4 : Int) (x5 : Int) (x6 : Int) (x7 : Int) (all_0 : Int → Int) (r_0 : Int) (texts_0 : Int) (gx : Int) (k2 : 0 ≤ x2 ∧ x2 ≤ 99998253) (k4 : 6 ≤ x4 ∧ x4 ≤ 7) (k5 : 0 ≤ x5 ∧ x5 ≤ 23) (k6 : 1 ≤ x6 ∧ x6 ≤ 24) (k7 : 6 ≤ x7 ∧ x7 ≤ 7) (d0 : x4 + 0 ≤ x7 ∧ x7 ≤ x4 + 0) (d1 : x6 + (-4294967296) ≤ x5 ∧ x5 ≤ x6 + (-1)) (f0 : x7 = x4) (f1 : x7 = all_0 (((r_0 + 243) + x5))) (f2 : x5 < x6) (f3 : 1 * x6 + ((-1) * all_0 (r_0 + 0) + 0) ≤ 0) (f4 : (-1) * x6 + (1 * all_0 (r_0 + 0) + 0) ≤ 0) (f5 : 1 * texts_0 + ((-1) * x2 + ((-36) * x5 + 0)) ≤ 0) (kz_0_170 : 0 ≤ texts_0 ∧ texts_0 ≤ 100000000) (ex2 : gx = texts_0) (ex3 : 0 ≤ gx ∧ gx ≤ 99999995) : 1 * gx + ((-1) * x2 + ((-36) * x5 + 0)) ≤ 0 := by
  first | assumption | omega | grind
def o_Mo_writeGroup_at_l6_2 : or_T := (26, 9, [(0, (2, 0, 0, [165])), (2, (0, 0, 99998253, [])), (3, (2, 0, 0, [165])), (4, (0, 6, 7, [])), (5, (0, 0, 23, [])), (6, (0, 1, 24, [])), (7, (0, 6, 7, []))], [(7, [7, 4], [0]), (20, [7, 3, 5], [50, 1, 1, 1005, 1002, 1, 2, 1, 0, 3, 1, 2, 4, 7, 4, 3, 2, 1, 5, 0, 243, 1, 2]), (7, [5, 6], [2]), (20, [6, 3], [30, 0, 1, 0, 0, -1, 3, 2005000]), (20, [6, 3], [30, 0, -1, 0, 0, 1, 3, 2005000]), (20, [3, 2, 5], [30, 0, 1, 1, 170, -1, 0, 0, -36, 0, 0]), (24, [0, 3], [])], [], [(0, 0, 99999995, [])], [(20, [3, 9], [30, 0, 1, 1, 170, -1, 0, 0]), (23, [9, 2, 5], [0, 1, -1, -36])], [], [(7, 4, 0, 0), (5, 6, -4294967296, -1)])
theorem oo_Mo_writeGroup_at_l6_2 {kA : Nat → ClassId} : or_ok PRD kA GG o_Mo_writeGroup_at_l6_2 := by
  refine or_mk fun A ta ws vs hD hth hl => ?_
  intro t0 r0 t2 k2 t3 r3 t4 k4 t5 k5 t6 k6 t7 k7 d0 d1 f0 f1 f2 f3 f4 f5 f6
  replace f0 := shm_37 f0
  replace f1 := shm_597 f1
  replace f2 := shm_6 f2
  replace f3 := shm_126 f3
  replace f4 := shm_127 f4
  replace f5 := shm_2035 f5
  replace f6 := shm_5 f6
  have q3 : n_v vs 3 = n_v vs 0 := f6.symm
  simp only [q3] at f1 f3 f4 f5
  have cr_0_2 := fdq_10 hD hth r0
  have br_0_2_F5_0_0 : w_ei ws (w_ar ws (n_v vs 0) 2) (w_fi ws (n_v vs 0) 5 + 0) = w_el ws (w_ar ws (n_v vs 0) 2) (w_fi ws (n_v vs 0) 5 + 0).toNat := rfl
  have kz_0_170 := fdq_11 hD hth r0
  have kv0 := fdq_11 hD hth r0
  obtain ⟨x, ex, hx⟩ := iv_ex (ta := ta) (lo := 0) (hi := 99999995) (z := w_fi ws (n_v vs 0) 170) (by omega) (by omega) (by omega) (by omega)
  have ex2 : v_iv (Value.int x) = w_fi ws (n_v vs 0) 170 := ex
  have ex3 : 0 ≤ v_iv (Value.int x) ∧ v_iv (Value.int x) ≤ 99999995 := tv_rng hx
  have e_2 : n_v (vs ++ [Value.int x]) 2 = n_v vs 2 := n_v_old (by rw [hl]; decide)
  have e_3 : n_v (vs ++ [Value.int x]) 3 = n_v vs 3 := n_v_old (by rw [hl]; decide)
  have e_5 : n_v (vs ++ [Value.int x]) 5 = n_v vs 5 := n_v_old (by rw [hl]; decide)
  have e_9 : n_v (vs ++ [Value.int x]) 9 = Value.int x := n_v_new hl
  have nf0 : fc_1 PRD (20, [3, 9], [30, 0, 1, 1, 170, -1, 0, 0]) ws (vs ++ [Value.int x]) := by
    refine ⟨nf_inA hl rfl, sgq_131 ?_⟩
    · show 1 * w_fi ws (n_v (vs ++ [Value.int x]) 3) 170 + ((-1) * v_iv (n_v (vs ++ [Value.int x]) 9) + 0) ≤ 0
      simp only [e_3, e_9, q3]
      exact vc_Mo_writeGroup_at_l6_2_0 (v_iv (n_v vs 2)) (v_iv (n_v vs 4)) (v_iv (n_v vs 5)) (v_iv (n_v vs 6)) (v_iv (n_v vs 7)) (w_ei ws (w_ar ws (n_v vs 0) 2)) (w_fi ws (n_v vs 0) 5) (w_fi ws (n_v vs 0) 170) (v_iv (Value.int x)) k2 k4 k5 k6 k7 d0 d1 f0 f1 f2 f3 f4 f5 kz_0_170 ex2 ex3
  have nf1 : fc_1 PRD (23, [9, 2, 5], [0, 1, -1, -36]) ws (vs ++ [Value.int x]) := by
    refine ⟨nf_inA hl rfl, sgq_2037 ?_⟩
    · show 1 * v_iv (n_v (vs ++ [Value.int x]) 9) + ((-1) * v_iv (n_v (vs ++ [Value.int x]) 2) + ((-36) * v_iv (n_v (vs ++ [Value.int x]) 5) + 0)) ≤ 0
      simp only [e_2, e_5, e_9]
      exact vc_Mo_writeGroup_at_l6_2_1 (v_iv (n_v vs 2)) (v_iv (n_v vs 4)) (v_iv (n_v vs 5)) (v_iv (n_v vs 6)) (v_iv (n_v vs 7)) (w_ei ws (w_ar ws (n_v vs 0) 2)) (w_fi ws (n_v vs 0) 5) (w_fi ws (n_v vs 0) 170) (v_iv (Value.int x)) k2 k4 k5 k6 k7 d0 d1 f0 f1 f2 f3 f4 f5 kz_0_170 ex2 ex3
  exact ⟨(fun _ h => (by cases h)), [Value.int x], ag_one hx, List.forall_mem_cons.mpr ⟨⟨show (20 : Nat) < 100 from by decide, nf0⟩, List.forall_mem_cons.mpr ⟨⟨show (23 : Nat) < 100 from by decide, nf1⟩, (fun _ h => (by cases h))⟩⟩, (fun _ h => (by cases h))⟩
set_option maxHeartbeats 4000000 in
theorem vc_Mo_writeGroup_at_l6_3_0 (x2 : Int) (x4 : Int) (x5 : Int) (x6 : Int) (x7 : Int) (x9 : Int) (all_0 : Int → Int) (r_0 : Int) (texts_0 : Int) (gx : Int) (k2 : 0 ≤ x2 ∧ x2 ≤ 99998253) (k4 : 6 ≤ x4 ∧ x4 ≤ 7) (k5 : 0 ≤ x5 ∧ x5 ≤ 23) (k6 : 1 ≤ x6 ∧ x6 ≤ 24) (k7 : 6 ≤ x7 ∧ x7 ≤ 7) (k9 : 0 ≤ x9 ∧ x9 ≤ 99999995) (d0 : x4 + 0 ≤ x7 ∧ x7 ≤ x4 + 0) (d1 : x6 + (-4294967296) ≤ x5 ∧ x5 ≤ x6 + (-1)) (f0 : 1 * x9 + ((-1) * x2 + ((-36) * x5 + 0)) ≤ 0) (f1 : x7 = all_0 (((r_0 + 243) + x5))) (f2 : 1 * x6 + ((-1) * all_0 (r_0 + 0) + 0) ≤ 0) (f3 : (-1) * x6 + (1 * all_0 (r_0 + 0) + 0) ≤ 0) (f5 : 1 * texts_0 + ((-1) * x9 + 0) ≤ 5) (f7 : 1 * x9 + ((-1) * x2 + ((-36) * x5 + 0)) ≤ 0) (f8 : x7 = x4) (f9 : x5 < x6) (kz_0_170 : 0 ≤ texts_0 ∧ texts_0 ≤ 100000000) (ex2 : gx = texts_0) (ex3 : 0 ≤ gx ∧ gx ≤ 99999992) : 1 * texts_0 + ((-1) * gx + 0) ≤ 0 := by
  first | assumption | omega | grind
set_option maxHeartbeats 4000000 in
theorem vc_Mo_writeGroup_at_l6_3_1 (x2 : Int) (x4 : Int) (x5 : Int) (x6 : Int) (x7 : Int) (x9 : Int) (all_0 : Int → Int) (r_0 : Int) (texts_0 : Int) (gx : Int) (k2 : 0 ≤ x2 ∧ x2 ≤ 99998253) (k4 : 6 ≤ x4 ∧ x4 ≤ 7) (k5 : 0 ≤ x5 ∧ x5 ≤ 23) (k6 : 1 ≤ x6 ∧ x6 ≤ 24) (k7 : 6 ≤ x7 ∧ x7 ≤ 7) (k9 : 0 ≤ x9 ∧ x9 ≤ 99999995) (d0 : x4 + 0 ≤ x7 ∧ x7 ≤ x4 + 0) (d1 : x6 + (-4294967296) ≤ x5 ∧ x5 ≤ x6 + (-1)) (f0 : 1 * x9 + ((-1) * x2 + ((-36) * x5 + 0)) ≤ 0) (f1 : x7 = all_0 (((r_0 + 243) + x5))) (f2 : 1 * x6 + ((-1) * all_0 (r_0 + 0) + 0) ≤ 0) (f3 : (-1) * x6 + (1 * all_0 (r_0 + 0) + 0) ≤ 0) (f5 : 1 * texts_0 + ((-1) * x9 + 0) ≤ 5) (f7 : 1 * x9 + ((-1) * x2 + ((-36) * x5 + 0)) ≤ 0) (f8 : x7 = x4) (f9 : x5 < x6) (kz_0_170 : 0 ≤ texts_0 ∧ texts_0 ≤ 100000000) (ex2 : gx = texts_0) (ex3 : 0 ≤ gx ∧ gx ≤ 99999992) : 1 * gx + ((-1) * x2 + ((-36) * x5 + 0)) ≤ 5 := by
  first | assumption | omega | grind
def o_Mo_writeGroup_at_l6_3 : or_T := (31, 10, [(0, (2, 0, 0, [165])), (2, (0, 0, 99998253, [])), (3, (2, 0, 0, [165])), (4, (0, 6, 7, [])), (5, (0, 0, 23, [])), (6, (0, 1, 24, [])), (7, (0, 6, 7, [])), (9, (0, 0, 99999995, []))], [(23, [9, 2, 5], [0, 1, -1, -36]), (20, [7, 3, 5], [50, 1, 1, 1005, 1002, 1, 2, 1, 0, 3, 1, 2, 4, 7, 4, 3, 2, 1, 5, 0, 243, 1, 2]), (20, [6, 3], [30, 0, 1, 0, 0, -1, 3, 2005000]), (20, [6, 3], [30, 0, -1, 0, 0, 1, 3, 2005000]), (24, [0, 3], []), (20, [3, 9], [30, 5, 1, 1, 170, -1, 0, 0]), (102, [9], [7770675568902916283677847627294075626569627356208558085007249638955617140820833992704, 165170]), (23, [9, 2, 5], [0, 1, -1, -36]), (7, [7, 4], [0]), (7, [5, 6], [2])], [], [(0, 0, 99999992, [])], [(20, [3, 10], [30, 0, 1, 1, 170, -1, 0, 0]), (23, [10, 2, 5], [5, 1, -1, -36])], [], [(7, 4, 0, 0), (5, 6, -4294967296, -1)])
theorem oo_Mo_writeGroup_at_l6_3 {kA : Nat → ClassId} : or_ok PRD kA GG o_Mo_writeGroup_at_l6_3 := by
  refine or_mk fun A ta ws vs hD hth hl => ?_
  intro t0 r0 t2 k2 t3 r3 t4 k4 t5 k5 t6 k6 t7 k7 t9 k9 d0 d1 f0 f1 f2 f3 f4 f5 ta1 w1 le1 s1 f7 f8 f9
  replace f0 := shm_2037 f0
  replace f1 := shm_597 f1
  replace f2 := shm_126 f2
  replace f3 := shm_127 f3
  replace f4 := shm_5 f4
  replace f5 := shm_208 f5
  replace f7 := shm_2037 f7
  replace f8 := shm_37 f8
  replace f9 := shm_6 f9
  have q3 : n_v vs 3 = n_v vs 0 := f4.symm
  simp only [q3] at f1 f2 f3 f5
  have cr_0_2 := fdq_10 hD hth r0
  have br_0_2_F5_0_0 : w_ei ws (w_ar ws (n_v vs 0) 2) (w_fi ws (n_v vs 0) 5 + 0) = w_el ws (w_ar ws (n_v vs 0) 2) (w_fi ws (n_v vs 0) 5 + 0).toNat := rfl
  have kz_0_170 := fdq_11 hD hth r0
  have kv0 := fdq_11 hD hth r0
  obtain ⟨x, ex, hx⟩ := iv_ex (ta := ta) (lo := 0) (hi := 99999992) (z := w_fi ws (n_v vs 0) 170) (by omega) (by omega) (by omega) (by omega)
  have ex2 : v_iv (Value.int x) = w_fi ws (n_v vs 0) 170 := ex
  have ex3 : 0 ≤ v_iv (Value.int x) ∧ v_iv (Value.int x) ≤ 99999992 := tv_rng hx
  have e_2 : n_v (vs ++ [Value.int x]) 2 = n_v vs 2 := n_v_old (by rw [hl]; decide)
  have e_3 : n_v (vs ++ [Value.int x]) 3 = n_v vs 3 := n_v_old (by rw [hl]; decide)
  have e_5 : n_v (vs ++ [Value.int x]) 5 = n_v vs 5 := n_v_old (by rw [hl]; decide)
  have e_10 : n_v (vs ++ [Value.int x]) 10 = Value.int x := n_v_new hl
  have nf0 : fc_1 PRD (20, [3, 10], [30, 0, 1, 1, 170, -1, 0, 0]) ws (vs ++ [Value.int x]) := by
    refine ⟨nf_inA hl rfl, sgq_131 ?_⟩
    · show 1 * w_fi ws (n_v (vs ++ [Value.int x]) 3) 170 + ((-1) * v_iv (n_v (vs ++ [Value.int x]) 10) + 0) ≤ 0
      simp only [e_3, e_10, q3]
      exact vc_Mo_writeGroup_at_l6_3_0 (v_iv (n_v vs 2)) (v_iv (n_v vs 4)) (v_iv (n_v vs 5)) (v_iv (n_v vs 6)) (v_iv (n_v vs 7)) (v_iv (n_v vs 9)) (w_ei ws (w_ar ws (n_v vs 0) 2)) (w_fi ws (n_v vs 0) 5) (w_fi ws (n_v vs 0) 170) (v_iv (Value.int x)) k2 k4 k5 k6 k7 k9 d0 d1 f0 f1 f2 f3 f5 f7 f8 f9 kz_0_170 ex2 ex3
  have nf1 : fc_1 PRD (23, [10, 2, 5], [5, 1, -1, -36]) ws (vs ++ [Value.int x]) := by
    refine ⟨nf_inA hl rfl, sgq_2038 ?_⟩
    · show 1 * v_iv (n_v (vs ++ [Value.int x]) 10) + ((-1) * v_iv (n_v (vs ++ [Value.int x]) 2) + ((-36) * v_iv (n_v (vs ++ [Value.int x]) 5) + 0)) ≤ 5
      simp only [e_2, e_5, e_10]
      exact vc_Mo_writeGroup_at_l6_3_1 (v_iv (n_v vs 2)) (v_iv (n_v vs 4)) (v_iv (n_v vs 5)) (v_iv (n_v vs 6)) (v_iv (n_v vs 7)) (v_iv (n_v vs 9)) (w_ei ws (w_ar ws (n_v vs 0) 2)) (w_fi ws (n_v vs 0) 5) (w_fi ws (n_v vs 0) 170) (v_iv (Value.int x)) k2 k4 k5 k6 k7 k9 d0 d1 f0 f1 f2 f3 f5 f7 f8 f9 kz_0_170 ex2 ex3
  exact ⟨(fun _ h => (by cases h)), [Value.int x], ag_one hx, List.forall_mem_cons.mpr ⟨⟨show (20 : Nat) < 100 from by decide, nf0⟩, List.forall_mem_cons.mpr ⟨⟨show (23 : Nat) < 100 from by decide, nf1⟩, (fun _ h => (by cases h))⟩⟩, (fun _ h => (by cases h))⟩
set_option maxHeartbeats 4000000 in
theorem vc_Mo_writeGroup_at_l6_4_0 (x2 : Int) (x4 : Int) (x5 : Int) (x6 : Int) (x7 : Int) (x9 : Int) (x10 : Int) (x11 : Int) (x12 : Int) (all_0 : Int → Int) (r_0 : Int) (texts_0 : Int) (gx : Int) (k2 : 0 ≤ x2 ∧ x2 ≤ 99998253) (k4 : 6 ≤ x4 ∧ x4 ≤ 7) (k5 : 0 ≤ x5 ∧ x5 ≤ 23) (k6 : 1 ≤ x6 ∧ x6 ≤ 24) (k7 : 6 ≤ x7 ∧ x7 ≤ 7) (k9 : 0 ≤ x9 ∧ x9 ≤ 99999995) (k10 : 0 ≤ x10 ∧ x10 ≤ 99999992) (k11 : 0 ≤ x11 ∧ x11 ≤ 1) (k12 : 1 ≤ x12 ∧ x12 ≤ 1) (d0 : x4 + 0 ≤ x7 ∧ x7 ≤ x4 + 0) (d1 : x6 + (-4294967296) ≤ x5 ∧ x5 ≤ x6 + (-1)) (f0 : x11 ≤ x12) (f1 : x11 = all_0 (((r_0 + 219) + x5))) (f2 : 1 * x10 + ((-1) * x2 + ((-36) * x5 + 0)) ≤ 5) (f3 : 1 * x9 + ((-1) * x2 + ((-36) * x5 + 0)) ≤ 0) (f4 : x7 = all_0 (((r_0 + 243) + x5))) (f5 : 1 * x6 + ((-1) * all_0 (r_0 + 0) + 0) ≤ 0) (f6 : (-1) * x6 + (1 * all_0 (r_0 + 0) + 0) ≤ 0) (f8 : 1 * texts_0 + ((-1) * x10 + 0) ≤ 8) (f10 : 1 * x10 + ((-1) * x2 + ((-36) * x5 + 0)) ≤ 5) (f11 : 1 * x9 + ((-1) * x2 + ((-36) * x5 + 0)) ≤ 0) (f13 : 1 * x9 + ((-1) * x2 + ((-36) * x5 + 0)) ≤ 0) (f14 : x7 = x4) (f15 : x5 < x6) (kz_0_170 : 0 ≤ texts_0 ∧ texts_0 ≤ 100000000) (ex2 : gx = texts_0) (ex3 : 0 ≤ gx ∧ gx ≤ 99999998) : 1 * texts_0 + ((-1) * gx + 0) ≤ 0 := by
  first | assumption | omega | grind
set_option maxHeartbeats 4000000 in
theorem vc_Mo_writeGroup_at_l6_4_1 (x2 : Int) (x4 : Int) (x5 : Int) (x6 : Int) (x7 : Int) (x9 : Int) (x10 : Int) (x11 : Int) (x12 : Int) (all_0 : Int → Int) (r_0 : Int) (texts_0 : Int) (gx : Int) (k2 : 0 ≤ x2 ∧ x2 ≤ 99998253) (k4 : 6 ≤ x4 ∧ x4 ≤ 7) (k5 : 0 ≤ x5 ∧ x5 ≤ 23) (k6 : 1 ≤ x6 ∧ x6 ≤ 24) (k7 : 6 ≤ x7 ∧ x7 ≤ 7) (k9 : 0 ≤ x9 ∧ x9 ≤ 99999995) (k10 : 0 ≤ x10 ∧ x10 ≤ 99999992) (k11 : 0 ≤ x11 ∧ x11 ≤ 1) (k12 : 1 ≤ x12 ∧ x12 ≤ 1) (d0 : x4 + 0 ≤ x7 ∧ x7 ≤ x4 + 0) (d1 : x6 + (-4294967296) ≤ x5 ∧ x5 ≤ x6 + (-1)) (f0 : x11 ≤ x12) (f1 : x11 = all_0 (((r_0 + 219) + x5))) (f2 : 1 * x10 + ((-1) * x2 + ((-36) * x5 + 0)) ≤ 5) (f3 : 1 * x9 + ((-1) * x2 + ((-36) * x5 + 0)) ≤ 0) (f4 : x7 = all_0 (((r_0 + 243) + x5))) (f5 : 1 * x6 + ((-1) * all_0 (r_0 + 0) + 0) ≤ 0) (f6 : (-1) * x6 + (1 * all_0 (r_0 + 0) + 0) ≤ 0) (f8 : 1 * texts_0 + ((-1) * x10 + 0) ≤ 8) (f10 : 1 * x10 + ((-1) * x2 + ((-36) * x5 + 0)) ≤ 5) (f11 : 1 * x9 + ((-1) * x2 + ((-36) * x5 + 0)) ≤ 0) (f13 : 1 * x9 + ((-1) * x2 + ((-36) * x5 + 0)) ≤ 0) (f14 : x7 = x4) (f15 : x5 < x6) (kz_0_170 : 0 ≤ texts_0 ∧ texts_0 ≤ 100000000) (ex2 : gx = texts_0) (ex3 : 0 ≤ gx ∧ gx ≤ 99999998) : 1 * gx + ((-1) * x2 + ((-36) * x5 + 0)) ≤ 34 := by
  first | assumption | omega | grind
def o_Mo_writeGroup_at_l6_4 : or_T := (70, 14, [(0, (2, 0, 0, [165])), (2, (0, 0, 99998253, [])), (3, (2, 0, 0, [165])), (4, (0, 6, 7, [])), (5, (0, 0, 23, [])), (6, (0, 1, 24, [])), (7, (0, 6, 7, [])), (9, (0, 0, 99999995, [])), (10, (0, 0, 99999992, [])), (11, (0, 0, 1, [])), (12, (0, 1, 1, []))], [(7, [11, 12], [5]), (20, [11, 3, 5], [50, 1, 1, 1005, 1002, 1, 2, 1, 0, 3, 1, 2, 4, 7, 4, 3, 2, 1, 5, 0, 219, 1, 2]), (23, [10, 2, 5], [5, 1, -1, -36]), (23, [9, 2, 5], [0, 1, -1, -36]), (20, [7, 3, 5], [50, 1, 1, 1005, 1002, 1, 2, 1, 0, 3, 1, 2, 4, 7, 4, 3, 2, 1, 5, 0, 243, 1, 2]), (20, [6, 3], [30, 0, 1, 0, 0, -1, 3, 2005000]), (20, [6, 3], [30, 0, -1, 0, 0, 1, 3, 2005000]), (24, [0, 3], []), (20, [3, 10], [30, 8, 1, 1, 170, -1, 0, 0]), (102, [10], [7770675568902916283677847627294075626569627356208558085007249638955617140820833992704, 165170]), (23, [10, 2, 5], [5, 1, -1, -36]), (23, [9, 2, 5], [0, 1, -1, -36]), (102, [9], [7770675568902916283677847627294075626569627356208558085007249638955617140820833992704, 165170]), (23, [9, 2, 5], [0, 1, -1, -36]), (7, [7, 4], [0]), (7, [5, 6], [2])], [], [(0, 0, 99999998, [])], [(20, [3, 14], [30, 0, 1, 1, 170, -1, 0, 0]), (23, [14, 2, 5], [34, 1, -1, -36])], [], [(7, 4, 0, 0), (5, 6, -4294967296, -1)])
theorem oo_Mo_writeGroup_at_l6_4 {kA : Nat → ClassId} : or_ok PRD kA GG o_Mo_writeGroup_at_l6_4 := by
  refine or_mk fun A ta ws vs hD hth hl => ?_
  intro t0 r0 t2 k2 t3 r3 t4 k4 t5 k5 t6 k6 t7 k7 t9 k9 t10 k10 t11 k11 t12 k12 d0 d1 f0 f1 f2 f3 f4 f5 f6 f7 f8 ta1 w1 le1 s1 f10 f11 ta2 w2 le2 s2 f13 f14 f15
  replace f0 := shm_24 f0
  replace f1 := shm_732 f1
  replace f2 := shm_2038 f2
  replace f3 := shm_2037 f3
  replace f4 := shm_597 f4
  replace f5 := shm_126 f5
  replace f6 := shm_127 f6
  replace f7 := shm_5 f7
  replace f8 := shm_160 f8
  replace f10 := shm_2038 f10
  replace f11 := shm_2037 f11
  replace f13 := shm_2037 f13
  replace f14 := shm_37 f14
  replace f15 := shm_6 f15
  have q3 : n_v vs 3 = n_v vs 0 := f7.symm
  simp only [q3] at f1 f4 f5 f6 f8
  have cr_0_2 := fdq_10 hD hth r0
  have br_0_2_F5_0_0 : w_ei ws (w_ar ws (n_v vs 0) 2) (w_fi ws (n_v vs 0) 5 + 0) = w_el ws (w_ar ws (n_v vs 0) 2) (w_fi ws (n_v vs 0) 5 + 0).toNat := rfl
  have kz_0_170 := fdq_11 hD hth r0
  have kv0 := fdq_11 hD hth r0
  obtain ⟨x, ex, hx⟩ := iv_ex (ta := ta) (lo := 0) (hi := 99999998) (z := w_fi ws (n_v vs 0) 170) (by omega) (by omega) (by omega) (by omega)
  have ex2 : v_iv (Value.int x) = w_fi ws (n_v vs 0) 170 := ex
  have ex3 : 0 ≤ v_iv (Value.int x) ∧ v_iv (Value.int x) ≤ 99999998 := tv_rng hx
  have e_2 : n_v (vs ++ [Value.int x]) 2 = n_v vs 2 := n_v_old (by rw [hl]; decide)
  have e_3 : n_v (vs ++ [Value.int x]) 3 = n_v vs 3 := n_v_old (by rw [hl]; decide)
  have e_5 : n_v (vs ++ [Value.int x]) 5 = n_v vs 5 := n_v_old (by rw [hl]; decide)
  have e_14 : n_v (vs ++ [Value.int x]) 14 = Value.int x := n_v_new hl
  have nf0 : fc_1 PRD (20, [3, 14], [30, 0, 1, 1, 170, -1, 0, 0]) ws (vs ++ [Value.int x]) := by
    refine ⟨nf_inA hl rfl, sgq_131 ?_⟩
    · show 1 * w_fi ws (n_v (vs ++ [Value.int x]) 3) 170 + ((-1) * v_iv (n_v (vs ++ [Value.int x]) 14) + 0) ≤ 0
      simp only [e_3, e_14, q3]
      exact vc_Mo_writeGroup_at_l6_4_0 (v_iv (n_v vs 2)) (v_iv (n_v vs 4)) (v_iv (n_v vs 5)) (v_iv (n_v vs 6)) (v_iv (n_v vs 7)) (v_iv (n_v vs 9)) (v_iv (n_v vs 10)) (v_iv (n_v vs 11)) (v_iv (n_v vs 12)) (w_ei ws (w_ar ws (n_v vs 0) 2)) (w_fi ws (n_v vs 0) 5) (w_fi ws (n_v vs 0) 170) (v_iv (Value.int x)) k2 k4 k5 k6 k7 k9 k10 k11 k12 d0 d1 f0 f1 f2 f3 f4 f5 f6 f8 f10 f11 f13 f14 f15 kz_0_170 ex2 ex3
  have nf1 : fc_1 PRD (23, [14, 2, 5], [34, 1, -1, -36]) ws (vs ++ [Value.int x]) := by
    refine ⟨nf_inA hl rfl, sgq_2039 ?_⟩
    · show 1 * v_iv (n_v (vs ++ [Value.int x]) 14) + ((-1) * v_iv (n_v (vs ++ [Value.int x]) 2) + ((-36) * v_iv (n_v (vs ++ [Value.int x]) 5) + 0)) ≤ 34
      simp only [e_2, e_5, e_14]
      exact vc_Mo_writeGroup_at_l6_4_1 (v_iv (n_v vs 2)) (v_iv (n_v vs 4)) (v_iv (n_v vs 5)) (v_iv (n_v vs 6)) (v_iv (n_v vs 7)) (v_iv (n_v vs 9)) (v_iv (n_v vs 10)) (v_iv (n_v vs 11)) (v_iv (n_v vs 12)) (w_ei ws (w_ar ws (n_v vs 0) 2)) (w_fi ws (n_v vs 0) 5) (w_fi ws (n_v vs 0) 170) (v_iv (Value.int x)) k2 k4 k5 k6 k7 k9 k10 k11 k12 d0 d1 f0 f1 f2 f3 f4 f5 f6 f8 f10 f11 f13 f14 f15 kz_0_170 ex2 ex3
  exact ⟨(fun _ h => (by cases h)), [Value.int x], ag_one hx, List.forall_mem_cons.mpr ⟨⟨show (20 : Nat) < 100 from by decide, nf0⟩, List.forall_mem_cons.mpr ⟨⟨show (23 : Nat) < 100 from by decide, nf1⟩, (fun _ h => (by cases h))⟩⟩, (fun _ h => (by cases h))⟩
set_option maxHeartbeats 4000000 in
theorem vc_Mo_writeGroup_at_l6_5_0 (x2 : Int) (x4 : Int) (x5 : Int) (x6 : Int) (x7 : Int) (x9 : Int) (x10 : Int) (x11 : Int) (x12 : Int) (x14 : Int) (x15 : Int) (all_0 : Int → Int) (r_0 : Int) (texts_0 : Int) (k2 : 0 ≤ x2 ∧ x2 ≤ 99998253) (k4 : 6 ≤ x4 ∧ x4 ≤ 7) (k5 : 0 ≤ x5 ∧ x5 ≤ 23) (k6 : 1 ≤ x6 ∧ x6 ≤ 24) (k7 : 6 ≤ x7 ∧ x7 ≤ 7) (k9 : 0 ≤ x9 ∧ x9 ≤ 99999995) (k10 : 0 ≤ x10 ∧ x10 ≤ 99999992) (k11 : 0 ≤ x11 ∧ x11 ≤ 1) (k12 : 1 ≤ x12 ∧ x12 ≤ 1) (k14 : 0 ≤ x14 ∧ x14 ≤ 99999998) (k15 : 1 ≤ x15 ∧ x15 ≤ 24) (d0 : x5 + 1 ≤ x15 ∧ x15 ≤ x5 + 1) (d1 : x6 + (-4294967296) ≤ x15 ∧ x15 ≤ x6 + 0) (d2 : x4 + 0 ≤ x7 ∧ x7 ≤ x4 + 0) (d3 : x6 + (-4294967296) ≤ x5 ∧ x5 ≤ x6 + (-1)) (f0 : x15 = x5 + 1) (f1 : 1 * x14 + ((-1) * x2 + ((-36) * x5 + 0)) ≤ 34) (f2 : x11 = all_0 (((r_0 + 219) + x5))) (f3 : 1 * x10 + ((-1) * x2 + ((-36) * x5 + 0)) ≤ 5) (f4 : 1 * x9 + ((-1) * x2 + ((-36) * x5 + 0)) ≤ 0) (f5 : x7 = all_0 (((r_0 + 243) + x5))) (f6 : 1 * x6 + ((-1) * all_0 (r_0 + 0) + 0) ≤ 0) (f7 : (-1) * x6 + (1 * all_0 (r_0 + 0) + 0) ≤ 0) (f9 : 1 * texts_0 + ((-1) * x14 + 0) ≤ 2) (f11 : 1 * x14 + ((-1) * x2 + ((-36) * x5 + 0)) ≤ 34) (f12 : x11 ≤ x12) (f13 : 1 * x10 + ((-1) * x2 + ((-36) * x5 + 0)) ≤ 5) (f14 : 1 * x9 + ((-1) * x2 + ((-36) * x5 + 0)) ≤ 0) (f16 : 1 * x10 + ((-1) * x2 + ((-36) * x5 + 0)) ≤ 5) (f17 : 1 * x9 + ((-1) * x2 + ((-36) * x5 + 0)) ≤ 0) (f19 : 1 * x9 + ((-1) * x2 + ((-36) * x5 + 0)) ≤ 0) (f20 : x7 = x4) (f21 : x5 < x6) (kz_0_170 : 0 ≤ texts_0 ∧ texts_0 ≤ 100000000) : 1 * texts_0 + ((-1) * x2 + ((-36) * x15 + 0)) ≤ 0 := by
  first | assumption | omega | grind
def o_Mo_writeGroup_at_l6_5 : or_T := (2, 16, [(0, (2, 0, 0, [165])), (2, (0, 0, 99998253, [])), (4, (0, 6, 7, [])), (5, (0, 0, 23, [])), (6, (0, 1, 24, [])), (7, (0, 6, 7, [])), (9, (0, 0, 99999995, [])), (10, (0, 0, 99999992, [])), (11, (0, 0, 1, [])), (12, (0, 1, 1, [])), (14, (0, 0, 99999998, [])), (15, (0, 1, 24, []))], [(6, [15, 5], [1]), (23, [14, 2, 5], [34, 1, -1, -36]), (20, [11, 3, 5], [50, 1, 1, 1005, 1002, 1, 2, 1, 0, 3, 1, 2, 4, 7, 4, 3, 2, 1, 5, 0, 219, 1, 2]), (23, [10, 2, 5], [5, 1, -1, -36]), (23, [9, 2, 5], [0, 1, -1, -36]), (20, [7, 3, 5], [50, 1, 1, 1005, 1002, 1, 2, 1, 0, 3, 1, 2, 4, 7, 4, 3, 2, 1, 5, 0, 243, 1, 2]), (20, [6, 3], [30, 0, 1, 0, 0, -1, 3, 2005000]), (20, [6, 3], [30, 0, -1, 0, 0, 1, 3, 2005000]), (24, [0, 3], []), (20, [3, 14], [30, 2, 1, 1, 170, -1, 0, 0]), (102, [14], [7770675568902916283677847627294075626569627356208558085007249638955617140820833992704, 165170]), (23, [14, 2, 5], [34, 1, -1, -36]), (7, [11, 12], [5]), (23, [10, 2, 5], [5, 1, -1, -36]), (23, [9, 2, 5], [0, 1, -1, -36]), (102, [10], [7770675568902916283677847627294075626569627356208558085007249638955617140820833992704, 165170]), (23, [10, 2, 5], [5, 1, -1, -36]), (23, [9, 2, 5], [0, 1, -1, -36]), (102, [9], [7770675568902916283677847627294075626569627356208558085007249638955617140820833992704, 165170]), (23, [9, 2, 5], [0, 1, -1, -36]), (7, [7, 4], [0]), (7, [5, 6], [2])], [], [], [(20, [3, 2, 15], [30, 0, 1, 1, 170, -1, 0, 0, -36, 0, 0])], [], [(15, 5, 1, 1), (15, 6, -4294967296, 0), (7, 4, 0, 0), (5, 6, -4294967296, -1)])
theorem oo_Mo_writeGroup_at_l6_5 {kA : Nat → ClassId} : or_ok PRD kA GG o_Mo_writeGroup_at_l6_5 := by
  refine or_mk fun A ta ws vs hD hth hl => ?_
  intro t0 r0 t2 k2 t4 k4 t5 k5 t6 k6 t7 k7 t9 k9 t10 k10 t11 k11 t12 k12 t14 k14 t15 k15 d0 d1 d2 d3 f0 f1 f2 f3 f4 f5 f6 f7 f8 f9 ta1 w1 le1 s1 f11 f12 f13 f14 ta2 w2 le2 s2 f16 f17 ta3 w3 le3 s3 f19 f20 f21
  replace f0 := shm_4 f0
  replace f1 := shm_2039 f1
  replace f2 := shm_732 f2
  replace f3 := shm_2038 f3
  replace f4 := shm_2037 f4
  replace f5 := shm_597 f5
  replace f6 := shm_126 f6
  replace f7 := shm_127 f7
  replace f8 := shm_5 f8
  replace f9 := shm_210 f9
  replace f11 := shm_2039 f11
  replace f12 := shm_24 f12
  replace f13 := shm_2038 f13
  replace f14 := shm_2037 f14
  replace f16 := shm_2038 f16
  replace f17 := shm_2037 f17
  replace f19 := shm_2037 f19
  replace f20 := shm_37 f20
  replace f21 := shm_6 f21
  have q3 : n_v vs 3 = n_v vs 0 := f8.symm
  simp only [q3] at f2 f5 f6 f7 f9
  have kz_0_170 := fdq_11 hD hth r0
  have nf0 : fc_1 PRD (20, [3, 2, 15], [30, 0, 1, 1, 170, -1, 0, 0, -36, 0, 0]) ws (vs) := by
    refine ⟨nf_in hl rfl, sgq_2035 ?_⟩
    · show 1 * w_fi ws (n_v vs 3) 170 + ((-1) * v_iv (n_v vs 2) + ((-36) * v_iv (n_v vs 15) + 0)) ≤ 0
      rw [q3]
      exact vc_Mo_writeGroup_at_l6_5_0 (v_iv (n_v vs 2)) (v_iv (n_v vs 4)) (v_iv (n_v vs 5)) (v_iv (n_v vs 6)) (v_iv (n_v vs 7)) (v_iv (n_v vs 9)) (v_iv (n_v vs 10)) (v_iv (n_v vs 11)) (v_iv (n_v vs 12)) (v_iv (n_v vs 14)) (v_iv (n_v vs 15)) (w_ei ws (w_ar ws (n_v vs 0) 2)) (w_fi ws (n_v vs 0) 5) (w_fi ws (n_v vs 0) 170) k2 k4 k5 k6 k7 k9 k10 k11 k12 k14 k15 d0 d1 d2 d3 f0 f1 f2 f3 f4 f5 f6 f7 f9 f11 f12 f13 f14 f16 f17 f19 f20 f21 kz_0_170
  refine ⟨(fun _ h => (by cases h)), [], trivial, ?_, (fun _ h => (by cases h))⟩
  rw [List.append_nil]
  exact List.forall_mem_cons.mpr ⟨⟨show (20 : Nat) < 100 from by decide, nf0⟩, (fun _ h => (by cases h))⟩
set_option maxHeartbeats 4000000 in
theorem vc_Mo_writeGroup_at_l6_6_0 (x2 : Int) (x4 : Int) (x5 : Int) (x6 : Int) (x7 : Int) (x9 : Int) (x10 : Int) (x11 : Int) (x12 : Int) (all_0 : Int → Int) (r_0 : Int) (texts_0 : Int) (gx : Int) (k2 : 0 ≤ x2 ∧ x2 ≤ 99998253) (k4 : 6 ≤ x4 ∧ x4 ≤ 7) (k5 : 0 ≤ x5 ∧ x5 ≤ 23) (k6 : 1 ≤ x6 ∧ x6 ≤ 24) (k7 : 6 ≤ x7 ∧ x7 ≤ 7) (k9 : 0 ≤ x9 ∧ x9 ≤ 99999995) (k10 : 0 ≤ x10 ∧ x10 ≤ 99999992) (k11 : 2 ≤ x11 ∧ x11 ≤ 99) (k12 : 1 ≤ x12 ∧ x12 ≤ 1) (d0 : x4 + 0 ≤ x7 ∧ x7 ≤ x4 + 0) (d1 : x6 + (-4294967296) ≤ x5 ∧ x5 ≤ x6 + (-1)) (f0 : x12 < x11) (f1 : x11 = all_0 (((r_0 + 219) + x5))) (f2 : 1 * x10 + ((-1) * x2 + ((-36) * x5 + 0)) ≤ 5) (f3 : 1 * x9 + ((-1) * x2 + ((-36) * x5 + 0)) ≤ 0) (f4 : x7 = all_0 (((r_0 + 243) + x5))) (f5 : 1 * x6 + ((-1) * all_0 (r_0 + 0) + 0) ≤ 0) (f6 : (-1) * x6 + (1 * all_0 (r_0 + 0) + 0) ≤ 0) (f8 : 1 * texts_0 + ((-1) * x10 + 0) ≤ 8) (f10 : 1 * x10 + ((-1) * x2 + ((-36) * x5 + 0)) ≤ 5) (f11 : 1 * x9 + ((-1) * x2 + ((-36) * x5 + 0)) ≤ 0) (f13 : 1 * x9 + ((-1) * x2 + ((-36) * x5 + 0)) ≤ 0) (f14 : x7 = x4) (f15 : x5 < x6) (kz_0_170 : 0 ≤ texts_0 ∧ texts_0 ≤ 100000000) (ex2 : gx = texts_0) (ex3 : 0 ≤ gx ∧ gx ≤ 99999993) : 1 * texts_0 + ((-1) * gx + 0) ≤ 0 := by
  first | assumption | omega | grind
set_option maxHeartbeats 4000000 in
theorem vc_Mo_writeGroup_at_l6_6_1 (x2 : Int) (x4 : Int) (x5 : Int) (x6 : Int) (x7 : Int) (x9 : Int) (x10 : Int) (x11 : Int) (x12 : Int) (all_0 : Int → Int) (r_0 : Int) (texts_0 : Int) (gx : Int) (k2 : 0 ≤ x2 ∧ x2 ≤ 99998253) (k4 : 6 ≤ x4 ∧ x4 ≤ 7) (k5 : 0 ≤ x5 ∧ x5 ≤ 23) (k6 : 1 ≤ x6 ∧ x6 ≤ 24) (k7 : 6 ≤ x7 ∧ x7 ≤ 7) (k9 : 0 ≤ x9 ∧ x9 ≤ 99999995) (k10 : 0 ≤ x10 ∧ x10 ≤ 99999992) (k11 : 2 ≤ x11 ∧ x11 ≤ 99) (k12 : 1 ≤ x12 ∧ x12 ≤ 1) (d0 : x4 + 0 ≤ x7 ∧ x7 ≤ x4 + 0) (d1 : x6 + (-4294967296) ≤ x5 ∧ x5 ≤ x6 + (-1)) (f0 : x12 < x11) (f1 : x11 = all_0 (((r_0 + 219) + x5))) (f2 : 1 * x10 + ((-1) * x2 + ((-36) * x5 + 0)) ≤ 5) (f3 : 1 * x9 + ((-1) * x2 + ((-36) * x5 + 0)) ≤ 0) (f4 : x7 = all_0 (((r_0 + 243) + x5))) (f5 : 1 * x6 + ((-1) * all_0 (r_0 + 0) + 0) ≤ 0) (f6 : (-1) * x6 + (1 * all_0 (r_0 + 0) + 0) ≤ 0) (f8 : 1 * texts_0 + ((-1) * x10 + 0) ≤ 8) (f10 : 1 * x10 + ((-1) * x2 + ((-36) * x5 + 0)) ≤ 5) (f11 : 1 * x9 + ((-1) * x2 + ((-36) * x5 + 0)) ≤ 0) (f13 : 1 * x9 + ((-1) * x2 + ((-36) * x5 + 0)) ≤ 0) (f14 : x7 = x4) (f15 : x5 < x6) (kz_0_170 : 0 ≤ texts_0 ∧ texts_0 ≤ 100000000) (ex2 : gx = texts_0) (ex3 : 0 ≤ gx ∧ gx ≤ 99999993) : 1 * gx + ((-1) * x2 + ((-36) * x5 + 0)) ≤ 13 := by
  first | assumption | omega | grind
def o_Mo_writeGroup_at_l6_6 : or_T := (47, 14, [(0, (2, 0, 0, [165])), (2, (0, 0, 99998253, [])), (3, (2, 0, 0, [165])), (4, (0, 6, 7, [])), (5, (0, 0, 23, [])), (6, (0, 1, 24, [])), (7, (0, 6, 7, [])), (9, (0, 0, 99999995, [])), (10, (0, 0, 99999992, [])), (11, (0, 2, 99, [])), (12, (0, 1, 1, []))], [(7, [11, 12], [4]), (20, [11, 3, 5], [50, 1, 1, 1005, 1002, 1, 2, 1, 0, 3, 1, 2, 4, 7, 4, 3, 2, 1, 5, 0, 219, 1, 2]), (23, [10, 2, 5], [5, 1, -1, -36]), (23, [9, 2, 5], [0, 1, -1, -36]), (20, [7, 3, 5], [50, 1, 1, 1005, 1002, 1, 2, 1, 0, 3, 1, 2, 4, 7, 4, 3, 2, 1, 5, 0, 243, 1, 2]), (20, [6, 3], [30, 0, 1, 0, 0, -1, 3, 2005000]), (20, [6, 3], [30, 0, -1, 0, 0, 1, 3, 2005000]), (24, [0, 3], []), (20, [3, 10], [30, 8, 1, 1, 170, -1, 0, 0]), (102, [10], [7770675568902916283677847627294075626569627356208558085007249638955617140820833992704, 165170]), (23, [10, 2, 5], [5, 1, -1, -36]), (23, [9, 2, 5], [0, 1, -1, -36]), (102, [9], [7770675568902916283677847627294075626569627356208558085007249638955617140820833992704, 165170]), (23, [9, 2, 5], [0, 1, -1, -36]), (7, [7, 4], [0]), (7, [5, 6], [2])], [], [(0, 0, 99999993, [])], [(20, [3, 14], [30, 0, 1, 1, 170, -1, 0, 0]), (23, [14, 2, 5], [13, 1, -1, -36])], [], [(7, 4, 0, 0), (5, 6, -4294967296, -1)])
theorem oo_Mo_writeGroup_at_l6_6 {kA : Nat → ClassId} : or_ok PRD kA GG o_Mo_writeGroup_at_l6_6 := by
  refine or_mk fun A ta ws vs hD hth hl => ?_
  intro t0 r0 t2 k2 t3 r3 t4 k4 t5 k5 t6 k6 t7 k7 t9 k9 t10 k10 t11 k11 t12 k12 d0 d1 f0 f1 f2 f3 f4 f5 f6 f7 f8 ta1 w1 le1 s1 f10 f11 ta2 w2 le2 s2 f13 f14 f15
  replace f0 := shm_21 f0
  replace f1 := shm_732 f1
  replace f2 := shm_2038 f2
  replace f3 := shm_2037 f3
  replace f4 := shm_597 f4
  replace f5 := shm_126 f5
  replace f6 := shm_127 f6
  replace f7 := shm_5 f7
  replace f8 := shm_160 f8
  replace f10 := shm_2038 f10
  replace f11 := shm_2037 f11
  replace f13 := shm_2037 f13
  replace f14 := shm_37 f14
  replace f15 := shm_6 f15
  have q3 : n_v vs 3 = n_v vs 0 := f7.symm
  simp only [q3] at f1 f4 f5 f6 f8
  have cr_0_2 := fdq_10 hD hth r0
  have br_0_2_F5_0_0 : w_ei ws (w_ar ws (n_v vs 0) 2) (w_fi ws (n_v vs 0) 5 + 0) = w_el ws (w_ar ws (n_v vs 0) 2) (w_fi ws (n_v vs 0) 5 + 0).toNat := rfl
  have kz_0_170 := fdq_11 hD hth r0
  have kv0 := fdq_11 hD hth r0
  obtain ⟨x, ex, hx⟩ := iv_ex (ta := ta) (lo := 0) (hi := 99999993) (z := w_fi ws (n_v vs 0) 170) (by omega) (by omega) (by omega) (by omega)
  have ex2 : v_iv (Value.int x) = w_fi ws (n_v vs 0) 170 := ex
  have ex3 : 0 ≤ v_iv (Value.int x) ∧ v_iv (Value.int x) ≤ 99999993 := tv_rng hx
  have e_2 : n_v (vs ++ [Value.int x]) 2 = n_v vs 2 := n_v_old (by rw [hl]; decide)
  have e_3 : n_v (vs ++ [Value.int x]) 3 = n_v vs 3 := n_v_old (by rw [hl]; decide)
  have e_5 : n_v (vs ++ [Value.int x]) 5 = n_v vs 5 := n_v_old (by rw [hl]; decide)
  have e_14 : n_v (vs ++ [Value.int x]) 14 = Value.int x := n_v_new hl
  have nf0 : fc_1 PRD (20, [3, 14], [30, 0, 1, 1, 170, -1, 0, 0]) ws (vs ++ [Value.int x]) := by
    refine ⟨nf_inA hl rfl, sgq_131 ?_⟩
    · show 1 * w_fi ws (n_v (vs ++ [Value.int x]) 3) 170 + ((-1) * v_iv (n_v (vs ++ [Value.int x]) 14) + 0) ≤ 0
      simp only [e_3, e_14, q3]
      exact vc_Mo_writeGroup_at_l6_6_0 (v_iv (n_v vs 2)) (v_iv (n_v vs 4)) (v_iv (n_v vs 5)) (v_iv (n_v vs 6)) (v_iv (n_v vs 7)) (v_iv (n_v vs 9)) (v_iv (n_v vs 10)) (v_iv (n_v vs 11)) (v_iv (n_v vs 12)) (w_ei ws (w_ar ws (n_v vs 0) 2)) (w_fi ws (n_v vs 0) 5) (w_fi ws (n_v vs 0) 170) (v_iv (Value.int x)) k2 k4 k5 k6 k7 k9 k10 k11 k12 d0 d1 f0 f1 f2 f3 f4 f5 f6 f8 f10 f11 f13 f14 f15 kz_0_170 ex2 ex3
  have nf1 : fc_1 PRD (23, [14, 2, 5], [13, 1, -1, -36]) ws (vs ++ [Value.int x]) := by
    refine ⟨nf_inA hl rfl, sgq_2040 ?_⟩
    · show 1 * v_iv (n_v (vs ++ [Value.int x]) 14) + ((-1) * v_iv (n_v (vs ++ [Value.int x]) 2) + ((-36) * v_iv (n_v (vs ++ [Value.int x]) 5) + 0)) ≤ 13
      simp only [e_2, e_5, e_14]
      exact vc_Mo_writeGroup_at_l6_6_1 (v_iv (n_v vs 2)) (v_iv (n_v vs 4)) (v_iv (n_v vs 5)) (v_iv (n_v vs 6)) (v_iv (n_v vs 7)) (v_iv (n_v vs 9)) (v_iv (n_v vs 10)) (v_iv (n_v vs 11)) (v_iv (n_v vs 12)) (w_ei ws (w_ar ws (n_v vs 0) 2)) (w_fi ws (n_v vs 0) 5) (w_fi ws (n_v vs 0) 170) (v_iv (Value.int x)) k2 k4 k5 k6 k7 k9 k10 k11 k12 d0 d1 f0 f1 f2 f3 f4 f5 f6 f8 f10 f11 f13 f14 f15 kz_0_170 ex2 ex3
  exact ⟨(fun _ h => (by cases h)), [Value.int x], ag_one hx, List.forall_mem_cons.mpr ⟨⟨show (20 : Nat) < 100 from by decide, nf0⟩, List.forall_mem_cons.mpr ⟨⟨show (23 : Nat) < 100 from by decide, nf1⟩, (fun _ h => (by cases h))⟩⟩, (fun _ h => (by cases h))⟩
set_option maxHeartbeats 4000000 in
theorem vc_Mo_writeGroup_at_l6_7_0 (x2 : Int) (x4 : Int) (x5 : Int) (x6 : Int) (x7 : Int) (x9 : Int) (x10 : Int) (x11 : Int) (x12 : Int) (x14 : Int) (x15 : Int) (all_0 : Int → Int) (r_0 : Int) (texts_0 : Int) (gx : Int) (k2 : 0 ≤ x2 ∧ x2 ≤ 99998253) (k4 : 6 ≤ x4 ∧ x4 ≤ 7) (k5 : 0 ≤ x5 ∧ x5 ≤ 23) (k6 : 1 ≤ x6 ∧ x6 ≤ 24) (k7 : 6 ≤ x7 ∧ x7 ≤ 7) (k9 : 0 ≤ x9 ∧ x9 ≤ 99999995) (k10 : 0 ≤ x10 ∧ x10 ≤ 99999992) (k11 : 2 ≤ x11 ∧ x11 ≤ 99) (k12 : 1 ≤ x12 ∧ x12 ≤ 1) (k14 : 0 ≤ x14 ∧ x14 ≤ 99999993) (k15 : 0 ≤ x15 ∧ x15 ≤ 99) (d0 : x4 + 0 ≤ x7 ∧ x7 ≤ x4 + 0) (d1 : x6 + (-4294967296) ≤ x5 ∧ x5 ≤ x6 + (-1)) (f0 : x15 = all_0 (((r_0 + 219) + x5))) (f1 : 1 * x14 + ((-1) * x2 + ((-36) * x5 + 0)) ≤ 13) (f2 : x11 = all_0 (((r_0 + 219) + x5))) (f3 : 1 * x10 + ((-1) * x2 + ((-36) * x5 + 0)) ≤ 5) (f4 : 1 * x9 + ((-1) * x2 + ((-36) * x5 + 0)) ≤ 0) (f5 : x7 = all_0 (((r_0 + 243) + x5))) (f6 : 1 * x6 + ((-1) * all_0 (r_0 + 0) + 0) ≤ 0) (f7 : (-1) * x6 + (1 * all_0 (r_0 + 0) + 0) ≤ 0) (f9 : 1 * texts_0 + ((-1) * x14 + 0) ≤ 7) (f11 : 1 * x14 + ((-1) * x2 + ((-36) * x5 + 0)) ≤ 13) (f12 : x12 < x11) (f13 : 1 * x10 + ((-1) * x2 + ((-36) * x5 + 0)) ≤ 5) (f14 : 1 * x9 + ((-1) * x2 + ((-36) * x5 + 0)) ≤ 0) (f16 : 1 * x10 + ((-1) * x2 + ((-36) * x5 + 0)) ≤ 5) (f17 : 1 * x9 + ((-1) * x2 + ((-36) * x5 + 0)) ≤ 0) (f19 : 1 * x9 + ((-1) * x2 + ((-36) * x5 + 0)) ≤ 0) (f20 : x7 = x4) (f21 : x5 < x6) (kz_0_170 : 0 ≤ texts_0 ∧ texts_0 ≤ 100000000) (ex2 : gx = texts_0) (ex3 : 0 ≤ gx ∧ gx ≤ 99999987) : 1 * texts_0 + ((-1) * gx + 0) ≤ 0 := by
  first | assumption | omega | grind
set_option maxHeartbeats 4000000 in
theorem vc_Mo_writeGroup_at_l6_7_1 (x2 : Int) (x4 : Int) (x5 : Int) (x6 : Int) (x7 : Int) (x9 : Int) (x10 : Int) (x11 : Int) (x12 : Int) (x14 : Int) (x15 : Int) (all_0 : Int → Int) (r_0 : Int) (texts_0 : Int) (gx : Int) (k2 : 0 ≤ x2 ∧ x2 ≤ 99998253) (k4 : 6 ≤ x4 ∧ x4 ≤ 7) (k5 : 0 ≤ x5 ∧ x5 ≤ 23) (k6 : 1 ≤ x6 ∧ x6 ≤ 24) (k7 : 6 ≤ x7 ∧ x7 ≤ 7) (k9 : 0 ≤ x9 ∧ x9 ≤ 99999995) (k10 : 0 ≤ x10 ∧ x10 ≤ 99999992) (k11 : 2 ≤ x11 ∧ x11 ≤ 99) (k12 : 1 ≤ x12 ∧ x12 ≤ 1) (k14 : 0 ≤ x14 ∧ x14 ≤ 99999993) (k15 : 0 ≤ x15 ∧ x15 ≤ 99) (d0 : x4 + 0 ≤ x7 ∧ x7 ≤ x4 + 0) (d1 : x6 + (-4294967296) ≤ x5 ∧ x5 ≤ x6 + (-1)) (f0 : x15 = all_0 (((r_0 + 219) + x5))) (f1 : 1 * x14 + ((-1) * x2 + ((-36) * x5 + 0)) ≤ 13) (f2 : x11 = all_0 (((r_0 + 219) + x5))) (f3 : 1 * x10 + ((-1) * x2 + ((-36) * x5 + 0)) ≤ 5) (f4 : 1 * x9 + ((-1) * x2 + ((-36) * x5 + 0)) ≤ 0) (f5 : x7 = all_0 (((r_0 + 243) + x5))) (f6 : 1 * x6 + ((-1) * all_0 (r_0 + 0) + 0) ≤ 0) (f7 : (-1) * x6 + (1 * all_0 (r_0 + 0) + 0) ≤ 0) (f9 : 1 * texts_0 + ((-1) * x14 + 0) ≤ 7) (f11 : 1 * x14 + ((-1) * x2 + ((-36) * x5 + 0)) ≤ 13) (f12 : x12 < x11) (f13 : 1 * x10 + ((-1) * x2 + ((-36) * x5 + 0)) ≤ 5) (f14 : 1 * x9 + ((-1) * x2 + ((-36) * x5 + 0)) ≤ 0) (f16 : 1 * x10 + ((-1) * x2 + ((-36) * x5 + 0)) ≤ 5) (f17 : 1 * x9 + ((-1) * x2 + ((-36) * x5 + 0)) ≤ 0) (f19 : 1 * x9 + ((-1) * x2 + ((-36) * x5 + 0)) ≤ 0) (f20 : x7 = x4) (f21 : x5 < x6) (kz_0_170 : 0 ≤ texts_0 ∧ texts_0 ≤ 100000000) (ex2 : gx = texts_0) (ex3 : 0 ≤ gx ∧ gx ≤ 99999987) : 1 * gx + ((-1) * x2 + ((-36) * x5 + 0)) ≤ 20 := by
  first | assumption | omega | grind
def o_Mo_writeGroup_at_l6_7 : or_T := (56, 16, [(0, (2, 0, 0, [165])), (2, (0, 0, 99998253, [])), (3, (2, 0, 0, [165])), (4, (0, 6, 7, [])), (5, (0, 0, 23, [])), (6, (0, 1, 24, [])), (7, (0, 6, 7, [])), (9, (0, 0, 99999995, [])), (10, (0, 0, 99999992, [])), (11, (0, 2, 99, [])), (12, (0, 1, 1, [])), (14, (0, 0, 99999993, [])), (15, (0, 0, 99, []))], [(20, [15, 3, 5], [50, 1, 1, 1005, 1002, 1, 2, 1, 0, 3, 1, 2, 4, 7, 4, 3, 2, 1, 5, 0, 219, 1, 2]), (23, [14, 2, 5], [13, 1, -1, -36]), (20, [11, 3, 5], [50, 1, 1, 1005, 1002, 1, 2, 1, 0, 3, 1, 2, 4, 7, 4, 3, 2, 1, 5, 0, 219, 1, 2]), (23, [10, 2, 5], [5, 1, -1, -36]), (23, [9, 2, 5], [0, 1, -1, -36]), (20, [7, 3, 5], [50, 1, 1, 1005, 1002, 1, 2, 1, 0, 3, 1, 2, 4, 7, 4, 3, 2, 1, 5, 0, 243, 1, 2]), (20, [6, 3], [30, 0, 1, 0, 0, -1, 3, 2005000]), (20, [6, 3], [30, 0, -1, 0, 0, 1, 3, 2005000]), (24, [0, 3], []), (20, [3, 14], [30, 7, 1, 1, 170, -1, 0, 0]), (102, [14], [7770675568902916283677847627294075626569627356208558085007249638955617140820833992704, 165170]), (23, [14, 2, 5], [13, 1, -1, -36]), (7, [11, 12], [4]), (23, [10, 2, 5], [5, 1, -1, -36]), (23, [9, 2, 5], [0, 1, -1, -36]), (102, [10], [7770675568902916283677847627294075626569627356208558085007249638955617140820833992704, 165170]), (23, [10, 2, 5], [5, 1, -1, -36]), (23, [9, 2, 5], [0, 1, -1, -36]), (102, [9], [7770675568902916283677847627294075626569627356208558085007249638955617140820833992704, 165170]), (23, [9, 2, 5], [0, 1, -1, -36]), (7, [7, 4], [0]), (7, [5, 6], [2])], [], [(0, 0, 99999987, [])], [(20, [3, 16], [30, 0, 1, 1, 170, -1, 0, 0]), (23, [16, 2, 5], [20, 1, -1, -36])], [], [(7, 4, 0, 0), (5, 6, -4294967296, -1)])
theorem oo_Mo_writeGroup_at_l6_7 {kA : Nat → ClassId} : or_ok PRD kA GG o_Mo_writeGroup_at_l6_7 := by
  refine or_mk fun A ta ws vs hD hth hl => ?_
  intro t0 r0 t2 k2 t3 r3 t4 k4 t5 k5 t6 k6 t7 k7 t9 k9 t10 k10 t11 k11 t12 k12 t14 k14 t15 k15 d0 d1 f0 f1 f2 f3 f4 f5 f6 f7 f8 f9 ta1 w1 le1 s1 f11 f12 f13 f14 ta2 w2 le2 s2 f16 f17 ta3 w3 le3 s3 f19 f20 f21
  replace f0 := shm_732 f0
  replace f1 := shm_2040 f1
  replace f2 := shm_732 f2
  replace f3 := shm_2038 f3
  replace f4 := shm_2037 f4
  replace f5 := shm_597 f5
  replace f6 := shm_126 f6
  replace f7 := shm_127 f7
  replace f8 := shm_5 f8
  replace f9 := shm_209 f9
  replace f11 := shm_2040 f11
  replace f12 := shm_21 f12
  replace f13 := shm_2038 f13
  replace f14 := shm_2037 f14
  replace f16 := shm_2038 f16
  replace f17 := shm_2037 f17
  replace f19 := shm_2037 f19
  replace f20 := shm_37 f20
  replace f21 := shm_6 f21
  have q3 : n_v vs 3 = n_v vs 0 := f8.symm
  simp only [q3] at f0 f2 f5 f6 f7 f9
  have cr_0_2 := fdq_10 hD hth r0
  have br_0_2_F5_0_0 : w_ei ws (w_ar ws (n_v vs 0) 2) (w_fi ws (n_v vs 0) 5 + 0) = w_el ws (w_ar ws (n_v vs 0) 2) (w_fi ws (n_v vs 0) 5 + 0).toNat := rfl
  have kz_0_170 := fdq_11 hD hth r0
  have kv0 := fdq_11 hD hth r0
  obtain ⟨x, ex, hx⟩ := iv_ex (ta := ta) (lo := 0) (hi := 99999987) (z := w_fi ws (n_v vs 0) 170) (by omega) (by omega) (by omega) (by omega)
  have ex2 : v_iv (Value.int x) = w_fi ws (n_v vs 0) 170 := ex
  have ex3 : 0 ≤ v_iv (Value.int x) ∧ v_iv (Value.int x) ≤ 99999987 := tv_rng hx
  have e_2 : n_v (vs ++ [Value.int x]) 2 = n_v vs 2 := n_v_old (by rw [hl]; decide)
  have e_3 : n_v (vs ++ [Value.int x]) 3 = n_v vs 3 := n_v_old (by rw [hl]; decide)
  have e_5 : n_v (vs ++ [Value.int x]) 5 = n_v vs 5 := n_v_old (by rw [hl]; decide)
  have e_16 : n_v (vs ++ [Value.int x]) 16 = Value.int x := n_v_new hl
  have nf0 : fc_1 PRD (20, [3, 16], [30, 0, 1, 1, 170, -1, 0, 0]) ws (vs ++ [Value.int x]) := by
    refine ⟨nf_inA hl rfl, sgq_131 ?_⟩
    · show 1 * w_fi ws (n_v (vs ++ [Value.int x]) 3) 170 + ((-1) * v_iv (n_v (vs ++ [Value.int x]) 16) + 0) ≤ 0
      simp only [e_3, e_16, q3]
      exact vc_Mo_writeGroup_at_l6_7_0 (v_iv (n_v vs 2)) (v_iv (n_v vs 4)) (v_iv (n_v vs 5)) (v_iv (n_v vs 6)) (v_iv (n_v vs 7)) (v_iv (n_v vs 9)) (v_iv (n_v vs 10)) (v_iv (n_v vs 11)) (v_iv (n_v vs 12)) (v_iv (n_v vs 14)) (v_iv (n_v vs 15)) (w_ei ws (w_ar ws (n_v vs 0) 2)) (w_fi ws (n_v vs 0) 5) (w_fi ws (n_v vs 0) 170) (v_iv (Value.int x)) k2 k4 k5 k6 k7 k9 k10 k11 k12 k14 k15 d0 d1 f0 f1 f2 f3 f4 f5 f6 f7 f9 f11 f12 f13 f14 f16 f17 f19 f20 f21 kz_0_170 ex2 ex3
  have nf1 : fc_1 PRD (23, [16, 2, 5], [20, 1, -1, -36]) ws (vs ++ [Value.int x]) := by
    refine ⟨nf_inA hl rfl, sgq_2041 ?_⟩
    · show 1 * v_iv (n_v (vs ++ [Value.int x]) 16) + ((-1) * v_iv (n_v (vs ++ [Value.int x]) 2) + ((-36) * v_iv (n_v (vs ++ [Value.int x]) 5) + 0)) ≤ 20
      simp only [e_2, e_5, e_16]
      exact vc_Mo_writeGroup_at_l6_7_1 (v_iv (n_v vs 2)) (v_iv (n_v vs 4)) (v_iv (n_v vs 5)) (v_iv (n_v vs 6)) (v_iv (n_v vs 7)) (v_iv (n_v vs 9)) (v_iv (n_v vs 10)) (v_iv (n_v vs 11)) (v_iv (n_v vs 12)) (v_iv (n_v vs 14)) (v_iv (n_v vs 15)) (w_ei ws (w_ar ws (n_v vs 0) 2)) (w_fi ws (n_v vs 0) 5) (w_fi ws (n_v vs 0) 170) (v_iv (Value.int x)) k2 k4 k5 k6 k7 k9 k10 k11 k12 k14 k15 d0 d1 f0 f1 f2 f3 f4 f5 f6 f7 f9 f11 f12 f13 f14 f16 f17 f19 f20 f21 kz_0_170 ex2 ex3
  exact ⟨(fun _ h => (by cases h)), [Value.int x], ag_one hx, List.forall_mem_cons.mpr ⟨⟨show (20 : Nat) < 100 from by decide, nf0⟩, List.forall_mem_cons.mpr ⟨⟨show (23 : Nat) < 100 from by decide, nf1⟩, (fun _ h => (by cases h))⟩⟩, (fun _ h => (by cases h))⟩
set_option maxHeartbeats 4000000 in
theorem vc_Mo_writeGroup_at_l6_8_0 (x2 : Int) (x4 : Int) (x5 : Int) (x6 : Int) (x7 : Int) (x9 : Int) (x10 : Int) (x11 : Int) (x12 : Int) (x14 : Int) (x15 : Int) (x16 : Int) (all_0 : Int → Int) (r_0 : Int) (texts_0 : Int) (gx : Int) (k2 : 0 ≤ x2 ∧ x2 ≤ 99998253) (k4 : 6 ≤ x4 ∧ x4 ≤ 7) (k5 : 0 ≤ x5 ∧ x5 ≤ 23) (k6 : 1 ≤ x6 ∧ x6 ≤ 24) (k7 : 6 ≤ x7 ∧ x7 ≤ 7) (k9 : 0 ≤ x9 ∧ x9 ≤ 99999995) (k10 : 0 ≤ x10 ∧ x10 ≤ 99999992) (k11 : 2 ≤ x11 ∧ x11 ≤ 99) (k12 : 1 ≤ x12 ∧ x12 ≤ 1) (k14 : 0 ≤ x14 ∧ x14 ≤ 99999993) (k15 : 0 ≤ x15 ∧ x15 ≤ 99) (k16 : 0 ≤ x16 ∧ x16 ≤ 99999987) (d0 : x4 + 0 ≤ x7 ∧ x7 ≤ x4 + 0) (d1 : x6 + (-4294967296) ≤ x5 ∧ x5 ≤ x6 + (-1)) (f0 : 1 * x16 + ((-1) * x2 + ((-36) * x5 + 0)) ≤ 20) (f1 : x15 = all_0 (((r_0 + 219) + x5))) (f2 : 1 * x14 + ((-1) * x2 + ((-36) * x5 + 0)) ≤ 13) (f3 : x11 = all_0 (((r_0 + 219) + x5))) (f4 : 1 * x10 + ((-1) * x2 + ((-36) * x5 + 0)) ≤ 5) (f5 : 1 * x9 + ((-1) * x2 + ((-36) * x5 + 0)) ≤ 0) (f6 : x7 = all_0 (((r_0 + 243) + x5))) (f7 : 1 * x6 + ((-1) * all_0 (r_0 + 0) + 0) ≤ 0) (f8 : (-1) * x6 + (1 * all_0 (r_0 + 0) + 0) ≤ 0) (f10 : 1 * texts_0 + ((-1) * x16 + 0) ≤ 13) (f12 : 1 * x16 + ((-1) * x2 + ((-36) * x5 + 0)) ≤ 20) (f13 : 1 * x14 + ((-1) * x2 + ((-36) * x5 + 0)) ≤ 13) (f14 : 1 * x10 + ((-1) * x2 + ((-36) * x5 + 0)) ≤ 5) (f15 : 1 * x9 + ((-1) * x2 + ((-36) * x5 + 0)) ≤ 0) (f17 : 1 * x14 + ((-1) * x2 + ((-36) * x5 + 0)) ≤ 13) (f18 : x12 < x11) (f19 : 1 * x10 + ((-1) * x2 + ((-36) * x5 + 0)) ≤ 5) (f20 : 1 * x9 + ((-1) * x2 + ((-36) * x5 + 0)) ≤ 0) (f22 : 1 * x10 + ((-1) * x2 + ((-36) * x5 + 0)) ≤ 5) (f23 : 1 * x9 + ((-1) * x2 + ((-36) * x5 + 0)) ≤ 0) (f25 : 1 * x9 + ((-1) * x2 + ((-36) * x5 + 0)) ≤ 0) (f26 : x7 = x4) (f27 : x5 < x6) (kz_0_170 : 0 ≤ texts_0 ∧ texts_0 ≤ 100000000) (ex2 : gx = texts_0) (ex3 : 0 ≤ gx ∧ gx ≤ 99999999) : 1 * texts_0 + ((-1) * gx + 0) ≤ 0 := by
  first | assumption | omega | grind
set_option maxHeartbeats 4000000 in
theorem vc_Mo_writeGroup_at_l6_8_1 (x2 : Int) (x4 : Int) (x5 : Int) (x6 : Int) (x7 : Int) (x9 : Int) (x10 : Int) (x11 : Int) (x12 : Int) (x14 : Int) (x15 : Int) (x16 : Int) (all_0 : Int → Int) (r_0 : Int) (texts_0 : Int) (gx : Int) (k2 : 0 ≤ x2 ∧ x2 ≤ 99998253) (k4 : 6 ≤ x4 ∧ x4 ≤ 7) (k5 : 0 ≤ x5 ∧ x5 ≤ 23) (k6 : 1 ≤ x6 ∧ x6 ≤ 24) (k7 : 6 ≤ x7 ∧ x7 ≤ 7) (k9 : 0 ≤ x9 ∧ x9 ≤ 99999995) (k10 : 0 ≤ x10 ∧ x10 ≤ 99999992) (k11 : 2 ≤ x11 ∧ x11 ≤ 99) (k12 : 1 ≤ x12 ∧ x12 ≤ 1) (k14 : 0 ≤ x14 ∧ x14 ≤ 99999993) (k15 : 0 ≤ x15 ∧ x15 ≤ 99) (k16 : 0 ≤ x16 ∧ x16 ≤ 99999987) (d0 : x4 + 0 ≤ x7 ∧ x7 ≤ x4 + 0) (d1 : x6 + (-4294967296) ≤ x5 ∧ x5 ≤ x6 + (-1)) (f0 : 1 * x16 + ((-1) * x2 + ((-36) * x5 + 0)) ≤ 20) (f1 : x15 = all_0 (((r_0 + 219) + x5))) (f2 : 1 * x14 + ((-1) * x2 + ((-36) * x5 + 0)) ≤ 13) (f3 : x11 = all_0 (((r_0 + 219) + x5))) (f4 : 1 * x10 + ((-1) * x2 + ((-36) * x5 + 0)) ≤ 5) (f5 : 1 * x9 + ((-1) * x2 + ((-36) * x5 + 0)) ≤ 0) (f6 : x7 = all_0 (((r_0 + 243) + x5))) (f7 : 1 * x6 + ((-1) * all_0 (r_0 + 0) + 0) ≤ 0) (f8 : (-1) * x6 + (1 * all_0 (r_0 + 0) + 0) ≤ 0) (f10 : 1 * texts_0 + ((-1) * x16 + 0) ≤ 13) (f12 : 1 * x16 + ((-1) * x2 + ((-36) * x5 + 0)) ≤ 20) (f13 : 1 * x14 + ((-1) * x2 + ((-36) * x5 + 0)) ≤ 13) (f14 : 1 * x10 + ((-1) * x2 + ((-36) * x5 + 0)) ≤ 5) (f15 : 1 * x9 + ((-1) * x2 + ((-36) * x5 + 0)) ≤ 0) (f17 : 1 * x14 + ((-1) * x2 + ((-36) * x5 + 0)) ≤ 13) (f18 : x12 < x11) (f19 : 1 * x10 + ((-1) * x2 + ((-36) * x5 + 0)) ≤ 5) (f20 : 1 * x9 + ((-1) * x2 + ((-36) * x5 + 0)) ≤ 0) (f22 : 1 * x10 + ((-1) * x2 + ((-36) * x5 + 0)) ≤ 5) (f23 : 1 * x9 + ((-1) * x2 + ((-36) * x5 + 0)) ≤ 0) (f25 : 1 * x9 + ((-1) * x2 + ((-36) * x5 + 0)) ≤ 0) (f26 : x7 = x4) (f27 : x5 < x6) (kz_0_170 : 0 ≤ texts_0 ∧ texts_0 ≤ 100000000) (ex2 : gx = texts_0) (ex3 : 0 ≤ gx ∧ gx ≤ 99999999) : 1 * gx + ((-1) * x2 + ((-36) * x5 + 0)) ≤ 33 := by
  first | assumption | omega | grind
def o_Mo_writeGroup_at_l6_8 : or_T := (63, 18, [(0, (2, 0, 0, [165])), (2, (0, 0, 99998253, [])), (3, (2, 0, 0, [165])), (4, (0, 6, 7, [])), (5, (0, 0, 23, [])), (6, (0, 1, 24, [])), (7, (0, 6, 7, [])), (9, (0, 0, 99999995, [])), (10, (0, 0, 99999992, [])), (11, (0, 2, 99, [])), (12, (0, 1, 1, [])), (14, (0, 0, 99999993, [])), (15, (0, 0, 99, [])), (16, (0, 0, 99999987, []))], [(23, [16, 2, 5], [20, 1, -1, -36]), (20, [15, 3, 5], [50, 1, 1, 1005, 1002, 1, 2, 1, 0, 3, 1, 2, 4, 7, 4, 3, 2, 1, 5, 0, 219, 1, 2]), (23, [14, 2, 5], [13, 1, -1, -36]), (20, [11, 3, 5], [50, 1, 1, 1005, 1002, 1, 2, 1, 0, 3, 1, 2, 4, 7, 4, 3, 2, 1, 5, 0, 219, 1, 2]), (23, [10, 2, 5], [5, 1, -1, -36]), (23, [9, 2, 5], [0, 1, -1, -36]), (20, [7, 3, 5], [50, 1, 1, 1005, 1002, 1, 2, 1, 0, 3, 1, 2, 4, 7, 4, 3, 2, 1, 5, 0, 243, 1, 2]), (20, [6, 3], [30, 0, 1, 0, 0, -1, 3, 2005000]), (20, [6, 3], [30, 0, -1, 0, 0, 1, 3, 2005000]), (24, [0, 3], []), (20, [3, 16], [30, 13, 1, 1, 170, -1, 0, 0]), (102, [16], [7770675568902916283677847627294075626569627356208558085007249638955617140820833992704, 165170]), (23, [16, 2, 5], [20, 1, -1, -36]), (23, [14, 2, 5], [13, 1, -1, -36]), (23, [10, 2, 5], [5, 1, -1, -36]), (23, [9, 2, 5], [0, 1, -1, -36]), (102, [14], [7770675568902916283677847627294075626569627356208558085007249638955617140820833992704, 165170]), (23, [14, 2, 5], [13, 1, -1, -36]), (7, [11, 12], [4]), (23, [10, 2, 5], [5, 1, -1, -36]), (23, [9, 2, 5], [0, 1, -1, -36]), (102, [10], [7770675568902916283677847627294075626569627356208558085007249638955617140820833992704, 165170]), (23, [10, 2, 5], [5, 1, -1, -36]), (23, [9, 2, 5], [0, 1, -1, -36]), (102, [9], [7770675568902916283677847627294075626569627356208558085007249638955617140820833992704, 165170]), (23, [9, 2, 5], [0, 1, -1, -36]), (7, [7, 4], [0]), (7, [5, 6], [2])], [], [(0, 0, 99999999, [])], [(20, [3, 18], [30, 0, 1, 1, 170, -1, 0, 0]), (23, [18, 2, 5], [33, 1, -1, -36])], [], [(7, 4, 0, 0), (5, 6, -4294967296, -1)])
theorem oo_Mo_writeGroup_at_l6_8 {kA : Nat → ClassId} : or_ok PRD kA GG o_Mo_writeGroup_at_l6_8 := by
  refine or_mk fun A ta ws vs hD hth hl => ?_
  intro t0 r0 t2 k2 t3 r3 t4 k4 t5 k5 t6 k6 t7 k7 t9 k9 t10 k10 t11 k11 t12 k12 t14 k14 t15 k15 t16 k16 d0 d1 f0 f1 f2 f3 f4 f5 f6 f7 f8 f9 f10 ta1 w1 le1 s1 f12 f13 f14 f15 ta2 w2 le2 s2 f17 f18 f19 f20 ta3 w3 le3 s3 f22 f23 ta4 w4 le4 s4 f25 f26 f27
  replace f0 := shm_2041 f0
  replace f1 := shm_732 f1
  replace f2 := shm_2040 f2
  replace f3 := shm_732 f3
  replace f4 := shm_2038 f4
  replace f5 := shm_2037 f5
  replace f6 := shm_597 f6
  replace f7 := shm_126 f7
  replace f8 := shm_127 f8
  replace f9 := shm_5 f9
  replace f10 := shm_1056 f10
  replace f12 := shm_2041 f12
  replace f13 := shm_2040 f13
  replace f14 := shm_2038 f14
  replace f15 := shm_2037 f15
  replace f17 := shm_2040 f17
  replace f18 := shm_21 f18
  replace f19 := shm_2038 f19
  replace f20 := shm_2037 f20
  replace f22 := shm_2038 f22
  replace f23 := shm_2037 f23
  replace f25 := shm_2037 f25
  replace f26 := shm_37 f26
  replace f27 := shm_6 f27
  have q3 : n_v vs 3 = n_v vs 0 := f9.symm
  simp only [q3] at f1 f3 f6 f7 f8 f10
  have cr_0_2 := fdq_10 hD hth r0
  have br_0_2_F5_0_0 : w_ei ws (w_ar ws (n_v vs 0) 2) (w_fi ws (n_v vs 0) 5 + 0) = w_el ws (w_ar ws (n_v vs 0) 2) (w_fi ws (n_v vs 0) 5 + 0).toNat := rfl
  have kz_0_170 := fdq_11 hD hth r0
  have kv0 := fdq_11 hD hth r0
  obtain ⟨x, ex, hx⟩ := iv_ex (ta := ta) (lo := 0) (hi := 99999999) (z := w_fi ws (n_v vs 0) 170) (by omega) (by omega) (by omega) (by omega)
  have ex2 : v_iv (Value.int x) = w_fi ws (n_v vs 0) 170 := ex
  have ex3 : 0 ≤ v_iv (Value.int x) ∧ v_iv (Value.int x) ≤ 99999999 := tv_rng hx
  have e_2 : n_v (vs ++ [Value.int x]) 2 = n_v vs 2 := n_v_old (by rw [hl]; decide)
  have e_3 : n_v (vs ++ [Value.int x]) 3 = n_v vs 3 := n_v_old (by rw [hl]; decide)
  have e_5 : n_v (vs ++ [Value.int x]) 5 = n_v vs 5 := n_v_old (by rw [hl]; decide)
  have e_18 : n_v (vs ++ [Value.int x]) 18 = Value.int x := n_v_new hl
  have nf0 : fc_1 PRD (20, [3, 18], [30, 0, 1, 1, 170, -1, 0, 0]) ws (vs ++ [Value.int x]) := by
    refine ⟨nf_inA hl rfl, sgq_131 ?_⟩
    · show 1 * w_fi ws (n_v (vs ++ [Value.int x]) 3) 170 + ((-1) * v_iv (n_v (vs ++ [Value.int x]) 18) + 0) ≤ 0
      simp only [e_3, e_18, q3]
      exact vc_Mo_writeGroup_at_l6_8_0 (v_iv (n_v vs 2)) (v_iv (n_v vs 4)) (v_iv (n_v vs 5)) (v_iv (n_v vs 6)) (v_iv (n_v vs 7)) (v_iv (n_v vs 9)) (v_iv (n_v vs 10)) (v_iv (n_v vs 11)) (v_iv (n_v vs 12)) (v_iv (n_v vs 14)) (v_iv (n_v vs 15)) (v_iv (n_v vs 16)) (w_ei ws (w_ar ws (n_v vs 0) 2)) (w_fi ws (n_v vs 0) 5) (w_fi ws (n_v vs 0) 170) (v_iv (Value.int x)) k2 k4 k5 k6 k7 k9 k10 k11 k12 k14 k15 k16 d0 d1 f0 f1 f2 f3 f4 f5 f6 f7 f8 f10 f12 f13 f14 f15 f17 f18 f19 f20 f22 f23 f25 f26 f27 kz_0_170 ex2 ex3
  have nf1 : fc_1 PRD (23, [18, 2, 5], [33, 1, -1, -36]) ws (vs ++ [Value.int x]) := by
    refine ⟨nf_inA hl rfl, sgq_2042 ?_⟩
    · show 1 * v_iv (n_v (vs ++ [Value.int x]) 18) + ((-1) * v_iv (n_v (vs ++ [Value.int x]) 2) + ((-36) * v_iv (n_v (vs ++ [Value.int x]) 5) + 0)) ≤ 33
      simp only [e_2, e_5, e_18]
      exact vc_Mo_writeGroup_at_l6_8_1 (v_iv (n_v vs 2)) (v_iv (n_v vs 4)) (v_iv (n_v vs 5)) (v_iv (n_v vs 6)) (v_iv (n_v vs 7)) (v_iv (n_v vs 9)) (v_iv (n_v vs 10)) (v_iv (n_v vs 11)) (v_iv (n_v vs 12)) (v_iv (n_v vs 14)) (v_iv (n_v vs 15)) (v_iv (n_v vs 16)) (w_ei ws (w_ar ws (n_v vs 0) 2)) (w_fi ws (n_v vs 0) 5) (w_fi ws (n_v vs 0) 170) (v_iv (Value.int x)) k2 k4 k5 k6 k7 k9 k10 k11 k12 k14 k15 k16 d0 d1 f0 f1 f2 f3 f4 f5 f6 f7 f8 f10 f12 f13 f14 f15 f17 f18 f19 f20 f22 f23 f25 f26 f27 kz_0_170 ex2 ex3
  exact ⟨(fun _ h => (by cases h)), [Value.int x], ag_one hx, List.forall_mem_cons.mpr ⟨⟨show (20 : Nat) < 100 from by decide, nf0⟩, List.forall_mem_cons.mpr ⟨⟨show (23 : Nat) < 100 from by decide, nf1⟩, (fun _ h => (by cases h))⟩⟩, (fun _ h => (by cases h))⟩
set_option maxHeartbeats 4000000 in
theorem vc_Mo_writeGroup_at_l6_9_0 (x2 : Int) (x4 : Int) (x5 : Int) (x6 : Int) (x7 : Int) (x9 : Int) (x10 : Int) (x11 : Int) (x12 : Int) (x14 : Int) (x15 : Int) (x16 : Int) (x18 : Int) (all_0 : Int → Int) (r_0 : Int) (texts_0 : Int) (gx : Int) (k2 : 0 ≤ x2 ∧ x2 ≤ 99998253) (k4 : 6 ≤ x4 ∧ x4 ≤ 7) (k5 : 0 ≤ x5 ∧ x5 ≤ 23) (k6 : 1 ≤ x6 ∧ x6 ≤ 24) (k7 : 6 ≤ x7 ∧ x7 ≤ 7) (k9 : 0 ≤ x9 ∧ x9 ≤ 99999995) (k10 : 0 ≤ x10 ∧ x10 ≤ 99999992) (k11 : 2 ≤ x11 ∧ x11 ≤ 99) (k12 : 1 ≤ x12 ∧ x12 ≤ 1) (k14 : 0 ≤ x14 ∧ x14 ≤ 99999993) (k15 : 0 ≤ x15 ∧ x15 ≤ 99) (k16 : 0 ≤ x16 ∧ x16 ≤ 99999987) (k18 : 0 ≤ x18 ∧ x18 ≤ 99999999) (d0 : x4 + 0 ≤ x7 ∧ x7 ≤ x4 + 0) (d1 : x6 + (-4294967296) ≤ x5 ∧ x5 ≤ x6 + (-1)) (f0 : 1 * x18 + ((-1) * x2 + ((-36) * x5 + 0)) ≤ 33) (f1 : 1 * x16 + ((-1) * x2 + ((-36) * x5 + 0)) ≤ 20) (f2 : x15 = all_0 (((r_0 + 219) + x5))) (f3 : 1 * x14 + ((-1) * x2 + ((-36) * x5 + 0)) ≤ 13) (f4 : x11 = all_0 (((r_0 + 219) + x5))) (f5 : 1 * x10 + ((-1) * x2 + ((-36) * x5 + 0)) ≤ 5) (f6 : 1 * x9 + ((-1) * x2 + ((-36) * x5 + 0)) ≤ 0) (f7 : x7 = all_0 (((r_0 + 243) + x5))) (f8 : 1 * x6 + ((-1) * all_0 (r_0 + 0) + 0) ≤ 0) (f9 : (-1) * x6 + (1 * all_0 (r_0 + 0) + 0) ≤ 0) (f11 : 1 * texts_0 + ((-1) * x18 + 0) ≤ 1) (f13 : 1 * x18 + ((-1) * x2 + ((-36) * x5 + 0)) ≤ 33) (f14 : 1 * x16 + ((-1) * x2 + ((-36) * x5 + 0)) ≤ 20) (f15 : 1 * x14 + ((-1) * x2 + ((-36) * x5 + 0)) ≤ 13) (f16 : 1 * x10 + ((-1) * x2 + ((-36) * x5 + 0)) ≤ 5) (f17 : 1 * x9 + ((-1) * x2 + ((-36) * x5 + 0)) ≤ 0) (f19 : 1 * x16 + ((-1) * x2 + ((-36) * x5 + 0)) ≤ 20) (f20 : 1 * x14 + ((-1) * x2 + ((-36) * x5 + 0)) ≤ 13) (f21 : 1 * x10 + ((-1) * x2 + ((-36) * x5 + 0)) ≤ 5) (f22 : 1 * x9 + ((-1) * x2 + ((-36) * x5 + 0)) ≤ 0) (f24 : 1 * x14 + ((-1) * x2 + ((-36) * x5 + 0)) ≤ 13) (f25 : x12 < x11) (f26 : 1 * x10 + ((-1) * x2 + ((-36) * x5 + 0)) ≤ 5) (f27 : 1 * x9 + ((-1) * x2 + ((-36) * x5 + 0)) ≤ 0) (f29 : 1 * x10 + ((-1) * x2 + ((-36) * x5 + 0)) ≤ 5) (f30 : 1 * x9 + ((-1) * x2 + ((-36) * x5 + 0)) ≤ 0) (f32 : 1 * x9 + ((-1) * x2 + ((-36) * x5 + 0)) ≤ 0) (f33 : x7 = x4) (f34 : x5 < x6) (kz_0_170 : 0 ≤ texts_0 ∧ texts_0 ≤ 100000000) (ex2 : gx = texts_0) (ex3 : 0 ≤ gx ∧ gx ≤ 99999998) : 1 * texts_0 + ((-1) * gx + 0) ≤ 0 := by
  first | assumption | omega | grind
set_option maxHeartbeats 4000000 in
theorem vc_Mo_writeGroup_at_l6_9_1 (x2 : Int) (x4 : Int) (x5 : Int) (x6 : Int) (x7 : Int) (x9 : Int) (x10 : Int) (x11 : Int) (x12 : Int) (x14 : Int) (x15 : Int) (x16 : Int) (x18 : Int) (all_0 : Int → Int) (r_0 : Int) (texts_0 : Int) (gx : Int) (k2 : 0 ≤ x2 ∧ x2 ≤ 99998253) (k4 : 6 ≤ x4 ∧ x4 ≤ 7) (k5 : 0 ≤ x5 ∧ x5 ≤ 23) (k6 : 1 ≤ x6 ∧ x6 ≤ 24) (k7 : 6 ≤ x7 ∧ x7 ≤ 7) (k9 : 0 ≤ x9 ∧ x9 ≤ 99999995) (k10 : 0 ≤ x10 ∧ x10 ≤ 99999992) (k11 : 2 ≤ x11 ∧ x11 ≤ 99) (k12 : 1 ≤ x12 ∧ x12 ≤ 1) (k14 : 0 ≤ x14 ∧ x14 ≤ 99999993) (k15 : 0 ≤ x15 ∧ x15 ≤ 99) (k16 : 0 ≤ x16 ∧ x16 ≤ 99999987) (k18 : 0 ≤ x18 ∧ x18 ≤ 99999999) (d0 : x4 + 0 ≤ x7 ∧ x7 ≤ x4 + 0) (d1 : x6 + (-4294967296) ≤ x5 ∧ x5 ≤ x6 + (-1)) (f0 : 1 * x18 + ((-1) * x2 + ((-36) * x5 + 0)) ≤ 33) (f1 : 1 * x16 + ((-1) * x2 + ((-36) * x5 + 0)) ≤ 20) (f2 : x15 = all_0 (((r_0 + 219) + x5))) (f3 : 1 * x14 + ((-1) * x2 + ((-36) * x5 + 0)) ≤ 13) (f4 : x11 = all_0 (((r_0 + 219) + x5))) (f5 : 1 * x10 + ((-1) * x2 + ((-36) * x5 + 0)) ≤ 5) (f6 : 1 * x9 + ((-1) * x2 + ((-36) * x5 + 0)) ≤ 0) (f7 : x7 = all_0 (((r_0 + 243) + x5))) (f8 : 1 * x6 + ((-1) * all_0 (r_0 + 0) + 0) ≤ 0) (f9 : (-1) * x6 + (1 * all_0 (r_0 + 0) + 0) ≤ 0) (f11 : 1 * texts_0 + ((-1) * x18 + 0) ≤ 1) (f13 : 1 * x18 + ((-1) * x2 + ((-36) * x5 + 0)) ≤ 33) (f14 : 1 * x16 + ((-1) * x2 + ((-36) * x5 + 0)) ≤ 20) (f15 : 1 * x14 + ((-1) * x2 + ((-36) * x5 + 0)) ≤ 13) (f16 : 1 * x10 + ((-1) * x2 + ((-36) * x5 + 0)) ≤ 5) (f17 : 1 * x9 + ((-1) * x2 + ((-36) * x5 + 0)) ≤ 0) (f19 : 1 * x16 + ((-1) * x2 + ((-36) * x5 + 0)) ≤ 20) (f20 : 1 * x14 + ((-1) * x2 + ((-36) * x5 + 0)) ≤ 13) (f21 : 1 * x10 + ((-1) * x2 + ((-36) * x5 + 0)) ≤ 5) (f22 : 1 * x9 + ((-1) * x2 + ((-36) * x5 + 0)) ≤ 0) (f24 : 1 * x14 + ((-1) * x2 + ((-36) * x5 + 0)) ≤ 13) (f25 : x12 < x11) (f26 : 1 * x10 + ((-1) * x2 + ((-36) * x5 + 0)) ≤ 5) (f27 : 1 * x9 + ((-1) * x2 + ((-36) * x5 + 0)) ≤ 0) (f29 : 1 * x10 + ((-1) * x2 + ((-36) * x5 + 0)) ≤ 5) (f30 : 1 * x9 + ((-1) * x2 + ((-36) * x5 + 0)) ≤ 0) (f32 : 1 * x9 + ((-1) * x2 + ((-36) * x5 + 0)) ≤ 0) (f33 : x7 = x4) (f34 : x5 < x6) (kz_0_170 : 0 ≤ texts_0 ∧ texts_0 ≤ 100000000) (ex2 : gx = texts_0) (ex3 : 0 ≤ gx ∧ gx ≤ 99999998) : 1 * gx + ((-1) * x2 + ((-36) * x5 + 0)) ≤ 34 := by
  first | assumption | omega | grind
def o_Mo_writeGroup_at_l6_9 : or_T := (70, 20, [(0, (2, 0, 0, [165])), (2, (0, 0, 99998253, [])), (3, (2, 0, 0, [165])), (4, (0, 6, 7, [])), (5, (0, 0, 23, [])), (6, (0, 1, 24, [])), (7, (0, 6, 7, [])), (9, (0, 0, 99999995, [])), (10, (0, 0, 99999992, [])), (11, (0, 2, 99, [])), (12, (0, 1, 1, [])), (14, (0, 0, 99999993, [])), (15, (0, 0, 99, [])), (16, (0, 0, 99999987, [])), (18, (0, 0, 99999999, []))], [(23, [18, 2, 5], [33, 1, -1, -36]), (23, [16, 2, 5], [20, 1, -1, -36]), (20, [15, 3, 5], [50, 1, 1, 1005, 1002, 1, 2, 1, 0, 3, 1, 2, 4, 7, 4, 3, 2, 1, 5, 0, 219, 1, 2]), (23, [14, 2, 5], [13, 1, -1, -36]), (20, [11, 3, 5], [50, 1, 1, 1005, 1002, 1, 2, 1, 0, 3, 1, 2, 4, 7, 4, 3, 2, 1, 5, 0, 219, 1, 2]), (23, [10, 2, 5], [5, 1, -1, -36]), (23, [9, 2, 5], [0, 1, -1, -36]), (20, [7, 3, 5], [50, 1, 1, 1005, 1002, 1, 2, 1, 0, 3, 1, 2, 4, 7, 4, 3, 2, 1, 5, 0, 243, 1, 2]), (20, [6, 3], [30, 0, 1, 0, 0, -1, 3, 2005000]), (20, [6, 3], [30, 0, -1, 0, 0, 1, 3, 2005000]), (24, [0, 3], []), (20, [3, 18], [30, 1, 1, 1, 170, -1, 0, 0]), (102, [18], [7770675568902916283677847627294075626569627356208558085007249638955617140820833992704, 165170]), (23, [18, 2, 5], [33, 1, -1, -36]), (23, [16, 2, 5], [20, 1, -1, -36]), (23, [14, 2, 5], [13, 1, -1, -36]), (23, [10, 2, 5], [5, 1, -1, -36]), (23, [9, 2, 5], [0, 1, -1, -36]), (102, [16], [7770675568902916283677847627294075626569627356208558085007249638955617140820833992704, 165170]), (23, [16, 2, 5], [20, 1, -1, -36]), (23, [14, 2, 5], [13, 1, -1, -36]), (23, [10, 2, 5], [5, 1, -1, -36]), (23, [9, 2, 5], [0, 1, -1, -36]), (102, [14], [7770675568902916283677847627294075626569627356208558085007249638955617140820833992704, 165170]), (23, [14, 2, 5], [13, 1, -1, -36]), (7, [11, 12], [4]), (23, [10, 2, 5], [5, 1, -1, -36]), (23, [9, 2, 5], [0, 1, -1, -36]), (102, [10], [7770675568902916283677847627294075626569627356208558085007249638955617140820833992704, 165170]), (23, [10, 2, 5], [5, 1, -1, -36]), (23, [9, 2, 5], [0, 1, -1, -36]), (102, [9], [7770675568902916283677847627294075626569627356208558085007249638955617140820833992704, 165170]), (23, [9, 2, 5], [0, 1, -1, -36]), (7, [7, 4], [0]), (7, [5, 6], [2])], [], [(0, 0, 99999998, [])], [(20, [3, 20], [30, 0, 1, 1, 170, -1, 0, 0]), (23, [20, 2, 5], [34, 1, -1, -36])], [], [(7, 4, 0, 0), (5, 6, -4294967296, -1)])
theorem oo_Mo_writeGroup_at_l6_9 {kA : Nat → ClassId} : or_ok PRD kA GG o_Mo_writeGroup_at_l6_9 := by
  refine or_mk fun A ta ws vs hD hth hl => ?_
  intro t0 r0 t2 k2 t3 r3 t4 k4 t5 k5 t6 k6 t7 k7 t9 k9 t10 k10 t11 k11 t12 k12 t14 k14 t15 k15 t16 k16 t18 k18 d0 d1 f0 f1 f2 f3 f4 f5 f6 f7 f8 f9 f10 f11 ta1 w1 le1 s1 f13 f14 f15 f16 f17 ta2 w2 le2 s2 f19 f20 f21 f22 ta3 w3 le3 s3 f24 f25 f26 f27 ta4 w4 le4 s4 f29 f30 ta5 w5 le5 s5 f32 f33 f34
  replace f0 := shm_2042 f0
  replace f1 := shm_2041 f1
  replace f2 := shm_732 f2
  replace f3 := shm_2040 f3
  replace f4 := shm_732 f4
  replace f5 := shm_2038 f5
  replace f6 := shm_2037 f6
  replace f7 := shm_597 f7
  replace f8 := shm_126 f8
  replace f9 := shm_127 f9
  replace f10 := shm_5 f10
  replace f11 := shm_132 f11
  replace f13 := shm_2042 f13
  replace f14 := shm_2041 f14
  replace f15 := shm_2040 f15
  replace f16 := shm_2038 f16
  replace f17 := shm_2037 f17
  replace f19 := shm_2041 f19
  replace f20 := shm_2040 f20
  replace f21 := shm_2038 f21
  replace f22 := shm_2037 f22
  replace f24 := shm_2040 f24
  replace f25 := shm_21 f25
  replace f26 := shm_2038 f26
  replace f27 := shm_2037 f27
  replace f29 := shm_2038 f29
  replace f30 := shm_2037 f30
  replace f32 := shm_2037 f32
  replace f33 := shm_37 f33
  replace f34 := shm_6 f34
  have q3 : n_v vs 3 = n_v vs 0 := f10.symm
  simp only [q3] at f2 f4 f7 f8 f9 f11
  have cr_0_2 := fdq_10 hD hth r0
  have br_0_2_F5_0_0 : w_ei ws (w_ar ws (n_v vs 0) 2) (w_fi ws (n_v vs 0) 5 + 0) = w_el ws (w_ar ws (n_v vs 0) 2) (w_fi ws (n_v vs 0) 5 + 0).toNat := rfl
  have kz_0_170 := fdq_11 hD hth r0
  have kv0 := fdq_11 hD hth r0
  obtain ⟨x, ex, hx⟩ := iv_ex (ta := ta) (lo := 0) (hi := 99999998) (z := w_fi ws (n_v vs 0) 170) (by omega) (by omega) (by omega) (by omega)
  have ex2 : v_iv (Value.int x) = w_fi ws (n_v vs 0) 170 := ex
  have ex3 : 0 ≤ v_iv (Value.int x) ∧ v_iv (Value.int x) ≤ 99999998 := tv_rng hx
  have e_2 : n_v (vs ++ [Value.int x]) 2 = n_v vs 2 := n_v_old (by rw [hl]; decide)
  have e_3 : n_v (vs ++ [Value.int x]) 3 = n_v vs 3 := n_v_old (by rw [hl]; decide)
  have e_5 : n_v (vs ++ [Value.int x]) 5 = n_v vs 5 := n_v_old (by rw [hl]; decide)
  have e_20 : n_v (vs ++ [Value.int x]) 20 = Value.int x := n_v_new hl
  have nf0 : fc_1 PRD (20, [3, 20], [30, 0, 1, 1, 170, -1, 0, 0]) ws (vs ++ [Value.int x]) := by
    refine ⟨nf_inA hl rfl, sgq_131 ?_⟩
    · show 1 * w_fi ws (n_v (vs ++ [Value.int x]) 3) 170 + ((-1) * v_iv (n_v (vs ++ [Value.int x]) 20) + 0) ≤ 0
      simp only [e_3, e_20, q3]
      exact vc_Mo_writeGroup_at_l6_9_0 (v_iv (n_v vs 2)) (v_iv (n_v vs 4)) (v_iv (n_v vs 5)) (v_iv (n_v vs 6)) (v_iv (n_v vs 7)) (v_iv (n_v vs 9)) (v_iv (n_v vs 10)) (v_iv (n_v vs 11)) (v_iv (n_v vs 12)) (v_iv (n_v vs 14)) (v_iv (n_v vs 15)) (v_iv (n_v vs 16)) (v_iv (n_v vs 18)) (w_ei ws (w_ar ws (n_v vs 0) 2)) (w_fi ws (n_v vs 0) 5) (w_fi ws (n_v vs 0) 170) (v_iv (Value.int x)) k2 k4 k5 k6 k7 k9 k10 k11 k12 k14 k15 k16 k18 d0 d1 f0 f1 f2 f3 f4 f5 f6 f7 f8 f9 f11 f13 f14 f15 f16 f17 f19 f20 f21 f22 f24 f25 f26 f27 f29 f30 f32 f33 f34 kz_0_170 ex2 ex3
  have nf1 : fc_1 PRD (23, [20, 2, 5], [34, 1, -1, -36]) ws (vs ++ [Value.int x]) := by
    refine ⟨nf_inA hl rfl, sgq_2039 ?_⟩
    · show 1 * v_iv (n_v (vs ++ [Value.int x]) 20) + ((-1) * v_iv (n_v (vs ++ [Value.int x]) 2) + ((-36) * v_iv (n_v (vs ++ [Value.int x]) 5) + 0)) ≤ 34
      simp only [e_2, e_5, e_20]
      exact vc_Mo_writeGroup_at_l6_9_1 (v_iv (n_v vs 2)) (v_iv (n_v vs 4)) (v_iv (n_v vs 5)) (v_iv (n_v vs 6)) (v_iv (n_v vs 7)) (v_iv (n_v vs 9)) (v_iv (n_v vs 10)) (v_iv (n_v vs 11)) (v_iv (n_v vs 12)) (v_iv (n_v vs 14)) (v_iv (n_v vs 15)) (v_iv (n_v vs 16)) (v_iv (n_v vs 18)) (w_ei ws (w_ar ws (n_v vs 0) 2)) (w_fi ws (n_v vs 0) 5) (w_fi ws (n_v vs 0) 170) (v_iv (Value.int x)) k2 k4 k5 k6 k7 k9 k10 k11 k12 k14 k15 k16 k18 d0 d1 f0 f1 f2 f3 f4 f5 f6 f7 f8 f9 f11 f13 f14 f15 f16 f17 f19 f20 f21 f22 f24 f25 f26 f27 f29 f30 f32 f33 f34 kz_0_170 ex2 ex3
  exact ⟨(fun _ h => (by cases h)), [Value.int x], ag_one hx, List.forall_mem_cons.mpr ⟨⟨show (20 : Nat) < 100 from by decide, nf0⟩, List.forall_mem_cons.mpr ⟨⟨show (23 : Nat) < 100 from by decide, nf1⟩, (fun _ h => (by cases h))⟩⟩, (fun _ h => (by cases h))⟩
set_option maxHeartbeats 4000000 in
theorem vc_Mo_writeGroup_at_l6_10_0 (x2 : Int) (x4 : Int) (x5 : Int) (x6 : Int) (x7 : Int) (x9 : Int) (x10 : Int) (x11 : Int) (x12 : Int) (x14 : Int) (x15 : Int) (x16 : Int) (x18 : Int) (x20 : Int) (x21 : Int) (all_0 : Int → Int) (r_0 : Int) (texts_0 : Int) (k2 : 0 ≤ x2 ∧ x2 ≤ 99998253) (k4 : 6 ≤ x4 ∧ x4 ≤ 7) (k5 : 0 ≤ x5 ∧ x5 ≤ 23) (k6 : 1 ≤ x6 ∧ x6 ≤ 24) (k7 : 6 ≤ x7 ∧ x7 ≤ 7) (k9 : 0 ≤ x9 ∧ x9 ≤ 99999995) (k10 : 0 ≤ x10 ∧ x10 ≤ 99999992) (k11 : 2 ≤ x11 ∧ x11 ≤ 99) (k12 : 1 ≤ x12 ∧ x12 ≤ 1) (k14 : 0 ≤ x14 ∧ x14 ≤ 99999993) (k15 : 0 ≤ x15 ∧ x15 ≤ 99) (k16 : 0 ≤ x16 ∧ x16 ≤ 99999987) (k18 : 0 ≤ x18 ∧ x18 ≤ 99999999) (k20 : 0 ≤ x20 ∧ x20 ≤ 99999998) (k21 : 1 ≤ x21 ∧ x21 ≤ 24) (d0 : x5 + 1 ≤ x21 ∧ x21 ≤ x5 + 1) (d1 : x6 + (-4294967296) ≤ x21 ∧ x21 ≤ x6 + 0) (d2 : x4 + 0 ≤ x7 ∧ x7 ≤ x4 + 0) (d3 : x6 + (-4294967296) ≤ x5 ∧ x5 ≤ x6 + (-1)) (f0 : x21 = x5 + 1) (f1 : 1 * x20 + ((-1) * x2 + ((-36) * x5 + 0)) ≤ 34) (f2 : 1 * x18 + ((-1) * x2 + ((-36) * x5 + 0)) ≤ 33) (f3 : 1 * x16 + ((-1) * x2 + ((-36) * x5 + 0)) ≤ 20) (f4 : x15 = all_0 (((r_0 + 219) + x5))) (f5 : 1 * x14 + ((-1) * x2 + ((-36) * x5 + 0)) ≤ 13) (f6 : x11 = all_0 (((r_0 + 219) + x5))) (f7 : 1 * x10 + ((-1) * x2 + ((-36) * x5 + 0)) ≤ 5) (f8 : 1 * x9 + ((-1) * x2 + ((-36) * x5 + 0)) ≤ 0) (f9 : x7 = all_0 (((r_0 + 243) + x5))) (f10 : 1 * x6 + ((-1) * all_0 (r_0 + 0) + 0) ≤ 0) (f11 : (-1) * x6 + (1 * all_0 (r_0 + 0) + 0) ≤ 0) (f13 : 1 * texts_0 + ((-1) * x20 + 0) ≤ 2) (f15 : 1 * x20 + ((-1) * x2 + ((-36) * x5 + 0)) ≤ 34) (f16 : 1 * x18 + ((-1) * x2 + ((-36) * x5 + 0)) ≤ 33) (f17 : 1 * x16 + ((-1) * x2 + ((-36) * x5 + 0)) ≤ 20) (f18 : 1 * x14 + ((-1) * x2 + ((-36) * x5 + 0)) ≤ 13) (f19 : 1 * x10 + ((-1) * x2 + ((-36) * x5 + 0)) ≤ 5) (f20 : 1 * x9 + ((-1) * x2 + ((-36) * x5 + 0)) ≤ 0) (f22 : 1 * x18 + ((-1) * x2 + ((-36) * x5 + 0)) ≤ 33) (f23 : 1 * x16 + ((-1) * x2 + ((-36) * x5 + 0)) ≤ 20) (f24 : 1 * x14 + ((-1) * x2 + ((-36) * x5 + 0)) ≤ 13) (f25 : 1 * x10 + ((-1) * x2 + ((-36) * x5 + 0)) ≤ 5) (f26 : 1 * x9 + ((-1) * x2 + ((-36) * x5 + 0)) ≤ 0) (f28 : 1 * x16 + ((-1) * x2 + ((-36) * x5 + 0)) ≤ 20) (f29 : 1 * x14 + ((-1) * x2 + ((-36) * x5 + 0)) ≤ 13) (f30 : 1 * x10 + ((-1) * x2 + ((-36) * x5 + 0)) ≤ 5) (f31 : 1 * x9 + ((-1) * x2 + ((-36) * x5 + 0)) ≤ 0) (f33 : 1 * x14 + ((-1) * x2 + ((-36) * x5 + 0)) ≤ 13) (f34 : x12 < x11) (f35 : 1 * x10 + ((-1) * x2 + ((-36) * x5 + 0)) ≤ 5) (f36 : 1 * x9 + ((-1) * x2 + ((-36) * x5 + 0)) ≤ 0) (f38 : 1 * x10 + ((-1) * x2 + ((-36) * x5 + 0)) ≤ 5) (f39 : 1 * x9 + ((-1) * x2 + ((-36) * x5 + 0)) ≤ 0) (f41 : 1 * x9 + ((-1) * x2 + ((-36) * x5 + 0)) ≤ 0) (f42 : x7 = x4) (f43 : x5 < x6) (kz_0_170 : 0 ≤ texts_0 ∧ texts_0 ≤ 100000000) : 1 * texts_0 + ((-1) * x2 + ((-36) * x21 + 0)) ≤ 0 := by
  first | assumption | omega | grind
def o_Mo_writeGroup_at_l6_10 : or_T := (2, 22, [(0, (2, 0, 0, [165])), (2, (0, 0, 99998253, [])), (4, (0, 6, 7, [])), (5, (0, 0, 23, [])), (6, (0, 1, 24, [])), (7, (0, 6, 7, [])), (9, (0, 0, 99999995, [])), (10, (0, 0, 99999992, [])), (11, (0, 2, 99, [])), (12, (0, 1, 1, [])), (14, (0, 0, 99999993, [])), (15, (0, 0, 99, [])), (16, (0, 0, 99999987, [])), (18, (0, 0, 99999999, [])), (20, (0, 0, 99999998, [])), (21, (0, 1, 24, []))], [(6, [21, 5], [1]), (23, [20, 2, 5], [34, 1, -1, -36]), (23, [18, 2, 5], [33, 1, -1, -36]), (23, [16, 2, 5], [20, 1, -1, -36]), (20, [15, 3, 5], [50, 1, 1, 1005, 1002, 1, 2, 1, 0, 3, 1, 2, 4, 7, 4, 3, 2, 1, 5, 0, 219, 1, 2]), (23, [14, 2, 5], [13, 1, -1, -36]), (20, [11, 3, 5], [50, 1, 1, 1005, 1002, 1, 2, 1, 0, 3, 1, 2, 4, 7, 4, 3, 2, 1, 5, 0, 219, 1, 2]), (23, [10, 2, 5], [5, 1, -1, -36]), (23, [9, 2, 5], [0, 1, -1, -36]), (20, [7, 3, 5], [50, 1, 1, 1005, 1002, 1, 2, 1, 0, 3, 1, 2, 4, 7, 4, 3, 2, 1, 5, 0, 243, 1, 2]), (20, [6, 3], [30, 0, 1, 0, 0, -1, 3, 2005000]), (20, [6, 3], [30, 0, -1, 0, 0, 1, 3, 2005000]), (24, [0, 3], []), (20, [3, 20], [30, 2, 1, 1, 170, -1, 0, 0]), (102, [20], [7770675568902916283677847627294075626569627356208558085007249638955617140820833992704, 165170]), (23, [20, 2, 5], [34, 1, -1, -36]), (23, [18, 2, 5], [33, 1, -1, -36]), (23, [16, 2, 5], [20, 1, -1, -36]), (23, [14, 2, 5], [13, 1, -1, -36]), (23, [10, 2, 5], [5, 1, -1, -36]), (23, [9, 2, 5], [0, 1, -1, -36]), (102, [18], [7770675568902916283677847627294075626569627356208558085007249638955617140820833992704, 165170]), (23, [18, 2, 5], [33, 1, -1, -36]), (23, [16, 2, 5], [20, 1, -1, -36]), (23, [14, 2, 5], [13, 1, -1, -36]), (23, [10, 2, 5], [5, 1, -1, -36]), (23, [9, 2, 5], [0, 1, -1, -36]), (102, [16], [7770675568902916283677847627294075626569627356208558085007249638955617140820833992704, 165170]), (23, [16, 2, 5], [20, 1, -1, -36]), (23, [14, 2, 5], [13, 1, -1, -36]), (23, [10, 2, 5], [5, 1, -1, -36]), (23, [9, 2, 5], [0, 1, -1, -36]), (102, [14], [7770675568902916283677847627294075626569627356208558085007249638955617140820833992704, 165170]), (23, [14, 2, 5], [13, 1, -1, -36]), (7, [11, 12], [4]), (23, [10, 2, 5], [5, 1, -1, -36]), (23, [9, 2, 5], [0, 1, -1, -36]), (102, [10], [7770675568902916283677847627294075626569627356208558085007249638955617140820833992704, 165170]), (23, [10, 2, 5], [5, 1, -1, -36]), (23, [9, 2, 5], [0, 1, -1, -36]), (102, [9], [7770675568902916283677847627294075626569627356208558085007249638955617140820833992704, 165170]), (23, [9, 2, 5], [0, 1, -1, -36]), (7, [7, 4], [0]), (7, [5, 6], [2])], [], [], [(20, [3, 2, 21], [30, 0, 1, 1, 170, -1, 0, 0, -36, 0, 0])], [], [(21, 5, 1, 1), (21, 6, -4294967296, 0), (7, 4, 0, 0), (5, 6, -4294967296, -1)])
theorem oo_Mo_writeGroup_at_l6_10 {kA : Nat → ClassId} : or_ok PRD kA GG o_Mo_writeGroup_at_l6_10 := by
  refine or_mk fun A ta ws vs hD hth hl => ?_
  intro t0 r0 t2 k2 t4 k4 t5 k5 t6 k6 t7 k7 t9 k9 t10 k10 t11 k11 t12 k12 t14 k14 t15 k15 t16 k16 t18 k18 t20 k20 t21 k21 d0 d1 d2 d3 f0 f1 f2 f3 f4 f5 f6 f7 f8 f9 f10 f11 f12 f13 ta1 w1 le1 s1 f15 f16 f17 f18 f19 f20 ta2 w2 le2 s2 f22 f23 f24 f25 f26 ta3 w3 le3 s3 f28 f29 f30 f31 ta4 w4 le4 s4 f33 f34 f35 f36 ta5 w5 le5 s5 f38 f39 ta6 w6 le6 s6 f41 f42 f43
  replace f0 := shm_4 f0
  replace f1 := shm_2039 f1
  replace f2 := shm_2042 f2
  replace f3 := shm_2041 f3
  replace f4 := shm_732 f4
  replace f5 := shm_2040 f5
  replace f6 := shm_732 f6
  replace f7 := shm_2038 f7
  replace f8 := shm_2037 f8
  replace f9 := shm_597 f9
  replace f10 := shm_126 f10
  replace f11 := shm_127 f11
  replace f12 := shm_5 f12
  replace f13 := shm_210 f13
  replace f15 := shm_2039 f15
  replace f16 := shm_2042 f16
  replace f17 := shm_2041 f17
  replace f18 := shm_2040 f18
  replace f19 := shm_2038 f19
  replace f20 := shm_2037 f20
  replace f22 := shm_2042 f22
  replace f23 := shm_2041 f23
  replace f24 := shm_2040 f24
  replace f25 := shm_2038 f25
  replace f26 := shm_2037 f26
  replace f28 := shm_2041 f28
  replace f29 := shm_2040 f29
  replace f30 := shm_2038 f30
  replace f31 := shm_2037 f31
  replace f33 := shm_2040 f33
  replace f34 := shm_21 f34
  replace f35 := shm_2038 f35
  replace f36 := shm_2037 f36
  replace f38 := shm_2038 f38
  replace f39 := shm_2037 f39
  replace f41 := shm_2037 f41
  replace f42 := shm_37 f42
  replace f43 := shm_6 f43
  have q3 : n_v vs 3 = n_v vs 0 := f12.symm
  simp only [q3] at f4 f6 f9 f10 f11 f13
  have kz_0_170 := fdq_11 hD hth r0
  have nf0 : fc_1 PRD (20, [3, 2, 21], [30, 0, 1, 1, 170, -1, 0, 0, -36, 0, 0]) ws (vs) := by
    refine ⟨nf_in hl rfl, sgq_2035 ?_⟩
    · show 1 * w_fi ws (n_v vs 3) 170 + ((-1) * v_iv (n_v vs 2) + ((-36) * v_iv (n_v vs 21) + 0)) ≤ 0
      rw [q3]
      exact vc_Mo_writeGroup_at_l6_10_0 (v_iv (n_v vs 2)) (v_iv (n_v vs 4)) (v_iv (n_v vs 5)) (v_iv (n_v vs 6)) (v_iv (n_v vs 7)) (v_iv (n_v vs 9)) (v_iv (n_v vs 10)) (v_iv (n_v vs 11)) (v_iv (n_v vs 12)) (v_iv (n_v vs 14)) (v_iv (n_v vs 15)) (v_iv (n_v vs 16)) (v_iv (n_v vs 18)) (v_iv (n_v vs 20)) (v_iv (n_v vs 21)) (w_ei ws (w_ar ws (n_v vs 0) 2)) (w_fi ws (n_v vs 0) 5) (w_fi ws (n_v vs 0) 170) k2 k4 k5 k6 k7 k9 k10 k11 k12 k14 k15 k16 k18 k20 k21 d0 d1 d2 d3 f0 f1 f2 f3 f4 f5 f6 f7 f8 f9 f10 f11 f13 f15 f16 f17 f18 f19 f20 f22 f23 f24 f25 f26 f28 f29 f30 f31 f33 f34 f35 f36 f38 f39 f41 f42 f43 kz_0_170
  refine ⟨(fun _ h => (by cases h)), [], trivial, ?_, (fun _ h => (by cases h))⟩
  rw [List.append_nil]
  exact List.forall_mem_cons.mpr ⟨⟨show (20 : Nat) < 100 from by decide, nf0⟩, (fun _ h => (by cases h))⟩
set_option maxHeartbeats 4000000 in
theorem vc_Mo_writeGroup_at_l6_11_0 (x2 : Int) (x4 : Int) (x5 : Int) (x6 : Int) (x7 : Int) (x8 : Int) (all_0 : Int → Int) (r_0 : Int) (texts_0 : Int) (k2 : 0 ≤ x2 ∧ x2 ≤ 99998253) (k4 : 6 ≤ x4 ∧ x4 ≤ 7) (k5 : 0 ≤ x5 ∧ x5 ≤ 23) (k6 : 1 ≤ x6 ∧ x6 ≤ 24) (k7 : 0 ≤ x7 ∧ x7 ≤ 7) (k8 : 1 ≤ x8 ∧ x8 ≤ 24) (d0 : x5 + 1 ≤ x8 ∧ x8 ≤ x5 + 1) (d1 : x6 + (-4294967296) ≤ x8 ∧ x8 ≤ x6 + 0) (d2 : x6 + (-4294967296) ≤ x5 ∧ x5 ≤ x6 + (-1)) (f0 : x8 = x5 + 1) (f1 : x7 ≠ x4) (f2 : x7 = all_0 (((r_0 + 243) + x5))) (f3 : x5 < x6) (f4 : 1 * x6 + ((-1) * all_0 (r_0 + 0) + 0) ≤ 0) (f5 : (-1) * x6 + (1 * all_0 (r_0 + 0) + 0) ≤ 0) (f6 : 1 * texts_0 + ((-1) * x2 + ((-36) * x5 + 0)) ≤ 0) (kz_0_170 : 0 ≤ texts_0 ∧ texts_0 ≤ 100000000) : 1 * texts_0 + ((-1) * x2 + ((-36) * x8 + 0)) ≤ 0 := by
  first | assumption | omega | grind
def o_Mo_writeGroup_at_l6_11 : or_T := (2, 9, [(0, (2, 0, 0, [165])), (2, (0, 0, 99998253, [])), (4, (0, 6, 7, [])), (5, (0, 0, 23, [])), (6, (0, 1, 24, [])), (7, (0, 0, 7, [])), (8, (0, 1, 24, []))], [(6, [8, 5], [1]), (7, [7, 4], [1]), (20, [7, 3, 5], [50, 1, 1, 1005, 1002, 1, 2, 1, 0, 3, 1, 2, 4, 7, 4, 3, 2, 1, 5, 0, 243, 1, 2]), (7, [5, 6], [2]), (20, [6, 3], [30, 0, 1, 0, 0, -1, 3, 2005000]), (20, [6, 3], [30, 0, -1, 0, 0, 1, 3, 2005000]), (20, [3, 2, 5], [30, 0, 1, 1, 170, -1, 0, 0, -36, 0, 0]), (24, [0, 3], [])], [], [], [(20, [3, 2, 8], [30, 0, 1, 1, 170, -1, 0, 0, -36, 0, 0])], [], [(8, 5, 1, 1), (8, 6, -4294967296, 0), (5, 6, -4294967296, -1)])
theorem oo_Mo_writeGroup_at_l6_11 {kA : Nat → ClassId} : or_ok PRD kA GG o_Mo_writeGroup_at_l6_11 := by
  refine or_mk fun A ta ws vs hD hth hl => ?_
  intro t0 r0 t2 k2 t4 k4 t5 k5 t6 k6 t7 k7 t8 k8 d0 d1 d2 f0 f1 f2 f3 f4 f5 f6 f7
  replace f0 := shm_4 f0
  replace f1 := shm_40 f1
  replace f2 := shm_597 f2
  replace f3 := shm_6 f3
  replace f4 := shm_126 f4
  replace f5 := shm_127 f5
  replace f6 := shm_2035 f6
  replace f7 := shm_5 f7
  have q3 : n_v vs 3 = n_v vs 0 := f7.symm
  simp only [q3] at f2 f4 f5 f6
  have kz_0_170 := fdq_11 hD hth r0
  have nf0 : fc_1 PRD (20, [3, 2, 8], [30, 0, 1, 1, 170, -1, 0, 0, -36, 0, 0]) ws (vs) := by
    refine ⟨nf_in hl rfl, sgq_2035 ?_⟩
    · show 1 * w_fi ws (n_v vs 3) 170 + ((-1) * v_iv (n_v vs 2) + ((-36) * v_iv (n_v vs 8) + 0)) ≤ 0
      rw [q3]
      exact vc_Mo_writeGroup_at_l6_11_0 (v_iv (n_v vs 2)) (v_iv (n_v vs 4)) (v_iv (n_v vs 5)) (v_iv (n_v vs 6)) (v_iv (n_v vs 7)) (v_iv (n_v vs 8)) (w_ei ws (w_ar ws (n_v vs 0) 2)) (w_fi ws (n_v vs 0) 5) (w_fi ws (n_v vs 0) 170) k2 k4 k5 k6 k7 k8 d0 d1 d2 f0 f1 f2 f3 f4 f5 f6 kz_0_170
  refine ⟨(fun _ h => (by cases h)), [], trivial, ?_, (fun _ h => (by cases h))⟩
  rw [List.append_nil]
  exact List.forall_mem_cons.mpr ⟨⟨show (20 : Nat) < 100 from by decide, nf0⟩, (fun _ h => (by cases h))⟩
set_option maxHeartbeats 4000000 in
theorem vc_Mo_writeGroup_at_l6_12_0 (x2 : Int) (x4 : Int) (x5 : Int) (x6 : Int) (all_0 : Int → Int) (r_0 : Int) (texts_0 : Int) (k2 : 0 ≤ x2 ∧ x2 ≤ 99998253) (k4 : 6 ≤ x4 ∧ x4 ≤ 7) (k5 : 7 ≤ x5 ∧ x5 ≤ 8) (k6 : 0 ≤ x6 ∧ x6 ≤ 8) (d0 : x6 + 0 ≤ x5 ∧ x5 ≤ x6 + 4294967296) (d1 : x5 + (-4294967296) ≤ x4 ∧ x4 ≤ x5 + (-1)) (f0 : x6 ≤ x5) (f1 : 1 * x6 + ((-1) * all_0 (r_0 + 2) + 0) ≤ 0) (f2 : (-1) * x6 + (1 * all_0 (r_0 + 2) + 0) ≤ 0) (f3 : 1 * texts_0 + ((-1) * x2 + ((-883) * x5 + (883 * x4 + 0))) ≤ (-19)) (kz_0_170 : 0 ≤ texts_0 ∧ texts_0 ≤ 100000000) : 1 * texts_0 + ((-1) * x2 + 0) ≤ 1747 := by
  first | assumption | omega | grind
def o_Mo_writeGroup_at_l6_12 : or_T := (177, 7, [(0, (2, 0, 0, [165])), (2, (0, 0, 99998253, [])), (4, (0, 6, 7, [])), (5, (0, 7, 8, [])), (6, (0, 0, 8, []))], [(7, [5, 6], [3]), (20, [6, 3], [30, 0, 1, 0, 0, -1, 3, 2005002]), (20, [6, 3], [30, 0, -1, 0, 0, 1, 3, 2005002]), (20, [3, 2, 5, 4], [30, -19, 1, 1, 170, -1, 0, 0, -883, 0, 0, 883, 0, 0]), (24, [0, 3], [])], [], [], [(20, [0, 2], [30, 1747, 1, 1, 170, -1, 0, 0])], [], [(5, 6, 0, 4294967296), (4, 5, -4294967296, -1)])
theorem oo_Mo_writeGroup_at_l6_12 {kA : Nat → ClassId} : or_ok PRD kA GG o_Mo_writeGroup_at_l6_12 := by
  refine or_mk fun A ta ws vs hD hth hl => ?_
  intro t0 r0 t2 k2 t4 k4 t5 k5 t6 k6 d0 d1 f0 f1 f2 f3 f4
  replace f1 := shm_123 f1
  replace f2 := shm_124 f2
  replace f3 := shm_2085 f3
  replace f4 := shm_5 f4
  have q3 : n_v vs 3 = n_v vs 0 := f4.symm
  simp only [q3] at f1 f2 f3
  have kz_0_170 := fdq_11 hD hth r0
  have nf0 : fc_1 PRD (20, [0, 2], [30, 1747, 1, 1, 170, -1, 0, 0]) ws (vs) := ⟨nf_in hl rfl, sgq_2083 (vc_Mo_writeGroup_at_l6_12_0 (v_iv (n_v vs 2)) (v_iv (n_v vs 4)) (v_iv (n_v vs 5)) (v_iv (n_v vs 6)) (w_ei ws (w_ar ws (n_v vs 0) 2)) (w_fi ws (n_v vs 0) 5) (w_fi ws (n_v vs 0) 170) k2 k4 k5 k6 d0 d1 (shm_2 f0) f1 f2 f3 kz_0_170)⟩
  refine ⟨(fun _ h => (by cases h)), [], trivial, ?_, (fun _ h => (by cases h))⟩
  rw [List.append_nil]
  exact List.forall_mem_cons.mpr ⟨⟨show (20 : Nat) < 100 from by decide, nf0⟩, (fun _ h => (by cases h))⟩
def o_Mo_writeGroup_at_l6_13 : or_T := (117, 14, [(0, (2, 0, 0, [165])), (2, (0, 0, 99998253, [])), (3, (2, 0, 0, [165])), (4, (0, 6, 6, [])), (5, (0, 7, 7, [])), (6, (0, 8, 8, [])), (7, (2, 0, 0, [167])), (8, (0, 0, 66297, [])), (9, (0, 531, 531, [])), (10, (0, 531, 66828, [])), (11, (0, 538, 66835, [])), (12, (0, 6, 6, []))], [(7, [12, 4], [0]), (10, [12, 7, 11], []), (1, [11, 10, 5], []), (1, [10, 8, 9], []), (9, [8, 3], [5]), (9, [7, 3], [2]), (7, [5, 6], [2]), (20, [6, 3], [30, 0, 1, 0, 0, -1, 3, 2005002]), (20, [6, 3], [30, 0, -1, 0, 0, 1, 3, 2005002]), (20, [3, 2, 5, 4], [30, -19, 1, 1, 170, -1, 0, 0, -883, 0, 0, 883, 0, 0]), (24, [0, 3], [])], [], [(0, 0, 99999994, [])], [(20, [3, 14], [30, 0, 1, 1, 170, -1, 0, 0]), (23, [14, 2, 5, 4], [-19, 1, -1, -883, 883])], [], [(11, 10, 7, 7), (11, 8, 538, 538), (10, 8, 531, 531)])
theorem oo_Mo_writeGroup_at_l6_13 {kA : Nat → ClassId} : or_ok PRD kA GG o_Mo_writeGroup_at_l6_13 := by
  refine or_mk fun A ta ws vs hD hth hl => ?_
  intro t0 r0 t2 k2 t3 r3 t4 k4 t5 k5 t6 k6 t7 r7 t8 k8 t9 k9 t10 k10 t11 k11 t12 k12 d0 d1 d2 f0 f1 f2 f3 f4 f5 f6 f7 f8 f9 f10
  replace f0 := shm_37 f0
  replace f1 := shm_107 f1
  replace f2 := shm_12 f2
  replace f3 := shm_12 f3
  replace f4 := shm_110 f4
  replace f5 := shm_120 f5
  replace f6 := shm_6 f6
  replace f7 := shm_123 f7
  replace f8 := shm_124 f8
  replace f9 := shm_2085 f9
  replace f10 := shm_5 f10
  have q3 : n_v vs 3 = n_v vs 0 := f10.symm
  simp only [q3] at f4 f5 f7 f8 f9
  have cr_0_2 := fdq_10 hD hth r0
  have ad_7 : v_ad (n_v vs 7) = w_ar ws (n_v vs 0) 2 := congrArg v_ad f5
  simp only [ad_7] at f1
  have h1 : v_iv (n_v vs 12) = w_ei ws (w_ar ws (n_v vs 0) 2) (v_iv (n_v vs 11)) := f1
  have g4 : v_iv (n_v vs 8) = w_fi ws (n_v vs 0) 5 := congrArg v_iv f4
  have cg1_F5_2 : v_iv (n_v vs 11) = w_fi ws (n_v vs 0) 5 + 2 → w_el ws (w_ar ws (n_v vs 0) 2) (v_iv (n_v vs 11)).toNat = w_el ws (w_ar ws (n_v vs 0) 2) (w_fi ws (n_v vs 0) 5 + 2).toNat := fun h => by rw [h]
  have kz_0_170 := fdq_11 hD hth r0
  have kv0 := fdq_11 hD hth r0
  obtain ⟨x, ex, hx⟩ := iv_ex (ta := ta) (lo := 0) (hi := 99999994) (z := w_fi ws (n_v vs 0) 170) (by omega) (by omega) (by omega) (by omega)
  have ex2 : v_iv (Value.int x) = w_fi ws (n_v vs 0) 170 := ex
  have ex3 : 0 ≤ v_iv (Value.int x) ∧ v_iv (Value.int x) ≤ 99999994 := tv_rng hx
  have e_2 : n_v (vs ++ [Value.int x]) 2 = n_v vs 2 := n_v_old (by rw [hl]; decide)
  have e_3 : n_v (vs ++ [Value.int x]) 3 = n_v vs 3 := n_v_old (by rw [hl]; decide)
  have e_4 : n_v (vs ++ [Value.int x]) 4 = n_v vs 4 := n_v_old (by rw [hl]; decide)
  have e_5 : n_v (vs ++ [Value.int x]) 5 = n_v vs 5 := n_v_old (by rw [hl]; decide)
  have e_14 : n_v (vs ++ [Value.int x]) 14 = Value.int x := n_v_new hl
  have nf0 : fc_1 PRD (20, [3, 14], [30, 0, 1, 1, 170, -1, 0, 0]) ws (vs ++ [Value.int x]) := by
    refine ⟨nf_inA hl rfl, sgq_131 ?_⟩
    · show 1 * w_fi ws (n_v (vs ++ [Value.int x]) 3) 170 + ((-1) * v_iv (n_v (vs ++ [Value.int x]) 14) + 0) ≤ 0
      simp only [e_3, e_14, q3]
      omega
  have nf1 : fc_1 PRD (23, [14, 2, 5, 4], [-19, 1, -1, -883, 883]) ws (vs ++ [Value.int x]) := by
    refine ⟨nf_inA hl rfl, sgq_2086 ?_⟩
    · show 1 * v_iv (n_v (vs ++ [Value.int x]) 14) + ((-1) * v_iv (n_v (vs ++ [Value.int x]) 2) + ((-883) * v_iv (n_v (vs ++ [Value.int x]) 5) + (883 * v_iv (n_v (vs ++ [Value.int x]) 4) + 0))) ≤ (-19)
      simp only [e_2, e_4, e_5, e_14]
      omega
  exact ⟨(fun _ h => (by cases h)), [Value.int x], ag_one hx, List.forall_mem_cons.mpr ⟨⟨show (20 : Nat) < 100 from by decide, nf0⟩, List.forall_mem_cons.mpr ⟨⟨show (23 : Nat) < 100 from by decide, nf1⟩, (fun _ h => (by cases h))⟩⟩, (fun _ h => (by cases h))⟩
set_option maxHeartbeats 4000000 in
theorem vc_Mo_writeGroup_at_l6_14_0 (x2 : Int) (x4 : Int) (x5 : Int) (x6 : Int) (x8 : Int) (x12 : Int) (x14 : Int) (r_0 : Int) (all_0 : Int → Int) (texts_0 : Int) (gx : Int) (k2 : 0 ≤ x2 ∧ x2 ≤ 99998253) (k4 : 6 ≤ x4 ∧ x4 ≤ 6) (k5 : 7 ≤ x5 ∧ x5 ≤ 7) (k6 : 8 ≤ x6 ∧ x6 ≤ 8) (k8 : 0 ≤ x8 ∧ x8 ≤ 66297) (k12 : 6 ≤ x12 ∧ x12 ≤ 6) (k14 : 0 ≤ x14 ∧ x14 ≤ 99999994) (g0 : x8 = r_0) (f2 : 1 * x14 + ((-1) * x2 + ((-883) * x5 + (883 * x4 + 0))) ≤ (-19)) (f3 : 1 * x6 + ((-1) * all_0 (r_0 + 2) + 0) ≤ 0) (f4 : (-1) * x6 + (1 * all_0 (r_0 + 2) + 0) ≤ 0) (f6 : 1 * texts_0 + ((-1) * x14 + 0) ≤ 6) (f8 : 1 * x14 + ((-1) * x2 + ((-883) * x5 + (883 * x4 + 0))) ≤ (-19)) (f9 : x12 = x4) (f10 : x5 < x6) (kz_0_170 : 0 ≤ texts_0 ∧ texts_0 ≤ 100000000) (ex2 : gx = texts_0) (ex3 : 0 ≤ gx ∧ gx ≤ 99999992) : 1 * texts_0 + ((-1) * gx + 0) ≤ 0 := by
  first | assumption | omega | grind
set_option maxHeartbeats 4000000 in
theorem vc_Mo_writeGroup_at_l6_14_1 (x2 : Int) (x4 : Int) (x5 : Int) (x6 : Int) (x8 : Int) (x12 : Int) (x14 : Int) (r_0 : Int) (all_0 : Int → Int) (texts_0 : Int) (gx : Int) (k2 : 0 ≤ x2 ∧ x2 ≤ 99998253) (k4 : 6 ≤ x4 ∧ x4 ≤ 6) (k5 : 7 ≤ x5 ∧ x5 ≤ 7) (k6 : 8 ≤ x6 ∧ x6 ≤ 8) (k8 : 0 ≤ x8 ∧ x8 ≤ 66297) (k12 : 6 ≤ x12 ∧ x12 ≤ 6) (k14 : 0 ≤ x14 ∧ x14 ≤ 99999994) (g0 : x8 = r_0) (f2 : 1 * x14 + ((-1) * x2 + ((-883) * x5 + (883 * x4 + 0))) ≤ (-19)) (f3 : 1 * x6 + ((-1) * all_0 (r_0 + 2) + 0) ≤ 0) (f4 : (-1) * x6 + (1 * all_0 (r_0 + 2) + 0) ≤ 0) (f6 : 1 * texts_0 + ((-1) * x14 + 0) ≤ 6) (f8 : 1 * x14 + ((-1) * x2 + ((-883) * x5 + (883 * x4 + 0))) ≤ (-19)) (f9 : x12 = x4) (f10 : x5 < x6) (kz_0_170 : 0 ≤ texts_0 ∧ texts_0 ≤ 100000000) (ex2 : gx = texts_0) (ex3 : 0 ≤ gx ∧ gx ≤ 99999992) : 1 * gx + ((-1) * x2 + ((-883) * x5 + (883 * x4 + 0))) ≤ (-13) := by
  first | assumption | omega | grind
def o_Mo_writeGroup_at_l6_14 : or_T := (149, 24, [(0, (2, 0, 0, [165])), (2, (0, 0, 99998253, [])), (3, (2, 0, 0, [165])), (4, (0, 6, 6, [])), (5, (0, 7, 7, [])), (6, (0, 8, 8, [])), (7, (2, 0, 0, [167])), (8, (0, 0, 66297, [])), (12, (0, 6, 6, [])), (14, (0, 0, 99999994, []))], [(9, [8, 3], [5]), (9, [7, 3], [2]), (23, [14, 2, 5, 4], [-19, 1, -1, -883, 883]), (20, [6, 3], [30, 0, 1, 0, 0, -1, 3, 2005002]), (20, [6, 3], [30, 0, -1, 0, 0, 1, 3, 2005002]), (24, [0, 3], []), (20, [3, 14], [30, 6, 1, 1, 170, -1, 0, 0]), (102, [14], [7770675568902916283677847627294075626569627356208558085007249638955617140820833992704, 165170]), (23, [14, 2, 5, 4], [-19, 1, -1, -883, 883]), (7, [12, 4], [0]), (7, [5, 6], [2])], [], [(0, 0, 99999992, [])], [(20, [3, 24], [30, 0, 1, 1, 170, -1, 0, 0]), (23, [24, 2, 5, 4], [-13, 1, -1, -883, 883])], [], [])
theorem oo_Mo_writeGroup_at_l6_14 {kA : Nat → ClassId} : or_ok PRD kA GG o_Mo_writeGroup_at_l6_14 := by
  refine or_mk fun A ta ws vs hD hth hl => ?_
  intro t0 r0 t2 k2 t3 r3 t4 k4 t5 k5 t6 k6 t7 r7 t8 k8 t12 k12 t14 k14 f0 f1 f2 f3 f4 f5 f6 ta1 w1 le1 s1 f8 f9 f10
  replace f0 := shm_110 f0
  replace f1 := shm_120 f1
  replace f2 := shm_2086 f2
  replace f3 := shm_123 f3
  replace f4 := shm_124 f4
  replace f5 := shm_5 f5
  replace f6 := shm_211 f6
  replace f8 := shm_2086 f8
  replace f9 := shm_37 f9
  replace f10 := shm_6 f10
  have q3 : n_v vs 3 = n_v vs 0 := f5.symm
  simp only [q3] at f0 f1 f3 f4 f6
  have cr_0_2 := fdq_10 hD hth r0
  have ad_7 : v_ad (n_v vs 7) = w_ar ws (n_v vs 0) 2 := congrArg v_ad f1
  have g0 : v_iv (n_v vs 8) = w_fi ws (n_v vs 0) 5 := congrArg v_iv f0
  have kz_0_170 := fdq_11 hD hth r0
  have kv0 := fdq_11 hD hth r0
  obtain ⟨x, ex, hx⟩ := iv_ex (ta := ta) (lo := 0) (hi := 99999992) (z := w_fi ws (n_v vs 0) 170) (by omega) (by omega) (by omega) (by omega)
  have ex2 : v_iv (Value.int x) = w_fi ws (n_v vs 0) 170 := ex
  have ex3 : 0 ≤ v_iv (Value.int x) ∧ v_iv (Value.int x) ≤ 99999992 := tv_rng hx
  have e_2 : n_v (vs ++ [Value.int x]) 2 = n_v vs 2 := n_v_old (by rw [hl]; decide)
  have e_3 : n_v (vs ++ [Value.int x]) 3 = n_v vs 3 := n_v_old (by rw [hl]; decide)
  have e_4 : n_v (vs ++ [Value.int x]) 4 = n_v vs 4 := n_v_old (by rw [hl]; decide)
  have e_5 : n_v (vs ++ [Value.int x]) 5 = n_v vs 5 := n_v_old (by rw [hl]; decide)
  have e_24 : n_v (vs ++ [Value.int x]) 24 = Value.int x := n_v_new hl
  have nf0 : fc_1 PRD (20, [3, 24], [30, 0, 1, 1, 170, -1, 0, 0]) ws (vs ++ [Value.int x]) := by
    refine ⟨nf_inA hl rfl, sgq_131 ?_⟩
    · show 1 * w_fi ws (n_v (vs ++ [Value.int x]) 3) 170 + ((-1) * v_iv (n_v (vs ++ [Value.int x]) 24) + 0) ≤ 0
      simp only [e_3, e_24, q3]
      exact vc_Mo_writeGroup_at_l6_14_0 (v_iv (n_v vs 2)) (v_iv (n_v vs 4)) (v_iv (n_v vs 5)) (v_iv (n_v vs 6)) (v_iv (n_v vs 8)) (v_iv (n_v vs 12)) (v_iv (n_v vs 14)) (w_fi ws (n_v vs 0) 5) (w_ei ws (w_ar ws (n_v vs 0) 2)) (w_fi ws (n_v vs 0) 170) (v_iv (Value.int x)) k2 k4 k5 k6 k8 k12 k14 g0 f2 f3 f4 f6 f8 f9 f10 kz_0_170 ex2 ex3
  have nf1 : fc_1 PRD (23, [24, 2, 5, 4], [-13, 1, -1, -883, 883]) ws (vs ++ [Value.int x]) := by
    refine ⟨nf_inA hl rfl, sgq_2087 ?_⟩
    · show 1 * v_iv (n_v (vs ++ [Value.int x]) 24) + ((-1) * v_iv (n_v (vs ++ [Value.int x]) 2) + ((-883) * v_iv (n_v (vs ++ [Value.int x]) 5) + (883 * v_iv (n_v (vs ++ [Value.int x]) 4) + 0))) ≤ (-13)
      simp only [e_2, e_4, e_5, e_24]
      exact vc_Mo_writeGroup_at_l6_14_1 (v_iv (n_v vs 2)) (v_iv (n_v vs 4)) (v_iv (n_v vs 5)) (v_iv (n_v vs 6)) (v_iv (n_v vs 8)) (v_iv (n_v vs 12)) (v_iv (n_v vs 14)) (w_fi ws (n_v vs 0) 5) (w_ei ws (w_ar ws (n_v vs 0) 2)) (w_fi ws (n_v vs 0) 170) (v_iv (Value.int x)) k2 k4 k5 k6 k8 k12 k14 g0 f2 f3 f4 f6 f8 f9 f10 kz_0_170 ex2 ex3
  exact ⟨(fun _ h => (by cases h)), [Value.int x], ag_one hx, List.forall_mem_cons.mpr ⟨⟨show (20 : Nat) < 100 from by decide, nf0⟩, List.forall_mem_cons.mpr ⟨⟨show (23 : Nat) < 100 from by decide, nf1⟩, (fun _ h => (by cases h))⟩⟩, (fun _ h => (by cases h))⟩
set_option maxHeartbeats 4000000 in
theorem vc_Mo_writeGroup_at_l6_15_0 (x2 : Int) (x4 : Int) (x5 : Int) (x6 : Int) (x12 : Int) (x14 : Int) (x24 : Int) (all_0 : Int → Int) (r_0 : Int) (texts_0 : Int) (gx : Int) (k2 : 0 ≤ x2 ∧ x2 ≤ 99998253) (k4 : 6 ≤ x4 ∧ x4 ≤ 6) (k5 : 7 ≤ x5 ∧ x5 ≤ 7) (k6 : 8 ≤ x6 ∧ x6 ≤ 8) (k12 : 6 ≤ x12 ∧ x12 ≤ 6) (k14 : 0 ≤ x14 ∧ x14 ≤ 99999994) (k24 : 0 ≤ x24 ∧ x24 ≤ 99999992) (f0 : 1 * x24 + ((-1) * x2 + ((-883) * x5 + (883 * x4 + 0))) ≤ (-13)) (f1 : 1 * x14 + ((-1) * x2 + ((-883) * x5 + (883 * x4 + 0))) ≤ (-19)) (f2 : 1 * x6 + ((-1) * all_0 (r_0 + 2) + 0) ≤ 0) (f3 : (-1) * x6 + (1 * all_0 (r_0 + 2) + 0) ≤ 0) (f5 : 1 * texts_0 + ((-1) * x24 + 0) ≤ 8) (f7 : 1 * x24 + ((-1) * x2 + ((-883) * x5 + (883 * x4 + 0))) ≤ (-13)) (f8 : 1 * x14 + ((-1) * x2 + ((-883) * x5 + (883 * x4 + 0))) ≤ (-19)) (f10 : 1 * x14 + ((-1) * x2 + ((-883) * x5 + (883 * x4 + 0))) ≤ (-19)) (f11 : x12 = x4) (f12 : x5 < x6) (kz_0_170 : 0 ≤ texts_0 ∧ texts_0 ≤ 100000000) (ex2 : gx = texts_0) (ex3 : 0 ≤ gx ∧ gx ≤ 99999997) : 1 * texts_0 + ((-1) * gx + 0) ≤ 0 := by
  first | assumption | omega | grind
set_option maxHeartbeats 4000000 in
theorem vc_Mo_writeGroup_at_l6_15_1 (x2 : Int) (x4 : Int) (x5 : Int) (x6 : Int) (x12 : Int) (x14 : Int) (x24 : Int) (all_0 : Int → Int) (r_0 : Int) (texts_0 : Int) (gx : Int) (k2 : 0 ≤ x2 ∧ x2 ≤ 99998253) (k4 : 6 ≤ x4 ∧ x4 ≤ 6) (k5 : 7 ≤ x5 ∧ x5 ≤ 7) (k6 : 8 ≤ x6 ∧ x6 ≤ 8) (k12 : 6 ≤ x12 ∧ x12 ≤ 6) (k14 : 0 ≤ x14 ∧ x14 ≤ 99999994) (k24 : 0 ≤ x24 ∧ x24 ≤ 99999992) (f0 : 1 * x24 + ((-1) * x2 + ((-883) * x5 + (883 * x4 + 0))) ≤ (-13)) (f1 : 1 * x14 + ((-1) * x2 + ((-883) * x5 + (883 * x4 + 0))) ≤ (-19)) (f2 : 1 * x6 + ((-1) * all_0 (r_0 + 2) + 0) ≤ 0) (f3 : (-1) * x6 + (1 * all_0 (r_0 + 2) + 0) ≤ 0) (f5 : 1 * texts_0 + ((-1) * x24 + 0) ≤ 8) (f7 : 1 * x24 + ((-1) * x2 + ((-883) * x5 + (883 * x4 + 0))) ≤ (-13)) (f8 : 1 * x14 + ((-1) * x2 + ((-883) * x5 + (883 * x4 + 0))) ≤ (-19)) (f10 : 1 * x14 + ((-1) * x2 + ((-883) * x5 + (883 * x4 + 0))) ≤ (-19)) (f11 : x12 = x4) (f12 : x5 < x6) (kz_0_170 : 0 ≤ texts_0 ∧ texts_0 ≤ 100000000) (ex2 : gx = texts_0) (ex3 : 0 ≤ gx ∧ gx ≤ 99999997) : 1 * gx + ((-1) * x2 + ((-883) * x5 + (883 * x4 + 0))) ≤ (-5) := by
  first | assumption | omega | grind
def o_Mo_writeGroup_at_l6_15 : or_T := (156, 26, [(0, (2, 0, 0, [165])), (2, (0, 0, 99998253, [])), (3, (2, 0, 0, [165])), (4, (0, 6, 6, [])), (5, (0, 7, 7, [])), (6, (0, 8, 8, [])), (12, (0, 6, 6, [])), (14, (0, 0, 99999994, [])), (24, (0, 0, 99999992, []))], [(23, [24, 2, 5, 4], [-13, 1, -1, -883, 883]), (23, [14, 2, 5, 4], [-19, 1, -1, -883, 883]), (20, [6, 3], [30, 0, 1, 0, 0, -1, 3, 2005002]), (20, [6, 3], [30, 0, -1, 0, 0, 1, 3, 2005002]), (24, [0, 3], []), (20, [3, 24], [30, 8, 1, 1, 170, -1, 0, 0]), (102, [24], [7770675568902916283677847627294075626569627356208558085007249638955617140820833992704, 165170]), (23, [24, 2, 5, 4], [-13, 1, -1, -883, 883]), (23, [14, 2, 5, 4], [-19, 1, -1, -883, 883]), (102, [14], [7770675568902916283677847627294075626569627356208558085007249638955617140820833992704, 165170]), (23, [14, 2, 5, 4], [-19, 1, -1, -883, 883]), (7, [12, 4], [0]), (7, [5, 6], [2])], [], [(0, 0, 99999997, [])], [(20, [3, 26], [30, 0, 1, 1, 170, -1, 0, 0]), (23, [26, 2, 5, 4], [-5, 1, -1, -883, 883])], [], [])
theorem oo_Mo_writeGroup_at_l6_15 {kA : Nat → ClassId} : or_ok PRD kA GG o_Mo_writeGroup_at_l6_15 := by
  refine or_mk fun A ta ws vs hD hth hl => ?_
  intro t0 r0 t2 k2 t3 r3 t4 k4 t5 k5 t6 k6 t12 k12 t14 k14 t24 k24 f0 f1 f2 f3 f4 f5 ta1 w1 le1 s1 f7 f8 ta2 w2 le2 s2 f10 f11 f12
  replace f0 := shm_2087 f0
  replace f1 := shm_2086 f1
  replace f2 := shm_123 f2
  replace f3 := shm_124 f3
  replace f4 := shm_5 f4
  replace f5 := shm_160 f5
  replace f7 := shm_2087 f7
  replace f8 := shm_2086 f8
  replace f10 := shm_2086 f10
  replace f11 := shm_37 f11
  replace f12 := shm_6 f12
  have q3 : n_v vs 3 = n_v vs 0 := f4.symm
  simp only [q3] at f2 f3 f5
  have cr_0_2 := fdq_10 hD hth r0
  have kz_0_170 := fdq_11 hD hth r0
  have kv0 := fdq_11 hD hth r0
  obtain ⟨x, ex, hx⟩ := iv_ex (ta := ta) (lo := 0) (hi := 99999997) (z := w_fi ws (n_v vs 0) 170) (by omega) (by omega) (by omega) (by omega)
  have ex2 : v_iv (Value.int x) = w_fi ws (n_v vs 0) 170 := ex
  have ex3 : 0 ≤ v_iv (Value.int x) ∧ v_iv (Value.int x) ≤ 99999997 := tv_rng hx
  have e_2 : n_v (vs ++ [Value.int x]) 2 = n_v vs 2 := n_v_old (by rw [hl]; decide)
  have e_3 : n_v (vs ++ [Value.int x]) 3 = n_v vs 3 := n_v_old (by rw [hl]; decide)
  have e_4 : n_v (vs ++ [Value.int x]) 4 = n_v vs 4 := n_v_old (by rw [hl]; decide)
  have e_5 : n_v (vs ++ [Value.int x]) 5 = n_v vs 5 := n_v_old (by rw [hl]; decide)
  have e_26 : n_v (vs ++ [Value.int x]) 26 = Value.int x := n_v_new hl
  have nf0 : fc_1 PRD (20, [3, 26], [30, 0, 1, 1, 170, -1, 0, 0]) ws (vs ++ [Value.int x]) := by
    refine ⟨nf_inA hl rfl, sgq_131 ?_⟩
    · show 1 * w_fi ws (n_v (vs ++ [Value.int x]) 3) 170 + ((-1) * v_iv (n_v (vs ++ [Value.int x]) 26) + 0) ≤ 0
      simp only [e_3, e_26, q3]
      exact vc_Mo_writeGroup_at_l6_15_0 (v_iv (n_v vs 2)) (v_iv (n_v vs 4)) (v_iv (n_v vs 5)) (v_iv (n_v vs 6)) (v_iv (n_v vs 12)) (v_iv (n_v vs 14)) (v_iv (n_v vs 24)) (w_ei ws (w_ar ws (n_v vs 0) 2)) (w_fi ws (n_v vs 0) 5) (w_fi ws (n_v vs 0) 170) (v_iv (Value.int x)) k2 k4 k5 k6 k12 k14 k24 f0 f1 f2 f3 f5 f7 f8 f10 f11 f12 kz_0_170 ex2 ex3
  have nf1 : fc_1 PRD (23, [26, 2, 5, 4], [-5, 1, -1, -883, 883]) ws (vs ++ [Value.int x]) := by
    refine ⟨nf_inA hl rfl, sgq_2088 ?_⟩
    · show 1 * v_iv (n_v (vs ++ [Value.int x]) 26) + ((-1) * v_iv (n_v (vs ++ [Value.int x]) 2) + ((-883) * v_iv (n_v (vs ++ [Value.int x]) 5) + (883 * v_iv (n_v (vs ++ [Value.int x]) 4) + 0))) ≤ (-5)
      simp only [e_2, e_4, e_5, e_26]
      exact vc_Mo_writeGroup_at_l6_15_1 (v_iv (n_v vs 2)) (v_iv (n_v vs 4)) (v_iv (n_v vs 5)) (v_iv (n_v vs 6)) (v_iv (n_v vs 12)) (v_iv (n_v vs 14)) (v_iv (n_v vs 24)) (w_ei ws (w_ar ws (n_v vs 0) 2)) (w_fi ws (n_v vs 0) 5) (w_fi ws (n_v vs 0) 170) (v_iv (Value.int x)) k2 k4 k5 k6 k12 k14 k24 f0 f1 f2 f3 f5 f7 f8 f10 f11 f12 kz_0_170 ex2 ex3
  exact ⟨(fun _ h => (by cases h)), [Value.int x], ag_one hx, List.forall_mem_cons.mpr ⟨⟨show (20 : Nat) < 100 from by decide, nf0⟩, List.forall_mem_cons.mpr ⟨⟨show (23 : Nat) < 100 from by decide, nf1⟩, (fun _ h => (by cases h))⟩⟩, (fun _ h => (by cases h))⟩
set_option maxHeartbeats 4000000 in
theorem vc_Mo_writeGroup_at_l6_16_0 (x2 : Int) (x4 : Int) (x5 : Int) (x6 : Int) (x12 : Int) (x14 : Int) (x24 : Int) (x26 : Int) (all_0 : Int → Int) (r_0 : Int) (texts_0 : Int) (gx : Int) (k2 : 0 ≤ x2 ∧ x2 ≤ 99998253) (k4 : 6 ≤ x4 ∧ x4 ≤ 6) (k5 : 7 ≤ x5 ∧ x5 ≤ 7) (k6 : 8 ≤ x6 ∧ x6 ≤ 8) (k12 : 6 ≤ x12 ∧ x12 ≤ 6) (k14 : 0 ≤ x14 ∧ x14 ≤ 99999994) (k24 : 0 ≤ x24 ∧ x24 ≤ 99999992) (k26 : 0 ≤ x26 ∧ x26 ≤ 99999997) (f0 : 1 * x26 + ((-1) * x2 + ((-883) * x5 + (883 * x4 + 0))) ≤ (-5)) (f1 : 1 * x24 + ((-1) * x2 + ((-883) * x5 + (883 * x4 + 0))) ≤ (-13)) (f2 : 1 * x14 + ((-1) * x2 + ((-883) * x5 + (883 * x4 + 0))) ≤ (-19)) (f3 : 1 * x6 + ((-1) * all_0 (r_0 + 2) + 0) ≤ 0) (f4 : (-1) * x6 + (1 * all_0 (r_0 + 2) + 0) ≤ 0) (f6 : 1 * texts_0 + ((-1) * x26 + 0) ≤ 3) (f8 : 1 * x26 + ((-1) * x2 + ((-883) * x5 + (883 * x4 + 0))) ≤ (-5)) (f9 : 1 * x24 + ((-1) * x2 + ((-883) * x5 + (883 * x4 + 0))) ≤ (-13)) (f10 : 1 * x14 + ((-1) * x2 + ((-883) * x5 + (883 * x4 + 0))) ≤ (-19)) (f12 : 1 * x24 + ((-1) * x2 + ((-883) * x5 + (883 * x4 + 0))) ≤ (-13)) (f13 : 1 * x14 + ((-1) * x2 + ((-883) * x5 + (883 * x4 + 0))) ≤ (-19)) (f15 : 1 * x14 + ((-1) * x2 + ((-883) * x5 + (883 * x4 + 0))) ≤ (-19)) (f16 : x12 = x4) (f17 : x5 < x6) (kz_0_170 : 0 ≤ texts_0 ∧ texts_0 ≤ 100000000) (ex2 : gx = texts_0) (ex3 : 0 ≤ gx ∧ gx ≤ 99999136) : 1 * texts_0 + ((-1) * gx + 0) ≤ 0 := by
  first | assumption | omega | grind
set_option maxHeartbeats 4000000 in
theorem vc_Mo_writeGroup_at_l6_16_1 (x2 : Int) (x4 : Int) (x5 : Int) (x6 : Int) (x12 : Int) (x14 : Int) (x24 : Int) (x26 : Int) (all_0 : Int → Int) (r_0 : Int) (texts_0 : Int) (gx : Int) (k2 : 0 ≤ x2 ∧ x2 ≤ 99998253) (k4 : 6 ≤ x4 ∧ x4 ≤ 6) (k5 : 7 ≤ x5 ∧ x5 ≤ 7) (k6 : 8 ≤ x6 ∧ x6 ≤ 8) (k12 : 6 ≤ x12 ∧ x12 ≤ 6) (k14 : 0 ≤ x14 ∧ x14 ≤ 99999994) (k24 : 0 ≤ x24 ∧ x24 ≤ 99999992) (k26 : 0 ≤ x26 ∧ x26 ≤ 99999997) (f0 : 1 * x26 + ((-1) * x2 + ((-883) * x5 + (883 * x4 + 0))) ≤ (-5)) (f1 : 1 * x24 + ((-1) * x2 + ((-883) * x5 + (883 * x4 + 0))) ≤ (-13)) (f2 : 1 * x14 + ((-1) * x2 + ((-883) * x5 + (883 * x4 + 0))) ≤ (-19)) (f3 : 1 * x6 + ((-1) * all_0 (r_0 + 2) + 0) ≤ 0) (f4 : (-1) * x6 + (1 * all_0 (r_0 + 2) + 0) ≤ 0) (f6 : 1 * texts_0 + ((-1) * x26 + 0) ≤ 3) (f8 : 1 * x26 + ((-1) * x2 + ((-883) * x5 + (883 * x4 + 0))) ≤ (-5)) (f9 : 1 * x24 + ((-1) * x2 + ((-883) * x5 + (883 * x4 + 0))) ≤ (-13)) (f10 : 1 * x14 + ((-1) * x2 + ((-883) * x5 + (883 * x4 + 0))) ≤ (-19)) (f12 : 1 * x24 + ((-1) * x2 + ((-883) * x5 + (883 * x4 + 0))) ≤ (-13)) (f13 : 1 * x14 + ((-1) * x2 + ((-883) * x5 + (883 * x4 + 0))) ≤ (-19)) (f15 : 1 * x14 + ((-1) * x2 + ((-883) * x5 + (883 * x4 + 0))) ≤ (-19)) (f16 : x12 = x4) (f17 : x5 < x6) (kz_0_170 : 0 ≤ texts_0 ∧ texts_0 ≤ 100000000) (ex2 : gx = texts_0) (ex3 : 0 ≤ gx ∧ gx ≤ 99999136) : 1 * gx + ((-1) * x2 + ((-883) * x5 + (883 * x4 + 0))) ≤ (-2) := by
  first | assumption | omega | grind
def o_Mo_writeGroup_at_l6_16 : or_T := (161, 27, [(0, (2, 0, 0, [165])), (2, (0, 0, 99998253, [])), (3, (2, 0, 0, [165])), (4, (0, 6, 6, [])), (5, (0, 7, 7, [])), (6, (0, 8, 8, [])), (12, (0, 6, 6, [])), (14, (0, 0, 99999994, [])), (24, (0, 0, 99999992, [])), (26, (0, 0, 99999997, []))], [(23, [26, 2, 5, 4], [-5, 1, -1, -883, 883]), (23, [24, 2, 5, 4], [-13, 1, -1, -883, 883]), (23, [14, 2, 5, 4], [-19, 1, -1, -883, 883]), (20, [6, 3], [30, 0, 1, 0, 0, -1, 3, 2005002]), (20, [6, 3], [30, 0, -1, 0, 0, 1, 3, 2005002]), (24, [0, 3], []), (20, [3, 26], [30, 3, 1, 1, 170, -1, 0, 0]), (102, [26], [7770675568902916283677847627294075626569627356208558085007249638955617140820833992704, 165170]), (23, [26, 2, 5, 4], [-5, 1, -1, -883, 883]), (23, [24, 2, 5, 4], [-13, 1, -1, -883, 883]), (23, [14, 2, 5, 4], [-19, 1, -1, -883, 883]), (102, [24], [7770675568902916283677847627294075626569627356208558085007249638955617140820833992704, 165170]), (23, [24, 2, 5, 4], [-13, 1, -1, -883, 883]), (23, [14, 2, 5, 4], [-19, 1, -1, -883, 883]), (102, [14], [7770675568902916283677847627294075626569627356208558085007249638955617140820833992704, 165170]), (23, [14, 2, 5, 4], [-19, 1, -1, -883, 883]), (7, [12, 4], [0]), (7, [5, 6], [2])], [], [(0, 0, 99999136, [])], [(20, [3, 27], [30, 0, 1, 1, 170, -1, 0, 0]), (23, [27, 2, 5, 4], [-2, 1, -1, -883, 883])], [], [])
theorem oo_Mo_writeGroup_at_l6_16 {kA : Nat → ClassId} : or_ok PRD kA GG o_Mo_writeGroup_at_l6_16 := by
  refine or_mk fun A ta ws vs hD hth hl => ?_
  intro t0 r0 t2 k2 t3 r3 t4 k4 t5 k5 t6 k6 t12 k12 t14 k14 t24 k24 t26 k26 f0 f1 f2 f3 f4 f5 f6 ta1 w1 le1 s1 f8 f9 f10 ta2 w2 le2 s2 f12 f13 ta3 w3 le3 s3 f15 f16 f17
  replace f0 := shm_2088 f0
  replace f1 := shm_2087 f1
  replace f2 := shm_2086 f2
  replace f3 := shm_123 f3
  replace f4 := shm_124 f4
  replace f5 := shm_5 f5
  replace f6 := shm_212 f6
  replace f8 := shm_2088 f8
  replace f9 := shm_2087 f9
  replace f10 := shm_2086 f10
  replace f12 := shm_2087 f12
  replace f13 := shm_2086 f13
  replace f15 := shm_2086 f15
  replace f16 := shm_37 f16
  replace f17 := shm_6 f17
  have q3 : n_v vs 3 = n_v vs 0 := f5.symm
  simp only [q3] at f3 f4 f6
  have cr_0_2 := fdq_10 hD hth r0
  have kz_0_170 := fdq_11 hD hth r0
  have kv0 := fdq_11 hD hth r0
  obtain ⟨x, ex, hx⟩ := iv_ex (ta := ta) (lo := 0) (hi := 99999136) (z := w_fi ws (n_v vs 0) 170) (by omega) (by omega) (by omega) (by omega)
  have ex2 : v_iv (Value.int x) = w_fi ws (n_v vs 0) 170 := ex
  have ex3 : 0 ≤ v_iv (Value.int x) ∧ v_iv (Value.int x) ≤ 99999136 := tv_rng hx
  have e_2 : n_v (vs ++ [Value.int x]) 2 = n_v vs 2 := n_v_old (by rw [hl]; decide)
  have e_3 : n_v (vs ++ [Value.int x]) 3 = n_v vs 3 := n_v_old (by rw [hl]; decide)
  have e_4 : n_v (vs ++ [Value.int x]) 4 = n_v vs 4 := n_v_old (by rw [hl]; decide)
  have e_5 : n_v (vs ++ [Value.int x]) 5 = n_v vs 5 := n_v_old (by rw [hl]; decide)
  have e_27 : n_v (vs ++ [Value.int x]) 27 = Value.int x := n_v_new hl
  have nf0 : fc_1 PRD (20, [3, 27], [30, 0, 1, 1, 170, -1, 0, 0]) ws (vs ++ [Value.int x]) := by
    refine ⟨nf_inA hl rfl, sgq_131 ?_⟩
    · show 1 * w_fi ws (n_v (vs ++ [Value.int x]) 3) 170 + ((-1) * v_iv (n_v (vs ++ [Value.int x]) 27) + 0) ≤ 0
      simp only [e_3, e_27, q3]
      exact vc_Mo_writeGroup_at_l6_16_0 (v_iv (n_v vs 2)) (v_iv (n_v vs 4)) (v_iv (n_v vs 5)) (v_iv (n_v vs 6)) (v_iv (n_v vs 12)) (v_iv (n_v vs 14)) (v_iv (n_v vs 24)) (v_iv (n_v vs 26)) (w_ei ws (w_ar ws (n_v vs 0) 2)) (w_fi ws (n_v vs 0) 5) (w_fi ws (n_v vs 0) 170) (v_iv (Value.int x)) k2 k4 k5 k6 k12 k14 k24 k26 f0 f1 f2 f3 f4 f6 f8 f9 f10 f12 f13 f15 f16 f17 kz_0_170 ex2 ex3
  have nf1 : fc_1 PRD (23, [27, 2, 5, 4], [-2, 1, -1, -883, 883]) ws (vs ++ [Value.int x]) := by
    refine ⟨nf_inA hl rfl, sgq_2089 ?_⟩
    · show 1 * v_iv (n_v (vs ++ [Value.int x]) 27) + ((-1) * v_iv (n_v (vs ++ [Value.int x]) 2) + ((-883) * v_iv (n_v (vs ++ [Value.int x]) 5) + (883 * v_iv (n_v (vs ++ [Value.int x]) 4) + 0))) ≤ (-2)
      simp only [e_2, e_4, e_5, e_27]
      exact vc_Mo_writeGroup_at_l6_16_1 (v_iv (n_v vs 2)) (v_iv (n_v vs 4)) (v_iv (n_v vs 5)) (v_iv (n_v vs 6)) (v_iv (n_v vs 12)) (v_iv (n_v vs 14)) (v_iv (n_v vs 24)) (v_iv (n_v vs 26)) (w_ei ws (w_ar ws (n_v vs 0) 2)) (w_fi ws (n_v vs 0) 5) (w_fi ws (n_v vs 0) 170) (v_iv (Value.int x)) k2 k4 k5 k6 k12 k14 k24 k26 f0 f1 f2 f3 f4 f6 f8 f9 f10 f12 f13 f15 f16 f17 kz_0_170 ex2 ex3
  exact ⟨(fun _ h => (by cases h)), [Value.int x], ag_one hx, List.forall_mem_cons.mpr ⟨⟨show (20 : Nat) < 100 from by decide, nf0⟩, List.forall_mem_cons.mpr ⟨⟨show (23 : Nat) < 100 from by decide, nf1⟩, (fun _ h => (by cases h))⟩⟩, (fun _ h => (by cases h))⟩
set_option maxHeartbeats 4000000 in
theorem vc_Mo_writeGroup_at_l6_17_0 (x2 : Int) (x4 : Int) (x5 : Int) (x6 : Int) (x12 : Int) (x14 : Int) (x24 : Int) (x26 : Int) (x27 : Int) (all_0 : Int → Int) (r_0 : Int) (texts_0 : Int) (gx : Int) (k2 : 0 ≤ x2 ∧ x2 ≤ 99998253) (k4 : 6 ≤ x4 ∧ x4 ≤ 6) (k5 : 7 ≤ x5 ∧ x5 ≤ 7) (k6 : 8 ≤ x6 ∧ x6 ≤ 8) (k12 : 6 ≤ x12 ∧ x12 ≤ 6) (k14 : 0 ≤ x14 ∧ x14 ≤ 99999994) (k24 : 0 ≤ x24 ∧ x24 ≤ 99999992) (k26 : 0 ≤ x26 ∧ x26 ≤ 99999997) (k27 : 0 ≤ x27 ∧ x27 ≤ 99999136) (f0 : 1 * x27 + ((-1) * x2 + ((-883) * x5 + (883 * x4 + 0))) ≤ (-2)) (f1 : 1 * x26 + ((-1) * x2 + ((-883) * x5 + (883 * x4 + 0))) ≤ (-5)) (f2 : 1 * x24 + ((-1) * x2 + ((-883) * x5 + (883 * x4 + 0))) ≤ (-13)) (f3 : 1 * x14 + ((-1) * x2 + ((-883) * x5 + (883 * x4 + 0))) ≤ (-19)) (f4 : 1 * x6 + ((-1) * all_0 (r_0 + 2) + 0) ≤ 0) (f5 : (-1) * x6 + (1 * all_0 (r_0 + 2) + 0) ≤ 0) (f7 : 1 * texts_0 + ((-1) * x27 + 0) ≤ 864) (f9 : 1 * x27 + ((-1) * x2 + ((-883) * x5 + (883 * x4 + 0))) ≤ (-2)) (f10 : 1 * x26 + ((-1) * x2 + ((-883) * x5 + (883 * x4 + 0))) ≤ (-5)) (f11 : 1 * x24 + ((-1) * x2 + ((-883) * x5 + (883 * x4 + 0))) ≤ (-13)) (f12 : 1 * x14 + ((-1) * x2 + ((-883) * x5 + (883 * x4 + 0))) ≤ (-19)) (f14 : 1 * x26 + ((-1) * x2 + ((-883) * x5 + (883 * x4 + 0))) ≤ (-5)) (f15 : 1 * x24 + ((-1) * x2 + ((-883) * x5 + (883 * x4 + 0))) ≤ (-13)) (f16 : 1 * x14 + ((-1) * x2 + ((-883) * x5 + (883 * x4 + 0))) ≤ (-19)) (f18 : 1 * x24 + ((-1) * x2 + ((-883) * x5 + (883 * x4 + 0))) ≤ (-13)) (f19 : 1 * x14 + ((-1) * x2 + ((-883) * x5 + (883 * x4 + 0))) ≤ (-19)) (f21 : 1 * x14 + ((-1) * x2 + ((-883) * x5 + (883 * x4 + 0))) ≤ (-19)) (f22 : x12 = x4) (f23 : x5 < x6) (kz_0_170 : 0 ≤ texts_0 ∧ texts_0 ≤ 100000000) (ex2 : gx = texts_0) (ex3 : 0 ≤ gx ∧ gx ≤ 99999998) : 1 * texts_0 + ((-1) * gx + 0) ≤ 0 := by
  first | assumption | omega | grind
set_option maxHeartbeats 4000000 in
theorem vc_Mo_writeGroup_at_l6_17_1 (x2 : Int) (x4 : Int) (x5 : Int) (x6 : Int) (x12 : Int) (x14 : Int) (x24 : Int) (x26 : Int) (x27 : Int) (all_0 : Int → Int) (r_0 : Int) (texts_0 : Int) (gx : Int) (k2 : 0 ≤ x2 ∧ x2 ≤ 99998253) (k4 : 6 ≤ x4 ∧ x4 ≤ 6) (k5 : 7 ≤ x5 ∧ x5 ≤ 7) (k6 : 8 ≤ x6 ∧ x6 ≤ 8) (k12 : 6 ≤ x12 ∧ x12 ≤ 6) (k14 : 0 ≤ x14 ∧ x14 ≤ 99999994) (k24 : 0 ≤ x24 ∧ x24 ≤ 99999992) (k26 : 0 ≤ x26 ∧ x26 ≤ 99999997) (k27 : 0 ≤ x27 ∧ x27 ≤ 99999136) (f0 : 1 * x27 + ((-1) * x2 + ((-883) * x5 + (883 * x4 + 0))) ≤ (-2)) (f1 : 1 * x26 + ((-1) * x2 + ((-883) * x5 + (883 * x4 + 0))) ≤ (-5)) (f2 : 1 * x24 + ((-1) * x2 + ((-883) * x5 + (883 * x4 + 0))) ≤ (-13)) (f3 : 1 * x14 + ((-1) * x2 + ((-883) * x5 + (883 * x4 + 0))) ≤ (-19)) (f4 : 1 * x6 + ((-1) * all_0 (r_0 + 2) + 0) ≤ 0) (f5 : (-1) * x6 + (1 * all_0 (r_0 + 2) + 0) ≤ 0) (f7 : 1 * texts_0 + ((-1) * x27 + 0) ≤ 864) (f9 : 1 * x27 + ((-1) * x2 + ((-883) * x5 + (883 * x4 + 0))) ≤ (-2)) (f10 : 1 * x26 + ((-1) * x2 + ((-883) * x5 + (883 * x4 + 0))) ≤ (-5)) (f11 : 1 * x24 + ((-1) * x2 + ((-883) * x5 + (883 * x4 + 0))) ≤ (-13)) (f12 : 1 * x14 + ((-1) * x2 + ((-883) * x5 + (883 * x4 + 0))) ≤ (-19)) (f14 : 1 * x26 + ((-1) * x2 + ((-883) * x5 + (883 * x4 + 0))) ≤ (-5)) (f15 : 1 * x24 + ((-1) * x2 + ((-883) * x5 + (883 * x4 + 0))) ≤ (-13)) (f16 : 1 * x14 + ((-1) * x2 + ((-883) * x5 + (883 * x4 + 0))) ≤ (-19)) (f18 : 1 * x24 + ((-1) * x2 + ((-883) * x5 + (883 * x4 + 0))) ≤ (-13)) (f19 : 1 * x14 + ((-1) * x2 + ((-883) * x5 + (883 * x4 + 0))) ≤ (-19)) (f21 : 1 * x14 + ((-1) * x2 + ((-883) * x5 + (883 * x4 + 0))) ≤ (-19)) (f22 : x12 = x4) (f23 : x5 < x6) (kz_0_170 : 0 ≤ texts_0 ∧ texts_0 ≤ 100000000) (ex2 : gx = texts_0) (ex3 : 0 ≤ gx ∧ gx ≤ 99999998) : 1 * gx + ((-1) * x2 + ((-883) * x5 + (883 * x4 + 0))) ≤ 862 := by
  first | assumption | omega | grind
def o_Mo_writeGroup_at_l6_17 : or_T := (168, 29, [(0, (2, 0, 0, [165])), (2, (0, 0, 99998253, [])), (3, (2, 0, 0, [165])), (4, (0, 6, 6, [])), (5, (0, 7, 7, [])), (6, (0, 8, 8, [])), (12, (0, 6, 6, [])), (14, (0, 0, 99999994, [])), (24, (0, 0, 99999992, [])), (26, (0, 0, 99999997, [])), (27, (0, 0, 99999136, []))], [(23, [27, 2, 5, 4], [-2, 1, -1, -883, 883]), (23, [26, 2, 5, 4], [-5, 1, -1, -883, 883]), (23, [24, 2, 5, 4], [-13, 1, -1, -883, 883]), (23, [14, 2, 5, 4], [-19, 1, -1, -883, 883]), (20, [6, 3], [30, 0, 1, 0, 0, -1, 3, 2005002]), (20, [6, 3], [30, 0, -1, 0, 0, 1, 3, 2005002]), (24, [0, 3], []), (20, [3, 27], [30, 864, 1, 1, 170, -1, 0, 0]), (102, [27], [7770675568902916283677847627294075626569627356208558085007249638955617140820833992704, 165170]), (23, [27, 2, 5, 4], [-2, 1, -1, -883, 883]), (23, [26, 2, 5, 4], [-5, 1, -1, -883, 883]), (23, [24, 2, 5, 4], [-13, 1, -1, -883, 883]), (23, [14, 2, 5, 4], [-19, 1, -1, -883, 883]), (102, [26], [7770675568902916283677847627294075626569627356208558085007249638955617140820833992704, 165170]), (23, [26, 2, 5, 4], [-5, 1, -1, -883, 883]), (23, [24, 2, 5, 4], [-13, 1, -1, -883, 883]), (23, [14, 2, 5, 4], [-19, 1, -1, -883, 883]), (102, [24], [7770675568902916283677847627294075626569627356208558085007249638955617140820833992704, 165170]), (23, [24, 2, 5, 4], [-13, 1, -1, -883, 883]), (23, [14, 2, 5, 4], [-19, 1, -1, -883, 883]), (102, [14], [7770675568902916283677847627294075626569627356208558085007249638955617140820833992704, 165170]), (23, [14, 2, 5, 4], [-19, 1, -1, -883, 883]), (7, [12, 4], [0]), (7, [5, 6], [2])], [], [(0, 0, 99999998, [])], [(20, [3, 29], [30, 0, 1, 1, 170, -1, 0, 0]), (23, [29, 2, 5, 4], [862, 1, -1, -883, 883])], [], [])
theorem oo_Mo_writeGroup_at_l6_17 {kA : Nat → ClassId} : or_ok PRD kA GG o_Mo_writeGroup_at_l6_17 := by
  refine or_mk fun A ta ws vs hD hth hl => ?_
  intro t0 r0 t2 k2 t3 r3 t4 k4 t5 k5 t6 k6 t12 k12 t14 k14 t24 k24 t26 k26 t27 k27 f0 f1 f2 f3 f4 f5 f6 f7 ta1 w1 le1 s1 f9 f10 f11 f12 ta2 w2 le2 s2 f14 f15 f16 ta3 w3 le3 s3 f18 f19 ta4 w4 le4 s4 f21 f22 f23
  replace f0 := shm_2089 f0
  replace f1 := shm_2088 f1
  replace f2 := shm_2087 f2
  replace f3 := shm_2086 f3
  replace f4 := shm_123 f4
  replace f5 := shm_124 f5
  replace f6 := shm_5 f6
  replace f7 := shm_2090 f7
  replace f9 := shm_2089 f9
  replace f10 := shm_2088 f10
  replace f11 := shm_2087 f11
  replace f12 := shm_2086 f12
  replace f14 := shm_2088 f14
  replace f15 := shm_2087 f15
  replace f16 := shm_2086 f16
  replace f18 := shm_2087 f18
  replace f19 := shm_2086 f19
  replace f21 := shm_2086 f21
  replace f22 := shm_37 f22
  replace f23 := shm_6 f23
  have q3 : n_v vs 3 = n_v vs 0 := f6.symm
  simp only [q3] at f4 f5 f7
  have cr_0_2 := fdq_10 hD hth r0
  have kz_0_170 := fdq_11 hD hth r0
  have kv0 := fdq_11 hD hth r0
  obtain ⟨x, ex, hx⟩ := iv_ex (ta := ta) (lo := 0) (hi := 99999998) (z := w_fi ws (n_v vs 0) 170) (by omega) (by omega) (by omega) (by omega)
  have ex2 : v_iv (Value.int x) = w_fi ws (n_v vs 0) 170 := ex
  have ex3 : 0 ≤ v_iv (Value.int x) ∧ v_iv (Value.int x) ≤ 99999998 := tv_rng hx
  have e_2 : n_v (vs ++ [Value.int x]) 2 = n_v vs 2 := n_v_old (by rw [hl]; decide)
  have e_3 : n_v (vs ++ [Value.int x]) 3 = n_v vs 3 := n_v_old (by rw [hl]; decide)
  have e_4 : n_v (vs ++ [Value.int x]) 4 = n_v vs 4 := n_v_old (by rw [hl]; decide)
  have e_5 : n_v (vs ++ [Value.int x]) 5 = n_v vs 5 := n_v_old (by rw [hl]; decide)
  have e_29 : n_v (vs ++ [Value.int x]) 29 = Value.int x := n_v_new hl
  have nf0 : fc_1 PRD (20, [3, 29], [30, 0, 1, 1, 170, -1, 0, 0]) ws (vs ++ [Value.int x]) := by
    refine ⟨nf_inA hl rfl, sgq_131 ?_⟩
    · show 1 * w_fi ws (n_v (vs ++ [Value.int x]) 3) 170 + ((-1) * v_iv (n_v (vs ++ [Value.int x]) 29) + 0) ≤ 0
      simp only [e_3, e_29, q3]
      exact vc_Mo_writeGroup_at_l6_17_0 (v_iv (n_v vs 2)) (v_iv (n_v vs 4)) (v_iv (n_v vs 5)) (v_iv (n_v vs 6)) (v_iv (n_v vs 12)) (v_iv (n_v vs 14)) (v_iv (n_v vs 24)) (v_iv (n_v vs 26)) (v_iv (n_v vs 27)) (w_ei ws (w_ar ws (n_v vs 0) 2)) (w_fi ws (n_v vs 0) 5) (w_fi ws (n_v vs 0) 170) (v_iv (Value.int x)) k2 k4 k5 k6 k12 k14 k24 k26 k27 f0 f1 f2 f3 f4 f5 f7 f9 f10 f11 f12 f14 f15 f16 f18 f19 f21 f22 f23 kz_0_170 ex2 ex3
  have nf1 : fc_1 PRD (23, [29, 2, 5, 4], [862, 1, -1, -883, 883]) ws (vs ++ [Value.int x]) := by
    refine ⟨nf_inA hl rfl, sgq_2091 ?_⟩
    · show 1 * v_iv (n_v (vs ++ [Value.int x]) 29) + ((-1) * v_iv (n_v (vs ++ [Value.int x]) 2) + ((-883) * v_iv (n_v (vs ++ [Value.int x]) 5) + (883 * v_iv (n_v (vs ++ [Value.int x]) 4) + 0))) ≤ 862
      simp only [e_2, e_4, e_5, e_29]
      exact vc_Mo_writeGroup_at_l6_17_1 (v_iv (n_v vs 2)) (v_iv (n_v vs 4)) (v_iv (n_v vs 5)) (v_iv (n_v vs 6)) (v_iv (n_v vs 12)) (v_iv (n_v vs 14)) (v_iv (n_v vs 24)) (v_iv (n_v vs 26)) (v_iv (n_v vs 27)) (w_ei ws (w_ar ws (n_v vs 0) 2)) (w_fi ws (n_v vs 0) 5) (w_fi ws (n_v vs 0) 170) (v_iv (Value.int x)) k2 k4 k5 k6 k12 k14 k24 k26 k27 f0 f1 f2 f3 f4 f5 f7 f9 f10 f11 f12 f14 f15 f16 f18 f19 f21 f22 f23 kz_0_170 ex2 ex3
  exact ⟨(fun _ h => (by cases h)), [Value.int x], ag_one hx, List.forall_mem_cons.mpr ⟨⟨show (20 : Nat) < 100 from by decide, nf0⟩, List.forall_mem_cons.mpr ⟨⟨show (23 : Nat) < 100 from by decide, nf1⟩, (fun _ h => (by cases h))⟩⟩, (fun _ h => (by cases h))⟩
set_option maxHeartbeats 4000000 in
theorem vc_Mo_writeGroup_at_l6_18_0 (x2 : Int) (x4 : Int) (x5 : Int) (x6 : Int) (x12 : Int) (x14 : Int) (x24 : Int) (x26 : Int) (x27 : Int) (x29 : Int) (x30 : Int) (all_0 : Int → Int) (r_0 : Int) (texts_0 : Int) (k2 : 0 ≤ x2 ∧ x2 ≤ 99998253) (k4 : 6 ≤ x4 ∧ x4 ≤ 6) (k5 : 7 ≤ x5 ∧ x5 ≤ 7) (k6 : 8 ≤ x6 ∧ x6 ≤ 8) (k12 : 6 ≤ x12 ∧ x12 ≤ 6) (k14 : 0 ≤ x14 ∧ x14 ≤ 99999994) (k24 : 0 ≤ x24 ∧ x24 ≤ 99999992) (k26 : 0 ≤ x26 ∧ x26 ≤ 99999997) (k27 : 0 ≤ x27 ∧ x27 ≤ 99999136) (k29 : 0 ≤ x29 ∧ x29 ≤ 99999998) (k30 : 8 ≤ x30 ∧ x30 ≤ 8) (f0 : x30 = x5 + 1) (f1 : 1 * x29 + ((-1) * x2 + ((-883) * x5 + (883 * x4 + 0))) ≤ 862) (f2 : 1 * x27 + ((-1) * x2 + ((-883) * x5 + (883 * x4 + 0))) ≤ (-2)) (f3 : 1 * x26 + ((-1) * x2 + ((-883) * x5 + (883 * x4 + 0))) ≤ (-5)) (f4 : 1 * x24 + ((-1) * x2 + ((-883) * x5 + (883 * x4 + 0))) ≤ (-13)) (f5 : 1 * x14 + ((-1) * x2 + ((-883) * x5 + (883 * x4 + 0))) ≤ (-19)) (f6 : 1 * x6 + ((-1) * all_0 (r_0 + 2) + 0) ≤ 0) (f7 : (-1) * x6 + (1 * all_0 (r_0 + 2) + 0) ≤ 0) (f9 : 1 * texts_0 + ((-1) * x29 + 0) ≤ 2) (f11 : 1 * x29 + ((-1) * x2 + ((-883) * x5 + (883 * x4 + 0))) ≤ 862) (f12 : 1 * x27 + ((-1) * x2 + ((-883) * x5 + (883 * x4 + 0))) ≤ (-2)) (f13 : 1 * x26 + ((-1) * x2 + ((-883) * x5 + (883 * x4 + 0))) ≤ (-5)) (f14 : 1 * x24 + ((-1) * x2 + ((-883) * x5 + (883 * x4 + 0))) ≤ (-13)) (f15 : 1 * x14 + ((-1) * x2 + ((-883) * x5 + (883 * x4 + 0))) ≤ (-19)) (f17 : 1 * x27 + ((-1) * x2 + ((-883) * x5 + (883 * x4 + 0))) ≤ (-2)) (f18 : 1 * x26 + ((-1) * x2 + ((-883) * x5 + (883 * x4 + 0))) ≤ (-5)) (f19 : 1 * x24 + ((-1) * x2 + ((-883) * x5 + (883 * x4 + 0))) ≤ (-13)) (f20 : 1 * x14 + ((-1) * x2 + ((-883) * x5 + (883 * x4 + 0))) ≤ (-19)) (f22 : 1 * x26 + ((-1) * x2 + ((-883) * x5 + (883 * x4 + 0))) ≤ (-5)) (f23 : 1 * x24 + ((-1) * x2 + ((-883) * x5 + (883 * x4 + 0))) ≤ (-13)) (f24 : 1 * x14 + ((-1) * x2 + ((-883) * x5 + (883 * x4 + 0))) ≤ (-19)) (f26 : 1 * x24 + ((-1) * x2 + ((-883) * x5 + (883 * x4 + 0))) ≤ (-13)) (f27 : 1 * x14 + ((-1) * x2 + ((-883) * x5 + (883 * x4 + 0))) ≤ (-19)) (f29 : 1 * x14 + ((-1) * x2 + ((-883) * x5 + (883 * x4 + 0))) ≤ (-19)) (f30 : x12 = x4) (f31 : x5 < x6) (kz_0_170 : 0 ≤ texts_0 ∧ texts_0 ≤ 100000000) : 1 * texts_0 + ((-1) * x2 + ((-883) * x30 + (883 * x4 + 0))) ≤ (-19) := by
  first | assumption | omega | grind
def o_Mo_writeGroup_at_l6_18 : or_T := (83, 31, [(0, (2, 0, 0, [165])), (2, (0, 0, 99998253, [])), (4, (0, 6, 6, [])), (5, (0, 7, 7, [])), (6, (0, 8, 8, [])), (12, (0, 6, 6, [])), (14, (0, 0, 99999994, [])), (24, (0, 0, 99999992, [])), (26, (0, 0, 99999997, [])), (27, (0, 0, 99999136, [])), (29, (0, 0, 99999998, [])), (30, (0, 8, 8, []))], [(6, [30, 5], [1]), (23, [29, 2, 5, 4], [862, 1, -1, -883, 883]), (23, [27, 2, 5, 4], [-2, 1, -1, -883, 883]), (23, [26, 2, 5, 4], [-5, 1, -1, -883, 883]), (23, [24, 2, 5, 4], [-13, 1, -1, -883, 883]), (23, [14, 2, 5, 4], [-19, 1, -1, -883, 883]), (20, [6, 3], [30, 0, 1, 0, 0, -1, 3, 2005002]), (20, [6, 3], [30, 0, -1, 0, 0, 1, 3, 2005002]), (24, [0, 3], []), (20, [3, 29], [30, 2, 1, 1, 170, -1, 0, 0]), (102, [29], [7770675568902916283677847627294075626569627356208558085007249638955617140820833992704, 165170]), (23, [29, 2, 5, 4], [862, 1, -1, -883, 883]), (23, [27, 2, 5, 4], [-2, 1, -1, -883, 883]), (23, [26, 2, 5, 4], [-5, 1, -1, -883, 883]), (23, [24, 2, 5, 4], [-13, 1, -1, -883, 883]), (23, [14, 2, 5, 4], [-19, 1, -1, -883, 883]), (102, [27], [7770675568902916283677847627294075626569627356208558085007249638955617140820833992704, 165170]), (23, [27, 2, 5, 4], [-2, 1, -1, -883, 883]), (23, [26, 2, 5, 4], [-5, 1, -1, -883, 883]), (23, [24, 2, 5, 4], [-13, 1, -1, -883, 883]), (23, [14, 2, 5, 4], [-19, 1, -1, -883, 883]), (102, [26], [7770675568902916283677847627294075626569627356208558085007249638955617140820833992704, 165170]), (23, [26, 2, 5, 4], [-5, 1, -1, -883, 883]), (23, [24, 2, 5, 4], [-13, 1, -1, -883, 883]), (23, [14, 2, 5, 4], [-19, 1, -1, -883, 883]), (102, [24], [7770675568902916283677847627294075626569627356208558085007249638955617140820833992704, 165170]), (23, [24, 2, 5, 4], [-13, 1, -1, -883, 883]), (23, [14, 2, 5, 4], [-19, 1, -1, -883, 883]), (102, [14], [7770675568902916283677847627294075626569627356208558085007249638955617140820833992704, 165170]), (23, [14, 2, 5, 4], [-19, 1, -1, -883, 883]), (7, [12, 4], [0]), (7, [5, 6], [2])], [], [], [(20, [3, 2, 30, 4], [30, -19, 1, 1, 170, -1, 0, 0, -883, 0, 0, 883, 0, 0])], [], [])
theorem oo_Mo_writeGroup_at_l6_18 {kA : Nat → ClassId} : or_ok PRD kA GG o_Mo_writeGroup_at_l6_18 := by
  refine or_mk fun A ta ws vs hD hth hl => ?_
  intro t0 r0 t2 k2 t4 k4 t5 k5 t6 k6 t12 k12 t14 k14 t24 k24 t26 k26 t27 k27 t29 k29 t30 k30 f0 f1 f2 f3 f4 f5 f6 f7 f8 f9 ta1 w1 le1 s1 f11 f12 f13 f14 f15 ta2 w2 le2 s2 f17 f18 f19 f20 ta3 w3 le3 s3 f22 f23 f24 ta4 w4 le4 s4 f26 f27 ta5 w5 le5 s5 f29 f30 f31
  replace f0 := shm_4 f0
  replace f1 := shm_2091 f1
  replace f2 := shm_2089 f2
  replace f3 := shm_2088 f3
  replace f4 := shm_2087 f4
  replace f5 := shm_2086 f5
  replace f6 := shm_123 f6
  replace f7 := shm_124 f7
  replace f8 := shm_5 f8
  replace f9 := shm_210 f9
  replace f11 := shm_2091 f11
  replace f12 := shm_2089 f12
  replace f13 := shm_2088 f13
  replace f14 := shm_2087 f14
  replace f15 := shm_2086 f15
  replace f17 := shm_2089 f17
  replace f18 := shm_2088 f18
  replace f19 := shm_2087 f19
  replace f20 := shm_2086 f20
  replace f22 := shm_2088 f22
  replace f23 := shm_2087 f23
  replace f24 := shm_2086 f24
  replace f26 := shm_2087 f26
  replace f27 := shm_2086 f27
  replace f29 := shm_2086 f29
  replace f30 := shm_37 f30
  replace f31 := shm_6 f31
  have q3 : n_v vs 3 = n_v vs 0 := f8.symm
  simp only [q3] at f6 f7 f9
  have kz_0_170 := fdq_11 hD hth r0
  have nf0 : fc_1 PRD (20, [3, 2, 30, 4], [30, -19, 1, 1, 170, -1, 0, 0, -883, 0, 0, 883, 0, 0]) ws (vs) := by
    refine ⟨nf_in hl rfl, sgq_2085 ?_⟩
    · show 1 * w_fi ws (n_v vs 3) 170 + ((-1) * v_iv (n_v vs 2) + ((-883) * v_iv (n_v vs 30) + (883 * v_iv (n_v vs 4) + 0))) ≤ (-19)
      rw [q3]
      exact vc_Mo_writeGroup_at_l6_18_0 (v_iv (n_v vs 2)) (v_iv (n_v vs 4)) (v_iv (n_v vs 5)) (v_iv (n_v vs 6)) (v_iv (n_v vs 12)) (v_iv (n_v vs 14)) (v_iv (n_v vs 24)) (v_iv (n_v vs 26)) (v_iv (n_v vs 27)) (v_iv (n_v vs 29)) (v_iv (n_v vs 30)) (w_ei ws (w_ar ws (n_v vs 0) 2)) (w_fi ws (n_v vs 0) 5) (w_fi ws (n_v vs 0) 170) k2 k4 k5 k6 k12 k14 k24 k26 k27 k29 k30 f0 f1 f2 f3 f4 f5 f6 f7 f9 f11 f12 f13 f14 f15 f17 f18 f19 f20 f22 f23 f24 f26 f27 f29 f30 f31 kz_0_170
  refine ⟨(fun _ h => (by cases h)), [], trivial, ?_, (fun _ h => (by cases h))⟩
  rw [List.append_nil]
  exact List.forall_mem_cons.mpr ⟨⟨show (20 : Nat) < 100 from by decide, nf0⟩, (fun _ h => (by cases h))⟩
def o_Mo_writeGroup_at_l6_19 : or_T := (83, 14, [(0, (2, 0, 0, [165])), (2, (0, 0, 99998253, [])), (3, (2, 0, 0, [165])), (4, (0, 6, 6, [])), (5, (0, 7, 7, [])), (6, (0, 8, 8, [])), (7, (2, 0, 0, [167])), (8, (0, 0, 66297, [])), (9, (0, 531, 531, [])), (10, (0, 531, 66828, [])), (11, (0, 538, 66835, [])), (12, (0, -1, 5, [])), (13, (0, 8, 8, []))], [(6, [13, 5], [1]), (7, [12, 4], [1]), (10, [12, 7, 11], []), (1, [11, 10, 5], []), (1, [10, 8, 9], []), (9, [8, 3], [5]), (9, [7, 3], [2]), (7, [5, 6], [2]), (20, [6, 3], [30, 0, 1, 0, 0, -1, 3, 2005002]), (20, [6, 3], [30, 0, -1, 0, 0, 1, 3, 2005002]), (20, [3, 2, 5, 4], [30, -19, 1, 1, 170, -1, 0, 0, -883, 0, 0, 883, 0, 0]), (24, [0, 3], [])], [], [], [(20, [3, 2, 13, 4], [30, -19, 1, 1, 170, -1, 0, 0, -883, 0, 0, 883, 0, 0])], [], [(11, 10, 7, 7), (11, 8, 538, 538), (10, 8, 531, 531)])
theorem oo_Mo_writeGroup_at_l6_19 {kA : Nat → ClassId} : or_ok PRD kA GG o_Mo_writeGroup_at_l6_19 := by
  refine or_mk fun A ta ws vs hD hth hl => ?_
  intro t0 r0 t2 k2 t3 r3 t4 k4 t5 k5 t6 k6 t7 r7 t8 k8 t9 k9 t10 k10 t11 k11 t12 k12 t13 k13 d0 d1 d2 f0 f1 f2 f3 f4 f5 f6 f7 f8 f9 f10 f11
  replace f0 := shm_4 f0
  replace f1 := shm_40 f1
  replace f2 := shm_107 f2
  replace f3 := shm_12 f3
  replace f4 := shm_12 f4
  replace f5 := shm_110 f5
  replace f6 := shm_120 f6
  replace f7 := shm_6 f7
  replace f8 := shm_123 f8
  replace f9 := shm_124 f9
  replace f10 := shm_2085 f10
  replace f11 := shm_5 f11
  have q3 : n_v vs 3 = n_v vs 0 := f11.symm
  simp only [q3] at f5 f6 f8 f9 f10
  have cr_0_2 := fdq_10 hD hth r0
  have ad_7 : v_ad (n_v vs 7) = w_ar ws (n_v vs 0) 2 := congrArg v_ad f6
  simp only [ad_7] at f2
  have h2 : v_iv (n_v vs 12) = w_ei ws (w_ar ws (n_v vs 0) 2) (v_iv (n_v vs 11)) := f2
  have g5 : v_iv (n_v vs 8) = w_fi ws (n_v vs 0) 5 := congrArg v_iv f5
  have cg2_F5_2 : v_iv (n_v vs 11) = w_fi ws (n_v vs 0) 5 + 2 → w_el ws (w_ar ws (n_v vs 0) 2) (v_iv (n_v vs 11)).toNat = w_el ws (w_ar ws (n_v vs 0) 2) (w_fi ws (n_v vs 0) 5 + 2).toNat := fun h => by rw [h]
  have kz_0_170 := fdq_11 hD hth r0
  have nf0 : fc_1 PRD (20, [3, 2, 13, 4], [30, -19, 1, 1, 170, -1, 0, 0, -883, 0, 0, 883, 0, 0]) ws (vs) := by
    refine ⟨nf_in hl rfl, sgq_2085 ?_⟩
    · show 1 * w_fi ws (n_v vs 3) 170 + ((-1) * v_iv (n_v vs 2) + ((-883) * v_iv (n_v vs 13) + (883 * v_iv (n_v vs 4) + 0))) ≤ (-19)
      rw [q3]
      omega
  refine ⟨(fun _ h => (by cases h)), [], trivial, ?_, (fun _ h => (by cases h))⟩
  rw [List.append_nil]
  exact List.forall_mem_cons.mpr ⟨⟨show (20 : Nat) < 100 from by decide, nf0⟩, (fun _ h => (by cases h))⟩
def n_Mo_writeGroup_at_l6_an : List an_T := [(2, [(0, (2, 0, 0, [165])), (1, (0, 6, 7, [])), (2, (0, 0, 24, []))], [], (0, 0), [(0, 0, 99998), (1, 5, 24), (0, 0, 100000)], [(1, 4, (Int.negSucc 999999999999), 0), (4, 1, (Int.negSucc 999999999999), 0)], [], [(2, 0, 0, [165]), (0, 6, 7, []), (0, 0, 99998253, [])], 0, [], [(20, [3, 2, 5], [30, 0, 1, 1, 170, (Int.negSucc 0), 0, 0, (Int.negSucc 35), 0, 0]), (24, [0, 3], [])]), (83, [(0, (2, 0, 0, [165])), (1, (0, 6, 7, [])), (2, (0, 7, 8, []))], [], (0, 0), [(0, 0, 99917), (1, 5, 8), (0, 0, 100000)], [(1, 4, (Int.negSucc 999999999999), 0), (1, 5, (Int.negSucc 999999999999), (Int.negSucc 0)), (4, 1, (Int.negSucc 999999999999), 0), (4, 5, (Int.negSucc 999999999999), (Int.negSucc 0))], [], [(2, 0, 0, [165]), (0, 6, 7, []), (0, 0, 99998253, [])], 0, [], [(20, [3, 2, 5, 4], [30, (Int.negSucc 18), 1, 1, 170, (Int.negSucc 0), 0, 0, (Int.negSucc 882), 0, 0, 883, 0, 0]), (24, [0, 3], [])])]
def t_Mo_writeGroup_at_l6_ct : ct_L := [(1, 475, e_Mo_nodes), (1, 509, e_Mo_groups), (1, 723, e_Mo_size), (1, 725, e_Mo_groupOf), (1, 1285, e_Mo_writeName), (1, 1293, e_Mo_writeNode), (1, 1298, e_Mo_writeNumber), (82, 1290, e_Mo_write_at_s5013), (145, 1290, e_Mo_write_at_s5014), (193, 1290, e_Mo_write_at_s5045), (214, 1290, e_Mo_write_at_s5015), (355, 1290, e_Mo_write_at_s5016), (472, 1290, e_Mo_write_at_s5017), (487, 1309, e_Mo_writeGroup_at_l7), (508, 1290, e_Mo_write_at_s5018), (1000001, 1288, en_ro [] (2, 0, 0, [5013])), (1000001, 1296, en_ro [] (2, 0, 0, [5014])), (1000001, 1301, en_ro [] (2, 0, 0, [5045])), (1000001, 1303, en_ro [] (2, 0, 0, [5015])), (1000001, 1305, en_ro [] (2, 0, 0, [5016])), (1000001, 1307, en_ro [] (2, 0, 0, [5017])), (1000001, 1312, en_ro [] (2, 0, 0, [5018]))]
set_option maxRecDepth 100000 in
theorem c_Mo_writeGroup_at_l6 {l : Launch} {D : va_G} {kA : Nat → ClassId} (h_Mo_groupOf : ct_ok PRD l D kA GG y_Mo_groupOf z_Mo_groupOf e_Mo_groupOf) (h_Mo_groups : ct_ok PRD l D kA GG y_Mo_groups z_Mo_groups e_Mo_groups) (h_Mo_nodes : ct_ok PRD l D kA GG y_Mo_nodes z_Mo_nodes e_Mo_nodes) (h_Mo_size : ct_ok PRD l D kA GG y_Mo_size z_Mo_size e_Mo_size) (h_Mo_writeGroup_at_l7 : ct_ok PRD l D kA GG y_Mo_writeGroup_at_l7 z_Mo_writeGroup_at_l7 e_Mo_writeGroup_at_l7) (h_Mo_writeName : ct_ok PRD l D kA GG y_Mo_writeName z_Mo_writeName e_Mo_writeName) (h_Mo_writeNode : ct_ok PRD l D kA GG y_Mo_writeNode z_Mo_writeNode e_Mo_writeNode) (h_Mo_writeNumber : ct_ok PRD l D kA GG y_Mo_writeNumber z_Mo_writeNumber e_Mo_writeNumber) (h_Mo_write_at_s5013 : ct_ok PRD l D kA GG y_Mo_write_at_s5013 z_Mo_write_at_s5013 e_Mo_write_at_s5013) (h_Mo_write_at_s5014 : ct_ok PRD l D kA GG y_Mo_write_at_s5014 z_Mo_write_at_s5014 e_Mo_write_at_s5014) (h_Mo_write_at_s5015 : ct_ok PRD l D kA GG y_Mo_write_at_s5015 z_Mo_write_at_s5015 e_Mo_write_at_s5015) (h_Mo_write_at_s5016 : ct_ok PRD l D kA GG y_Mo_write_at_s5016 z_Mo_write_at_s5016 e_Mo_write_at_s5016) (h_Mo_write_at_s5017 : ct_ok PRD l D kA GG y_Mo_write_at_s5017 z_Mo_write_at_s5017 e_Mo_write_at_s5017) (h_Mo_write_at_s5018 : ct_ok PRD l D kA GG y_Mo_write_at_s5018 z_Mo_write_at_s5018 e_Mo_write_at_s5018) (h_Mo_write_at_s5045 : ct_ok PRD l D kA GG y_Mo_write_at_s5045 z_Mo_write_at_s5045 e_Mo_write_at_s5045) : ct_ok PRD l D kA GG y_Mo_writeGroup_at_l6 z_Mo_writeGroup_at_l6 e_Mo_writeGroup_at_l6 := chk_all_ok (FT := [(16, 13, 2), (391, 13, 5)]) (PT := []) (CT := t_Mo_writeGroup_at_l6_ct) (KT := []) (NT := []) (AN := n_Mo_writeGroup_at_l6_an) (OT := [o_Mo_writeGroup_at_l6_0, o_Mo_writeGroup_at_l6_1, o_Mo_writeGroup_at_l6_2, o_Mo_writeGroup_at_l6_3, o_Mo_writeGroup_at_l6_4, o_Mo_writeGroup_at_l6_5, o_Mo_writeGroup_at_l6_6, o_Mo_writeGroup_at_l6_7, o_Mo_writeGroup_at_l6_8, o_Mo_writeGroup_at_l6_9, o_Mo_writeGroup_at_l6_10, o_Mo_writeGroup_at_l6_11, o_Mo_writeGroup_at_l6_12, o_Mo_writeGroup_at_l6_13, o_Mo_writeGroup_at_l6_14, o_Mo_writeGroup_at_l6_15, o_Mo_writeGroup_at_l6_16, o_Mo_writeGroup_at_l6_17, o_Mo_writeGroup_at_l6_18, o_Mo_writeGroup_at_l6_19]) 3 408 (List.forall_mem_cons.mpr ⟨oo_Mo_writeGroup_at_l6_0, List.forall_mem_cons.mpr ⟨oo_Mo_writeGroup_at_l6_1, List.forall_mem_cons.mpr ⟨oo_Mo_writeGroup_at_l6_2, List.forall_mem_cons.mpr ⟨oo_Mo_writeGroup_at_l6_3, List.forall_mem_cons.mpr ⟨oo_Mo_writeGroup_at_l6_4, List.forall_mem_cons.mpr ⟨oo_Mo_writeGroup_at_l6_5, List.forall_mem_cons.mpr ⟨oo_Mo_writeGroup_at_l6_6, List.forall_mem_cons.mpr ⟨oo_Mo_writeGroup_at_l6_7, List.forall_mem_cons.mpr ⟨oo_Mo_writeGroup_at_l6_8, List.forall_mem_cons.mpr ⟨oo_Mo_writeGroup_at_l6_9, List.forall_mem_cons.mpr ⟨oo_Mo_writeGroup_at_l6_10, List.forall_mem_cons.mpr ⟨oo_Mo_writeGroup_at_l6_11, List.forall_mem_cons.mpr ⟨oo_Mo_writeGroup_at_l6_12, List.forall_mem_cons.mpr ⟨oo_Mo_writeGroup_at_l6_13, List.forall_mem_cons.mpr ⟨oo_Mo_writeGroup_at_l6_14, List.forall_mem_cons.mpr ⟨oo_Mo_writeGroup_at_l6_15, List.forall_mem_cons.mpr ⟨oo_Mo_writeGroup_at_l6_16, List.forall_mem_cons.mpr ⟨oo_Mo_writeGroup_at_l6_17, List.forall_mem_cons.mpr ⟨oo_Mo_writeGroup_at_l6_18, List.forall_mem_cons.mpr ⟨oo_Mo_writeGroup_at_l6_19, List.forall_mem_nil _⟩⟩⟩⟩⟩⟩⟩⟩⟩⟩⟩⟩⟩⟩⟩⟩⟩⟩⟩⟩) (by decide +kernel) ⟨List.forall_mem_cons.mpr ⟨gf_Mo_16, List.forall_mem_cons.mpr ⟨gf_Mo_391, List.forall_mem_nil _⟩⟩, List.forall_mem_nil _, List.forall_mem_cons.mpr ⟨cl_virtual (y := y_Mo_nodes) (ci := 13) rfl rfl ⟨_, _, rfl⟩ (by decide +kernel) h_Mo_nodes wm_3025 wm_9 wm_3022 wm_3024 wv_13_3 ⟨by decide, by decide, by decide +kernel⟩ (by decide), List.forall_mem_cons.mpr ⟨cl_virtual (y := y_Mo_groups) (ci := 13) rfl rfl ⟨_, _, rfl⟩ (by decide +kernel) h_Mo_groups wm_3070 wm_9 wm_3067 wm_3069 wv_13_14 ⟨by decide, by decide, by decide +kernel⟩ (by decide), List.forall_mem_cons.mpr ⟨cl_virtual (y := y_Mo_size) (ci := 13) rfl rfl ⟨_, _, rfl⟩ (by decide +kernel) h_Mo_size wm_3307 wm_9 wm_3304 wm_3306 wv_17_0 ⟨by decide, by decide, by decide +kernel⟩ (by decide), List.forall_mem_cons.mpr ⟨cl_virtual (y := y_Mo_groupOf) (ci := 13) rfl rfl ⟨_, _, rfl⟩ (by decide +kernel) h_Mo_groupOf wm_3311 wm_9 wm_3308 wm_3310 wv_17_1 ⟨by decide, by decide, by decide +kernel⟩ (by decide), List.forall_mem_cons.mpr ⟨cl_virtual (y := y_Mo_writeName) (ci := 13) rfl rfl ⟨_, _, rfl⟩ (by decide +kernel) h_Mo_writeName wm_3922 wm_9 wm_3919 wm_3921 wv_24_10 ⟨by decide, by decide, by decide +kernel⟩ (by decide), List.forall_mem_cons.mpr ⟨cl_virtual (y := y_Mo_writeNode) (ci := 13) rfl rfl ⟨_, _, rfl⟩ (by decide +kernel) h_Mo_writeNode wm_3918 wm_9 wm_3915 wm_3917 wv_24_9 ⟨by decide, by decide, by decide +kernel⟩ (by decide), List.forall_mem_cons.mpr ⟨cl_virtual (y := y_Mo_writeNumber) (ci := 13) rfl rfl ⟨_, _, rfl⟩ (by decide +kernel) h_Mo_writeNumber wm_3927 wm_9 wm_3924 wm_3926 wv_24_11 ⟨by decide, by decide, by decide +kernel⟩ (by decide), List.forall_mem_cons.mpr ⟨cl_virtual (y := y_Mo_write_at_s5013) (ci := 13) rfl rfl ⟨_, _, rfl⟩ (by decide +kernel) h_Mo_write_at_s5013 wm_3910 wm_9 wm_3907 wm_3909 wv_24_7 ⟨by decide, by decide, by decide +kernel⟩ (by decide), List.forall_mem_cons.mpr ⟨cl_virtual (y := y_Mo_write_at_s5014) (ci := 13) rfl rfl ⟨_, _, rfl⟩ (by decide +kernel) h_Mo_write_at_s5014 wm_3910 wm_9 wm_3907 wm_3909 wv_24_7 ⟨by decide, by decide, by decide +kernel⟩ (by decide), List.forall_mem_cons.mpr ⟨cl_virtual (y := y_Mo_write_at_s5045) (ci := 13) rfl rfl ⟨_, _, rfl⟩ (by decide +kernel) h_Mo_write_at_s5045 wm_3910 wm_9 wm_3907 wm_3909 wv_24_7 ⟨by decide, by decide, by decide +kernel⟩ (by decide), List.forall_mem_cons.mpr ⟨cl_virtual (y := y_Mo_write_at_s5015) (ci := 13) rfl rfl ⟨_, _, rfl⟩ (by decide +kernel) h_Mo_write_at_s5015 wm_3910 wm_9 wm_3907 wm_3909 wv_24_7 ⟨by decide, by decide, by decide +kernel⟩ (by decide), List.forall_mem_cons.mpr ⟨cl_virtual (y := y_Mo_write_at_s5016) (ci := 13) rfl rfl ⟨_, _, rfl⟩ (by decide +kernel) h_Mo_write_at_s5016 wm_3910 wm_9 wm_3907 wm_3909 wv_24_7 ⟨by decide, by decide, by decide +kernel⟩ (by decide), List.forall_mem_cons.mpr ⟨cl_virtual (y := y_Mo_write_at_s5017) (ci := 13) rfl rfl ⟨_, _, rfl⟩ (by decide +kernel) h_Mo_write_at_s5017 wm_3910 wm_9 wm_3907 wm_3909 wv_24_7 ⟨by decide, by decide, by decide +kernel⟩ (by decide), List.forall_mem_cons.mpr ⟨cl_virtual (y := y_Mo_writeGroup_at_l7) (ci := 13) rfl rfl ⟨_, _, rfl⟩ (by decide +kernel) h_Mo_writeGroup_at_l7 wm_3905 wm_9 wm_3902 wm_3904 wv_24_6 ⟨by decide, by decide, by decide +kernel⟩ (by decide), List.forall_mem_cons.mpr ⟨cl_virtual (y := y_Mo_write_at_s5018) (ci := 13) rfl rfl ⟨_, _, rfl⟩ (by decide +kernel) h_Mo_write_at_s5018 wm_3910 wm_9 wm_3907 wm_3909 wv_24_7 ⟨by decide, by decide, by decide +kernel⟩ (by decide), List.forall_mem_cons.mpr ⟨cl_ldcw (own := "DrawingHouseModel") (idx := 1288) (i := 13) (tx := "node ") (by decide +kernel) (by decide +kernel) (by decide +kernel), List.forall_mem_cons.mpr ⟨cl_ldcw (own := "DrawingHouseModel") (idx := 1296) (i := 14) (tx := " [size=") (by decide +kernel) (by decide +kernel) (by decide +kernel), List.forall_mem_cons.mpr ⟨cl_ldcw (own := "DrawingHouseModel") (idx := 1301) (i := 45) (tx := "]") (by decide +kernel) (by decide +kernel) (by decide +kernel), List.forall_mem_cons.mpr ⟨cl_ldcw (own := "DrawingHouseModel") (idx := 1303) (i := 15) (tx := ";\n") (by decide +kernel) (by decide +kernel) (by decide +kernel), List.forall_mem_cons.mpr ⟨cl_ldcw (own := "DrawingHouseModel") (idx := 1305) (i := 16) (tx := "group ") (by decide +kernel) (by decide +kernel) (by decide +kernel), List.forall_mem_cons.mpr ⟨cl_ldcw (own := "DrawingHouseModel") (idx := 1307) (i := 17) (tx := " {\n") (by decide +kernel) (by decide +kernel) (by decide +kernel), List.forall_mem_cons.mpr ⟨cl_ldcw (own := "DrawingHouseModel") (idx := 1312) (i := 18) (tx := "}\n") (by decide +kernel) (by decide +kernel) (by decide +kernel), List.forall_mem_nil _⟩⟩⟩⟩⟩⟩⟩⟩⟩⟩⟩⟩⟩⟩⟩⟩⟩⟩⟩⟩⟩⟩, List.forall_mem_nil _, List.forall_mem_nil _, GG_pl⟩ (by decide +kernel)
set_option maxHeartbeats 4000000 in
theorem vc_Mo_writeGroup_at_l7_0_0 (x2 : Int) (x3 : Int) (texts_0 : Int) (k2 : 0 ≤ x2 ∧ x2 ≤ 99999136) (k3 : 0 ≤ x3 ∧ x3 ≤ 0) (f0 : 1 * texts_0 + ((-1) * x2 + 0) ≤ 0) (kz_0_170 : 0 ≤ texts_0 ∧ texts_0 ≤ 100000000) : 1 * texts_0 + ((-1) * x2 + ((-36) * x3 + 0)) ≤ 0 := by
  first | assumption | omega | grind
def o_Mo_writeGroup_at_l7_0 : or_T := (2, 4, [(0, (2, 0, 0, [165])), (2, (0, 0, 99999136, [])), (3, (0, 0, 0, []))], [(20, [0, 2], [30, 0, 1, 1, 170, -1, 0, 0])], [], [], [(20, [0, 2, 3], [30, 0, 1, 1, 170, -1, 0, 0, -36, 0, 0]), (24, [0, 0], [])], [], [])
theorem oo_Mo_writeGroup_at_l7_0 {kA : Nat → ClassId} : or_ok PRD kA GG o_Mo_writeGroup_at_l7_0 := by
  refine or_mk fun A ta ws vs hD hth hl => ?_
  intro t0 r0 t2 k2 t3 k3 f0
  have kz_0_170 := fdq_11 hD hth r0
  have nf0 : fc_1 PRD (20, [0, 2, 3], [30, 0, 1, 1, 170, -1, 0, 0, -36, 0, 0]) ws (vs) := ⟨nf_in hl rfl, sgq_2035 (vc_Mo_writeGroup_at_l7_0_0 (v_iv (n_v vs 2)) (v_iv (n_v vs 3)) (w_fi ws (n_v vs 0) 170) k2 k3 (shm_131 f0) kz_0_170)⟩
  have nf1 : fc_1 PRD (24, [0, 0], []) ws (vs) := by
    refine ⟨nf_in hl rfl, sgq_1 ?_⟩
    · show n_v vs 0 = n_v vs 0
      first | rfl | simp only [true_and]
  refine ⟨(fun _ h => (by cases h)), [], trivial, ?_, (fun _ h => (by cases h))⟩
  rw [List.append_nil]
  exact List.forall_mem_cons.mpr ⟨⟨show (20 : Nat) < 100 from by decide, nf0⟩, List.forall_mem_cons.mpr ⟨⟨show (24 : Nat) < 100 from by decide, nf1⟩, (fun _ h => (by cases h))⟩⟩
set_option maxHeartbeats 4000000 in
theorem vc_Mo_writeGroup_at_l7_1_0 (x2 : Int) (x4 : Int) (x5 : Int) (x6 : Int) (x7 : Int) (x8 : Int) (all_0 : Int → Int) (r_0 : Int) (texts_0 : Int) (k2 : 0 ≤ x2 ∧ x2 ≤ 99999136) (k4 : 7 ≤ x4 ∧ x4 ≤ 7) (k5 : 0 ≤ x5 ∧ x5 ≤ 24) (k6 : 0 ≤ x6 ∧ x6 ≤ 24) (k7 : 1 ≤ x7 ∧ x7 ≤ 1) (k8 : 8 ≤ x8 ∧ x8 ≤ 8) (d0 : x6 + 0 ≤ x5 ∧ x5 ≤ x6 + 4294967296) (f0 : x8 = x4 + x7) (f1 : x6 ≤ x5) (f2 : 1 * x6 + ((-1) * all_0 (r_0 + 0) + 0) ≤ 0) (f3 : (-1) * x6 + (1 * all_0 (r_0 + 0) + 0) ≤ 0) (f4 : 1 * texts_0 + ((-1) * x2 + ((-36) * x5 + 0)) ≤ 0) (kz_0_170 : 0 ≤ texts_0 ∧ texts_0 ≤ 100000000) : 1 * texts_0 + ((-1) * x2 + ((-19) * x8 + (19 * x4 + 0))) ≤ 845 := by
  first | assumption | omega | grind
def o_Mo_writeGroup_at_l7_1 : or_T := (83, 9, [(0, (2, 0, 0, [165])), (2, (0, 0, 99999136, [])), (4, (0, 7, 7, [])), (5, (0, 0, 24, [])), (6, (0, 0, 24, [])), (7, (0, 1, 1, [])), (8, (0, 8, 8, []))], [(1, [8, 4, 7], []), (7, [5, 6], [3]), (20, [6, 3], [30, 0, 1, 0, 0, -1, 3, 2005000]), (20, [6, 3], [30, 0, -1, 0, 0, 1, 3, 2005000]), (20, [3, 2, 5], [30, 0, 1, 1, 170, -1, 0, 0, -36, 0, 0]), (24, [0, 3], [])], [], [], [(20, [3, 2, 8, 4], [30, 845, 1, 1, 170, -1, 0, 0, -19, 0, 0, 19, 0, 0])], [], [(5, 6, 0, 4294967296)])
theorem oo_Mo_writeGroup_at_l7_1 {kA : Nat → ClassId} : or_ok PRD kA GG o_Mo_writeGroup_at_l7_1 := by
  refine or_mk fun A ta ws vs hD hth hl => ?_
  intro t0 r0 t2 k2 t4 k4 t5 k5 t6 k6 t7 k7 t8 k8 d0 f0 f1 f2 f3 f4 f5
  replace f0 := shm_12 f0
  replace f1 := shm_2 f1
  replace f2 := shm_126 f2
  replace f3 := shm_127 f3
  replace f4 := shm_2035 f4
  replace f5 := shm_5 f5
  have q3 : n_v vs 3 = n_v vs 0 := f5.symm
  simp only [q3] at f2 f3 f4
  have kz_0_170 := fdq_11 hD hth r0
  have nf0 : fc_1 PRD (20, [3, 2, 8, 4], [30, 845, 1, 1, 170, -1, 0, 0, -19, 0, 0, 19, 0, 0]) ws (vs) := by
    refine ⟨nf_in hl rfl, sgq_2092 ?_⟩
    · show 1 * w_fi ws (n_v vs 3) 170 + ((-1) * v_iv (n_v vs 2) + ((-19) * v_iv (n_v vs 8) + (19 * v_iv (n_v vs 4) + 0))) ≤ 845
      rw [q3]
      exact vc_Mo_writeGroup_at_l7_1_0 (v_iv (n_v vs 2)) (v_iv (n_v vs 4)) (v_iv (n_v vs 5)) (v_iv (n_v vs 6)) (v_iv (n_v vs 7)) (v_iv (n_v vs 8)) (w_ei ws (w_ar ws (n_v vs 0) 2)) (w_fi ws (n_v vs 0) 5) (w_fi ws (n_v vs 0) 170) k2 k4 k5 k6 k7 k8 d0 f0 f1 f2 f3 f4 kz_0_170
  refine ⟨(fun _ h => (by cases h)), [], trivial, ?_, (fun _ h => (by cases h))⟩
  rw [List.append_nil]
  exact List.forall_mem_cons.mpr ⟨⟨show (20 : Nat) < 100 from by decide, nf0⟩, (fun _ h => (by cases h))⟩
set_option maxHeartbeats 4000000 in
theorem vc_Mo_writeGroup_at_l7_2_0 (x2 : Int) (x4 : Int) (x5 : Int) (x6 : Int) (x7 : Int) (all_0 : Int → Int) (r_0 : Int) (texts_0 : Int) (gx : Int) (k2 : 0 ≤ x2 ∧ x2 ≤ 99999136) (k4 : 7 ≤ x4 ∧ x4 ≤ 7) (k5 : 0 ≤ x5 ∧ x5 ≤ 23) (k6 : 1 ≤ x6 ∧ x6 ≤ 24) (k7 : 7 ≤ x7 ∧ x7 ≤ 7) (d0 : x6 + (-4294967296) ≤ x5 ∧ x5 ≤ x6 + (-1)) (f0 : x7 = x4) (f1 : x7 = all_0 (((r_0 + 243) + x5))) (f2 : x5 < x6) (f3 : 1 * x6 + ((-1) * all_0 (r_0 + 0) + 0) ≤ 0) (f4 : (-1) * x6 + (1 * all_0 (r_0 + 0) + 0) ≤ 0) (f5 : 1 * texts_0 + ((-1) * x2 + ((-36) * x5 + 0)) ≤ 0) (kz_0_170 : 0 ≤ texts_0 ∧ texts_0 ≤ 100000000) (ex2 : gx = texts_0) (ex3 : 0 ≤ gx ∧ gx ≤ 99999995) : 1 * texts_0 + ((-1) * gx + 0) ≤ 0 := by
  first | assumption | omega | grind
set_option maxHeartbeats 4000000 in
theorem vc_Mo_writeGroup_at_l7_2_1 (x2 : Int) (x4 : Int) (x5 : Int) (x6 : Int) (x7 : Int) (all_0 : Int → Int) (r_0 : Int) (texts_0 : Int) (gx : Int) (k2 : 0 ≤ x2 ∧ x2 ≤ 99999136) (k4 : 7 ≤ x4 ∧ x4 ≤ 7) (k5 : 0 ≤ x5 ∧ x5 ≤ 23) (k6 : 1 ≤ x6 ∧ x6 ≤ 24) (k7 : 7 ≤ x7 ∧ x7 ≤ 7) (d0 : x6 + (-4294967296) ≤ x5 ∧ x5 ≤ x6 + (-1)) (f0 : x7 = x4) (f1 : x7 = all_0 (((r_0 + 243) + x5))) (f2 : x5 < x6) (f3 : 1 * x6 + ((-1) * all_0 (r_0 + 0) + 0) ≤ 0) (f4 : (-1) * x6 + (1 * all_0 (r_0 + 0) + 0) ≤ 0) (f5 : 1 * texts_0 + ((-1) * x2 + ((-36) * x5 + 0)) ≤ 0) (kz_0_170 : 0 ≤ texts_0 ∧ texts_0 ≤ 100000000) (ex2 : gx = texts_0) (ex3 : 0 ≤ gx ∧ gx ≤ 99999995) : 1 * gx + ((-1) * x2 + ((-36) * x5 + 0)) ≤ 0 := by
  first | assumption | omega | grind
def o_Mo_writeGroup_at_l7_2 : or_T := (26, 9, [(0, (2, 0, 0, [165])), (2, (0, 0, 99999136, [])), (3, (2, 0, 0, [165])), (4, (0, 7, 7, [])), (5, (0, 0, 23, [])), (6, (0, 1, 24, [])), (7, (0, 7, 7, []))], [(7, [7, 4], [0]), (20, [7, 3, 5], [50, 1, 1, 1005, 1002, 1, 2, 1, 0, 3, 1, 2, 4, 7, 4, 3, 2, 1, 5, 0, 243, 1, 2]), (7, [5, 6], [2]), (20, [6, 3], [30, 0, 1, 0, 0, -1, 3, 2005000]), (20, [6, 3], [30, 0, -1, 0, 0, 1, 3, 2005000]), (20, [3, 2, 5], [30, 0, 1, 1, 170, -1, 0, 0, -36, 0, 0]), (24, [0, 3], [])], [], [(0, 0, 99999995, [])], [(20, [3, 9], [30, 0, 1, 1, 170, -1, 0, 0]), (23, [9, 2, 5], [0, 1, -1, -36])], [], [(5, 6, -4294967296, -1)])
theorem oo_Mo_writeGroup_at_l7_2 {kA : Nat → ClassId} : or_ok PRD kA GG o_Mo_writeGroup_at_l7_2 := by
  refine or_mk fun A ta ws vs hD hth hl => ?_
  intro t0 r0 t2 k2 t3 r3 t4 k4 t5 k5 t6 k6 t7 k7 d0 f0 f1 f2 f3 f4 f5 f6
  replace f0 := shm_37 f0
  replace f1 := shm_597 f1
  replace f2 := shm_6 f2
  replace f3 := shm_126 f3
  replace f4 := shm_127 f4
  replace f5 := shm_2035 f5
  replace f6 := shm_5 f6
  have q3 : n_v vs 3 = n_v vs 0 := f6.symm
  simp only [q3] at f1 f3 f4 f5
  have cr_0_2 := fdq_10 hD hth r0
  have br_0_2_F5_0_0 : w_ei ws (w_ar ws (n_v vs 0) 2) (w_fi ws (n_v vs 0) 5 + 0) = w_el ws (w_ar ws (n_v vs 0) 2) (w_fi ws (n_v vs 0) 5 + 0).toNat := rfl
  have kz_0_170 := fdq_11 hD hth r0
  have kv0 := fdq_11 hD hth r0
  obtain ⟨x, ex, hx⟩ := iv_ex (ta := ta) (lo := 0) (hi := 99999995) (z := w_fi ws (n_v vs 0) 170) (by omega) (by omega) (by omega) (by omega)
  have ex2 : v_iv (Value.int x) = w_fi ws (n_v vs 0) 170 := ex
  have ex3 : 0 ≤ v_iv (Value.int x) ∧ v_iv (Value.int x) ≤ 99999995 := tv_rng hx
  have e_2 : n_v (vs ++ [Value.int x]) 2 = n_v vs 2 := n_v_old (by rw [hl]; decide)
  have e_3 : n_v (vs ++ [Value.int x]) 3 = n_v vs 3 := n_v_old (by rw [hl]; decide)
  have e_5 : n_v (vs ++ [Value.int x]) 5 = n_v vs 5 := n_v_old (by rw [hl]; decide)
  have e_9 : n_v (vs ++ [Value.int x]) 9 = Value.int x := n_v_new hl
  have nf0 : fc_1 PRD (20, [3, 9], [30, 0, 1, 1, 170, -1, 0, 0]) ws (vs ++ [Value.int x]) := by
    refine ⟨nf_inA hl rfl, sgq_131 ?_⟩
    · show 1 * w_fi ws (n_v (vs ++ [Value.int x]) 3) 170 + ((-1) * v_iv (n_v (vs ++ [Value.int x]) 9) + 0) ≤ 0
      simp only [e_3, e_9, q3]
      exact vc_Mo_writeGroup_at_l7_2_0 (v_iv (n_v vs 2)) (v_iv (n_v vs 4)) (v_iv (n_v vs 5)) (v_iv (n_v vs 6)) (v_iv (n_v vs 7)) (w_ei ws (w_ar ws (n_v vs 0) 2)) (w_fi ws (n_v vs 0) 5) (w_fi ws (n_v vs 0) 170) (v_iv (Value.int x)) k2 k4 k5 k6 k7 d0 f0 f1 f2 f3 f4 f5 kz_0_170 ex2 ex3
  have nf1 : fc_1 PRD (23, [9, 2, 5], [0, 1, -1, -36]) ws (vs ++ [Value.int x]) := by
    refine ⟨nf_inA hl rfl, sgq_2037 ?_⟩
    · show 1 * v_iv (n_v (vs ++ [Value.int x]) 9) + ((-1) * v_iv (n_v (vs ++ [Value.int x]) 2) + ((-36) * v_iv (n_v (vs ++ [Value.int x]) 5) + 0)) ≤ 0
      simp only [e_2, e_5, e_9]
      exact vc_Mo_writeGroup_at_l7_2_1 (v_iv (n_v vs 2)) (v_iv (n_v vs 4)) (v_iv (n_v vs 5)) (v_iv (n_v vs 6)) (v_iv (n_v vs 7)) (w_ei ws (w_ar ws (n_v vs 0) 2)) (w_fi ws (n_v vs 0) 5) (w_fi ws (n_v vs 0) 170) (v_iv (Value.int x)) k2 k4 k5 k6 k7 d0 f0 f1 f2 f3 f4 f5 kz_0_170 ex2 ex3
  exact ⟨(fun _ h => (by cases h)), [Value.int x], ag_one hx, List.forall_mem_cons.mpr ⟨⟨show (20 : Nat) < 100 from by decide, nf0⟩, List.forall_mem_cons.mpr ⟨⟨show (23 : Nat) < 100 from by decide, nf1⟩, (fun _ h => (by cases h))⟩⟩, (fun _ h => (by cases h))⟩
set_option maxHeartbeats 4000000 in
theorem vc_Mo_writeGroup_at_l7_3_0 (x2 : Int) (x4 : Int) (x5 : Int) (x6 : Int) (x7 : Int) (x9 : Int) (all_0 : Int → Int) (r_0 : Int) (texts_0 : Int) (gx : Int) (k2 : 0 ≤ x2 ∧ x2 ≤ 99999136) (k4 : 7 ≤ x4 ∧ x4 ≤ 7) (k5 : 0 ≤ x5 ∧ x5 ≤ 23) (k6 : 1 ≤ x6 ∧ x6 ≤ 24) (k7 : 7 ≤ x7 ∧ x7 ≤ 7) (k9 : 0 ≤ x9 ∧ x9 ≤ 99999995) (d0 : x6 + (-4294967296) ≤ x5 ∧ x5 ≤ x6 + (-1)) (f0 : 1 * x9 + ((-1) * x2 + ((-36) * x5 + 0)) ≤ 0) (f1 : x7 = all_0 (((r_0 + 243) + x5))) (f2 : 1 * x6 + ((-1) * all_0 (r_0 + 0) + 0) ≤ 0) (f3 : (-1) * x6 + (1 * all_0 (r_0 + 0) + 0) ≤ 0) (f5 : 1 * texts_0 + ((-1) * x9 + 0) ≤ 5) (f7 : 1 * x9 + ((-1) * x2 + ((-36) * x5 + 0)) ≤ 0) (f8 : x7 = x4) (f9 : x5 < x6) (kz_0_170 : 0 ≤ texts_0 ∧ texts_0 ≤ 100000000) (ex2 : gx = texts_0) (ex3 : 0 ≤ gx ∧ gx ≤ 99999992) : 1 * texts_0 + ((-1) * gx + 0) ≤ 0 := by
  first | assumption | omega | grind
set_option maxHeartbeats 4000000 in
theorem vc_Mo_writeGroup_at_l7_3_1 (x2 : Int) (x4 : Int) (x5 : Int) (x6 : Int) (x7 : Int) (x9 : Int) (all_0 : Int → Int) (r_0 : Int) (texts_0 : Int) (gx : Int) (k2 : 0 ≤ x2 ∧ x2 ≤ 99999136) (k4 : 7 ≤ x4 ∧ x4 ≤ 7) (k5 : 0 ≤ x5 ∧ x5 ≤ 23) (k6 : 1 ≤ x6 ∧ x6 ≤ 24) (k7 : 7 ≤ x7 ∧ x7 ≤ 7) (k9 : 0 ≤ x9 ∧ x9 ≤ 99999995) (d0 : x6 + (-4294967296) ≤ x5 ∧ x5 ≤ x6 + (-1)) (f0 : 1 * x9 + ((-1) * x2 + ((-36) * x5 + 0)) ≤ 0) (f1 : x7 = all_0 (((r_0 + 243) + x5))) (f2 : 1 * x6 + ((-1) * all_0 (r_0 + 0) + 0) ≤ 0) (f3 : (-1) * x6 + (1 * all_0 (r_0 + 0) + 0) ≤ 0) (f5 : 1 * texts_0 + ((-1) * x9 + 0) ≤ 5) (f7 : 1 * x9 + ((-1) * x2 + ((-36) * x5 + 0)) ≤ 0) (f8 : x7 = x4) (f9 : x5 < x6) (kz_0_170 : 0 ≤ texts_0 ∧ texts_0 ≤ 100000000) (ex2 : gx = texts_0) (ex3 : 0 ≤ gx ∧ gx ≤ 99999992) : 1 * gx + ((-1) * x2 + ((-36) * x5 + 0)) ≤ 5 := by
  first | assumption | omega | grind
def o_Mo_writeGroup_at_l7_3 : or_T := (31, 10, [(0, (2, 0, 0, [165])), (2, (0, 0, 99999136, [])), (3, (2, 0, 0, [165])), (4, (0, 7, 7, [])), (5, (0, 0, 23, [])), (6, (0, 1, 24, [])), (7, (0, 7, 7, [])), (9, (0, 0, 99999995, []))], [(23, [9, 2, 5], [0, 1, -1, -36]), (20, [7, 3, 5], [50, 1, 1, 1005, 1002, 1, 2, 1, 0, 3, 1, 2, 4, 7, 4, 3, 2, 1, 5, 0, 243, 1, 2]), (20, [6, 3], [30, 0, 1, 0, 0, -1, 3, 2005000]), (20, [6, 3], [30, 0, -1, 0, 0, 1, 3, 2005000]), (24, [0, 3], []), (20, [3, 9], [30, 5, 1, 1, 170, -1, 0, 0]), (102, [9], [7770675568902916283677847627294075626569627356208558085007249638955617140820833992704, 165170]), (23, [9, 2, 5], [0, 1, -1, -36]), (7, [7, 4], [0]), (7, [5, 6], [2])], [], [(0, 0, 99999992, [])], [(20, [3, 10], [30, 0, 1, 1, 170, -1, 0, 0]), (23, [10, 2, 5], [5, 1, -1, -36])], [], [(5, 6, -4294967296, -1)])
theorem oo_Mo_writeGroup_at_l7_3 {kA : Nat → ClassId} : or_ok PRD kA GG o_Mo_writeGroup_at_l7_3 := by
  refine or_mk fun A ta ws vs hD hth hl => ?_
  intro t0 r0 t2 k2 t3 r3 t4 k4 t5 k5 t6 k6 t7 k7 t9 k9 d0 f0 f1 f2 f3 f4 f5 ta1 w1 le1 s1 f7 f8 f9
  replace f0 := shm_2037 f0
  replace f1 := shm_597 f1
  replace f2 := shm_126 f2
  replace f3 := shm_127 f3
  replace f4 := shm_5 f4
  replace f5 := shm_208 f5
  replace f7 := shm_2037 f7
  replace f8 := shm_37 f8
  replace f9 := shm_6 f9
  have q3 : n_v vs 3 = n_v vs 0 := f4.symm
  simp only [q3] at f1 f2 f3 f5
  have cr_0_2 := fdq_10 hD hth r0
  have br_0_2_F5_0_0 : w_ei ws (w_ar ws (n_v vs 0) 2) (w_fi ws (n_v vs 0) 5 + 0) = w_el ws (w_ar ws (n_v vs 0) 2) (w_fi ws (n_v vs 0) 5 + 0).toNat := rfl
  have kz_0_170 := fdq_11 hD hth r0
  have kv0 := fdq_11 hD hth r0
  obtain ⟨x, ex, hx⟩ := iv_ex (ta := ta) (lo := 0) (hi := 99999992) (z := w_fi ws (n_v vs 0) 170) (by omega) (by omega) (by omega) (by omega)
  have ex2 : v_iv (Value.int x) = w_fi ws (n_v vs 0) 170 := ex
  have ex3 : 0 ≤ v_iv (Value.int x) ∧ v_iv (Value.int x) ≤ 99999992 := tv_rng hx
  have e_2 : n_v (vs ++ [Value.int x]) 2 = n_v vs 2 := n_v_old (by rw [hl]; decide)
  have e_3 : n_v (vs ++ [Value.int x]) 3 = n_v vs 3 := n_v_old (by rw [hl]; decide)
  have e_5 : n_v (vs ++ [Value.int x]) 5 = n_v vs 5 := n_v_old (by rw [hl]; decide)
  have e_10 : n_v (vs ++ [Value.int x]) 10 = Value.int x := n_v_new hl
  have nf0 : fc_1 PRD (20, [3, 10], [30, 0, 1, 1, 170, -1, 0, 0]) ws (vs ++ [Value.int x]) := by
    refine ⟨nf_inA hl rfl, sgq_131 ?_⟩
    · show 1 * w_fi ws (n_v (vs ++ [Value.int x]) 3) 170 + ((-1) * v_iv (n_v (vs ++ [Value.int x]) 10) + 0) ≤ 0
      simp only [e_3, e_10, q3]
      exact vc_Mo_writeGroup_at_l7_3_0 (v_iv (n_v vs 2)) (v_iv (n_v vs 4)) (v_iv (n_v vs 5)) (v_iv (n_v vs 6)) (v_iv (n_v vs 7)) (v_iv (n_v vs 9)) (w_ei ws (w_ar ws (n_v vs 0) 2)) (w_fi ws (n_v vs 0) 5) (w_fi ws (n_v vs 0) 170) (v_iv (Value.int x)) k2 k4 k5 k6 k7 k9 d0 f0 f1 f2 f3 f5 f7 f8 f9 kz_0_170 ex2 ex3
  have nf1 : fc_1 PRD (23, [10, 2, 5], [5, 1, -1, -36]) ws (vs ++ [Value.int x]) := by
    refine ⟨nf_inA hl rfl, sgq_2038 ?_⟩
    · show 1 * v_iv (n_v (vs ++ [Value.int x]) 10) + ((-1) * v_iv (n_v (vs ++ [Value.int x]) 2) + ((-36) * v_iv (n_v (vs ++ [Value.int x]) 5) + 0)) ≤ 5
      simp only [e_2, e_5, e_10]
      exact vc_Mo_writeGroup_at_l7_3_1 (v_iv (n_v vs 2)) (v_iv (n_v vs 4)) (v_iv (n_v vs 5)) (v_iv (n_v vs 6)) (v_iv (n_v vs 7)) (v_iv (n_v vs 9)) (w_ei ws (w_ar ws (n_v vs 0) 2)) (w_fi ws (n_v vs 0) 5) (w_fi ws (n_v vs 0) 170) (v_iv (Value.int x)) k2 k4 k5 k6 k7 k9 d0 f0 f1 f2 f3 f5 f7 f8 f9 kz_0_170 ex2 ex3
  exact ⟨(fun _ h => (by cases h)), [Value.int x], ag_one hx, List.forall_mem_cons.mpr ⟨⟨show (20 : Nat) < 100 from by decide, nf0⟩, List.forall_mem_cons.mpr ⟨⟨show (23 : Nat) < 100 from by decide, nf1⟩, (fun _ h => (by cases h))⟩⟩, (fun _ h => (by cases h))⟩
set_option maxHeartbeats 4000000 in
theorem vc_Mo_writeGroup_at_l7_4_0 (x2 : Int) (x4 : Int) (x5 : Int) (x6 : Int) (x7 : Int) (x9 : Int) (x10 : Int) (x11 : Int) (x12 : Int) (all_0 : Int → Int) (r_0 : Int) (texts_0 : Int) (gx : Int) (k2 : 0 ≤ x2 ∧ x2 ≤ 99999136) (k4 : 7 ≤ x4 ∧ x4 ≤ 7) (k5 : 0 ≤ x5 ∧ x5 ≤ 23) (k6 : 1 ≤ x6 ∧ x6 ≤ 24) (k7 : 7 ≤ x7 ∧ x7 ≤ 7) (k9 : 0 ≤ x9 ∧ x9 ≤ 99999995) (k10 : 0 ≤ x10 ∧ x10 ≤ 99999992) (k11 : 0 ≤ x11 ∧ x11 ≤ 1) (k12 : 1 ≤ x12 ∧ x12 ≤ 1) (d0 : x6 + (-4294967296) ≤ x5 ∧ x5 ≤ x6 + (-1)) (f0 : x11 ≤ x12) (f1 : x11 = all_0 (((r_0 + 219) + x5))) (f2 : 1 * x10 + ((-1) * x2 + ((-36) * x5 + 0)) ≤ 5) (f3 : 1 * x9 + ((-1) * x2 + ((-36) * x5 + 0)) ≤ 0) (f4 : x7 = all_0 (((r_0 + 243) + x5))) (f5 : 1 * x6 + ((-1) * all_0 (r_0 + 0) + 0) ≤ 0) (f6 : (-1) * x6 + (1 * all_0 (r_0 + 0) + 0) ≤ 0) (f8 : 1 * texts_0 + ((-1) * x10 + 0) ≤ 8) (f10 : 1 * x10 + ((-1) * x2 + ((-36) * x5 + 0)) ≤ 5) (f11 : 1 * x9 + ((-1) * x2 + ((-36) * x5 + 0)) ≤ 0) (f13 : 1 * x9 + ((-1) * x2 + ((-36) * x5 + 0)) ≤ 0) (f14 : x7 = x4) (f15 : x5 < x6) (kz_0_170 : 0 ≤ texts_0 ∧ texts_0 ≤ 100000000) (ex2 : gx = texts_0) (ex3 : 0 ≤ gx ∧ gx ≤ 99999998) : 1 * texts_0 + ((-1) * gx + 0) ≤ 0 := by
  first | assumption | omega | grind
set_option maxHeartbeats 4000000 in
theorem vc_Mo_writeGroup_at_l7_4_1 (x2 : Int) (x4 : Int) (x5 : Int) (x6 : Int) (x7 : Int) (x9 : Int) (x10 : Int) (x11 : Int) (x12 : Int) (all_0 : Int → Int) (r_0 : Int) (texts_0 : Int) (gx : Int) (k2 : 0 ≤ x2 ∧ x2 ≤ 99999136) (k4 : 7 ≤ x4 ∧ x4 ≤ 7) (k5 : 0 ≤ x5 ∧ x5 ≤ 23) (k6 : 1 ≤ x6 ∧ x6 ≤ 24) (k7 : 7 ≤ x7 ∧ x7 ≤ 7) (k9 : 0 ≤ x9 ∧ x9 ≤ 99999995) (k10 : 0 ≤ x10 ∧ x10 ≤ 99999992) (k11 : 0 ≤ x11 ∧ x11 ≤ 1) (k12 : 1 ≤ x12 ∧ x12 ≤ 1) (d0 : x6 + (-4294967296) ≤ x5 ∧ x5 ≤ x6 + (-1)) (f0 : x11 ≤ x12) (f1 : x11 = all_0 (((r_0 + 219) + x5))) (f2 : 1 * x10 + ((-1) * x2 + ((-36) * x5 + 0)) ≤ 5) (f3 : 1 * x9 + ((-1) * x2 + ((-36) * x5 + 0)) ≤ 0) (f4 : x7 = all_0 (((r_0 + 243) + x5))) (f5 : 1 * x6 + ((-1) * all_0 (r_0 + 0) + 0) ≤ 0) (f6 : (-1) * x6 + (1 * all_0 (r_0 + 0) + 0) ≤ 0) (f8 : 1 * texts_0 + ((-1) * x10 + 0) ≤ 8) (f10 : 1 * x10 + ((-1) * x2 + ((-36) * x5 + 0)) ≤ 5) (f11 : 1 * x9 + ((-1) * x2 + ((-36) * x5 + 0)) ≤ 0) (f13 : 1 * x9 + ((-1) * x2 + ((-36) * x5 + 0)) ≤ 0) (f14 : x7 = x4) (f15 : x5 < x6) (kz_0_170 : 0 ≤ texts_0 ∧ texts_0 ≤ 100000000) (ex2 : gx = texts_0) (ex3 : 0 ≤ gx ∧ gx ≤ 99999998) : 1 * gx + ((-1) * x2 + ((-36) * x5 + 0)) ≤ 34 := by
  first | assumption | omega | grind
def o_Mo_writeGroup_at_l7_4 : or_T := (70, 14, [(0, (2, 0, 0, [165])), (2, (0, 0, 99999136, [])), (3, (2, 0, 0, [165])), (4, (0, 7, 7, [])), (5, (0, 0, 23, [])), (6, (0, 1, 24, [])), (7, (0, 7, 7, [])), (9, (0, 0, 99999995, [])), (10, (0, 0, 99999992, [])), (11, (0, 0, 1, [])), (12, (0, 1, 1, []))], [(7, [11, 12], [5]), (20, [11, 3, 5], [50, 1, 1, 1005, 1002, 1, 2, 1, 0, 3, 1, 2, 4, 7, 4, 3, 2, 1, 5, 0, 219, 1, 2]), (23, [10, 2, 5], [5, 1, -1, -36]), (23, [9, 2, 5], [0, 1, -1, -36]), (20, [7, 3, 5], [50, 1, 1, 1005, 1002, 1, 2, 1, 0, 3, 1, 2, 4, 7, 4, 3, 2, 1, 5, 0, 243, 1, 2]), (20, [6, 3], [30, 0, 1, 0, 0, -1, 3, 2005000]), (20, [6, 3], [30, 0, -1, 0, 0, 1, 3, 2005000]), (24, [0, 3], []), (20, [3, 10], [30, 8, 1, 1, 170, -1, 0, 0]), (102, [10], [7770675568902916283677847627294075626569627356208558085007249638955617140820833992704, 165170]), (23, [10, 2, 5], [5, 1, -1, -36]), (23, [9, 2, 5], [0, 1, -1, -36]), (102, [9], [7770675568902916283677847627294075626569627356208558085007249638955617140820833992704, 165170]), (23, [9, 2, 5], [0, 1, -1, -36]), (7, [7, 4], [0]), (7, [5, 6], [2])], [], [(0, 0, 99999998, [])], [(20, [3, 14], [30, 0, 1, 1, 170, -1, 0, 0]), (23, [14, 2, 5], [34, 1, -1, -36])], [], [(5, 6, -4294967296, -1)])
theorem oo_Mo_writeGroup_at_l7_4 {kA : Nat → ClassId} : or_ok PRD kA GG o_Mo_writeGroup_at_l7_4 := by
  refine or_mk fun A ta ws vs hD hth hl => ?_
  intro t0 r0 t2 k2 t3 r3 t4 k4 t5 k5 t6 k6 t7 k7 t9 k9 t10 k10 t11 k11 t12 k12 d0 f0 f1 f2 f3 f4 f5 f6 f7 f8 ta1 w1 le1 s1 f10 f11 ta2 w2 le2 s2 f13 f14 f15
  replace f0 := shm_24 f0
  replace f1 := shm_732 f1
  replace f2 := shm_2038 f2
  replace f3 := shm_2037 f3
  replace f4 := shm_597 f4
  replace f5 := shm_126 f5
  replace f6 := shm_127 f6
  replace f7 := shm_5 f7
  replace f8 := shm_160 f8
  replace f10 := shm_2038 f10
  replace f11 := shm_2037 f11
  replace f13 := shm_2037 f13
  replace f14 := shm_37 f14
  replace f15 := shm_6 f15
  have q3 : n_v vs 3 = n_v vs 0 := f7.symm
  simp only [q3] at f1 f4 f5 f6 f8
  have cr_0_2 := fdq_10 hD hth r0
  have br_0_2_F5_0_0 : w_ei ws (w_ar ws (n_v vs 0) 2) (w_fi ws (n_v vs 0) 5 + 0) = w_el ws (w_ar ws (n_v vs 0) 2) (w_fi ws (n_v vs 0) 5 + 0).toNat := rfl
  have kz_0_170 := fdq_11 hD hth r0
  have kv0 := fdq_11 hD hth r0
  obtain ⟨x, ex, hx⟩ := iv_ex (ta := ta) (lo := 0) (hi := 99999998) (z := w_fi ws (n_v vs 0) 170) (by omega) (by omega) (by omega) (by omega)
  have ex2 : v_iv (Value.int x) = w_fi ws (n_v vs 0) 170 := ex
  have ex3 : 0 ≤ v_iv (Value.int x) ∧ v_iv (Value.int x) ≤ 99999998 := tv_rng hx
  have e_2 : n_v (vs ++ [Value.int x]) 2 = n_v vs 2 := n_v_old (by rw [hl]; decide)
  have e_3 : n_v (vs ++ [Value.int x]) 3 = n_v vs 3 := n_v_old (by rw [hl]; decide)
  have e_5 : n_v (vs ++ [Value.int x]) 5 = n_v vs 5 := n_v_old (by rw [hl]; decide)
  have e_14 : n_v (vs ++ [Value.int x]) 14 = Value.int x := n_v_new hl
  have nf0 : fc_1 PRD (20, [3, 14], [30, 0, 1, 1, 170, -1, 0, 0]) ws (vs ++ [Value.int x]) := by
    refine ⟨nf_inA hl rfl, sgq_131 ?_⟩
    · show 1 * w_fi ws (n_v (vs ++ [Value.int x]) 3) 170 + ((-1) * v_iv (n_v (vs ++ [Value.int x]) 14) + 0) ≤ 0
      simp only [e_3, e_14, q3]
      exact vc_Mo_writeGroup_at_l7_4_0 (v_iv (n_v vs 2)) (v_iv (n_v vs 4)) (v_iv (n_v vs 5)) (v_iv (n_v vs 6)) (v_iv (n_v vs 7)) (v_iv (n_v vs 9)) (v_iv (n_v vs 10)) (v_iv (n_v vs 11)) (v_iv (n_v vs 12)) (w_ei ws (w_ar ws (n_v vs 0) 2)) (w_fi ws (n_v vs 0) 5) (w_fi ws (n_v vs 0) 170) (v_iv (Value.int x)) k2 k4 k5 k6 k7 k9 k10 k11 k12 d0 f0 f1 f2 f3 f4 f5 f6 f8 f10 f11 f13 f14 f15 kz_0_170 ex2 ex3
  have nf1 : fc_1 PRD (23, [14, 2, 5], [34, 1, -1, -36]) ws (vs ++ [Value.int x]) := by
    refine ⟨nf_inA hl rfl, sgq_2039 ?_⟩
    · show 1 * v_iv (n_v (vs ++ [Value.int x]) 14) + ((-1) * v_iv (n_v (vs ++ [Value.int x]) 2) + ((-36) * v_iv (n_v (vs ++ [Value.int x]) 5) + 0)) ≤ 34
      simp only [e_2, e_5, e_14]
      exact vc_Mo_writeGroup_at_l7_4_1 (v_iv (n_v vs 2)) (v_iv (n_v vs 4)) (v_iv (n_v vs 5)) (v_iv (n_v vs 6)) (v_iv (n_v vs 7)) (v_iv (n_v vs 9)) (v_iv (n_v vs 10)) (v_iv (n_v vs 11)) (v_iv (n_v vs 12)) (w_ei ws (w_ar ws (n_v vs 0) 2)) (w_fi ws (n_v vs 0) 5) (w_fi ws (n_v vs 0) 170) (v_iv (Value.int x)) k2 k4 k5 k6 k7 k9 k10 k11 k12 d0 f0 f1 f2 f3 f4 f5 f6 f8 f10 f11 f13 f14 f15 kz_0_170 ex2 ex3
  exact ⟨(fun _ h => (by cases h)), [Value.int x], ag_one hx, List.forall_mem_cons.mpr ⟨⟨show (20 : Nat) < 100 from by decide, nf0⟩, List.forall_mem_cons.mpr ⟨⟨show (23 : Nat) < 100 from by decide, nf1⟩, (fun _ h => (by cases h))⟩⟩, (fun _ h => (by cases h))⟩
set_option maxHeartbeats 4000000 in
theorem vc_Mo_writeGroup_at_l7_5_0 (x2 : Int) (x4 : Int) (x5 : Int) (x6 : Int) (x7 : Int) (x9 : Int) (x10 : Int) (x11 : Int) (x12 : Int) (x14 : Int) (x15 : Int) (all_0 : Int → Int) (r_0 : Int) (texts_0 : Int) (k2 : 0 ≤ x2 ∧ x2 ≤ 99999136) (k4 : 7 ≤ x4 ∧ x4 ≤ 7) (k5 : 0 ≤ x5 ∧ x5 ≤ 23) (k6 : 1 ≤ x6 ∧ x6 ≤ 24) (k7 : 7 ≤ x7 ∧ x7 ≤ 7) (k9 : 0 ≤ x9 ∧ x9 ≤ 99999995) (k10 : 0 ≤ x10 ∧ x10 ≤ 99999992) (k11 : 0 ≤ x11 ∧ x11 ≤ 1) (k12 : 1 ≤ x12 ∧ x12 ≤ 1) (k14 : 0 ≤ x14 ∧ x14 ≤ 99999998) (k15 : 1 ≤ x15 ∧ x15 ≤ 24) (d0 : x5 + 1 ≤ x15 ∧ x15 ≤ x5 + 1) (d1 : x6 + (-4294967296) ≤ x15 ∧ x15 ≤ x6 + 0) (d2 : x6 + (-4294967296) ≤ x5 ∧ x5 ≤ x6 + (-1)) (f0 : x15 = x5 + 1) (f1 : 1 * x14 + ((-1) * x2 + ((-36) * x5 + 0)) ≤ 34) (f2 : x11 = all_0 (((r_0 + 219) + x5))) (f3 : 1 * x10 + ((-1) * x2 + ((-36) * x5 + 0)) ≤ 5) (f4 : 1 * x9 + ((-1) * x2 + ((-36) * x5 + 0)) ≤ 0) (f5 : x7 = all_0 (((r_0 + 243) + x5))) (f6 : 1 * x6 + ((-1) * all_0 (r_0 + 0) + 0) ≤ 0) (f7 : (-1) * x6 + (1 * all_0 (r_0 + 0) + 0) ≤ 0) (f9 : 1 * texts_0 + ((-1) * x14 + 0) ≤ 2) (f11 : 1 * x14 + ((-1) * x2 + ((-36) * x5 + 0)) ≤ 34) (f12 : x11 ≤ x12) (f13 : 1 * x10 + ((-1) * x2 + ((-36) * x5 + 0)) ≤ 5) (f14 : 1 * x9 + ((-1) * x2 + ((-36) * x5 + 0)) ≤ 0) (f16 : 1 * x10 + ((-1) * x2 + ((-36) * x5 + 0)) ≤ 5) (f17 : 1 * x9 + ((-1) * x2 + ((-36) * x5 + 0)) ≤ 0) (f19 : 1 * x9 + ((-1) * x2 + ((-36) * x5 + 0)) ≤ 0) (f20 : x7 = x4) (f21 : x5 < x6) (kz_0_170 : 0 ≤ texts_0 ∧ texts_0 ≤ 100000000) : 1 * texts_0 + ((-1) * x2 + ((-36) * x15 + 0)) ≤ 0 := by
  first | assumption | omega | grind
def o_Mo_writeGroup_at_l7_5 : or_T := (2, 16, [(0, (2, 0, 0, [165])), (2, (0, 0, 99999136, [])), (4, (0, 7, 7, [])), (5, (0, 0, 23, [])), (6, (0, 1, 24, [])), (7, (0, 7, 7, [])), (9, (0, 0, 99999995, [])), (10, (0, 0, 99999992, [])), (11, (0, 0, 1, [])), (12, (0, 1, 1, [])), (14, (0, 0, 99999998, [])), (15, (0, 1, 24, []))], [(6, [15, 5], [1]), (23, [14, 2, 5], [34, 1, -1, -36]), (20, [11, 3, 5], [50, 1, 1, 1005, 1002, 1, 2, 1, 0, 3, 1, 2, 4, 7, 4, 3, 2, 1, 5, 0, 219, 1, 2]), (23, [10, 2, 5], [5, 1, -1, -36]), (23, [9, 2, 5], [0, 1, -1, -36]), (20, [7, 3, 5], [50, 1, 1, 1005, 1002, 1, 2, 1, 0, 3, 1, 2, 4, 7, 4, 3, 2, 1, 5, 0, 243, 1, 2]), (20, [6, 3], [30, 0, 1, 0, 0, -1, 3, 2005000]), (20, [6, 3], [30, 0, -1, 0, 0, 1, 3, 2005000]), (24, [0, 3], []), (20, [3, 14], [30, 2, 1, 1, 170, -1, 0, 0]), (102, [14], [7770675568902916283677847627294075626569627356208558085007249638955617140820833992704, 165170]), (23, [14, 2, 5], [34, 1, -1, -36]), (7, [11, 12], [5]), (23, [10, 2, 5], [5, 1, -1, -36]), (23, [9, 2, 5], [0, 1, -1, -36]), (102, [10], [7770675568902916283677847627294075626569627356208558085007249638955617140820833992704, 165170]), (23, [10, 2, 5], [5, 1, -1, -36]), (23, [9, 2, 5], [0, 1, -1, -36]), (102, [9], [7770675568902916283677847627294075626569627356208558085007249638955617140820833992704, 165170]), (23, [9, 2, 5], [0, 1, -1, -36]), (7, [7, 4], [0]), (7, [5, 6], [2])], [], [], [(20, [3, 2, 15], [30, 0, 1, 1, 170, -1, 0, 0, -36, 0, 0])], [], [(15, 5, 1, 1), (15, 6, -4294967296, 0), (5, 6, -4294967296, -1)])
theorem oo_Mo_writeGroup_at_l7_5 {kA : Nat → ClassId} : or_ok PRD kA GG o_Mo_writeGroup_at_l7_5 := by
  refine or_mk fun A ta ws vs hD hth hl => ?_
  intro t0 r0 t2 k2 t4 k4 t5 k5 t6 k6 t7 k7 t9 k9 t10 k10 t11 k11 t12 k12 t14 k14 t15 k15 d0 d1 d2 f0 f1 f2 f3 f4 f5 f6 f7 f8 f9 ta1 w1 le1 s1 f11 f12 f13 f14 ta2 w2 le2 s2 f16 f17 ta3 w3 le3 s3 f19 f20 f21
  replace f0 := shm_4 f0
  replace f1 := shm_2039 f1
  replace f2 := shm_732 f2
  replace f3 := shm_2038 f3
  replace f4 := shm_2037 f4
  replace f5 := shm_597 f5
  replace f6 := shm_126 f6
  replace f7 := shm_127 f7
  replace f8 := shm_5 f8
  replace f9 := shm_210 f9
  replace f11 := shm_2039 f11
  replace f12 := shm_24 f12
  replace f13 := shm_2038 f13
  replace f14 := shm_2037 f14
  replace f16 := shm_2038 f16
  replace f17 := shm_2037 f17
  replace f19 := shm_2037 f19
  replace f20 := shm_37 f20
  replace f21 := shm_6 f21
  have q3 : n_v vs 3 = n_v vs 0 := f8.symm
  simp only [q3] at f2 f5 f6 f7 f9
  have kz_0_170 := fdq_11 hD hth r0
  have nf0 : fc_1 PRD (20, [3, 2, 15], [30, 0, 1, 1, 170, -1, 0, 0, -36, 0, 0]) ws (vs) := by
    refine ⟨nf_in hl rfl, sgq_2035 ?_⟩
    · show 1 * w_fi ws (n_v vs 3) 170 + ((-1) * v_iv (n_v vs 2) + ((-36) * v_iv (n_v vs 15) + 0)) ≤ 0
      rw [q3]
      exact vc_Mo_writeGroup_at_l7_5_0 (v_iv (n_v vs 2)) (v_iv (n_v vs 4)) (v_iv (n_v vs 5)) (v_iv (n_v vs 6)) (v_iv (n_v vs 7)) (v_iv (n_v vs 9)) (v_iv (n_v vs 10)) (v_iv (n_v vs 11)) (v_iv (n_v vs 12)) (v_iv (n_v vs 14)) (v_iv (n_v vs 15)) (w_ei ws (w_ar ws (n_v vs 0) 2)) (w_fi ws (n_v vs 0) 5) (w_fi ws (n_v vs 0) 170) k2 k4 k5 k6 k7 k9 k10 k11 k12 k14 k15 d0 d1 d2 f0 f1 f2 f3 f4 f5 f6 f7 f9 f11 f12 f13 f14 f16 f17 f19 f20 f21 kz_0_170
  refine ⟨(fun _ h => (by cases h)), [], trivial, ?_, (fun _ h => (by cases h))⟩
  rw [List.append_nil]
  exact List.forall_mem_cons.mpr ⟨⟨show (20 : Nat) < 100 from by decide, nf0⟩, (fun _ h => (by cases h))⟩
set_option maxHeartbeats 4000000 in
theorem vc_Mo_writeGroup_at_l7_6_0 (x2 : Int) (x4 : Int) (x5 : Int) (x6 : Int) (x7 : Int) (x9 : Int) (x10 : Int) (x11 : Int) (x12 : Int) (all_0 : Int → Int) (r_0 : Int) (texts_0 : Int) (gx : Int) (k2 : 0 ≤ x2 ∧ x2 ≤ 99999136) (k4 : 7 ≤ x4 ∧ x4 ≤ 7) (k5 : 0 ≤ x5 ∧ x5 ≤ 23) (k6 : 1 ≤ x6 ∧ x6 ≤ 24) (k7 : 7 ≤ x7 ∧ x7 ≤ 7) (k9 : 0 ≤ x9 ∧ x9 ≤ 99999995) (k10 : 0 ≤ x10 ∧ x10 ≤ 99999992) (k11 : 2 ≤ x11 ∧ x11 ≤ 99) (k12 : 1 ≤ x12 ∧ x12 ≤ 1) (d0 : x6 + (-4294967296) ≤ x5 ∧ x5 ≤ x6 + (-1)) (f0 : x12 < x11) (f1 : x11 = all_0 (((r_0 + 219) + x5))) (f2 : 1 * x10 + ((-1) * x2 + ((-36) * x5 + 0)) ≤ 5) (f3 : 1 * x9 + ((-1) * x2 + ((-36) * x5 + 0)) ≤ 0) (f4 : x7 = all_0 (((r_0 + 243) + x5))) (f5 : 1 * x6 + ((-1) * all_0 (r_0 + 0) + 0) ≤ 0) (f6 : (-1) * x6 + (1 * all_0 (r_0 + 0) + 0) ≤ 0) (f8 : 1 * texts_0 + ((-1) * x10 + 0) ≤ 8) (f10 : 1 * x10 + ((-1) * x2 + ((-36) * x5 + 0)) ≤ 5) (f11 : 1 * x9 + ((-1) * x2 + ((-36) * x5 + 0)) ≤ 0) (f13 : 1 * x9 + ((-1) * x2 + ((-36) * x5 + 0)) ≤ 0) (f14 : x7 = x4) (f15 : x5 < x6) (kz_0_170 : 0 ≤ texts_0 ∧ texts_0 ≤ 100000000) (ex2 : gx = texts_0) (ex3 : 0 ≤ gx ∧ gx ≤ 99999993) : 1 * texts_0 + ((-1) * gx + 0) ≤ 0 := by
  first | assumption | omega | grind
set_option maxHeartbeats 4000000 in
theorem vc_Mo_writeGroup_at_l7_6_1 (x2 : Int) (x4 : Int) (x5 : Int) (x6 : Int) (x7 : Int) (x9 : Int) (x10 : Int) (x11 : Int) (x12 : Int) (all_0 : Int → Int) (r_0 : Int) (texts_0 : Int) (gx : Int) (k2 : 0 ≤ x2 ∧ x2 ≤ 99999136) (k4 : 7 ≤ x4 ∧ x4 ≤ 7) (k5 : 0 ≤ x5 ∧ x5 ≤ 23) (k6 : 1 ≤ x6 ∧ x6 ≤ 24) (k7 : 7 ≤ x7 ∧ x7 ≤ 7) (k9 : 0 ≤ x9 ∧ x9 ≤ 99999995) (k10 : 0 ≤ x10 ∧ x10 ≤ 99999992) (k11 : 2 ≤ x11 ∧ x11 ≤ 99) (k12 : 1 ≤ x12 ∧ x12 ≤ 1) (d0 : x6 + (-4294967296) ≤ x5 ∧ x5 ≤ x6 + (-1)) (f0 : x12 < x11) (f1 : x11 = all_0 (((r_0 + 219) + x5))) (f2 : 1 * x10 + ((-1) * x2 + ((-36) * x5 + 0)) ≤ 5) (f3 : 1 * x9 + ((-1) * x2 + ((-36) * x5 + 0)) ≤ 0) (f4 : x7 = all_0 (((r_0 + 243) + x5))) (f5 : 1 * x6 + ((-1) * all_0 (r_0 + 0) + 0) ≤ 0) (f6 : (-1) * x6 + (1 * all_0 (r_0 + 0) + 0) ≤ 0) (f8 : 1 * texts_0 + ((-1) * x10 + 0) ≤ 8) (f10 : 1 * x10 + ((-1) * x2 + ((-36) * x5 + 0)) ≤ 5) (f11 : 1 * x9 + ((-1) * x2 + ((-36) * x5 + 0)) ≤ 0) (f13 : 1 * x9 + ((-1) * x2 + ((-36) * x5 + 0)) ≤ 0) (f14 : x7 = x4) (f15 : x5 < x6) (kz_0_170 : 0 ≤ texts_0 ∧ texts_0 ≤ 100000000) (ex2 : gx = texts_0) (ex3 : 0 ≤ gx ∧ gx ≤ 99999993) : 1 * gx + ((-1) * x2 + ((-36) * x5 + 0)) ≤ 13 := by
  first | assumption | omega | grind
def o_Mo_writeGroup_at_l7_6 : or_T := (47, 14, [(0, (2, 0, 0, [165])), (2, (0, 0, 99999136, [])), (3, (2, 0, 0, [165])), (4, (0, 7, 7, [])), (5, (0, 0, 23, [])), (6, (0, 1, 24, [])), (7, (0, 7, 7, [])), (9, (0, 0, 99999995, [])), (10, (0, 0, 99999992, [])), (11, (0, 2, 99, [])), (12, (0, 1, 1, []))], [(7, [11, 12], [4]), (20, [11, 3, 5], [50, 1, 1, 1005, 1002, 1, 2, 1, 0, 3, 1, 2, 4, 7, 4, 3, 2, 1, 5, 0, 219, 1, 2]), (23, [10, 2, 5], [5, 1, -1, -36]), (23, [9, 2, 5], [0, 1, -1, -36]), (20, [7, 3, 5], [50, 1, 1, 1005, 1002, 1, 2, 1, 0, 3, 1, 2, 4, 7, 4, 3, 2, 1, 5, 0, 243, 1, 2]), (20, [6, 3], [30, 0, 1, 0, 0, -1, 3, 2005000]), (20, [6, 3], [30, 0, -1, 0, 0, 1, 3, 2005000]), (24, [0, 3], []), (20, [3, 10], [30, 8, 1, 1, 170, -1, 0, 0]), (102, [10], [7770675568902916283677847627294075626569627356208558085007249638955617140820833992704, 165170]), (23, [10, 2, 5], [5, 1, -1, -36]), (23, [9, 2, 5], [0, 1, -1, -36]), (102, [9], [7770675568902916283677847627294075626569627356208558085007249638955617140820833992704, 165170]), (23, [9, 2, 5], [0, 1, -1, -36]), (7, [7, 4], [0]), (7, [5, 6], [2])], [], [(0, 0, 99999993, [])], [(20, [3, 14], [30, 0, 1, 1, 170, -1, 0, 0]), (23, [14, 2, 5], [13, 1, -1, -36])], [], [(5, 6, -4294967296, -1)])
theorem oo_Mo_writeGroup_at_l7_6 {kA : Nat → ClassId} : or_ok PRD kA GG o_Mo_writeGroup_at_l7_6 := by
  refine or_mk fun A ta ws vs hD hth hl => ?_
  intro t0 r0 t2 k2 t3 r3 t4 k4 t5 k5 t6 k6 t7 k7 t9 k9 t10 k10 t11 k11 t12 k12 d0 f0 f1 f2 f3 f4 f5 f6 f7 f8 ta1 w1 le1 s1 f10 f11 ta2 w2 le2 s2 f13 f14 f15
  replace f0 := shm_21 f0
  replace f1 := shm_732 f1
  replace f2 := shm_2038 f2
  replace f3 := shm_2037 f3
  replace f4 := shm_597 f4
  replace f5 := shm_126 f5
  replace f6 := shm_127 f6
  replace f7 := shm_5 f7
  replace f8 := shm_160 f8
  replace f10 := shm_2038 f10
  replace f11 := shm_2037 f11
  replace f13 := shm_2037 f13
  replace f14 := shm_37 f14
  replace f15 := shm_6 f15
  have q3 : n_v vs 3 = n_v vs 0 := f7.symm
  simp only [q3] at f1 f4 f5 f6 f8
  have cr_0_2 := fdq_10 hD hth r0
  have br_0_2_F5_0_0 : w_ei ws (w_ar ws (n_v vs 0) 2) (w_fi ws (n_v vs 0) 5 + 0) = w_el ws (w_ar ws (n_v vs 0) 2) (w_fi ws (n_v vs 0) 5 + 0).toNat := rfl
  have kz_0_170 := fdq_11 hD hth r0
  have kv0 := fdq_11 hD hth r0
  obtain ⟨x, ex, hx⟩ := iv_ex (ta := ta) (lo := 0) (hi := 99999993) (z := w_fi ws (n_v vs 0) 170) (by omega) (by omega) (by omega) (by omega)
  have ex2 : v_iv (Value.int x) = w_fi ws (n_v vs 0) 170 := ex
  have ex3 : 0 ≤ v_iv (Value.int x) ∧ v_iv (Value.int x) ≤ 99999993 := tv_rng hx
  have e_2 : n_v (vs ++ [Value.int x]) 2 = n_v vs 2 := n_v_old (by rw [hl]; decide)
  have e_3 : n_v (vs ++ [Value.int x]) 3 = n_v vs 3 := n_v_old (by rw [hl]; decide)
  have e_5 : n_v (vs ++ [Value.int x]) 5 = n_v vs 5 := n_v_old (by rw [hl]; decide)
  have e_14 : n_v (vs ++ [Value.int x]) 14 = Value.int x := n_v_new hl
  have nf0 : fc_1 PRD (20, [3, 14], [30, 0, 1, 1, 170, -1, 0, 0]) ws (vs ++ [Value.int x]) := by
    refine ⟨nf_inA hl rfl, sgq_131 ?_⟩
    · show 1 * w_fi ws (n_v (vs ++ [Value.int x]) 3) 170 + ((-1) * v_iv (n_v (vs ++ [Value.int x]) 14) + 0) ≤ 0
      simp only [e_3, e_14, q3]
      exact vc_Mo_writeGroup_at_l7_6_0 (v_iv (n_v vs 2)) (v_iv (n_v vs 4)) (v_iv (n_v vs 5)) (v_iv (n_v vs 6)) (v_iv (n_v vs 7)) (v_iv (n_v vs 9)) (v_iv (n_v vs 10)) (v_iv (n_v vs 11)) (v_iv (n_v vs 12)) (w_ei ws (w_ar ws (n_v vs 0) 2)) (w_fi ws (n_v vs 0) 5) (w_fi ws (n_v vs 0) 170) (v_iv (Value.int x)) k2 k4 k5 k6 k7 k9 k10 k11 k12 d0 f0 f1 f2 f3 f4 f5 f6 f8 f10 f11 f13 f14 f15 kz_0_170 ex2 ex3
  have nf1 : fc_1 PRD (23, [14, 2, 5], [13, 1, -1, -36]) ws (vs ++ [Value.int x]) := by
    refine ⟨nf_inA hl rfl, sgq_2040 ?_⟩
    · show 1 * v_iv (n_v (vs ++ [Value.int x]) 14) + ((-1) * v_iv (n_v (vs ++ [Value.int x]) 2) + ((-36) * v_iv (n_v (vs ++ [Value.int x]) 5) + 0)) ≤ 13
      simp only [e_2, e_5, e_14]
      exact vc_Mo_writeGroup_at_l7_6_1 (v_iv (n_v vs 2)) (v_iv (n_v vs 4)) (v_iv (n_v vs 5)) (v_iv (n_v vs 6)) (v_iv (n_v vs 7)) (v_iv (n_v vs 9)) (v_iv (n_v vs 10)) (v_iv (n_v vs 11)) (v_iv (n_v vs 12)) (w_ei ws (w_ar ws (n_v vs 0) 2)) (w_fi ws (n_v vs 0) 5) (w_fi ws (n_v vs 0) 170) (v_iv (Value.int x)) k2 k4 k5 k6 k7 k9 k10 k11 k12 d0 f0 f1 f2 f3 f4 f5 f6 f8 f10 f11 f13 f14 f15 kz_0_170 ex2 ex3
  exact ⟨(fun _ h => (by cases h)), [Value.int x], ag_one hx, List.forall_mem_cons.mpr ⟨⟨show (20 : Nat) < 100 from by decide, nf0⟩, List.forall_mem_cons.mpr ⟨⟨show (23 : Nat) < 100 from by decide, nf1⟩, (fun _ h => (by cases h))⟩⟩, (fun _ h => (by cases h))⟩
set_option maxHeartbeats 4000000 in
theorem vc_Mo_writeGroup_at_l7_7_0 (x2 : Int) (x4 : Int) (x5 : Int) (x6 : Int) (x7 : Int) (x9 : Int) (x10 : Int) (x11 : Int) (x12 : Int) (x14 : Int) (x15 : Int) (all_0 : Int → Int) (r_0 : Int) (texts_0 : Int) (gx : Int) (k2 : 0 ≤ x2 ∧ x2 ≤ 99999136) (k4 : 7 ≤ x4 ∧ x4 ≤ 7) (k5 : 0 ≤ x5 ∧ x5 ≤ 23) (k6 : 1 ≤ x6 ∧ x6 ≤ 24) (k7 : 7 ≤ x7 ∧ x7 ≤ 7) (k9 : 0 ≤ x9 ∧ x9 ≤ 99999995) (k10 : 0 ≤ x10 ∧ x10 ≤ 99999992) (k11 : 2 ≤ x11 ∧ x11 ≤ 99) (k12 : 1 ≤ x12 ∧ x12 ≤ 1) (k14 : 0 ≤ x14 ∧ x14 ≤ 99999993) (k15 : 0 ≤ x15 ∧ x15 ≤ 99) (d0 : x6 + (-4294967296) ≤ x5 ∧ x5 ≤ x6 + (-1)) (f0 : x15 = all_0 (((r_0 + 219) + x5))) (f1 : 1 * x14 + ((-1) * x2 + ((-36) * x5 + 0)) ≤ 13) (f2 : x11 = all_0 (((r_0 + 219) + x5))) (f3 : 1 * x10 + ((-1) * x2 + ((-36) * x5 + 0)) ≤ 5) (f4 : 1 * x9 + ((-1) * x2 + ((-36) * x5 + 0)) ≤ 0) (f5 : x7 = all_0 (((r_0 + 243) + x5))) (f6 : 1 * x6 + ((-1) * all_0 (r_0 + 0) + 0) ≤ 0) (f7 : (-1) * x6 + (1 * all_0 (r_0 + 0) + 0) ≤ 0) (f9 : 1 * texts_0 + ((-1) * x14 + 0) ≤ 7) (f11 : 1 * x14 + ((-1) * x2 + ((-36) * x5 + 0)) ≤ 13) (f12 : x12 < x11) (f13 : 1 * x10 + ((-1) * x2 + ((-36) * x5 + 0)) ≤ 5) (f14 : 1 * x9 + ((-1) * x2 + ((-36) * x5 + 0)) ≤ 0) (f16 : 1 * x10 + ((-1) * x2 + ((-36) * x5 + 0)) ≤ 5) (f17 : 1 * x9 + ((-1) * x2 + ((-36) * x5 + 0)) ≤ 0) (f19 : 1 * x9 + ((-1) * x2 + ((-36) * x5 + 0)) ≤ 0) (f20 : x7 = x4) (f21 : x5 < x6) (kz_0_170 : 0 ≤ texts_0 ∧ texts_0 ≤ 100000000) (ex2 : gx = texts_0) (ex3 : 0 ≤ gx ∧ gx ≤ 99999987) : 1 * texts_0 + ((-1) * gx + 0) ≤ 0 := by
  first | assumption | omega | grind
set_option maxHeartbeats 4000000 in
theorem vc_Mo_writeGroup_at_l7_7_1 (x2 : Int) (x4 : Int) (x5 : Int) (x6 : Int) (x7 : Int) (x9 : Int) (x10 : Int) (x11 : Int) (x12 : Int) (x14 : Int) (x15 : Int) (all_0 : Int → Int) (r_0 : Int) (texts_0 : Int) (gx : Int) (k2 : 0 ≤ x2 ∧ x2 ≤ 99999136) (k4 : 7 ≤ x4 ∧ x4 ≤ 7) (k5 : 0 ≤ x5 ∧ x5 ≤ 23) (k6 : 1 ≤ x6 ∧ x6 ≤ 24) (k7 : 7 ≤ x7 ∧ x7 ≤ 7) (k9 : 0 ≤ x9 ∧ x9 ≤ 99999995) (k10 : 0 ≤ x10 ∧ x10 ≤ 99999992) (k11 : 2 ≤ x11 ∧ x11 ≤ 99) (k12 : 1 ≤ x12 ∧ x12 ≤ 1) (k14 : 0 ≤ x14 ∧ x14 ≤ 99999993) (k15 : 0 ≤ x15 ∧ x15 ≤ 99) (d0 : x6 + (-4294967296) ≤ x5 ∧ x5 ≤ x6 + (-1)) (f0 : x15 = all_0 (((r_0 + 219) + x5))) (f1 : 1 * x14 + ((-1) * x2 + ((-36) * x5 + 0)) ≤ 13) (f2 : x11 = all_0 (((r_0 + 219) + x5))) (f3 : 1 * x10 + ((-1) * x2 + ((-36) * x5 + 0)) ≤ 5) (f4 : 1 * x9 + ((-1) * x2 + ((-36) * x5 + 0)) ≤ 0) (f5 : x7 = all_0 (((r_0 + 243) + x5))) (f6 : 1 * x6 + ((-1) * all_0 (r_0 + 0) + 0) ≤ 0) (f7 : (-1) * x6 + (1 * all_0 (r_0 + 0) + 0) ≤ 0) (f9 : 1 * texts_0 + ((-1) * x14 + 0) ≤ 7) (f11 : 1 * x14 + ((-1) * x2 + ((-36) * x5 + 0)) ≤ 13) (f12 : x12 < x11) (f13 : 1 * x10 + ((-1) * x2 + ((-36) * x5 + 0)) ≤ 5) (f14 : 1 * x9 + ((-1) * x2 + ((-36) * x5 + 0)) ≤ 0) (f16 : 1 * x10 + ((-1) * x2 + ((-36) * x5 + 0)) ≤ 5) (f17 : 1 * x9 + ((-1) * x2 + ((-36) * x5 + 0)) ≤ 0) (f19 : 1 * x9 + ((-1) * x2 + ((-36) * x5 + 0)) ≤ 0) (f20 : x7 = x4) (f21 : x5 < x6) (kz_0_170 : 0 ≤ texts_0 ∧ texts_0 ≤ 100000000) (ex2 : gx = texts_0) (ex3 : 0 ≤ gx ∧ gx ≤ 99999987) : 1 * gx + ((-1) * x2 + ((-36) * x5 + 0)) ≤ 20 := by
  first | assumption | omega | grind
def o_Mo_writeGroup_at_l7_7 : or_T := (56, 16, [(0, (2, 0, 0, [165])), (2, (0, 0, 99999136, [])), (3, (2, 0, 0, [165])), (4, (0, 7, 7, [])), (5, (0, 0, 23, [])), (6, (0, 1, 24, [])), (7, (0, 7, 7, [])), (9, (0, 0, 99999995, [])), (10, (0, 0, 99999992, [])), (11, (0, 2, 99, [])), (12, (0, 1, 1, [])), (14, (0, 0, 99999993, [])), (15, (0, 0, 99, []))], [(20, [15, 3, 5], [50, 1, 1, 1005, 1002, 1, 2, 1, 0, 3, 1, 2, 4, 7, 4, 3, 2, 1, 5, 0, 219, 1, 2]), (23, [14, 2, 5], [13, 1, -1, -36]), (20, [11, 3, 5], [50, 1, 1, 1005, 1002, 1, 2, 1, 0, 3, 1, 2, 4, 7, 4, 3, 2, 1, 5, 0, 219, 1, 2]), (23, [10, 2, 5], [5, 1, -1, -36]), (23, [9, 2, 5], [0, 1, -1, -36]), (20, [7, 3, 5], [50, 1, 1, 1005, 1002, 1, 2, 1, 0, 3, 1, 2, 4, 7, 4, 3, 2, 1, 5, 0, 243, 1, 2]), (20, [6, 3], [30, 0, 1, 0, 0, -1, 3, 2005000]), (20, [6, 3], [30, 0, -1, 0, 0, 1, 3, 2005000]), (24, [0, 3], []), (20, [3, 14], [30, 7, 1, 1, 170, -1, 0, 0]), (102, [14], [7770675568902916283677847627294075626569627356208558085007249638955617140820833992704, 165170]), (23, [14, 2, 5], [13, 1, -1, -36]), (7, [11, 12], [4]), (23, [10, 2, 5], [5, 1, -1, -36]), (23, [9, 2, 5], [0, 1, -1, -36]), (102, [10], [7770675568902916283677847627294075626569627356208558085007249638955617140820833992704, 165170]), (23, [10, 2, 5], [5, 1, -1, -36]), (23, [9, 2, 5], [0, 1, -1, -36]), (102, [9], [7770675568902916283677847627294075626569627356208558085007249638955617140820833992704, 165170]), (23, [9, 2, 5], [0, 1, -1, -36]), (7, [7, 4], [0]), (7, [5, 6], [2])], [], [(0, 0, 99999987, [])], [(20, [3, 16], [30, 0, 1, 1, 170, -1, 0, 0]), (23, [16, 2, 5], [20, 1, -1, -36])], [], [(5, 6, -4294967296, -1)])
theorem oo_Mo_writeGroup_at_l7_7 {kA : Nat → ClassId} : or_ok PRD kA GG o_Mo_writeGroup_at_l7_7 := by
  refine or_mk fun A ta ws vs hD hth hl => ?_
  intro t0 r0 t2 k2 t3 r3 t4 k4 t5 k5 t6 k6 t7 k7 t9 k9 t10 k10 t11 k11 t12 k12 t14 k14 t15 k15 d0 f0 f1 f2 f3 f4 f5 f6 f7 f8 f9 ta1 w1 le1 s1 f11 f12 f13 f14 ta2 w2 le2 s2 f16 f17 ta3 w3 le3 s3 f19 f20 f21
  replace f0 := shm_732 f0
  replace f1 := shm_2040 f1
  replace f2 := shm_732 f2
  replace f3 := shm_2038 f3
  replace f4 := shm_2037 f4
  replace f5 := shm_597 f5
  replace f6 := shm_126 f6
  replace f7 := shm_127 f7
  replace f8 := shm_5 f8
  replace f9 := shm_209 f9
  replace f11 := shm_2040 f11
  replace f12 := shm_21 f12
  replace f13 := shm_2038 f13
  replace f14 := shm_2037 f14
  replace f16 := shm_2038 f16
  replace f17 := shm_2037 f17
  replace f19 := shm_2037 f19
  replace f20 := shm_37 f20
  replace f21 := shm_6 f21
  have q3 : n_v vs 3 = n_v vs 0 := f8.symm
  simp only [q3] at f0 f2 f5 f6 f7 f9
  have cr_0_2 := fdq_10 hD hth r0
  have br_0_2_F5_0_0 : w_ei ws (w_ar ws (n_v vs 0) 2) (w_fi ws (n_v vs 0) 5 + 0) = w_el ws (w_ar ws (n_v vs 0) 2) (w_fi ws (n_v vs 0) 5 + 0).toNat := rfl
  have kz_0_170 := fdq_11 hD hth r0
  have kv0 := fdq_11 hD hth r0
  obtain ⟨x, ex, hx⟩ := iv_ex (ta := ta) (lo := 0) (hi := 99999987) (z := w_fi ws (n_v vs 0) 170) (by omega) (by omega) (by omega) (by omega)
  have ex2 : v_iv (Value.int x) = w_fi ws (n_v vs 0) 170 := ex
  have ex3 : 0 ≤ v_iv (Value.int x) ∧ v_iv (Value.int x) ≤ 99999987 := tv_rng hx
  have e_2 : n_v (vs ++ [Value.int x]) 2 = n_v vs 2 := n_v_old (by rw [hl]; decide)
  have e_3 : n_v (vs ++ [Value.int x]) 3 = n_v vs 3 := n_v_old (by rw [hl]; decide)
  have e_5 : n_v (vs ++ [Value.int x]) 5 = n_v vs 5 := n_v_old (by rw [hl]; decide)
  have e_16 : n_v (vs ++ [Value.int x]) 16 = Value.int x := n_v_new hl
  have nf0 : fc_1 PRD (20, [3, 16], [30, 0, 1, 1, 170, -1, 0, 0]) ws (vs ++ [Value.int x]) := by
    refine ⟨nf_inA hl rfl, sgq_131 ?_⟩
    · show 1 * w_fi ws (n_v (vs ++ [Value.int x]) 3) 170 + ((-1) * v_iv (n_v (vs ++ [Value.int x]) 16) + 0) ≤ 0
      simp only [e_3, e_16, q3]
      exact vc_Mo_writeGroup_at_l7_7_0 (v_iv (n_v vs 2)) (v_iv (n_v vs 4)) (v_iv (n_v vs 5)) (v_iv (n_v vs 6)) (v_iv (n_v vs 7)) (v_iv (n_v vs 9)) (v_iv (n_v vs 10)) (v_iv (n_v vs 11)) (v_iv (n_v vs 12)) (v_iv (n_v vs 14)) (v_iv (n_v vs 15)) (w_ei ws (w_ar ws (n_v vs 0) 2)) (w_fi ws (n_v vs 0) 5) (w_fi ws (n_v vs 0) 170) (v_iv (Value.int x)) k2 k4 k5 k6 k7 k9 k10 k11 k12 k14 k15 d0 f0 f1 f2 f3 f4 f5 f6 f7 f9 f11 f12 f13 f14 f16 f17 f19 f20 f21 kz_0_170 ex2 ex3
  have nf1 : fc_1 PRD (23, [16, 2, 5], [20, 1, -1, -36]) ws (vs ++ [Value.int x]) := by
    refine ⟨nf_inA hl rfl, sgq_2041 ?_⟩
    · show 1 * v_iv (n_v (vs ++ [Value.int x]) 16) + ((-1) * v_iv (n_v (vs ++ [Value.int x]) 2) + ((-36) * v_iv (n_v (vs ++ [Value.int x]) 5) + 0)) ≤ 20
      simp only [e_2, e_5, e_16]
      exact vc_Mo_writeGroup_at_l7_7_1 (v_iv (n_v vs 2)) (v_iv (n_v vs 4)) (v_iv (n_v vs 5)) (v_iv (n_v vs 6)) (v_iv (n_v vs 7)) (v_iv (n_v vs 9)) (v_iv (n_v vs 10)) (v_iv (n_v vs 11)) (v_iv (n_v vs 12)) (v_iv (n_v vs 14)) (v_iv (n_v vs 15)) (w_ei ws (w_ar ws (n_v vs 0) 2)) (w_fi ws (n_v vs 0) 5) (w_fi ws (n_v vs 0) 170) (v_iv (Value.int x)) k2 k4 k5 k6 k7 k9 k10 k11 k12 k14 k15 d0 f0 f1 f2 f3 f4 f5 f6 f7 f9 f11 f12 f13 f14 f16 f17 f19 f20 f21 kz_0_170 ex2 ex3
  exact ⟨(fun _ h => (by cases h)), [Value.int x], ag_one hx, List.forall_mem_cons.mpr ⟨⟨show (20 : Nat) < 100 from by decide, nf0⟩, List.forall_mem_cons.mpr ⟨⟨show (23 : Nat) < 100 from by decide, nf1⟩, (fun _ h => (by cases h))⟩⟩, (fun _ h => (by cases h))⟩
set_option maxHeartbeats 4000000 in
theorem vc_Mo_writeGroup_at_l7_8_0 (x2 : Int) (x4 : Int) (x5 : Int) (x6 : Int) (x7 : Int) (x9 : Int) (x10 : Int) (x11 : Int) (x12 : Int) (x14 : Int) (x15 : Int) (x16 : Int) (all_0 : Int → Int) (r_0 : Int) (texts_0 : Int) (gx : Int) (k2 : 0 ≤ x2 ∧ x2 ≤ 99999136) (k4 : 7 ≤ x4 ∧ x4 ≤ 7) (k5 : 0 ≤ x5 ∧ x5 ≤ 23) (k6 : 1 ≤ x6 ∧ x6 ≤ 24) (k7 : 7 ≤ x7 ∧ x7 ≤ 7) (k9 : 0 ≤ x9 ∧ x9 ≤ 99999995) (k10 : 0 ≤ x10 ∧ x10 ≤ 99999992) (k11 : 2 ≤ x11 ∧ x11 ≤ 99) (k12 : 1 ≤ x12 ∧ x12 ≤ 1) (k14 : 0 ≤ x14 ∧ x14 ≤ 99999993) (k15 : 0 ≤ x15 ∧ x15 ≤ 99) (k16 : 0 ≤ x16 ∧ x16 ≤ 99999987) (d0 : x6 + (-4294967296) ≤ x5 ∧ x5 ≤ x6 + (-1)) (f0 : 1 * x16 + ((-1) * x2 + ((-36) * x5 + 0)) ≤ 20) (f1 : x15 = all_0 (((r_0 + 219) + x5))) (f2 : 1 * x14 + ((-1) * x2 + ((-36) * x5 + 0)) ≤ 13) (f3 : x11 = all_0 (((r_0 + 219) + x5))) (f4 : 1 * x10 + ((-1) * x2 + ((-36) * x5 + 0)) ≤ 5) (f5 : 1 * x9 + ((-1) * x2 + ((-36) * x5 + 0)) ≤ 0) (f6 : x7 = all_0 (((r_0 + 243) + x5))) (f7 : 1 * x6 + ((-1) * all_0 (r_0 + 0) + 0) ≤ 0) (f8 : (-1) * x6 + (1 * all_0 (r_0 + 0) + 0) ≤ 0) (f10 : 1 * texts_0 + ((-1) * x16 + 0) ≤ 13) (f12 : 1 * x16 + ((-1) * x2 + ((-36) * x5 + 0)) ≤ 20) (f13 : 1 * x14 + ((-1) * x2 + ((-36) * x5 + 0)) ≤ 13) (f14 : 1 * x10 + ((-1) * x2 + ((-36) * x5 + 0)) ≤ 5) (f15 : 1 * x9 + ((-1) * x2 + ((-36) * x5 + 0)) ≤ 0) (f17 : 1 * x14 + ((-1) * x2 + ((-36) * x5 + 0)) ≤ 13) (f18 : x12 < x11) (f19 : 1 * x10 + ((-1) * x2 + ((-36) * x5 + 0)) ≤ 5) (f20 : 1 * x9 + ((-1) * x2 + ((-36) * x5 + 0)) ≤ 0) (f22 : 1 * x10 + ((-1) * x2 + ((-36) * x5 + 0)) ≤ 5) (f23 : 1 * x9 + ((-1) * x2 + ((-36) * x5 + 0)) ≤ 0) (f25 : 1 * x9 + ((-1) * x2 + ((-36) * x5 + 0)) ≤ 0) (f26 : x7 = x4) (f27 : x5 < x6) (kz_0_170 : 0 ≤ texts_0 ∧ texts_0 ≤ 100000000) (ex2 : gx = texts_0) (ex3 : 0 ≤ gx ∧ gx ≤ 99999999) : 1 * texts_0 + ((-1) * gx + 0) ≤ 0 := by
  first | assumption | omega | grind
set_option maxHeartbeats 4000000 in
theorem vc_Mo_writeGroup_at_l7_8_1 (x2 : Int) (x4 : Int) (x5 : Int) (x6 : Int) (x7 : Int) (x9 : Int) (x10 : Int) (x11 : Int) (x12 : Int) (x14 : Int) (x15 : Int) (x16 : Int) (all_0 : Int → Int) (r_0 : Int) (texts_0 : Int) (gx : Int) (k2 : 0 ≤ x2 ∧ x2 ≤ 99999136) (k4 : 7 ≤ x4 ∧ x4 ≤ 7) (k5 : 0 ≤ x5 ∧ x5 ≤ 23) (k6 : 1 ≤ x6 ∧ x6 ≤ 24) (k7 : 7 ≤ x7 ∧ x7 ≤ 7) (k9 : 0 ≤ x9 ∧ x9 ≤ 99999995) (k10 : 0 ≤ x10 ∧ x10 ≤ 99999992) (k11 : 2 ≤ x11 ∧ x11 ≤ 99) (k12 : 1 ≤ x12 ∧ x12 ≤ 1) (k14 : 0 ≤ x14 ∧ x14 ≤ 99999993) (k15 : 0 ≤ x15 ∧ x15 ≤ 99) (k16 : 0 ≤ x16 ∧ x16 ≤ 99999987) (d0 : x6 + (-4294967296) ≤ x5 ∧ x5 ≤ x6 + (-1)) (f0 : 1 * x16 + ((-1) * x2 + ((-36) * x5 + 0)) ≤ 20) (f1 : x15 = all_0 (((r_0 + 219) + x5))) (f2 : 1 * x14 + ((-1) * x2 + ((-36) * x5 + 0)) ≤ 13) (f3 : x11 = all_0 (((r_0 + 219) + x5))) (f4 : 1 * x10 + ((-1) * x2 + ((-36) * x5 + 0)) ≤ 5) (f5 : 1 * x9 + ((-1) * x2 + ((-36) * x5 + 0)) ≤ 0) (f6 : x7 = all_0 (((r_0 + 243) + x5))) (f7 : 1 * x6 + ((-1) * all_0 (r_0 + 0) + 0) ≤ 0) (f8 : (-1) * x6 + (1 * all_0 (r_0 + 0) + 0) ≤ 0) (f10 : 1 * texts_0 + ((-1) * x16 + 0) ≤ 13) (f12 : 1 * x16 + ((-1) * x2 + ((-36) * x5 + 0)) ≤ 20) (f13 : 1 * x14 + ((-1) * x2 + ((-36) * x5 + 0)) ≤ 13) (f14 : 1 * x10 + ((-1) * x2 + ((-36) * x5 + 0)) ≤ 5) (f15 : 1 * x9 + ((-1) * x2 + ((-36) * x5 + 0)) ≤ 0) (f17 : 1 * x14 + ((-1) * x2 + ((-36) * x5 + 0)) ≤ 13) (f18 : x12 < x11) (f19 : 1 * x10 + ((-1) * x2 + ((-36) * x5 + 0)) ≤ 5) (f20 : 1 * x9 + ((-1) * x2 + ((-36) * x5 + 0)) ≤ 0) (f22 : 1 * x10 + ((-1) * x2 + ((-36) * x5 + 0)) ≤ 5) (f23 : 1 * x9 + ((-1) * x2 + ((-36) * x5 + 0)) ≤ 0) (f25 : 1 * x9 + ((-1) * x2 + ((-36) * x5 + 0)) ≤ 0) (f26 : x7 = x4) (f27 : x5 < x6) (kz_0_170 : 0 ≤ texts_0 ∧ texts_0 ≤ 100000000) (ex2 : gx = texts_0) (ex3 : 0 ≤ gx ∧ gx ≤ 99999999) : 1 * gx + ((-1) * x2 + ((-36) * x5 + 0)) ≤ 33 := by
  first | assumption | omega | grind
def o_Mo_writeGroup_at_l7_8 : or_T := (63, 18, [(0, (2, 0, 0, [165])), (2, (0, 0, 99999136, [])), (3, (2, 0, 0, [165])), (4, (0, 7, 7, [])), (5, (0, 0, 23, [])), (6, (0, 1, 24, [])), (7, (0, 7, 7, [])), (9, (0, 0, 99999995, [])), (10, (0, 0, 99999992, [])), (11, (0, 2, 99, [])), (12, (0, 1, 1, [])), (14, (0, 0, 99999993, [])), (15, (0, 0, 99, [])), (16, (0, 0, 99999987, []))], [(23, [16, 2, 5], [20, 1, -1, -36]), (20, [15, 3, 5], [50, 1, 1, 1005, 1002, 1, 2, 1, 0, 3, 1, 2, 4, 7, 4, 3, 2, 1, 5, 0, 219, 1, 2]), (23, [14, 2, 5], [13, 1, -1, -36]), (20, [11, 3, 5], [50, 1, 1, 1005, 1002, 1, 2, 1, 0, 3, 1, 2, 4, 7, 4, 3, 2, 1, 5, 0, 219, 1, 2]), (23, [10, 2, 5], [5, 1, -1, -36]), (23, [9, 2, 5], [0, 1, -1, -36]), (20, [7, 3, 5], [50, 1, 1, 1005, 1002, 1, 2, 1, 0, 3, 1, 2, 4, 7, 4, 3, 2, 1, 5, 0, 243, 1, 2]), (20, [6, 3], [30, 0, 1, 0, 0, -1, 3, 2005000]), (20, [6, 3], [30, 0, -1, 0, 0, 1, 3, 2005000]), (24, [0, 3], []), (20, [3, 16], [30, 13, 1, 1, 170, -1, 0, 0]), (102, [16], [7770675568902916283677847627294075626569627356208558085007249638955617140820833992704, 165170]), (23, [16, 2, 5], [20, 1, -1, -36]), (23, [14, 2, 5], [13, 1, -1, -36]), (23, [10, 2, 5], [5, 1, -1, -36]), (23, [9, 2, 5], [0, 1, -1, -36]), (102, [14], [7770675568902916283677847627294075626569627356208558085007249638955617140820833992704, 165170]), (23, [14, 2, 5], [13, 1, -1, -36]), (7, [11, 12], [4]), (23, [10, 2, 5], [5, 1, -1, -36]), (23, [9, 2, 5], [0, 1, -1, -36]), (102, [10], [7770675568902916283677847627294075626569627356208558085007249638955617140820833992704, 165170]), (23, [10, 2, 5], [5, 1, -1, -36]), (23, [9, 2, 5], [0, 1, -1, -36]), (102, [9], [7770675568902916283677847627294075626569627356208558085007249638955617140820833992704, 165170]), (23, [9, 2, 5], [0, 1, -1, -36]), (7, [7, 4], [0]), (7, [5, 6], [2])], [], [(0, 0, 99999999, [])], [(20, [3, 18], [30, 0, 1, 1, 170, -1, 0, 0]), (23, [18, 2, 5], [33, 1, -1, -36])], [], [(5, 6, -4294967296, -1)])
theorem oo_Mo_writeGroup_at_l7_8 {kA : Nat → ClassId} : or_ok PRD kA GG o_Mo_writeGroup_at_l7_8 := by
  refine or_mk fun A ta ws vs hD hth hl => ?_
  intro t0 r0 t2 k2 t3 r3 t4 k4 t5 k5 t6 k6 t7 k7 t9 k9 t10 k10 t11 k11 t12 k12 t14 k14 t15 k15 t16 k16 d0 f0 f1 f2 f3 f4 f5 f6 f7 f8 f9 f10 ta1 w1 le1 s1 f12 f13 f14 f15 ta2 w2 le2 s2 f17 f18 f19 f20 ta3 w3 le3 s3 f22 f23 ta4 w4 le4 s4 f25 f26 f27
  replace f0 := shm_2041 f0
  replace f1 := shm_732 f1
  replace f2 := shm_2040 f2
  replace f3 := shm_732 f3
  replace f4 := shm_2038 f4
  replace f5 := shm_2037 f5
  replace f6 := shm_597 f6
  replace f7 := shm_126 f7
  replace f8 := shm_127 f8
  replace f9 := shm_5 f9
  replace f10 := shm_1056 f10
  replace f12 := shm_2041 f12
  replace f13 := shm_2040 f13
  replace f14 := shm_2038 f14
  replace f15 := shm_2037 f15
  replace f17 := shm_2040 f17
  replace f18 := shm_21 f18
  replace f19 := shm_2038 f19
  replace f20 := shm_2037 f20
  replace f22 := shm_2038 f22
  replace f23 := shm_2037 f23
  replace f25 := shm_2037 f25
  replace f26 := shm_37 f26
  replace f27 := shm_6 f27
  have q3 : n_v vs 3 = n_v vs 0 := f9.symm
  simp only [q3] at f1 f3 f6 f7 f8 f10
  have cr_0_2 := fdq_10 hD hth r0
  have br_0_2_F5_0_0 : w_ei ws (w_ar ws (n_v vs 0) 2) (w_fi ws (n_v vs 0) 5 + 0) = w_el ws (w_ar ws (n_v vs 0) 2) (w_fi ws (n_v vs 0) 5 + 0).toNat := rfl
  have kz_0_170 := fdq_11 hD hth r0
  have kv0 := fdq_11 hD hth r0
  obtain ⟨x, ex, hx⟩ := iv_ex (ta := ta) (lo := 0) (hi := 99999999) (z := w_fi ws (n_v vs 0) 170) (by omega) (by omega) (by omega) (by omega)
  have ex2 : v_iv (Value.int x) = w_fi ws (n_v vs 0) 170 := ex
  have ex3 : 0 ≤ v_iv (Value.int x) ∧ v_iv (Value.int x) ≤ 99999999 := tv_rng hx
  have e_2 : n_v (vs ++ [Value.int x]) 2 = n_v vs 2 := n_v_old (by rw [hl]; decide)
  have e_3 : n_v (vs ++ [Value.int x]) 3 = n_v vs 3 := n_v_old (by rw [hl]; decide)
  have e_5 : n_v (vs ++ [Value.int x]) 5 = n_v vs 5 := n_v_old (by rw [hl]; decide)
  have e_18 : n_v (vs ++ [Value.int x]) 18 = Value.int x := n_v_new hl
  have nf0 : fc_1 PRD (20, [3, 18], [30, 0, 1, 1, 170, -1, 0, 0]) ws (vs ++ [Value.int x]) := by
    refine ⟨nf_inA hl rfl, sgq_131 ?_⟩
    · show 1 * w_fi ws (n_v (vs ++ [Value.int x]) 3) 170 + ((-1) * v_iv (n_v (vs ++ [Value.int x]) 18) + 0) ≤ 0
      simp only [e_3, e_18, q3]
      exact vc_Mo_writeGroup_at_l7_8_0 (v_iv (n_v vs 2)) (v_iv (n_v vs 4)) (v_iv (n_v vs 5)) (v_iv (n_v vs 6)) (v_iv (n_v vs 7)) (v_iv (n_v vs 9)) (v_iv (n_v vs 10)) (v_iv (n_v vs 11)) (v_iv (n_v vs 12)) (v_iv (n_v vs 14)) (v_iv (n_v vs 15)) (v_iv (n_v vs 16)) (w_ei ws (w_ar ws (n_v vs 0) 2)) (w_fi ws (n_v vs 0) 5) (w_fi ws (n_v vs 0) 170) (v_iv (Value.int x)) k2 k4 k5 k6 k7 k9 k10 k11 k12 k14 k15 k16 d0 f0 f1 f2 f3 f4 f5 f6 f7 f8 f10 f12 f13 f14 f15 f17 f18 f19 f20 f22 f23 f25 f26 f27 kz_0_170 ex2 ex3
  have nf1 : fc_1 PRD (23, [18, 2, 5], [33, 1, -1, -36]) ws (vs ++ [Value.int x]) := by
    refine ⟨nf_inA hl rfl, sgq_2042 ?_⟩
    · show 1 * v_iv (n_v (vs ++ [Value.int x]) 18) + ((-1) * v_iv (n_v (vs ++ [Value.int x]) 2) + ((-36) * v_iv (n_v (vs ++ [Value.int x]) 5) + 0)) ≤ 33
      simp only [e_2, e_5, e_18]
      exact vc_Mo_writeGroup_at_l7_8_1 (v_iv (n_v vs 2)) (v_iv (n_v vs 4)) (v_iv (n_v vs 5)) (v_iv (n_v vs 6)) (v_iv (n_v vs 7)) (v_iv (n_v vs 9)) (v_iv (n_v vs 10)) (v_iv (n_v vs 11)) (v_iv (n_v vs 12)) (v_iv (n_v vs 14)) (v_iv (n_v vs 15)) (v_iv (n_v vs 16)) (w_ei ws (w_ar ws (n_v vs 0) 2)) (w_fi ws (n_v vs 0) 5) (w_fi ws (n_v vs 0) 170) (v_iv (Value.int x)) k2 k4 k5 k6 k7 k9 k10 k11 k12 k14 k15 k16 d0 f0 f1 f2 f3 f4 f5 f6 f7 f8 f10 f12 f13 f14 f15 f17 f18 f19 f20 f22 f23 f25 f26 f27 kz_0_170 ex2 ex3
  exact ⟨(fun _ h => (by cases h)), [Value.int x], ag_one hx, List.forall_mem_cons.mpr ⟨⟨show (20 : Nat) < 100 from by decide, nf0⟩, List.forall_mem_cons.mpr ⟨⟨show (23 : Nat) < 100 from by decide, nf1⟩, (fun _ h => (by cases h))⟩⟩, (fun _ h => (by cases h))⟩
set_option maxHeartbeats 4000000 in
theorem vc_Mo_writeGroup_at_l7_9_0 (x2 : Int) (x4 : Int) (x5 : Int) (x6 : Int) (x7 : Int) (x9 : Int) (x10 : Int) (x11 : Int) (x12 : Int) (x14 : Int) (x15 : Int) (x16 : Int) (x18 : Int) (all_0 : Int → Int) (r_0 : Int) (texts_0 : Int) (gx : Int) (k2 : 0 ≤ x2 ∧ x2 ≤ 99999136) (k4 : 7 ≤ x4 ∧ x4 ≤ 7) (k5 : 0 ≤ x5 ∧ x5 ≤ 23) (k6 : 1 ≤ x6 ∧ x6 ≤ 24) (k7 : 7 ≤ x7 ∧ x7 ≤ 7) (k9 : 0 ≤ x9 ∧ x9 ≤ 99999995) (k10 : 0 ≤ x10 ∧ x10 ≤ 99999992) (k11 : 2 ≤ x11 ∧ x11 ≤ 99) (k12 : 1 ≤ x12 ∧ x12 ≤ 1) (k14 : 0 ≤ x14 ∧ x14 ≤ 99999993) (k15 : 0 ≤ x15 ∧ x15 ≤ 99) (k16 : 0 ≤ x16 ∧ x16 ≤ 99999987) (k18 : 0 ≤ x18 ∧ x18 ≤ 99999999) (d0 : x6 + (-4294967296) ≤ x5 ∧ x5 ≤ x6 + (-1)) (f0 : 1 * x18 + ((-1) * x2 + ((-36) * x5 + 0)) ≤ 33) (f1 : 1 * x16 + ((-1) * x2 + ((-36) * x5 + 0)) ≤ 20) (f2 : x15 = all_0 (((r_0 + 219) + x5))) (f3 : 1 * x14 + ((-1) * x2 + ((-36) * x5 + 0)) ≤ 13) (f4 : x11 = all_0 (((r_0 + 219) + x5))) (f5 : 1 * x10 + ((-1) * x2 + ((-36) * x5 + 0)) ≤ 5) (f6 : 1 * x9 + ((-1) * x2 + ((-36) * x5 + 0)) ≤ 0) (f7 : x7 = all_0 (((r_0 + 243) + x5))) (f8 : 1 * x6 + ((-1) * all_0 (r_0 + 0) + 0) ≤ 0) (f9 : (-1) * x6 + (1 * all_0 (r_0 + 0) + 0) ≤ 0) (f11 : 1 * texts_0 + ((-1) * x18 + 0) ≤ 1) (f13 : 1 * x18 + ((-1) * x2 + ((-36) * x5 + 0)) ≤ 33) (f14 : 1 * x16 + ((-1) * x2 + ((-36) * x5 + 0)) ≤ 20) (f15 : 1 * x14 + ((-1) * x2 + ((-36) * x5 + 0)) ≤ 13) (f16 : 1 * x10 + ((-1) * x2 + ((-36) * x5 + 0)) ≤ 5) (f17 : 1 * x9 + ((-1) * x2 + ((-36) * x5 + 0)) ≤ 0) (f19 : 1 * x16 + ((-1) * x2 + ((-36) * x5 + 0)) ≤ 20) (f20 : 1 * x14 + ((-1) * x2 + ((-36) * x5 + 0)) ≤ 13) (f21 : 1 * x10 + ((-1) * x2 + ((-36) * x5 + 0)) ≤ 5) (f22 : 1 * x9 + ((-1) * x2 + ((-36) * x5 + 0)) ≤ 0) (f24 : 1 * x14 + ((-1) * x2 + ((-36) * x5 + 0)) ≤ 13) (f25 : x12 < x11) (f26 : 1 * x10 + ((-1) * x2 + ((-36) * x5 + 0)) ≤ 5) (f27 : 1 * x9 + ((-1) * x2 + ((-36) * x5 + 0)) ≤ 0) (f29 : 1 * x10 + ((-1) * x2 + ((-36) * x5 + 0)) ≤ 5) (f30 : 1 * x9 + ((-1) * x2 + ((-36) * x5 + 0)) ≤ 0) (f32 : 1 * x9 + ((-1) * x2 + ((-36) * x5 + 0)) ≤ 0) (f33 : x7 = x4) (f34 : x5 < x6) (kz_0_170 : 0 ≤ texts_0 ∧ texts_0 ≤ 100000000) (ex2 : gx = texts_0) (ex3 : 0 ≤ gx ∧ gx ≤ 99999998) : 1 * texts_0 + ((-1) * gx + 0) ≤ 0 := by
  first | assumption | omega | grind
set_option maxHeartbeats 4000000 in
theorem vc_Mo_writeGroup_at_l7_9_1 (x2 : Int) (x4 : Int) (x5 : Int) (x6 : Int) (x7 : Int) (x9 : Int) (x10 : Int) (x11 : Int) (x12 : Int) (x14 : Int) (x15 : Int) (x16 : Int) (x18 : Int) (all_0 : Int → Int) (r_0 : Int) (texts_0 : Int) (gx : Int) (k2 : 0 ≤ x2 ∧ x2 ≤ 99999136) (k4 : 7 ≤ x4 ∧ x4 ≤ 7) (k5 : 0 ≤ x5 ∧ x5 ≤ 23) (k6 : 1 ≤ x6 ∧ x6 ≤ 24) (k7 : 7 ≤ x7 ∧ x7 ≤ 7) (k9 : 0 ≤ x9 ∧ x9 ≤ 99999995) (k10 : 0 ≤ x10 ∧ x10 ≤ 99999992) (k11 : 2 ≤ x11 ∧ x11 ≤ 99) (k12 : 1 ≤ x12 ∧ x12 ≤ 1) (k14 : 0 ≤ x14 ∧ x14 ≤ 99999993) (k15 : 0 ≤ x15 ∧ x15 ≤ 99) (k16 : 0 ≤ x16 ∧ x16 ≤ 99999987) (k18 : 0 ≤ x18 ∧ x18 ≤ 99999999) (d0 : x6 + (-4294967296) ≤ x5 ∧ x5 ≤ x6 + (-1)) (f0 : 1 * x18 + ((-1) * x2 + ((-36) * x5 + 0)) ≤ 33) (f1 : 1 * x16 + ((-1) * x2 + ((-36) * x5 + 0)) ≤ 20) (f2 : x15 = all_0 (((r_0 + 219) + x5))) (f3 : 1 * x14 + ((-1) * x2 + ((-36) * x5 + 0)) ≤ 13) (f4 : x11 = all_0 (((r_0 + 219) + x5))) (f5 : 1 * x10 + ((-1) * x2 + ((-36) * x5 + 0)) ≤ 5) (f6 : 1 * x9 + ((-1) * x2 + ((-36) * x5 + 0)) ≤ 0) (f7 : x7 = all_0 (((r_0 + 243) + x5))) (f8 : 1 * x6 + ((-1) * all_0 (r_0 + 0) + 0) ≤ 0) (f9 : (-1) * x6 + (1 * all_0 (r_0 + 0) + 0) ≤ 0) (f11 : 1 * texts_0 + ((-1) * x18 + 0) ≤ 1) (f13 : 1 * x18 + ((-1) * x2 + ((-36) * x5 + 0)) ≤ 33) (f14 : 1 * x16 + ((-1) * x2 + ((-36) * x5 + 0)) ≤ 20) (f15 : 1 * x14 + ((-1) * x2 + ((-36) * x5 + 0)) ≤ 13) (f16 : 1 * x10 + ((-1) * x2 + ((-36) * x5 + 0)) ≤ 5) (f17 : 1 * x9 + ((-1) * x2 + ((-36) * x5 + 0)) ≤ 0) (f19 : 1 * x16 + ((-1) * x2 + ((-36) * x5 + 0)) ≤ 20) (f20 : 1 * x14 + ((-1) * x2 + ((-36) * x5 + 0)) ≤ 13) (f21 : 1 * x10 + ((-1) * x2 + ((-36) * x5 + 0)) ≤ 5) (f22 : 1 * x9 + ((-1) * x2 + ((-36) * x5 + 0)) ≤ 0) (f24 : 1 * x14 + ((-1) * x2 + ((-36) * x5 + 0)) ≤ 13) (f25 : x12 < x11) (f26 : 1 * x10 + ((-1) * x2 + ((-36) * x5 + 0)) ≤ 5) (f27 : 1 * x9 + ((-1) * x2 + ((-36) * x5 + 0)) ≤ 0) (f29 : 1 * x10 + ((-1) * x2 + ((-36) * x5 + 0)) ≤ 5) (f30 : 1 * x9 + ((-1) * x2 + ((-36) * x5 + 0)) ≤ 0) (f32 : 1 * x9 + ((-1) * x2 + ((-36) * x5 + 0)) ≤ 0) (f33 : x7 = x4) (f34 : x5 < x6) (kz_0_170 : 0 ≤ texts_0 ∧ texts_0 ≤ 100000000) (ex2 : gx = texts_0) (ex3 : 0 ≤ gx ∧ gx ≤ 99999998) : 1 * gx + ((-1) * x2 + ((-36) * x5 + 0)) ≤ 34 := by
  first | assumption | omega | grind
def o_Mo_writeGroup_at_l7_9 : or_T := (70, 20, [(0, (2, 0, 0, [165])), (2, (0, 0, 99999136, [])), (3, (2, 0, 0, [165])), (4, (0, 7, 7, [])), (5, (0, 0, 23, [])), (6, (0, 1, 24, [])), (7, (0, 7, 7, [])), (9, (0, 0, 99999995, [])), (10, (0, 0, 99999992, [])), (11, (0, 2, 99, [])), (12, (0, 1, 1, [])), (14, (0, 0, 99999993, [])), (15, (0, 0, 99, [])), (16, (0, 0, 99999987, [])), (18, (0, 0, 99999999, []))], [(23, [18, 2, 5], [33, 1, -1, -36]), (23, [16, 2, 5], [20, 1, -1, -36]), (20, [15, 3, 5], [50, 1, 1, 1005, 1002, 1, 2, 1, 0, 3, 1, 2, 4, 7, 4, 3, 2, 1, 5, 0, 219, 1, 2]), (23, [14, 2, 5], [13, 1, -1, -36]), (20, [11, 3, 5], [50, 1, 1, 1005, 1002, 1, 2, 1, 0, 3, 1, 2, 4, 7, 4, 3, 2, 1, 5, 0, 219, 1, 2]), (23, [10, 2, 5], [5, 1, -1, -36]), (23, [9, 2, 5], [0, 1, -1, -36]), (20, [7, 3, 5], [50, 1, 1, 1005, 1002, 1, 2, 1, 0, 3, 1, 2, 4, 7, 4, 3, 2, 1, 5, 0, 243, 1, 2]), (20, [6, 3], [30, 0, 1, 0, 0, -1, 3, 2005000]), (20, [6, 3], [30, 0, -1, 0, 0, 1, 3, 2005000]), (24, [0, 3], []), (20, [3, 18], [30, 1, 1, 1, 170, -1, 0, 0]), (102, [18], [7770675568902916283677847627294075626569627356208558085007249638955617140820833992704, 165170]), (23, [18, 2, 5], [33, 1, -1, -36]), (23, [16, 2, 5], [20, 1, -1, -36]), (23, [14, 2, 5], [13, 1, -1, -36]), (23, [10, 2, 5], [5, 1, -1, -36]), (23, [9, 2, 5], [0, 1, -1, -36]), (102, [16], [7770675568902916283677847627294075626569627356208558085007249638955617140820833992704, 165170]), (23, [16, 2, 5], [20, 1, -1, -36]), (23, [14, 2, 5], [13, 1, -1, -36]), (23, [10, 2, 5], [5, 1, -1, -36]), (23, [9, 2, 5], [0, 1, -1, -36]), (102, [14], [7770675568902916283677847627294075626569627356208558085007249638955617140820833992704, 165170]), (23, [14, 2, 5], [13, 1, -1, -36]), (7, [11, 12], [4]), (23, [10, 2, 5], [5, 1, -1, -36]), (23, [9, 2, 5], [0, 1, -1, -36]), (102, [10], [7770675568902916283677847627294075626569627356208558085007249638955617140820833992704, 165170]), (23, [10, 2, 5], [5, 1, -1, -36]), (23, [9, 2, 5], [0, 1, -1, -36]), (102, [9], [7770675568902916283677847627294075626569627356208558085007249638955617140820833992704, 165170]), (23, [9, 2, 5], [0, 1, -1, -36]), (7, [7, 4], [0]), (7, [5, 6], [2])], [], [(0, 0, 99999998, [])], [(20, [3, 20], [30, 0, 1, 1, 170, -1, 0, 0]), (23, [20, 2, 5], [34, 1, -1, -36])], [], [(5, 6, -4294967296, -1)])
theorem oo_Mo_writeGroup_at_l7_9 {kA : Nat → ClassId} : or_ok PRD kA GG o_Mo_writeGroup_at_l7_9 := by
  refine or_mk fun A ta ws vs hD hth hl => ?_
  intro t0 r0 t2 k2 t3 r3 t4 k4 t5 k5 t6 k6 t7 k7 t9 k9 t10 k10 t11 k11 t12 k12 t14 k14 t15 k15 t16 k16 t18 k18 d0 f0 f1 f2 f3 f4 f5 f6 f7 f8 f9 f10 f11 ta1 w1 le1 s1 f13 f14 f15 f16 f17 ta2 w2 le2 s2 f19 f20 f21 f22 ta3 w3 le3 s3 f24 f25 f26 f27 ta4 w4 le4 s4 f29 f30 ta5 w5 le5 s5 f32 f33 f34
  replace f0 := shm_2042 f0
  replace f1 := shm_2041 f1
  replace f2 := shm_732 f2
  replace f3 := shm_2040 f3
  replace f4 := shm_732 f4
  replace f5 := shm_2038 f5
  replace f6 := shm_2037 f6
  replace f7 := shm_597 f7
  replace f8 := shm_126 f8
  replace f9 := shm_127 f9
  replace f10 := shm_5 f10
  replace f11 := shm_132 f11
  replace f13 := shm_2042 f13
  replace f14 := shm_2041 f14
  replace f15 := shm_2040 f15
  replace f16 := shm_2038 f16
  replace f17 := shm_2037 f17
  replace f19 := shm_2041 f19
  replace f20 := shm_2040 f20
  replace f21 := shm_2038 f21
  replace f22 := shm_2037 f22
  replace f24 := shm_2040 f24
  replace f25 := shm_21 f25
  replace f26 := shm_2038 f26
  replace f27 := shm_2037 f27
  replace f29 := shm_2038 f29
  replace f30 := shm_2037 f30
  replace f32 := shm_2037 f32
  replace f33 := shm_37 f33
  replace f34 := shm_6 f34
  have q3 : n_v vs 3 = n_v vs 0 := f10.symm
  simp only [q3] at f2 f4 f7 f8 f9 f11
  have cr_0_2 := fdq_10 hD hth r0
  have br_0_2_F5_0_0 : w_ei ws (w_ar ws (n_v vs 0) 2) (w_fi ws (n_v vs 0) 5 + 0) = w_el ws (w_ar ws (n_v vs 0) 2) (w_fi ws (n_v vs 0) 5 + 0).toNat := rfl
  have kz_0_170 := fdq_11 hD hth r0
  have kv0 := fdq_11 hD hth r0
  obtain ⟨x, ex, hx⟩ := iv_ex (ta := ta) (lo := 0) (hi := 99999998) (z := w_fi ws (n_v vs 0) 170) (by omega) (by omega) (by omega) (by omega)
  have ex2 : v_iv (Value.int x) = w_fi ws (n_v vs 0) 170 := ex
  have ex3 : 0 ≤ v_iv (Value.int x) ∧ v_iv (Value.int x) ≤ 99999998 := tv_rng hx
  have e_2 : n_v (vs ++ [Value.int x]) 2 = n_v vs 2 := n_v_old (by rw [hl]; decide)
  have e_3 : n_v (vs ++ [Value.int x]) 3 = n_v vs 3 := n_v_old (by rw [hl]; decide)
  have e_5 : n_v (vs ++ [Value.int x]) 5 = n_v vs 5 := n_v_old (by rw [hl]; decide)
  have e_20 : n_v (vs ++ [Value.int x]) 20 = Value.int x := n_v_new hl
  have nf0 : fc_1 PRD (20, [3, 20], [30, 0, 1, 1, 170, -1, 0, 0]) ws (vs ++ [Value.int x]) := by
    refine ⟨nf_inA hl rfl, sgq_131 ?_⟩
    · show 1 * w_fi ws (n_v (vs ++ [Value.int x]) 3) 170 + ((-1) * v_iv (n_v (vs ++ [Value.int x]) 20) + 0) ≤ 0
      simp only [e_3, e_20, q3]
      exact vc_Mo_writeGroup_at_l7_9_0 (v_iv (n_v vs 2)) (v_iv (n_v vs 4)) (v_iv (n_v vs 5)) (v_iv (n_v vs 6)) (v_iv (n_v vs 7)) (v_iv (n_v vs 9)) (v_iv (n_v vs 10)) (v_iv (n_v vs 11)) (v_iv (n_v vs 12)) (v_iv (n_v vs 14)) (v_iv (n_v vs 15)) (v_iv (n_v vs 16)) (v_iv (n_v vs 18)) (w_ei ws (w_ar ws (n_v vs 0) 2)) (w_fi ws (n_v vs 0) 5) (w_fi ws (n_v vs 0) 170) (v_iv (Value.int x)) k2 k4 k5 k6 k7 k9 k10 k11 k12 k14 k15 k16 k18 d0 f0 f1 f2 f3 f4 f5 f6 f7 f8 f9 f11 f13 f14 f15 f16 f17 f19 f20 f21 f22 f24 f25 f26 f27 f29 f30 f32 f33 f34 kz_0_170 ex2 ex3
  have nf1 : fc_1 PRD (23, [20, 2, 5], [34, 1, -1, -36]) ws (vs ++ [Value.int x]) := by
    refine ⟨nf_inA hl rfl, sgq_2039 ?_⟩
    · show 1 * v_iv (n_v (vs ++ [Value.int x]) 20) + ((-1) * v_iv (n_v (vs ++ [Value.int x]) 2) + ((-36) * v_iv (n_v (vs ++ [Value.int x]) 5) + 0)) ≤ 34
      simp only [e_2, e_5, e_20]
      exact vc_Mo_writeGroup_at_l7_9_1 (v_iv (n_v vs 2)) (v_iv (n_v vs 4)) (v_iv (n_v vs 5)) (v_iv (n_v vs 6)) (v_iv (n_v vs 7)) (v_iv (n_v vs 9)) (v_iv (n_v vs 10)) (v_iv (n_v vs 11)) (v_iv (n_v vs 12)) (v_iv (n_v vs 14)) (v_iv (n_v vs 15)) (v_iv (n_v vs 16)) (v_iv (n_v vs 18)) (w_ei ws (w_ar ws (n_v vs 0) 2)) (w_fi ws (n_v vs 0) 5) (w_fi ws (n_v vs 0) 170) (v_iv (Value.int x)) k2 k4 k5 k6 k7 k9 k10 k11 k12 k14 k15 k16 k18 d0 f0 f1 f2 f3 f4 f5 f6 f7 f8 f9 f11 f13 f14 f15 f16 f17 f19 f20 f21 f22 f24 f25 f26 f27 f29 f30 f32 f33 f34 kz_0_170 ex2 ex3
  exact ⟨(fun _ h => (by cases h)), [Value.int x], ag_one hx, List.forall_mem_cons.mpr ⟨⟨show (20 : Nat) < 100 from by decide, nf0⟩, List.forall_mem_cons.mpr ⟨⟨show (23 : Nat) < 100 from by decide, nf1⟩, (fun _ h => (by cases h))⟩⟩, (fun _ h => (by cases h))⟩
set_option maxHeartbeats 4000000 in
theorem vc_Mo_writeGroup_at_l7_10_0 (x2 : Int) (x4 : Int) (x5 : Int) (x6 : Int) (x7 : Int) (x9 : Int) (x10 : Int) (x11 : Int) (x12 : Int) (x14 : Int) (x15 : Int) (x16 : Int) (x18 : Int) (x20 : Int) (x21 : Int) (all_0 : Int → Int) (r_0 : Int) (texts_0 : Int) (k2 : 0 ≤ x2 ∧ x2 ≤ 99999136) (k4 : 7 ≤ x4 ∧ x4 ≤ 7) (k5 : 0 ≤ x5 ∧ x5 ≤ 23) (k6 : 1 ≤ x6 ∧ x6 ≤ 24) (k7 : 7 ≤ x7 ∧ x7 ≤ 7) (k9 : 0 ≤ x9 ∧ x9 ≤ 99999995) (k10 : 0 ≤ x10 ∧ x10 ≤ 99999992) (k11 : 2 ≤ x11 ∧ x11 ≤ 99) (k12 : 1 ≤ x12 ∧ x12 ≤ 1) (k14 : 0 ≤ x14 ∧ x14 ≤ 99999993) (k15 : 0 ≤ x15 ∧ x15 ≤ 99) (k16 : 0 ≤ x16 ∧ x16 ≤ 99999987) (k18 : 0 ≤ x18 ∧ x18 ≤ 99999999) (k20 : 0 ≤ x20 ∧ x20 ≤ 99999998) (k21 : 1 ≤ x21 ∧ x21 ≤ 24) (d0 : x5 + 1 ≤ x21 ∧ x21 ≤ x5 + 1) (d1 : x6 + (-4294967296) ≤ x21 ∧ x21 ≤ x6 + 0) (d2 : x6 + (-4294967296) ≤ x5 ∧ x5 ≤ x6 + (-1)) (f0 : x21 = x5 + 1) (f1 : 1 * x20 + ((-1) * x2 + ((-36) * x5 + 0)) ≤ 34) (f2 : 1 * x18 + ((-1) * x2 + ((-36) * x5 + 0)) ≤ 33) (f3 : 1 * x16 + ((-1) * x2 + ((-36) * x5 + 0)) ≤ 20) (f4 : x15 = all_0 (((r_0 + 219) + x5))) (f5 : 1 * x14 + ((-1) * x2 + ((-36) * x5 + 0)) ≤ 13) (f6 : x11 = all_0 (((r_0 + 219) + x5))) (f7 : 1 * x10 + ((-1) * x2 + ((-36) * x5 + 0)) ≤ 5) (f8 : 1 * x9 + ((-1) * x2 + ((-36) * x5 + 0)) ≤ 0) (f9 : x7 = all_0 (((r_0 + 243) + x5))) (f10 : 1 * x6 + ((-1) * all_0 (r_0 + 0) + 0) ≤ 0) (f11 : (-1) * x6 + (1 * all_0 (r_0 + 0) + 0) ≤ 0) (f13 : 1 * texts_0 + ((-1) * x20 + 0) ≤ 2) (f15 : 1 * x20 + ((-1) * x2 + ((-36) * x5 + 0)) ≤ 34) (f16 : 1 * x18 + ((-1) * x2 + ((-36) * x5 + 0)) ≤ 33) (f17 : 1 * x16 + ((-1) * x2 + ((-36) * x5 + 0)) ≤ 20) (f18 : 1 * x14 + ((-1) * x2 + ((-36) * x5 + 0)) ≤ 13) (f19 : 1 * x10 + ((-1) * x2 + ((-36) * x5 + 0)) ≤ 5) (f20 : 1 * x9 + ((-1) * x2 + ((-36) * x5 + 0)) ≤ 0) (f22 : 1 * x18 + ((-1) * x2 + ((-36) * x5 + 0)) ≤ 33) (f23 : 1 * x16 + ((-1) * x2 + ((-36) * x5 + 0)) ≤ 20) (f24 : 1 * x14 + ((-1) * x2 + ((-36) * x5 + 0)) ≤ 13) (f25 : 1 * x10 + ((-1) * x2 + ((-36) * x5 + 0)) ≤ 5) (f26 : 1 * x9 + ((-1) * x2 + ((-36) * x5 + 0)) ≤ 0) (f28 : 1 * x16 + ((-1) * x2 + ((-36) * x5 + 0)) ≤ 20) (f29 : 1 * x14 + ((-1) * x2 + ((-36) * x5 + 0)) ≤ 13) (f30 : 1 * x10 + ((-1) * x2 + ((-36) * x5 + 0)) ≤ 5) (f31 : 1 * x9 + ((-1) * x2 + ((-36) * x5 + 0)) ≤ 0) (f33 : 1 * x14 + ((-1) * x2 + ((-36) * x5 + 0)) ≤ 13) (f34 : x12 < x11) (f35 : 1 * x10 + ((-1) * x2 + ((-36) * x5 + 0)) ≤ 5) (f36 : 1 * x9 + ((-1) * x2 + ((-36) * x5 + 0)) ≤ 0) (f38 : 1 * x10 + ((-1) * x2 + ((-36) * x5 + 0)) ≤ 5) (f39 : 1 * x9 + ((-1) * x2 + ((-36) * x5 + 0)) ≤ 0) (f41 : 1 * x9 + ((-1) * x2 + ((-36) * x5 + 0)) ≤ 0) (f42 : x7 = x4) (f43 : x5 < x6) (kz_0_170 : 0 ≤ texts_0 ∧ texts_0 ≤ 100000000) : 1 * texts_0 + ((-1) * x2 + ((-36) * x21 + 0)) ≤ 0 := by
  first | assumption | omega | grind
def o_Mo_writeGroup_at_l7_10 : or_T := (2, 22, [(0, (2, 0, 0, [165])), (2, (0, 0, 99999136, [])), (4, (0, 7, 7, [])), (5, (0, 0, 23, [])), (6, (0, 1, 24, [])), (7, (0, 7, 7, [])), (9, (0, 0, 99999995, [])), (10, (0, 0, 99999992, [])), (11, (0, 2, 99, [])), (12, (0, 1, 1, [])), (14, (0, 0, 99999993, [])), (15, (0, 0, 99, [])), (16, (0, 0, 99999987, [])), (18, (0, 0, 99999999, [])), (20, (0, 0, 99999998, [])), (21, (0, 1, 24, []))], [(6, [21, 5], [1]), (23, [20, 2, 5], [34, 1, -1, -36]), (23, [18, 2, 5], [33, 1, -1, -36]), (23, [16, 2, 5], [20, 1, -1, -36]), (20, [15, 3, 5], [50, 1, 1, 1005, 1002, 1, 2, 1, 0, 3, 1, 2, 4, 7, 4, 3, 2, 1, 5, 0, 219, 1, 2]), (23, [14, 2, 5], [13, 1, -1, -36]), (20, [11, 3, 5], [50, 1, 1, 1005, 1002, 1, 2, 1, 0, 3, 1, 2, 4, 7, 4, 3, 2, 1, 5, 0, 219, 1, 2]), (23, [10, 2, 5], [5, 1, -1, -36]), (23, [9, 2, 5], [0, 1, -1, -36]), (20, [7, 3, 5], [50, 1, 1, 1005, 1002, 1, 2, 1, 0, 3, 1, 2, 4, 7, 4, 3, 2, 1, 5, 0, 243, 1, 2]), (20, [6, 3], [30, 0, 1, 0, 0, -1, 3, 2005000]), (20, [6, 3], [30, 0, -1, 0, 0, 1, 3, 2005000]), (24, [0, 3], []), (20, [3, 20], [30, 2, 1, 1, 170, -1, 0, 0]), (102, [20], [7770675568902916283677847627294075626569627356208558085007249638955617140820833992704, 165170]), (23, [20, 2, 5], [34, 1, -1, -36]), (23, [18, 2, 5], [33, 1, -1, -36]), (23, [16, 2, 5], [20, 1, -1, -36]), (23, [14, 2, 5], [13, 1, -1, -36]), (23, [10, 2, 5], [5, 1, -1, -36]), (23, [9, 2, 5], [0, 1, -1, -36]), (102, [18], [7770675568902916283677847627294075626569627356208558085007249638955617140820833992704, 165170]), (23, [18, 2, 5], [33, 1, -1, -36]), (23, [16, 2, 5], [20, 1, -1, -36]), (23, [14, 2, 5], [13, 1, -1, -36]), (23, [10, 2, 5], [5, 1, -1, -36]), (23, [9, 2, 5], [0, 1, -1, -36]), (102, [16], [7770675568902916283677847627294075626569627356208558085007249638955617140820833992704, 165170]), (23, [16, 2, 5], [20, 1, -1, -36]), (23, [14, 2, 5], [13, 1, -1, -36]), (23, [10, 2, 5], [5, 1, -1, -36]), (23, [9, 2, 5], [0, 1, -1, -36]), (102, [14], [7770675568902916283677847627294075626569627356208558085007249638955617140820833992704, 165170]), (23, [14, 2, 5], [13, 1, -1, -36]), (7, [11, 12], [4]), (23, [10, 2, 5], [5, 1, -1, -36]), (23, [9, 2, 5], [0, 1, -1, -36]), (102, [10], [7770675568902916283677847627294075626569627356208558085007249638955617140820833992704, 165170]), (23, [10, 2, 5], [5, 1, -1, -36]), (23, [9, 2, 5], [0, 1, -1, -36]), (102, [9], [7770675568902916283677847627294075626569627356208558085007249638955617140820833992704, 165170]), (23, [9, 2, 5], [0, 1, -1, -36]), (7, [7, 4], [0]), (7, [5, 6], [2])], [], [], [(20, [3, 2, 21], [30, 0, 1, 1, 170, -1, 0, 0, -36, 0, 0])], [], [(21, 5, 1, 1), (21, 6, -4294967296, 0), (5, 6, -4294967296, -1)])
theorem oo_Mo_writeGroup_at_l7_10 {kA : Nat → ClassId} : or_ok PRD kA GG o_Mo_writeGroup_at_l7_10 := by
  refine or_mk fun A ta ws vs hD hth hl => ?_
  intro t0 r0 t2 k2 t4 k4 t5 k5 t6 k6 t7 k7 t9 k9 t10 k10 t11 k11 t12 k12 t14 k14 t15 k15 t16 k16 t18 k18 t20 k20 t21 k21 d0 d1 d2 f0 f1 f2 f3 f4 f5 f6 f7 f8 f9 f10 f11 f12 f13 ta1 w1 le1 s1 f15 f16 f17 f18 f19 f20 ta2 w2 le2 s2 f22 f23 f24 f25 f26 ta3 w3 le3 s3 f28 f29 f30 f31 ta4 w4 le4 s4 f33 f34 f35 f36 ta5 w5 le5 s5 f38 f39 ta6 w6 le6 s6 f41 f42 f43
  replace f0 := shm_4 f0
  replace f1 := shm_2039 f1
  replace f2 := shm_2042 f2
  replace f3 := shm_2041 f3
  replace f4 := shm_732 f4
  replace f5 := shm_2040 f5
  replace f6 := shm_732 f6
  replace f7 := shm_2038 f7
  replace f8 := shm_2037 f8
  replace f9 := shm_597 f9
  replace f10 := shm_126 f10
  replace f11 := shm_127 f11
  replace f12 := shm_5 f12
  replace f13 := shm_210 f13
  replace f15 := shm_2039 f15
  replace f16 := shm_2042 f16
  replace f17 := shm_2041 f17
  replace f18 := shm_2040 f18
  replace f19 := shm_2038 f19
  replace f20 := shm_2037 f20
  replace f22 := shm_2042 f22
  replace f23 := shm_2041 f23
  replace f24 := shm_2040 f24
  replace f25 := shm_2038 f25
  replace f26 := shm_2037 f26
  replace f28 := shm_2041 f28
  replace f29 := shm_2040 f29
  replace f30 := shm_2038 f30
  replace f31 := shm_2037 f31
  replace f33 := shm_2040 f33
  replace f34 := shm_21 f34
  replace f35 := shm_2038 f35
  replace f36 := shm_2037 f36
  replace f38 := shm_2038 f38
  replace f39 := shm_2037 f39
  replace f41 := shm_2037 f41
  replace f42 := shm_37 f42
  replace f43 := shm_6 f43
  have q3 : n_v vs 3 = n_v vs 0 := f12.symm
  simp only [q3] at f4 f6 f9 f10 f11 f13
  have kz_0_170 := fdq_11 hD hth r0
  have nf0 : fc_1 PRD (20, [3, 2, 21], [30, 0, 1, 1, 170, -1, 0, 0, -36, 0, 0]) ws (vs) := by
    refine ⟨nf_in hl rfl, sgq_2035 ?_⟩
    · show 1 * w_fi ws (n_v vs 3) 170 + ((-1) * v_iv (n_v vs 2) + ((-36) * v_iv (n_v vs 21) + 0)) ≤ 0
      rw [q3]
      exact vc_Mo_writeGroup_at_l7_10_0 (v_iv (n_v vs 2)) (v_iv (n_v vs 4)) (v_iv (n_v vs 5)) (v_iv (n_v vs 6)) (v_iv (n_v vs 7)) (v_iv (n_v vs 9)) (v_iv (n_v vs 10)) (v_iv (n_v vs 11)) (v_iv (n_v vs 12)) (v_iv (n_v vs 14)) (v_iv (n_v vs 15)) (v_iv (n_v vs 16)) (v_iv (n_v vs 18)) (v_iv (n_v vs 20)) (v_iv (n_v vs 21)) (w_ei ws (w_ar ws (n_v vs 0) 2)) (w_fi ws (n_v vs 0) 5) (w_fi ws (n_v vs 0) 170) k2 k4 k5 k6 k7 k9 k10 k11 k12 k14 k15 k16 k18 k20 k21 d0 d1 d2 f0 f1 f2 f3 f4 f5 f6 f7 f8 f9 f10 f11 f13 f15 f16 f17 f18 f19 f20 f22 f23 f24 f25 f26 f28 f29 f30 f31 f33 f34 f35 f36 f38 f39 f41 f42 f43 kz_0_170
  refine ⟨(fun _ h => (by cases h)), [], trivial, ?_, (fun _ h => (by cases h))⟩
  rw [List.append_nil]
  exact List.forall_mem_cons.mpr ⟨⟨show (20 : Nat) < 100 from by decide, nf0⟩, (fun _ h => (by cases h))⟩
set_option maxHeartbeats 4000000 in
theorem vc_Mo_writeGroup_at_l7_11_0 (x2 : Int) (x4 : Int) (x5 : Int) (x6 : Int) (x7 : Int) (x8 : Int) (all_0 : Int → Int) (r_0 : Int) (texts_0 : Int) (k2 : 0 ≤ x2 ∧ x2 ≤ 99999136) (k4 : 7 ≤ x4 ∧ x4 ≤ 7) (k5 : 0 ≤ x5 ∧ x5 ≤ 23) (k6 : 1 ≤ x6 ∧ x6 ≤ 24) (k7 : 0 ≤ x7 ∧ x7 ≤ 6) (k8 : 1 ≤ x8 ∧ x8 ≤ 24) (d0 : x5 + 1 ≤ x8 ∧ x8 ≤ x5 + 1) (d1 : x6 + (-4294967296) ≤ x8 ∧ x8 ≤ x6 + 0) (d2 : x6 + (-4294967296) ≤ x5 ∧ x5 ≤ x6 + (-1)) (f0 : x8 = x5 + 1) (f1 : x7 ≠ x4) (f2 : x7 = all_0 (((r_0 + 243) + x5))) (f3 : x5 < x6) (f4 : 1 * x6 + ((-1) * all_0 (r_0 + 0) + 0) ≤ 0) (f5 : (-1) * x6 + (1 * all_0 (r_0 + 0) + 0) ≤ 0) (f6 : 1 * texts_0 + ((-1) * x2 + ((-36) * x5 + 0)) ≤ 0) (kz_0_170 : 0 ≤ texts_0 ∧ texts_0 ≤ 100000000) : 1 * texts_0 + ((-1) * x2 + ((-36) * x8 + 0)) ≤ 0 := by
  first | assumption | omega | grind
def o_Mo_writeGroup_at_l7_11 : or_T := (2, 9, [(0, (2, 0, 0, [165])), (2, (0, 0, 99999136, [])), (4, (0, 7, 7, [])), (5, (0, 0, 23, [])), (6, (0, 1, 24, [])), (7, (0, 0, 6, [])), (8, (0, 1, 24, []))], [(6, [8, 5], [1]), (7, [7, 4], [1]), (20, [7, 3, 5], [50, 1, 1, 1005, 1002, 1, 2, 1, 0, 3, 1, 2, 4, 7, 4, 3, 2, 1, 5, 0, 243, 1, 2]), (7, [5, 6], [2]), (20, [6, 3], [30, 0, 1, 0, 0, -1, 3, 2005000]), (20, [6, 3], [30, 0, -1, 0, 0, 1, 3, 2005000]), (20, [3, 2, 5], [30, 0, 1, 1, 170, -1, 0, 0, -36, 0, 0]), (24, [0, 3], [])], [], [], [(20, [3, 2, 8], [30, 0, 1, 1, 170, -1, 0, 0, -36, 0, 0])], [], [(8, 5, 1, 1), (8, 6, -4294967296, 0), (5, 6, -4294967296, -1)])
theorem oo_Mo_writeGroup_at_l7_11 {kA : Nat → ClassId} : or_ok PRD kA GG o_Mo_writeGroup_at_l7_11 := by
  refine or_mk fun A ta ws vs hD hth hl => ?_
  intro t0 r0 t2 k2 t4 k4 t5 k5 t6 k6 t7 k7 t8 k8 d0 d1 d2 f0 f1 f2 f3 f4 f5 f6 f7
  replace f0 := shm_4 f0
  replace f1 := shm_40 f1
  replace f2 := shm_597 f2
  replace f3 := shm_6 f3
  replace f4 := shm_126 f4
  replace f5 := shm_127 f5
  replace f6 := shm_2035 f6
  replace f7 := shm_5 f7
  have q3 : n_v vs 3 = n_v vs 0 := f7.symm
  simp only [q3] at f2 f4 f5 f6
  have kz_0_170 := fdq_11 hD hth r0
  have nf0 : fc_1 PRD (20, [3, 2, 8], [30, 0, 1, 1, 170, -1, 0, 0, -36, 0, 0]) ws (vs) := by
    refine ⟨nf_in hl rfl, sgq_2035 ?_⟩
    · show 1 * w_fi ws (n_v vs 3) 170 + ((-1) * v_iv (n_v vs 2) + ((-36) * v_iv (n_v vs 8) + 0)) ≤ 0
      rw [q3]
      exact vc_Mo_writeGroup_at_l7_11_0 (v_iv (n_v vs 2)) (v_iv (n_v vs 4)) (v_iv (n_v vs 5)) (v_iv (n_v vs 6)) (v_iv (n_v vs 7)) (v_iv (n_v vs 8)) (w_ei ws (w_ar ws (n_v vs 0) 2)) (w_fi ws (n_v vs 0) 5) (w_fi ws (n_v vs 0) 170) k2 k4 k5 k6 k7 k8 d0 d1 d2 f0 f1 f2 f3 f4 f5 f6 kz_0_170
  refine ⟨(fun _ h => (by cases h)), [], trivial, ?_, (fun _ h => (by cases h))⟩
  rw [List.append_nil]
  exact List.forall_mem_cons.mpr ⟨⟨show (20 : Nat) < 100 from by decide, nf0⟩, (fun _ h => (by cases h))⟩
set_option maxHeartbeats 4000000 in
theorem vc_Mo_writeGroup_at_l7_12_0 (x2 : Int) (x4 : Int) (x5 : Int) (x6 : Int) (all_0 : Int → Int) (r_0 : Int) (texts_0 : Int) (k2 : 0 ≤ x2 ∧ x2 ≤ 99999136) (k4 : 7 ≤ x4 ∧ x4 ≤ 7) (k5 : 8 ≤ x5 ∧ x5 ≤ 8) (k6 : 0 ≤ x6 ∧ x6 ≤ 8) (f0 : x6 ≤ x5) (f1 : 1 * x6 + ((-1) * all_0 (r_0 + 2) + 0) ≤ 0) (f2 : (-1) * x6 + (1 * all_0 (r_0 + 2) + 0) ≤ 0) (f3 : 1 * texts_0 + ((-1) * x2 + ((-19) * x5 + (19 * x4 + 0))) ≤ 845) (kz_0_170 : 0 ≤ texts_0 ∧ texts_0 ≤ 100000000) : 1 * texts_0 + ((-1) * x2 + 0) ≤ 864 := by
  first | assumption | omega | grind
def o_Mo_writeGroup_at_l7_12 : or_T := (177, 7, [(0, (2, 0, 0, [165])), (2, (0, 0, 99999136, [])), (4, (0, 7, 7, [])), (5, (0, 8, 8, [])), (6, (0, 0, 8, []))], [(7, [5, 6], [3]), (20, [6, 3], [30, 0, 1, 0, 0, -1, 3, 2005002]), (20, [6, 3], [30, 0, -1, 0, 0, 1, 3, 2005002]), (20, [3, 2, 5, 4], [30, 845, 1, 1, 170, -1, 0, 0, -19, 0, 0, 19, 0, 0]), (24, [0, 3], [])], [], [], [(20, [0, 2], [30, 864, 1, 1, 170, -1, 0, 0])], [], [])
theorem oo_Mo_writeGroup_at_l7_12 {kA : Nat → ClassId} : or_ok PRD kA GG o_Mo_writeGroup_at_l7_12 := by
  refine or_mk fun A ta ws vs hD hth hl => ?_
  intro t0 r0 t2 k2 t4 k4 t5 k5 t6 k6 f0 f1 f2 f3 f4
  replace f1 := shm_123 f1
  replace f2 := shm_124 f2
  replace f3 := shm_2092 f3
  replace f4 := shm_5 f4
  have q3 : n_v vs 3 = n_v vs 0 := f4.symm
  simp only [q3] at f1 f2 f3
  have kz_0_170 := fdq_11 hD hth r0
  have nf0 : fc_1 PRD (20, [0, 2], [30, 864, 1, 1, 170, -1, 0, 0]) ws (vs) := ⟨nf_in hl rfl, sgq_2090 (vc_Mo_writeGroup_at_l7_12_0 (v_iv (n_v vs 2)) (v_iv (n_v vs 4)) (v_iv (n_v vs 5)) (v_iv (n_v vs 6)) (w_ei ws (w_ar ws (n_v vs 0) 2)) (w_fi ws (n_v vs 0) 5) (w_fi ws (n_v vs 0) 170) k2 k4 k5 k6 (shm_2 f0) f1 f2 f3 kz_0_170)⟩
  refine ⟨(fun _ h => (by cases h)), [], trivial, ?_, (fun _ h => (by cases h))⟩
  rw [List.append_nil]
  exact List.forall_mem_cons.mpr ⟨⟨show (20 : Nat) < 100 from by decide, nf0⟩, (fun _ h => (by cases h))⟩
def n_Mo_writeGroup_at_l7_an : List an_T := [(2, [(0, (2, 0, 0, [165])), (1, (0, 7, 7, [])), (2, (0, 0, 24, []))], [], (0, 0), [(0, 0, 99998), (1, 5, 24), (0, 0, 100000)], [], [], [(2, 0, 0, [165]), (0, 7, 7, []), (0, 0, 99999136, [])], 0, [], [(20, [3, 2, 5], [30, 0, 1, 1, 170, (Int.negSucc 0), 0, 0, (Int.negSucc 35), 0, 0]), (24, [0, 3], [])]), (83, [(0, (2, 0, 0, [165])), (1, (0, 7, 7, [])), (2, (0, 8, 8, []))], [], (0, 0), [(0, 0, 99917), (0, 0, 0), (0, 0, 100000)], [], [], [(2, 0, 0, [165]), (0, 7, 7, []), (0, 0, 99999136, [])], 0, [], [(20, [3, 2, 5, 4], [30, 845, 1, 1, 170, (Int.negSucc 0), 0, 0, (Int.negSucc 18), 0, 0, 19, 0, 0]), (24, [0, 3], [])])]
def t_Mo_writeGroup_at_l7_ct : ct_L := [(1, 475, e_Mo_nodes), (1, 509, e_Mo_groups), (1, 723, e_Mo_size), (1, 725, e_Mo_groupOf), (1, 1293, e_Mo_writeNode), (1, 1298, e_Mo_writeNumber), (82, 1290, e_Mo_write_at_s5013), (145, 1290, e_Mo_write_at_s5014), (193, 1290, e_Mo_write_at_s5045), (214, 1290, e_Mo_write_at_s5015), (1000001, 1288, en_ro [] (2, 0, 0, [5013])), (1000001, 1296, en_ro [] (2, 0, 0, [5014])), (1000001, 1301, en_ro [] (2, 0, 0, [5045])), (1000001, 1303, en_ro [] (2, 0, 0, [5015]))]
set_option maxRecDepth 100000 in
theorem c_Mo_writeGroup_at_l7 {l : Launch} {D : va_G} {kA : Nat → ClassId} (h_Mo_groupOf : ct_ok PRD l D kA GG y_Mo_groupOf z_Mo_groupOf e_Mo_groupOf) (h_Mo_groups : ct_ok PRD l D kA GG y_Mo_groups z_Mo_groups e_Mo_groups) (h_Mo_nodes : ct_ok PRD l D kA GG y_Mo_nodes z_Mo_nodes e_Mo_nodes) (h_Mo_size : ct_ok PRD l D kA GG y_Mo_size z_Mo_size e_Mo_size) (h_Mo_writeNode : ct_ok PRD l D kA GG y_Mo_writeNode z_Mo_writeNode e_Mo_writeNode) (h_Mo_writeNumber : ct_ok PRD l D kA GG y_Mo_writeNumber z_Mo_writeNumber e_Mo_writeNumber) (h_Mo_write_at_s5013 : ct_ok PRD l D kA GG y_Mo_write_at_s5013 z_Mo_write_at_s5013 e_Mo_write_at_s5013) (h_Mo_write_at_s5014 : ct_ok PRD l D kA GG y_Mo_write_at_s5014 z_Mo_write_at_s5014 e_Mo_write_at_s5014) (h_Mo_write_at_s5015 : ct_ok PRD l D kA GG y_Mo_write_at_s5015 z_Mo_write_at_s5015 e_Mo_write_at_s5015) (h_Mo_write_at_s5045 : ct_ok PRD l D kA GG y_Mo_write_at_s5045 z_Mo_write_at_s5045 e_Mo_write_at_s5045) : ct_ok PRD l D kA GG y_Mo_writeGroup_at_l7 z_Mo_writeGroup_at_l7 e_Mo_writeGroup_at_l7 := chk_all_ok (FT := [(16, 13, 2), (391, 13, 5)]) (PT := []) (CT := t_Mo_writeGroup_at_l7_ct) (KT := []) (NT := []) (AN := n_Mo_writeGroup_at_l7_an) (OT := [o_Mo_writeGroup_at_l7_0, o_Mo_writeGroup_at_l7_1, o_Mo_writeGroup_at_l7_2, o_Mo_writeGroup_at_l7_3, o_Mo_writeGroup_at_l7_4, o_Mo_writeGroup_at_l7_5, o_Mo_writeGroup_at_l7_6, o_Mo_writeGroup_at_l7_7, o_Mo_writeGroup_at_l7_8, o_Mo_writeGroup_at_l7_9, o_Mo_writeGroup_at_l7_10, o_Mo_writeGroup_at_l7_11, o_Mo_writeGroup_at_l7_12]) 3 220 (List.forall_mem_cons.mpr ⟨oo_Mo_writeGroup_at_l7_0, List.forall_mem_cons.mpr ⟨oo_Mo_writeGroup_at_l7_1, List.forall_mem_cons.mpr ⟨oo_Mo_writeGroup_at_l7_2, List.forall_mem_cons.mpr ⟨oo_Mo_writeGroup_at_l7_3, List.forall_mem_cons.mpr ⟨oo_Mo_writeGroup_at_l7_4, List.forall_mem_cons.mpr ⟨oo_Mo_writeGroup_at_l7_5, List.forall_mem_cons.mpr ⟨oo_Mo_writeGroup_at_l7_6, List.forall_mem_cons.mpr ⟨oo_Mo_writeGroup_at_l7_7, List.forall_mem_cons.mpr ⟨oo_Mo_writeGroup_at_l7_8, List.forall_mem_cons.mpr ⟨oo_Mo_writeGroup_at_l7_9, List.forall_mem_cons.mpr ⟨oo_Mo_writeGroup_at_l7_10, List.forall_mem_cons.mpr ⟨oo_Mo_writeGroup_at_l7_11, List.forall_mem_cons.mpr ⟨oo_Mo_writeGroup_at_l7_12, List.forall_mem_nil _⟩⟩⟩⟩⟩⟩⟩⟩⟩⟩⟩⟩⟩) (by decide +kernel) ⟨List.forall_mem_cons.mpr ⟨gf_Mo_16, List.forall_mem_cons.mpr ⟨gf_Mo_391, List.forall_mem_nil _⟩⟩, List.forall_mem_nil _, List.forall_mem_cons.mpr ⟨cl_virtual (y := y_Mo_nodes) (ci := 13) rfl rfl ⟨_, _, rfl⟩ (by decide +kernel) h_Mo_nodes wm_3025 wm_9 wm_3022 wm_3024 wv_13_3 ⟨by decide, by decide, by decide +kernel⟩ (by decide), List.forall_mem_cons.mpr ⟨cl_virtual (y := y_Mo_groups) (ci := 13) rfl rfl ⟨_, _, rfl⟩ (by decide +kernel) h_Mo_groups wm_3070 wm_9 wm_3067 wm_3069 wv_13_14 ⟨by decide, by decide, by decide +kernel⟩ (by decide), List.forall_mem_cons.mpr ⟨cl_virtual (y := y_Mo_size) (ci := 13) rfl rfl ⟨_, _, rfl⟩ (by decide +kernel) h_Mo_size wm_3307 wm_9 wm_3304 wm_3306 wv_17_0 ⟨by decide, by decide, by decide +kernel⟩ (by decide), List.forall_mem_cons.mpr ⟨cl_virtual (y := y_Mo_groupOf) (ci := 13) rfl rfl ⟨_, _, rfl⟩ (by decide +kernel) h_Mo_groupOf wm_3311 wm_9 wm_3308 wm_3310 wv_17_1 ⟨by decide, by decide, by decide +kernel⟩ (by decide), List.forall_mem_cons.mpr ⟨cl_virtual (y := y_Mo_writeNode) (ci := 13) rfl rfl ⟨_, _, rfl⟩ (by decide +kernel) h_Mo_writeNode wm_3918 wm_9 wm_3915 wm_3917 wv_24_9 ⟨by decide, by decide, by decide +kernel⟩ (by decide), List.forall_mem_cons.mpr ⟨cl_virtual (y := y_Mo_writeNumber) (ci := 13) rfl rfl ⟨_, _, rfl⟩ (by decide +kernel) h_Mo_writeNumber wm_3927 wm_9 wm_3924 wm_3926 wv_24_11 ⟨by decide, by decide, by decide +kernel⟩ (by decide), List.forall_mem_cons.mpr ⟨cl_virtual (y := y_Mo_write_at_s5013) (ci := 13) rfl rfl ⟨_, _, rfl⟩ (by decide +kernel) h_Mo_write_at_s5013 wm_3910 wm_9 wm_3907 wm_3909 wv_24_7 ⟨by decide, by decide, by decide +kernel⟩ (by decide), List.forall_mem_cons.mpr ⟨cl_virtual (y := y_Mo_write_at_s5014) (ci := 13) rfl rfl ⟨_, _, rfl⟩ (by decide +kernel) h_Mo_write_at_s5014 wm_3910 wm_9 wm_3907 wm_3909 wv_24_7 ⟨by decide, by decide, by decide +kernel⟩ (by decide), List.forall_mem_cons.mpr ⟨cl_virtual (y := y_Mo_write_at_s5045) (ci := 13) rfl rfl ⟨_, _, rfl⟩ (by decide +kernel) h_Mo_write_at_s5045 wm_3910 wm_9 wm_3907 wm_3909 wv_24_7 ⟨by decide, by decide, by decide +kernel⟩ (by decide), List.forall_mem_cons.mpr ⟨cl_virtual (y := y_Mo_write_at_s5015) (ci := 13) rfl rfl ⟨_, _, rfl⟩ (by decide +kernel) h_Mo_write_at_s5015 wm_3910 wm_9 wm_3907 wm_3909 wv_24_7 ⟨by decide, by decide, by decide +kernel⟩ (by decide), List.forall_mem_cons.mpr ⟨cl_ldcw (own := "DrawingHouseModel") (idx := 1288) (i := 13) (tx := "node ") (by decide +kernel) (by decide +kernel) (by decide +kernel), List.forall_mem_cons.mpr ⟨cl_ldcw (own := "DrawingHouseModel") (idx := 1296) (i := 14) (tx := " [size=") (by decide +kernel) (by decide +kernel) (by decide +kernel), List.forall_mem_cons.mpr ⟨cl_ldcw (own := "DrawingHouseModel") (idx := 1301) (i := 45) (tx := "]") (by decide +kernel) (by decide +kernel) (by decide +kernel), List.forall_mem_cons.mpr ⟨cl_ldcw (own := "DrawingHouseModel") (idx := 1303) (i := 15) (tx := ";\n") (by decide +kernel) (by decide +kernel) (by decide +kernel), List.forall_mem_nil _⟩⟩⟩⟩⟩⟩⟩⟩⟩⟩⟩⟩⟩⟩, List.forall_mem_nil _, List.forall_mem_nil _, GG_pl⟩ (by decide +kernel)

set_option maxHeartbeats 4000000 in
theorem vc_Mo_dots_0_r0 (x1 : Int) (x4 : Int) (now_0 : Int → Int) (r_0 : Int) (k1 : (-2147483648) ≤ x1 ∧ x1 ≤ 2147483647) (k4 : 1 ≤ x4 ∧ x4 ≤ 1) (f0 : x4 ≠ 0) (f1 : (x4 = 1) → ((0 ≤ x1) ∧ ((x1 ≤ 3) ∧ (r_0 = ((16709 * x1) + (539 * now_0 (x1))))))) (hK_0_3 : ∀ j : Int, 0 ≤ j → j < 4 → 0 ≤ now_0 j ∧ now_0 j ≤ 30) : 0 ≤ x1 ∧ x1 ≤ 3 := by
  first
    | assumption
    | (clear f1 hK_0_3; omega)
    | exact (bna_x ‹BNA _ _ _ _ _ _ _ _ _ _ _ _› (by assumption) (by assumption) (by assumption) (by assumption) (by assumption) (by assumption) (by assumption) (by omega) (by omega)).1
    | exact (bna_x ‹BNA _ _ _ _ _ _ _ _ _ _ _ _› (by assumption) (by assumption) (by assumption) (by assumption) (by assumption) (by assumption) (by assumption) (by omega) (by omega)).2
    | exact (bna_y ‹BNA _ _ _ _ _ _ _ _ _ _ _ _› (by assumption) (by assumption) (by assumption) (by assumption) (by assumption) (by assumption) (by assumption) (by omega) (by omega)).1
    | exact (bna_y ‹BNA _ _ _ _ _ _ _ _ _ _ _ _› (by assumption) (by assumption) (by assumption) (by assumption) (by assumption) (by assumption) (by assumption) (by omega) (by omega)).2
    | exact (bna_nx ‹BNA _ _ _ _ _ _ _ _ _ _ _ _› (by assumption) (by clear f1 hK_0_3; omega) (by clear f1 hK_0_3; omega)).1
    | exact (bna_nx ‹BNA _ _ _ _ _ _ _ _ _ _ _ _› (by assumption) (by clear f1 hK_0_3; omega) (by clear f1 hK_0_3; omega)).2
    | exact (bna_ny ‹BNA _ _ _ _ _ _ _ _ _ _ _ _› (by assumption) (by clear f1 hK_0_3; omega) (by clear f1 hK_0_3; omega)).1
    | exact (bna_ny ‹BNA _ _ _ _ _ _ _ _ _ _ _ _› (by assumption) (by clear f1 hK_0_3; omega) (by clear f1 hK_0_3; omega)).2
    | omega
def o_Mo_dots_0 : or_T := (8, 5, [(0, (2, 0, 0, [165])), (1, (0, -2147483648, 2147483647, [])), (4, (0, 1, 1, []))], [(8, [4], [1]), (20, [4, 1, 0], [50, 1, 1, 2005, 2003, 4, 6, 1, 2, 1, 0, 0, 1, 2, 6, 0, 2, 0, 0, 1, 1, 2, 6, 0, 2, 1, 1, 0, 3, 1, 3, 2, 2, 5, 4, 6, 6, 2, 0, 16709, 1, 1, 6, 2, 0, 539, 3, 2, 3, 1, 1])], [(1, (0, 0, 3, []))], [], [], [], [])
theorem oo_Mo_dots_0 {kA : Nat → ClassId} : or_ok PRD kA GG o_Mo_dots_0 := by
  refine or_mk fun A ta ws vs hD hth hl => ?_
  intro t0 r0 t1 k1 t4 k4 f0 f1
  have cr_0_3 := fdq_142 hD hth r0
  have hK_0_3 := elq_80 hD hth cr_0_3
  have hrf0 : 0 ≤ v_iv (n_v vs 1) ∧ v_iv (n_v vs 1) ≤ 3 := vc_Mo_dots_0_r0 (v_iv (n_v vs 1)) (v_iv (n_v vs 4)) (w_ei ws (w_ar ws (n_v vs 0) 3)) (w_fi ws (n_v vs 0) 5) k1 k4 (shm_142 f0) (shm_1430 f1) hK_0_3
  have rf1 : tv_ok ta (0, 0, 3, []) (n_v vs 1) := tv_in t1 (by first | omega | grind) (by first | omega | grind)
  refine ⟨List.forall_mem_cons.mpr ⟨rf1, (fun _ h => (by cases h))⟩, [], trivial, ?_, (fun _ h => (by cases h))⟩
  rw [List.append_nil]
  exact (fun _ h => (by cases h))
set_option maxHeartbeats 4000000 in
theorem vc_Mo_dots_1_0 (x1 : Int) (x2 : Int) (x3 : Int) (x4 : Int) (now_0 : Int → Int) (r_0 : Int) (now_1 : Int → Int) (r_1 : Int) (now_2 : Int → Int) (r_2 : Int) (dotWide_0 : Int) (dotWide_1 : Int) (dotTall_0 : Int) (dotTall_1 : Int) (dotTall_2 : Int) (k1 : 0 ≤ x1 ∧ x1 ≤ 3) (k2 : 1 ≤ x2 ∧ x2 ≤ 64) (k3 : 1 ≤ x3 ∧ x3 ≤ 64) (k4 : 1 ≤ x4 ∧ x4 ≤ 1) (f0 : (x4 = 1) → ((0 ≤ x1) ∧ ((x1 ≤ 3) ∧ (r_0 = ((16709 * x1) + (539 * now_0 (x1))))))) (f2 : (x4 = 1) → ((0 ≤ x1) ∧ ((x1 ≤ 3) ∧ (r_1 = ((16709 * x1) + (539 * now_1 (x1))))))) (f4 : x4 ≠ 0) (f5 : (x4 = 1) → ((0 ≤ x1) ∧ ((x1 ≤ 3) ∧ (r_2 = ((16709 * x1) + (539 * now_2 (x1))))))) (fe_0_5_1 : r_0 = r_1) (fe_0_173_1 : dotWide_0 = dotWide_1) (fe_0_174_1 : dotTall_0 = x3) (fe_0_5_2 : r_1 = r_2) (fe_0_173_2 : dotWide_1 = x2) (fe_0_174_2 : dotTall_1 = dotTall_2) (hE_0_3_1 : ∀ j : Int, now_0 j = now_1 j) (hE_0_3_2 : ∀ j : Int, now_1 j = now_2 j) (hK_0_3 : ∀ j : Int, 0 ≤ j → j < 4 → 0 ≤ now_0 j ∧ now_0 j ≤ 30) (kz_0_173 : 0 ≤ dotWide_0 ∧ dotWide_0 ≤ 64) (kz_0_174 : 0 ≤ dotTall_0 ∧ dotTall_0 ≤ 64) : (-1) * dotWide_0 + 0 ≤ (-1) := by
  subst fe_0_5_1
  subst fe_0_173_1
  subst fe_0_5_2
  subst fe_0_174_2
  have e_hE_0_3_1 := funext hE_0_3_1; subst e_hE_0_3_1
  have e_hE_0_3_2 := funext hE_0_3_2; subst e_hE_0_3_2
  first
    | assumption
    | (clear f0 f2 f5 hE_0_3_1 hE_0_3_2 hK_0_3; omega)
    | exact (bna_x ‹BNA _ _ _ _ _ _ _ _ _ _ _ _› (by assumption) (by assumption) (by assumption) (by assumption) (by assumption) (by assumption) (by assumption) (by omega) (by omega)).1
    | exact (bna_x ‹BNA _ _ _ _ _ _ _ _ _ _ _ _› (by assumption) (by assumption) (by assumption) (by assumption) (by assumption) (by assumption) (by assumption) (by omega) (by omega)).2
    | exact (bna_y ‹BNA _ _ _ _ _ _ _ _ _ _ _ _› (by assumption) (by assumption) (by assumption) (by assumption) (by assumption) (by assumption) (by assumption) (by omega) (by omega)).1
    | exact (bna_y ‹BNA _ _ _ _ _ _ _ _ _ _ _ _› (by assumption) (by assumption) (by assumption) (by assumption) (by assumption) (by assumption) (by assumption) (by omega) (by omega)).2
    | exact (bna_nx ‹BNA _ _ _ _ _ _ _ _ _ _ _ _› (by assumption) (by clear f0 f2 f5 hE_0_3_1 hE_0_3_2 hK_0_3; omega) (by clear f0 f2 f5 hE_0_3_1 hE_0_3_2 hK_0_3; omega)).1
    | exact (bna_nx ‹BNA _ _ _ _ _ _ _ _ _ _ _ _› (by assumption) (by clear f0 f2 f5 hE_0_3_1 hE_0_3_2 hK_0_3; omega) (by clear f0 f2 f5 hE_0_3_1 hE_0_3_2 hK_0_3; omega)).2
    | exact (bna_ny ‹BNA _ _ _ _ _ _ _ _ _ _ _ _› (by assumption) (by clear f0 f2 f5 hE_0_3_1 hE_0_3_2 hK_0_3; omega) (by clear f0 f2 f5 hE_0_3_1 hE_0_3_2 hK_0_3; omega)).1
    | exact (bna_ny ‹BNA _ _ _ _ _ _ _ _ _ _ _ _› (by assumption) (by clear f0 f2 f5 hE_0_3_1 hE_0_3_2 hK_0_3; omega) (by clear f0 f2 f5 hE_0_3_1 hE_0_3_2 hK_0_3; omega)).2
    | omega
set_option maxHeartbeats 4000000 in
theorem vc_Mo_dots_1_1 (x1 : Int) (x2 : Int) (x3 : Int) (x4 : Int) (now_0 : Int → Int) (r_0 : Int) (now_1 : Int → Int) (r_1 : Int) (now_2 : Int → Int) (r_2 : Int) (dotWide_0 : Int) (dotWide_1 : Int) (dotTall_0 : Int) (dotTall_1 : Int) (dotTall_2 : Int) (k1 : 0 ≤ x1 ∧ x1 ≤ 3) (k2 : 1 ≤ x2 ∧ x2 ≤ 64) (k3 : 1 ≤ x3 ∧ x3 ≤ 64) (k4 : 1 ≤ x4 ∧ x4 ≤ 1) (f0 : (x4 = 1) → ((0 ≤ x1) ∧ ((x1 ≤ 3) ∧ (r_0 = ((16709 * x1) + (539 * now_0 (x1))))))) (f2 : (x4 = 1) → ((0 ≤ x1) ∧ ((x1 ≤ 3) ∧ (r_1 = ((16709 * x1) + (539 * now_1 (x1))))))) (f4 : x4 ≠ 0) (f5 : (x4 = 1) → ((0 ≤ x1) ∧ ((x1 ≤ 3) ∧ (r_2 = ((16709 * x1) + (539 * now_2 (x1))))))) (fe_0_5_1 : r_0 = r_1) (fe_0_173_1 : dotWide_0 = dotWide_1) (fe_0_174_1 : dotTall_0 = x3) (fe_0_5_2 : r_1 = r_2) (fe_0_173_2 : dotWide_1 = x2) (fe_0_174_2 : dotTall_1 = dotTall_2) (hE_0_3_1 : ∀ j : Int, now_0 j = now_1 j) (hE_0_3_2 : ∀ j : Int, now_1 j = now_2 j) (hK_0_3 : ∀ j : Int, 0 ≤ j → j < 4 → 0 ≤ now_0 j ∧ now_0 j ≤ 30) (kz_0_173 : 0 ≤ dotWide_0 ∧ dotWide_0 ≤ 64) (kz_0_174 : 0 ≤ dotTall_0 ∧ dotTall_0 ≤ 64) : 1 * dotWide_0 + 0 ≤ 64 := by
  subst fe_0_5_1
  subst fe_0_173_1
  subst fe_0_5_2
  subst fe_0_174_2
  have e_hE_0_3_1 := funext hE_0_3_1; subst e_hE_0_3_1
  have e_hE_0_3_2 := funext hE_0_3_2; subst e_hE_0_3_2
  first
    | assumption
    | (clear f0 f2 f5 hE_0_3_1 hE_0_3_2 hK_0_3; omega)
    | exact (bna_x ‹BNA _ _ _ _ _ _ _ _ _ _ _ _› (by assumption) (by assumption) (by assumption) (by assumption) (by assumption) (by assumption) (by assumption) (by omega) (by omega)).1
    | exact (bna_x ‹BNA _ _ _ _ _ _ _ _ _ _ _ _› (by assumption) (by assumption) (by assumption) (by assumption) (by assumption) (by assumption) (by assumption) (by omega) (by omega)).2
    | exact (bna_y ‹BNA _ _ _ _ _ _ _ _ _ _ _ _› (by assumption) (by assumption) (by assumption) (by assumption) (by assumption) (by assumption) (by assumption) (by omega) (by omega)).1
    | exact (bna_y ‹BNA _ _ _ _ _ _ _ _ _ _ _ _› (by assumption) (by assumption) (by assumption) (by assumption) (by assumption) (by assumption) (by assumption) (by omega) (by omega)).2
    | exact (bna_nx ‹BNA _ _ _ _ _ _ _ _ _ _ _ _› (by assumption) (by clear f0 f2 f5 hE_0_3_1 hE_0_3_2 hK_0_3; omega) (by clear f0 f2 f5 hE_0_3_1 hE_0_3_2 hK_0_3; omega)).1
    | exact (bna_nx ‹BNA _ _ _ _ _ _ _ _ _ _ _ _› (by assumption) (by clear f0 f2 f5 hE_0_3_1 hE_0_3_2 hK_0_3; omega) (by clear f0 f2 f5 hE_0_3_1 hE_0_3_2 hK_0_3; omega)).2
    | exact (bna_ny ‹BNA _ _ _ _ _ _ _ _ _ _ _ _› (by assumption) (by clear f0 f2 f5 hE_0_3_1 hE_0_3_2 hK_0_3; omega) (by clear f0 f2 f5 hE_0_3_1 hE_0_3_2 hK_0_3; omega)).1
    | exact (bna_ny ‹BNA _ _ _ _ _ _ _ _ _ _ _ _› (by assumption) (by clear f0 f2 f5 hE_0_3_1 hE_0_3_2 hK_0_3; omega) (by clear f0 f2 f5 hE_0_3_1 hE_0_3_2 hK_0_3; omega)).2
    | omega
set_option maxHeartbeats 4000000 in
theorem vc_Mo_dots_1_2 (x1 : Int) (x2 : Int) (x3 : Int) (x4 : Int) (now_0 : Int → Int) (r_0 : Int) (now_1 : Int → Int) (r_1 : Int) (now_2 : Int → Int) (r_2 : Int) (dotWide_0 : Int) (dotWide_1 : Int) (dotTall_0 : Int) (dotTall_1 : Int) (dotTall_2 : Int) (k1 : 0 ≤ x1 ∧ x1 ≤ 3) (k2 : 1 ≤ x2 ∧ x2 ≤ 64) (k3 : 1 ≤ x3 ∧ x3 ≤ 64) (k4 : 1 ≤ x4 ∧ x4 ≤ 1) (f0 : (x4 = 1) → ((0 ≤ x1) ∧ ((x1 ≤ 3) ∧ (r_0 = ((16709 * x1) + (539 * now_0 (x1))))))) (f2 : (x4 = 1) → ((0 ≤ x1) ∧ ((x1 ≤ 3) ∧ (r_1 = ((16709 * x1) + (539 * now_1 (x1))))))) (f4 : x4 ≠ 0) (f5 : (x4 = 1) → ((0 ≤ x1) ∧ ((x1 ≤ 3) ∧ (r_2 = ((16709 * x1) + (539 * now_2 (x1))))))) (fe_0_5_1 : r_0 = r_1) (fe_0_173_1 : dotWide_0 = dotWide_1) (fe_0_174_1 : dotTall_0 = x3) (fe_0_5_2 : r_1 = r_2) (fe_0_173_2 : dotWide_1 = x2) (fe_0_174_2 : dotTall_1 = dotTall_2) (hE_0_3_1 : ∀ j : Int, now_0 j = now_1 j) (hE_0_3_2 : ∀ j : Int, now_1 j = now_2 j) (hK_0_3 : ∀ j : Int, 0 ≤ j → j < 4 → 0 ≤ now_0 j ∧ now_0 j ≤ 30) (kz_0_173 : 0 ≤ dotWide_0 ∧ dotWide_0 ≤ 64) (kz_0_174 : 0 ≤ dotTall_0 ∧ dotTall_0 ≤ 64) : (-1) * dotTall_0 + 0 ≤ (-1) := by
  subst fe_0_5_1
  subst fe_0_173_1
  subst fe_0_5_2
  subst fe_0_174_2
  have e_hE_0_3_1 := funext hE_0_3_1; subst e_hE_0_3_1
  have e_hE_0_3_2 := funext hE_0_3_2; subst e_hE_0_3_2
  first
    | assumption
    | (clear f0 f2 f5 hE_0_3_1 hE_0_3_2 hK_0_3; omega)
    | exact (bna_x ‹BNA _ _ _ _ _ _ _ _ _ _ _ _› (by assumption) (by assumption) (by assumption) (by assumption) (by assumption) (by assumption) (by assumption) (by omega) (by omega)).1
    | exact (bna_x ‹BNA _ _ _ _ _ _ _ _ _ _ _ _› (by assumption) (by assumption) (by assumption) (by assumption) (by assumption) (by assumption) (by assumption) (by omega) (by omega)).2
    | exact (bna_y ‹BNA _ _ _ _ _ _ _ _ _ _ _ _› (by assumption) (by assumption) (by assumption) (by assumption) (by assumption) (by assumption) (by assumption) (by omega) (by omega)).1
    | exact (bna_y ‹BNA _ _ _ _ _ _ _ _ _ _ _ _› (by assumption) (by assumption) (by assumption) (by assumption) (by assumption) (by assumption) (by assumption) (by omega) (by omega)).2
    | exact (bna_nx ‹BNA _ _ _ _ _ _ _ _ _ _ _ _› (by assumption) (by clear f0 f2 f5 hE_0_3_1 hE_0_3_2 hK_0_3; omega) (by clear f0 f2 f5 hE_0_3_1 hE_0_3_2 hK_0_3; omega)).1
    | exact (bna_nx ‹BNA _ _ _ _ _ _ _ _ _ _ _ _› (by assumption) (by clear f0 f2 f5 hE_0_3_1 hE_0_3_2 hK_0_3; omega) (by clear f0 f2 f5 hE_0_3_1 hE_0_3_2 hK_0_3; omega)).2
    | exact (bna_ny ‹BNA _ _ _ _ _ _ _ _ _ _ _ _› (by assumption) (by clear f0 f2 f5 hE_0_3_1 hE_0_3_2 hK_0_3; omega) (by clear f0 f2 f5 hE_0_3_1 hE_0_3_2 hK_0_3; omega)).1
    | exact (bna_ny ‹BNA _ _ _ _ _ _ _ _ _ _ _ _› (by assumption) (by clear f0 f2 f5 hE_0_3_1 hE_0_3_2 hK_0_3; omega) (by clear f0 f2 f5 hE_0_3_1 hE_0_3_2 hK_0_3; omega)).2
    | omega
set_option maxHeartbeats 4000000 in
theorem vc_Mo_dots_1_3 (x1 : Int) (x2 : Int) (x3 : Int) (x4 : Int) (now_0 : Int → Int) (r_0 : Int) (now_1 : Int → Int) (r_1 : Int) (now_2 : Int → Int) (r_2 : Int) (dotWide_0 : Int) (dotWide_1 : Int) (dotTall_0 : Int) (dotTall_1 : Int) (dotTall_2 : Int) (k1 : 0 ≤ x1 ∧ x1 ≤ 3) (k2 : 1 ≤ x2 ∧ x2 ≤ 64) (k3 : 1 ≤ x3 ∧ x3 ≤ 64) (k4 : 1 ≤ x4 ∧ x4 ≤ 1) (f0 : (x4 = 1) → ((0 ≤ x1) ∧ ((x1 ≤ 3) ∧ (r_0 = ((16709 * x1) + (539 * now_0 (x1))))))) (f2 : (x4 = 1) → ((0 ≤ x1) ∧ ((x1 ≤ 3) ∧ (r_1 = ((16709 * x1) + (539 * now_1 (x1))))))) (f4 : x4 ≠ 0) (f5 : (x4 = 1) → ((0 ≤ x1) ∧ ((x1 ≤ 3) ∧ (r_2 = ((16709 * x1) + (539 * now_2 (x1))))))) (fe_0_5_1 : r_0 = r_1) (fe_0_173_1 : dotWide_0 = dotWide_1) (fe_0_174_1 : dotTall_0 = x3) (fe_0_5_2 : r_1 = r_2) (fe_0_173_2 : dotWide_1 = x2) (fe_0_174_2 : dotTall_1 = dotTall_2) (hE_0_3_1 : ∀ j : Int, now_0 j = now_1 j) (hE_0_3_2 : ∀ j : Int, now_1 j = now_2 j) (hK_0_3 : ∀ j : Int, 0 ≤ j → j < 4 → 0 ≤ now_0 j ∧ now_0 j ≤ 30) (kz_0_173 : 0 ≤ dotWide_0 ∧ dotWide_0 ≤ 64) (kz_0_174 : 0 ≤ dotTall_0 ∧ dotTall_0 ≤ 64) : 1 * dotTall_0 + 0 ≤ 64 := by
  subst fe_0_5_1
  subst fe_0_173_1
  subst fe_0_5_2
  subst fe_0_174_2
  have e_hE_0_3_1 := funext hE_0_3_1; subst e_hE_0_3_1
  have e_hE_0_3_2 := funext hE_0_3_2; subst e_hE_0_3_2
  first
    | assumption
    | (clear f0 f2 f5 hE_0_3_1 hE_0_3_2 hK_0_3; omega)
    | exact (bna_x ‹BNA _ _ _ _ _ _ _ _ _ _ _ _› (by assumption) (by assumption) (by assumption) (by assumption) (by assumption) (by assumption) (by assumption) (by omega) (by omega)).1
    | exact (bna_x ‹BNA _ _ _ _ _ _ _ _ _ _ _ _› (by assumption) (by assumption) (by assumption) (by assumption) (by assumption) (by assumption) (by assumption) (by omega) (by omega)).2
    | exact (bna_y ‹BNA _ _ _ _ _ _ _ _ _ _ _ _› (by assumption) (by assumption) (by assumption) (by assumption) (by assumption) (by assumption) (by assumption) (by omega) (by omega)).1
    | exact (bna_y ‹BNA _ _ _ _ _ _ _ _ _ _ _ _› (by assumption) (by assumption) (by assumption) (by assumption) (by assumption) (by assumption) (by assumption) (by omega) (by omega)).2
    | exact (bna_nx ‹BNA _ _ _ _ _ _ _ _ _ _ _ _› (by assumption) (by clear f0 f2 f5 hE_0_3_1 hE_0_3_2 hK_0_3; omega) (by clear f0 f2 f5 hE_0_3_1 hE_0_3_2 hK_0_3; omega)).1
    | exact (bna_nx ‹BNA _ _ _ _ _ _ _ _ _ _ _ _› (by assumption) (by clear f0 f2 f5 hE_0_3_1 hE_0_3_2 hK_0_3; omega) (by clear f0 f2 f5 hE_0_3_1 hE_0_3_2 hK_0_3; omega)).2
    | exact (bna_ny ‹BNA _ _ _ _ _ _ _ _ _ _ _ _› (by assumption) (by clear f0 f2 f5 hE_0_3_1 hE_0_3_2 hK_0_3; omega) (by clear f0 f2 f5 hE_0_3_1 hE_0_3_2 hK_0_3; omega)).1
    | exact (bna_ny ‹BNA _ _ _ _ _ _ _ _ _ _ _ _› (by assumption) (by clear f0 f2 f5 hE_0_3_1 hE_0_3_2 hK_0_3; omega) (by clear f0 f2 f5 hE_0_3_1 hE_0_3_2 hK_0_3; omega)).2
    | omega
def o_Mo_dots_1 : or_T := (40, 11, [(0, (2, 0, 0, [165])), (1, (0, 0, 3, [])), (2, (0, 1, 64, [])), (3, (0, 1, 64, [])), (4, (0, 1, 1, []))], [(20, [4, 1, 0], [50, 1, 1, 2005, 2003, 4, 6, 1, 2, 1, 0, 0, 1, 2, 6, 0, 2, 0, 0, 1, 1, 2, 6, 0, 2, 1, 1, 0, 3, 1, 3, 2, 2, 5, 4, 6, 6, 2, 0, 16709, 1, 1, 6, 2, 0, 539, 3, 2, 3, 1, 1]), (101, [0, 3], [174]), (20, [4, 1, 0], [50, 1, 1, 2005, 2003, 4, 6, 1, 2, 1, 0, 0, 1, 2, 6, 0, 2, 0, 0, 1, 1, 2, 6, 0, 2, 1, 1, 0, 3, 1, 3, 2, 2, 5, 4, 6, 6, 2, 0, 16709, 1, 1, 6, 2, 0, 539, 3, 2, 3, 1, 1]), (101, [0, 2], [173]), (8, [4], [1]), (20, [4, 1, 0], [50, 1, 1, 2005, 2003, 4, 6, 1, 2, 1, 0, 0, 1, 2, 6, 0, 2, 0, 0, 1, 1, 2, 6, 0, 2, 1, 1, 0, 3, 1, 3, 2, 2, 5, 4, 6, 6, 2, 0, 16709, 1, 1, 6, 2, 0, 539, 3, 2, 3, 1, 1])], [], [], [(20, [0], [30, -1, -1, 1, 173]), (20, [0], [30, 64, 1, 1, 173]), (20, [0], [30, -1, -1, 1, 174]), (20, [0], [30, 64, 1, 1, 174])], [], [])
theorem oo_Mo_dots_1 {kA : Nat → ClassId} : or_ok PRD kA GG o_Mo_dots_1 := by
  refine or_mk fun A ta ws vs hD hth hl => ?_
  intro t0 r0 t1 k1 t2 k2 t3 k3 t4 k4 f0 ta1 w1 le1 s1 f2 ta2 w2 le2 s2 f4 f5
  have s1 : (∀ b j, w_el ws b j = w_el w1 b j) ∧ ∀ b j, w_fd ws b j = if b = v_ad (n_v vs 0) ∧ j = 174 then n_v vs 3 else w_fd w1 b j := s1.2
  replace f2 := shm_1430 f2
  have s2 : (∀ b j, w_el w1 b j = w_el w2 b j) ∧ ∀ b j, w_fd w1 b j = if b = v_ad (n_v vs 0) ∧ j = 173 then n_v vs 2 else w_fd w2 b j := s2.2
  replace f5 := shm_1430 f5
  have ar_0_3_1 : w_ar w1 (n_v vs 0) 3 = w_ar ws (n_v vs 0) 3 := by show v_ad (w_fd w1 _ _) = v_ad (w_fd ws _ _); rw [s1.2, if_neg (fun e => absurd e.2 (by decide))]
  have ar_0_3_2 : w_ar w2 (n_v vs 0) 3 = w_ar ws (n_v vs 0) 3 := by rw [← ar_0_3_1]; show v_ad (w_fd w2 _ _) = v_ad (w_fd w1 _ _); rw [s2.2, if_neg (fun e => absurd e.2 (by decide))]
  have cr_0_3 := fdq_142 hD hth r0
  simp only [ar_0_3_1, ar_0_3_2] at f2 f5
  have fe_0_5_1 : w_fi ws (n_v vs 0) 5 = w_fi w1 (n_v vs 0) 5 := by show v_iv (w_fd _ _ _) = v_iv (w_fd _ _ _); rw [s1.2, if_neg (fun e => absurd e.2 (by decide))]
  have fe_0_173_1 : w_fi ws (n_v vs 0) 173 = w_fi w1 (n_v vs 0) 173 := by show v_iv (w_fd _ _ _) = v_iv (w_fd _ _ _); rw [s1.2, if_neg (fun e => absurd e.2 (by decide))]
  have fe_0_174_1 : w_fi ws (n_v vs 0) 174 = v_iv (n_v vs 3) := by show v_iv (w_fd _ _ _) = _; rw [s1.2, if_pos ⟨rfl, rfl⟩]
  have fe_0_5_2 : w_fi w1 (n_v vs 0) 5 = w_fi w2 (n_v vs 0) 5 := by show v_iv (w_fd _ _ _) = v_iv (w_fd _ _ _); rw [s2.2, if_neg (fun e => absurd e.2 (by decide))]
  have fe_0_173_2 : w_fi w1 (n_v vs 0) 173 = v_iv (n_v vs 2) := by show v_iv (w_fd _ _ _) = _; rw [s2.2, if_pos ⟨rfl, rfl⟩]
  have fe_0_174_2 : w_fi w1 (n_v vs 0) 174 = w_fi w2 (n_v vs 0) 174 := by show v_iv (w_fd _ _ _) = v_iv (w_fd _ _ _); rw [s2.2, if_neg (fun e => absurd e.2 (by decide))]
  have hE_0_3_1 : ∀ j : Int, w_ei ws (w_ar ws (n_v vs 0) 3) j = w_ei w1 (w_ar ws (n_v vs 0) 3) j := fun j => s1.1 _ _
  have hE_0_3_2 : ∀ j : Int, w_ei w1 (w_ar ws (n_v vs 0) 3) j = w_ei w2 (w_ar ws (n_v vs 0) 3) j := fun j => s2.1 _ _
  have hK_0_3 := elq_80 hD hth cr_0_3
  have kz_0_173 := fdq_16 hD hth r0
  have kz_0_174 := fdq_19 hD hth r0
  have nf0 : fc_1 PRD (20, [0], [30, -1, -1, 1, 173]) ws (vs) := ⟨nf_in hl rfl, sgq_148 (vc_Mo_dots_1_0 (v_iv (n_v vs 1)) (v_iv (n_v vs 2)) (v_iv (n_v vs 3)) (v_iv (n_v vs 4)) (w_ei ws (w_ar ws (n_v vs 0) 3)) (w_fi ws (n_v vs 0) 5) (w_ei w1 (w_ar ws (n_v vs 0) 3)) (w_fi w1 (n_v vs 0) 5) (w_ei w2 (w_ar ws (n_v vs 0) 3)) (w_fi w2 (n_v vs 0) 5) (w_fi ws (n_v vs 0) 173) (w_fi w1 (n_v vs 0) 173) (w_fi ws (n_v vs 0) 174) (w_fi w1 (n_v vs 0) 174) (w_fi w2 (n_v vs 0) 174) k1 k2 k3 k4 (shm_1430 f0) f2 (shm_142 f4) f5 fe_0_5_1 fe_0_173_1 fe_0_174_1 fe_0_5_2 fe_0_173_2 fe_0_174_2 hE_0_3_1 hE_0_3_2 hK_0_3 kz_0_173 kz_0_174)⟩
  have nf1 : fc_1 PRD (20, [0], [30, 64, 1, 1, 173]) ws (vs) := ⟨nf_in hl rfl, sgq_149 (vc_Mo_dots_1_1 (v_iv (n_v vs 1)) (v_iv (n_v vs 2)) (v_iv (n_v vs 3)) (v_iv (n_v vs 4)) (w_ei ws (w_ar ws (n_v vs 0) 3)) (w_fi ws (n_v vs 0) 5) (w_ei w1 (w_ar ws (n_v vs 0) 3)) (w_fi w1 (n_v vs 0) 5) (w_ei w2 (w_ar ws (n_v vs 0) 3)) (w_fi w2 (n_v vs 0) 5) (w_fi ws (n_v vs 0) 173) (w_fi w1 (n_v vs 0) 173) (w_fi ws (n_v vs 0) 174) (w_fi w1 (n_v vs 0) 174) (w_fi w2 (n_v vs 0) 174) k1 k2 k3 k4 (shm_1430 f0) f2 (shm_142 f4) f5 fe_0_5_1 fe_0_173_1 fe_0_174_1 fe_0_5_2 fe_0_173_2 fe_0_174_2 hE_0_3_1 hE_0_3_2 hK_0_3 kz_0_173 kz_0_174)⟩
  have nf2 : fc_1 PRD (20, [0], [30, -1, -1, 1, 174]) ws (vs) := ⟨nf_in hl rfl, sgq_155 (vc_Mo_dots_1_2 (v_iv (n_v vs 1)) (v_iv (n_v vs 2)) (v_iv (n_v vs 3)) (v_iv (n_v vs 4)) (w_ei ws (w_ar ws (n_v vs 0) 3)) (w_fi ws (n_v vs 0) 5) (w_ei w1 (w_ar ws (n_v vs 0) 3)) (w_fi w1 (n_v vs 0) 5) (w_ei w2 (w_ar ws (n_v vs 0) 3)) (w_fi w2 (n_v vs 0) 5) (w_fi ws (n_v vs 0) 173) (w_fi w1 (n_v vs 0) 173) (w_fi ws (n_v vs 0) 174) (w_fi w1 (n_v vs 0) 174) (w_fi w2 (n_v vs 0) 174) k1 k2 k3 k4 (shm_1430 f0) f2 (shm_142 f4) f5 fe_0_5_1 fe_0_173_1 fe_0_174_1 fe_0_5_2 fe_0_173_2 fe_0_174_2 hE_0_3_1 hE_0_3_2 hK_0_3 kz_0_173 kz_0_174)⟩
  have nf3 : fc_1 PRD (20, [0], [30, 64, 1, 1, 174]) ws (vs) := ⟨nf_in hl rfl, sgq_156 (vc_Mo_dots_1_3 (v_iv (n_v vs 1)) (v_iv (n_v vs 2)) (v_iv (n_v vs 3)) (v_iv (n_v vs 4)) (w_ei ws (w_ar ws (n_v vs 0) 3)) (w_fi ws (n_v vs 0) 5) (w_ei w1 (w_ar ws (n_v vs 0) 3)) (w_fi w1 (n_v vs 0) 5) (w_ei w2 (w_ar ws (n_v vs 0) 3)) (w_fi w2 (n_v vs 0) 5) (w_fi ws (n_v vs 0) 173) (w_fi w1 (n_v vs 0) 173) (w_fi ws (n_v vs 0) 174) (w_fi w1 (n_v vs 0) 174) (w_fi w2 (n_v vs 0) 174) k1 k2 k3 k4 (shm_1430 f0) f2 (shm_142 f4) f5 fe_0_5_1 fe_0_173_1 fe_0_174_1 fe_0_5_2 fe_0_173_2 fe_0_174_2 hE_0_3_1 hE_0_3_2 hK_0_3 kz_0_173 kz_0_174)⟩
  refine ⟨(fun _ h => (by cases h)), [], trivial, ?_, (fun _ h => (by cases h))⟩
  rw [List.append_nil]
  exact List.forall_mem_cons.mpr ⟨⟨show (20 : Nat) < 100 from by decide, nf0⟩, List.forall_mem_cons.mpr ⟨⟨show (20 : Nat) < 100 from by decide, nf1⟩, List.forall_mem_cons.mpr ⟨⟨show (20 : Nat) < 100 from by decide, nf2⟩, List.forall_mem_cons.mpr ⟨⟨show (20 : Nat) < 100 from by decide, nf3⟩, (fun _ h => (by cases h))⟩⟩⟩⟩
set_option maxHeartbeats 4000000 in
theorem vc_Mo_dots_2_0 (x4 : Int) (x5 : Int) (all_0 : Int → Int) (r_0 : Int) (nodeX_0 : Int → Int) (nodeY_0 : Int → Int) (bendMany_0 : Int → Int) (bendX_0 : Int → Int) (bendY_0 : Int → Int) (leastX_0 : Int) (mostX_0 : Int) (leastY_0 : Int) (mostY_0 : Int) (g0_0 : Int) (dotWide_0 : Int) (dotTall_0 : Int) (k4 : 0 ≤ x4 ∧ x4 ≤ 47) (k5 : 1 ≤ x5 ∧ x5 ≤ 48) (d0 : x5 + (-4294967296) ≤ x4 ∧ x4 ≤ x5 + (-1)) (f0 : x4 < x5) (f1 : 1 * x5 + ((-1) * all_0 (r_0 + 1) + 0) ≤ 0) (f2 : (-1) * x5 + (1 * all_0 (r_0 + 1) + 0) ≤ 0) (f3 : BNA (leastX_0) (mostX_0) (leastY_0) (mostY_0) (g0_0) (r_0) (nodeX_0) (nodeY_0) (all_0) (bendMany_0) (bendX_0) (bendY_0)) (f4 : (-1) * dotWide_0 + 0 ≤ (-1)) (f5 : 1 * dotWide_0 + 0 ≤ 64) (f6 : (-1) * dotTall_0 + 0 ≤ (-1)) (f7 : 1 * dotTall_0 + 0 ≤ 64) (hK_0_62 : ∀ j : Int, 0 ≤ j → j < 96 → (-300000000) ≤ nodeX_0 j ∧ nodeX_0 j ≤ 300000000) (hK_0_63 : ∀ j : Int, 0 ≤ j → j < 96 → (-300000000) ≤ nodeY_0 j ∧ nodeY_0 j ≤ 300000000) (hK_0_64 : ∀ j : Int, 0 ≤ j → j < 192 → 0 ≤ bendMany_0 j ∧ bendMany_0 j ≤ 24) (hK_0_65 : ∀ j : Int, 0 ≤ j → j < 4608 → (-300000011) ≤ bendX_0 j ∧ bendX_0 j ≤ 221100000) (hK_0_66 : ∀ j : Int, 0 ≤ j → j < 4608 → (-900000000) ≤ bendY_0 j ∧ bendY_0 j ≤ 900000000) (kz_0_139 : 0 ≤ g0_0 ∧ g0_0 ≤ 3) (kz_0_153 : (-2147483648) ≤ leastX_0 ∧ leastX_0 ≤ 300000000) (kz_0_154 : (-900000000) ≤ mostX_0 ∧ mostX_0 ≤ 2147483647) (kz_0_155 : (-2147483648) ≤ leastY_0 ∧ leastY_0 ≤ 300000000) (kz_0_156 : (-900000000) ≤ mostY_0 ∧ mostY_0 ≤ 2147483647) (kz_0_173 : 0 ≤ dotWide_0 ∧ dotWide_0 ≤ 64) (kz_0_174 : 0 ≤ dotTall_0 ∧ dotTall_0 ≤ 64) : 1 * x4 + ((-1) * all_0 (r_0 + 1) + 0) ≤ (-1) := by
  first
    | assumption
    | (clear hK_0_62 hK_0_63 hK_0_64 hK_0_65 hK_0_66; omega)
    | exact (bna_x ‹BNA _ _ _ _ _ _ _ _ _ _ _ _› (by assumption) (by assumption) (by assumption) (by assumption) (by assumption) (by assumption) (by assumption) (by omega) (by omega)).1
    | exact (bna_x ‹BNA _ _ _ _ _ _ _ _ _ _ _ _› (by assumption) (by assumption) (by assumption) (by assumption) (by assumption) (by assumption) (by assumption) (by omega) (by omega)).2
    | exact (bna_y ‹BNA _ _ _ _ _ _ _ _ _ _ _ _› (by assumption) (by assumption) (by assumption) (by assumption) (by assumption) (by assumption) (by assumption) (by omega) (by omega)).1
    | exact (bna_y ‹BNA _ _ _ _ _ _ _ _ _ _ _ _› (by assumption) (by assumption) (by assumption) (by assumption) (by assumption) (by assumption) (by assumption) (by omega) (by omega)).2
    | exact (bna_nx ‹BNA _ _ _ _ _ _ _ _ _ _ _ _› (by assumption) (by clear hK_0_62 hK_0_63 hK_0_64 hK_0_65 hK_0_66; omega) (by clear hK_0_62 hK_0_63 hK_0_64 hK_0_65 hK_0_66; omega)).1
    | exact (bna_nx ‹BNA _ _ _ _ _ _ _ _ _ _ _ _› (by assumption) (by clear hK_0_62 hK_0_63 hK_0_64 hK_0_65 hK_0_66; omega) (by clear hK_0_62 hK_0_63 hK_0_64 hK_0_65 hK_0_66; omega)).2
    | exact (bna_ny ‹BNA _ _ _ _ _ _ _ _ _ _ _ _› (by assumption) (by clear hK_0_62 hK_0_63 hK_0_64 hK_0_65 hK_0_66; omega) (by clear hK_0_62 hK_0_63 hK_0_64 hK_0_65 hK_0_66; omega)).1
    | exact (bna_ny ‹BNA _ _ _ _ _ _ _ _ _ _ _ _› (by assumption) (by clear hK_0_62 hK_0_63 hK_0_64 hK_0_65 hK_0_66; omega) (by clear hK_0_62 hK_0_63 hK_0_64 hK_0_65 hK_0_66; omega)).2
    | omega
def o_Mo_dots_2 : or_T := (84, 7, [(0, (2, 0, 0, [165])), (4, (0, 0, 47, [])), (5, (0, 1, 48, []))], [(7, [4, 5], [2]), (20, [5, 0], [30, 0, 1, 0, 0, -1, 3, 2005001]), (20, [5, 0], [30, 0, -1, 0, 0, 1, 3, 2005001]), (20, [0], [60, 6, 6, 945, 153, 154, 155, 156, 139, 5, 62, 63, 2, 64, 65, 66]), (20, [0], [30, -1, -1, 1, 173]), (20, [0], [30, 64, 1, 1, 173]), (20, [0], [30, -1, -1, 1, 174]), (20, [0], [30, 64, 1, 1, 174])], [], [], [(20, [4, 0], [30, -1, 1, 0, 0, -1, 3, 2005001])], [], [(4, 5, -4294967296, -1)])
theorem oo_Mo_dots_2 {kA : Nat → ClassId} : or_ok PRD kA GG o_Mo_dots_2 := by
  refine or_mk fun A ta ws vs hD hth hl => ?_
  intro t0 r0 t4 k4 t5 k5 d0 f0 f1 f2 f3 f4 f5 f6 f7
  have cr_0_62 := fdq_173 hD hth r0
  have cr_0_63 := fdq_174 hD hth r0
  have cr_0_64 := fdq_171 hD hth r0
  have cr_0_65 := fdq_292 hD hth r0
  have cr_0_66 := fdq_293 hD hth r0
  have hK_0_62 := elq_102 hD hth cr_0_62
  have hK_0_63 := elq_103 hD hth cr_0_63
  have hK_0_64 := elq_101 hD hth cr_0_64
  have hK_0_65 := elq_184 hD hth cr_0_65
  have hK_0_66 := elq_185 hD hth cr_0_66
  have kz_0_139 := fdq_172 hD hth r0
  have kz_0_153 := fdq_14 hD hth r0
  have kz_0_154 := fdq_15 hD hth r0
  have kz_0_155 := fdq_17 hD hth r0
  have kz_0_156 := fdq_18 hD hth r0
  have kz_0_173 := fdq_16 hD hth r0
  have kz_0_174 := fdq_19 hD hth r0
  have nf0 : fc_1 PRD (20, [4, 0], [30, -1, 1, 0, 0, -1, 3, 2005001]) ws (vs) := ⟨nf_in hl rfl, sgq_979 (vc_Mo_dots_2_0 (v_iv (n_v vs 4)) (v_iv (n_v vs 5)) (w_ei ws (w_ar ws (n_v vs 0) 2)) (w_fi ws (n_v vs 0) 5) (w_ei ws (w_ar ws (n_v vs 0) 62)) (w_ei ws (w_ar ws (n_v vs 0) 63)) (w_ei ws (w_ar ws (n_v vs 0) 64)) (w_ei ws (w_ar ws (n_v vs 0) 65)) (w_ei ws (w_ar ws (n_v vs 0) 66)) (w_fi ws (n_v vs 0) 153) (w_fi ws (n_v vs 0) 154) (w_fi ws (n_v vs 0) 155) (w_fi ws (n_v vs 0) 156) (w_fi ws (n_v vs 0) 139) (w_fi ws (n_v vs 0) 173) (w_fi ws (n_v vs 0) 174) k4 k5 d0 (shm_6 f0) (shm_121 f1) (shm_122 f2) (shm_1845 f3) (shm_148 f4) (shm_149 f5) (shm_155 f6) (shm_156 f7) hK_0_62 hK_0_63 hK_0_64 hK_0_65 hK_0_66 kz_0_139 kz_0_153 kz_0_154 kz_0_155 kz_0_156 kz_0_173 kz_0_174)⟩
  refine ⟨(fun _ h => (by cases h)), [], trivial, ?_, (fun _ h => (by cases h))⟩
  rw [List.append_nil]
  exact List.forall_mem_cons.mpr ⟨⟨show (20 : Nat) < 100 from by decide, nf0⟩, (fun _ h => (by cases h))⟩
set_option maxHeartbeats 4000000 in
theorem vc_Mo_dots_3_0 (x4 : Int) (x5 : Int) (x6 : Int) (x7 : Int) (x8 : Int) (bendMany_0 : Int → Int) (g0_0 : Int) (nodeX_0 : Int → Int) (nodeY_0 : Int → Int) (all_0 : Int → Int) (bendX_0 : Int → Int) (bendY_0 : Int → Int) (leastX_0 : Int) (mostX_0 : Int) (leastY_0 : Int) (mostY_0 : Int) (r_0 : Int) (dotWide_0 : Int) (dotTall_0 : Int) (k4 : 0 ≤ x4 ∧ x4 ≤ 47) (k5 : 0 ≤ x5 ∧ x5 ≤ 24) (k6 : 1 ≤ x6 ∧ x6 ≤ 1) (k7 : 1 ≤ x7 ∧ x7 ≤ 25) (k8 : 2 ≤ x8 ∧ x8 ≤ 26) (d0 : x8 + (-4294967296) ≤ x7 ∧ x7 ≤ x8 + (-1)) (d1 : x5 + 1 ≤ x7 ∧ x7 ≤ x5 + 1) (f0 : x7 < x8) (f1 : x8 = (bendMany_0 (((48 * g0_0) + x4)) + 2)) (f2 : x7 = x5 + x6) (f3 : BNA (leastX_0) (mostX_0) (leastY_0) (mostY_0) (g0_0) (r_0) (nodeX_0) (nodeY_0) (all_0) (bendMany_0) (bendX_0) (bendY_0)) (f4 : (-1) * dotWide_0 + 0 ≤ (-1)) (f5 : 1 * dotWide_0 + 0 ≤ 64) (f6 : (-1) * dotTall_0 + 0 ≤ (-1)) (f7 : 1 * dotTall_0 + 0 ≤ 64) (f8 : 1 * x4 + ((-1) * all_0 (r_0 + 1) + 0) ≤ (-1)) (hK_0_62 : ∀ j : Int, 0 ≤ j → j < 96 → (-300000000) ≤ nodeX_0 j ∧ nodeX_0 j ≤ 300000000) (hK_0_63 : ∀ j : Int, 0 ≤ j → j < 96 → (-300000000) ≤ nodeY_0 j ∧ nodeY_0 j ≤ 300000000) (hK_0_64 : ∀ j : Int, 0 ≤ j → j < 192 → 0 ≤ bendMany_0 j ∧ bendMany_0 j ≤ 24) (hK_0_65 : ∀ j : Int, 0 ≤ j → j < 4608 → (-300000011) ≤ bendX_0 j ∧ bendX_0 j ≤ 221100000) (hK_0_66 : ∀ j : Int, 0 ≤ j → j < 4608 → (-900000000) ≤ bendY_0 j ∧ bendY_0 j ≤ 900000000) (kz_0_139 : 0 ≤ g0_0 ∧ g0_0 ≤ 3) (kz_0_153 : (-2147483648) ≤ leastX_0 ∧ leastX_0 ≤ 300000000) (kz_0_154 : (-900000000) ≤ mostX_0 ∧ mostX_0 ≤ 2147483647) (kz_0_155 : (-2147483648) ≤ leastY_0 ∧ leastY_0 ≤ 300000000) (kz_0_156 : (-900000000) ≤ mostY_0 ∧ mostY_0 ≤ 2147483647) (kz_0_173 : 0 ≤ dotWide_0 ∧ dotWide_0 ≤ 64) (kz_0_174 : 0 ≤ dotTall_0 ∧ dotTall_0 ≤ 64) : x5 ≤ (bendMany_0 (((48 * g0_0) + x4)) + 1) := by
  first
    | assumption
    | (clear hK_0_62 hK_0_63 hK_0_64 hK_0_65 hK_0_66; omega)
    | exact (bna_x ‹BNA _ _ _ _ _ _ _ _ _ _ _ _› (by assumption) (by assumption) (by assumption) (by assumption) (by assumption) (by assumption) (by assumption) (by omega) (by omega)).1
    | exact (bna_x ‹BNA _ _ _ _ _ _ _ _ _ _ _ _› (by assumption) (by assumption) (by assumption) (by assumption) (by assumption) (by assumption) (by assumption) (by omega) (by omega)).2
    | exact (bna_y ‹BNA _ _ _ _ _ _ _ _ _ _ _ _› (by assumption) (by assumption) (by assumption) (by assumption) (by assumption) (by assumption) (by assumption) (by omega) (by omega)).1
    | exact (bna_y ‹BNA _ _ _ _ _ _ _ _ _ _ _ _› (by assumption) (by assumption) (by assumption) (by assumption) (by assumption) (by assumption) (by assumption) (by omega) (by omega)).2
    | exact (bna_nx ‹BNA _ _ _ _ _ _ _ _ _ _ _ _› (by assumption) (by clear hK_0_62 hK_0_63 hK_0_64 hK_0_65 hK_0_66; omega) (by clear hK_0_62 hK_0_63 hK_0_64 hK_0_65 hK_0_66; omega)).1
    | exact (bna_nx ‹BNA _ _ _ _ _ _ _ _ _ _ _ _› (by assumption) (by clear hK_0_62 hK_0_63 hK_0_64 hK_0_65 hK_0_66; omega) (by clear hK_0_62 hK_0_63 hK_0_64 hK_0_65 hK_0_66; omega)).2
    | exact (bna_ny ‹BNA _ _ _ _ _ _ _ _ _ _ _ _› (by assumption) (by clear hK_0_62 hK_0_63 hK_0_64 hK_0_65 hK_0_66; omega) (by clear hK_0_62 hK_0_63 hK_0_64 hK_0_65 hK_0_66; omega)).1
    | exact (bna_ny ‹BNA _ _ _ _ _ _ _ _ _ _ _ _› (by assumption) (by clear hK_0_62 hK_0_63 hK_0_64 hK_0_65 hK_0_66; omega) (by clear hK_0_62 hK_0_63 hK_0_64 hK_0_65 hK_0_66; omega)).2
    | omega
def o_Mo_dots_3 : or_T := (104, 9, [(0, (2, 0, 0, [165])), (4, (0, 0, 47, [])), (5, (0, 0, 24, [])), (6, (0, 1, 1, [])), (7, (0, 1, 25, [])), (8, (0, 2, 26, []))], [(7, [7, 8], [2]), (20, [8, 0, 4], [50, 1, 1, 1139, 1064, 1, 2, 1, 0, 4, 14, 3, 1, 64, 4, 7, 6, 2, 0, 48, 2, 1, 139, 1, 2, 0, 2]), (1, [7, 5, 6], []), (20, [0], [60, 6, 6, 945, 153, 154, 155, 156, 139, 5, 62, 63, 2, 64, 65, 66]), (20, [0], [30, -1, -1, 1, 173]), (20, [0], [30, 64, 1, 1, 173]), (20, [0], [30, -1, -1, 1, 174]), (20, [0], [30, 64, 1, 1, 174]), (20, [4, 0], [30, -1, 1, 0, 0, -1, 3, 2005001])], [], [], [(20, [5, 0, 4], [50, 1, 1, 1139, 1064, 0, 2, 1, 0, 4, 14, 3, 1, 64, 4, 7, 6, 2, 0, 48, 2, 1, 139, 1, 2, 0, 1])], [], [(7, 8, -4294967296, -1), (7, 5, 1, 1)])
theorem oo_Mo_dots_3 {kA : Nat → ClassId} : or_ok PRD kA GG o_Mo_dots_3 := by
  refine or_mk fun A ta ws vs hD hth hl => ?_
  intro t0 r0 t4 k4 t5 k5 t6 k6 t7 k7 t8 k8 d0 d1 f0 f1 f2 f3 f4 f5 f6 f7 f8
  have cr_0_62 := fdq_173 hD hth r0
  have cr_0_63 := fdq_174 hD hth r0
  have cr_0_64 := fdq_171 hD hth r0
  have cr_0_65 := fdq_292 hD hth r0
  have cr_0_66 := fdq_293 hD hth r0
  have hK_0_62 := elq_102 hD hth cr_0_62
  have hK_0_63 := elq_103 hD hth cr_0_63
  have hK_0_64 := elq_101 hD hth cr_0_64
  have hK_0_65 := elq_184 hD hth cr_0_65
  have hK_0_66 := elq_185 hD hth cr_0_66
  have kz_0_139 := fdq_172 hD hth r0
  have kz_0_153 := fdq_14 hD hth r0
  have kz_0_154 := fdq_15 hD hth r0
  have kz_0_155 := fdq_17 hD hth r0
  have kz_0_156 := fdq_18 hD hth r0
  have kz_0_173 := fdq_16 hD hth r0
  have kz_0_174 := fdq_19 hD hth r0
  have nf0 : fc_1 PRD (20, [5, 0, 4], [50, 1, 1, 1139, 1064, 0, 2, 1, 0, 4, 14, 3, 1, 64, 4, 7, 6, 2, 0, 48, 2, 1, 139, 1, 2, 0, 1]) ws (vs) := ⟨nf_in hl rfl, sgq_1421 (vc_Mo_dots_3_0 (v_iv (n_v vs 4)) (v_iv (n_v vs 5)) (v_iv (n_v vs 6)) (v_iv (n_v vs 7)) (v_iv (n_v vs 8)) (w_ei ws (w_ar ws (n_v vs 0) 64)) (w_fi ws (n_v vs 0) 139) (w_ei ws (w_ar ws (n_v vs 0) 62)) (w_ei ws (w_ar ws (n_v vs 0) 63)) (w_ei ws (w_ar ws (n_v vs 0) 2)) (w_ei ws (w_ar ws (n_v vs 0) 65)) (w_ei ws (w_ar ws (n_v vs 0) 66)) (w_fi ws (n_v vs 0) 153) (w_fi ws (n_v vs 0) 154) (w_fi ws (n_v vs 0) 155) (w_fi ws (n_v vs 0) 156) (w_fi ws (n_v vs 0) 5) (w_fi ws (n_v vs 0) 173) (w_fi ws (n_v vs 0) 174) k4 k5 k6 k7 k8 d0 d1 (shm_6 f0) (shm_683 f1) (shm_12 f2) (shm_1845 f3) (shm_148 f4) (shm_149 f5) (shm_155 f6) (shm_156 f7) (shm_979 f8) hK_0_62 hK_0_63 hK_0_64 hK_0_65 hK_0_66 kz_0_139 kz_0_153 kz_0_154 kz_0_155 kz_0_156 kz_0_173 kz_0_174)⟩
  refine ⟨(fun _ h => (by cases h)), [], trivial, ?_, (fun _ h => (by cases h))⟩
  rw [List.append_nil]
  exact List.forall_mem_cons.mpr ⟨⟨show (20 : Nat) < 100 from by decide, nf0⟩, (fun _ h => (by cases h))⟩
set_option maxHeartbeats 4000000 in
theorem vc_Mo_dots_4_0 (x4 : Int) (x5 : Int) (x6 : Int) (x7 : Int) (x8 : Int) (x9 : Int) (nodeX_0 : Int → Int) (all_0 : Int → Int) (g0_0 : Int) (r_0 : Int) (bendMany_0 : Int → Int) (bendX_0 : Int → Int) (nodeY_0 : Int → Int) (bendY_0 : Int → Int) (leastX_0 : Int) (mostX_0 : Int) (leastY_0 : Int) (mostY_0 : Int) (dotWide_0 : Int) (dotTall_0 : Int) (k4 : 0 ≤ x4 ∧ x4 ≤ 47) (k5 : 1 ≤ x5 ∧ x5 ≤ 24) (k6 : 1 ≤ x6 ∧ x6 ≤ 1) (k7 : 2 ≤ x7 ∧ x7 ≤ 25) (k8 : 2 ≤ x8 ∧ x8 ≤ 26) (k9 : (-300000011) ≤ x9 ∧ x9 ≤ 221100000) (d0 : x8 + (-4294967296) ≤ x7 ∧ x7 ≤ x8 + (-1)) (d1 : x5 + 1 ≤ x7 ∧ x7 ≤ x5 + 1) (f0 : (x5 = 0) → (x9 = nodeX_0 (((24 * g0_0) + all_0 (((r_0 + 267) + x4)))))) (f1 : (x5 = (bendMany_0 (((48 * g0_0) + x4)) + 1)) → (x9 = nodeX_0 (((24 * g0_0) + all_0 (((r_0 + 315) + x4)))))) (f2 : (x5 = 0) ∨ ((x5 = (bendMany_0 (((48 * g0_0) + x4)) + 1)) ∨ (x9 = bendX_0 (((24 * ((48 * g0_0) + x4)) + (x5 - 1)))))) (f3 : x5 ≤ (bendMany_0 (((48 * g0_0) + x4)) + 1)) (f4 : x7 < x8) (f5 : x8 = (bendMany_0 (((48 * g0_0) + x4)) + 2)) (f6 : x7 = x5 + x6) (f7 : BNA (leastX_0) (mostX_0) (leastY_0) (mostY_0) (g0_0) (r_0) (nodeX_0) (nodeY_0) (all_0) (bendMany_0) (bendX_0) (bendY_0)) (f8 : (-1) * dotWide_0 + 0 ≤ (-1)) (f9 : 1 * dotWide_0 + 0 ≤ 64) (f10 : (-1) * dotTall_0 + 0 ≤ (-1)) (f11 : 1 * dotTall_0 + 0 ≤ 64) (f12 : 1 * x4 + ((-1) * all_0 (r_0 + 1) + 0) ≤ (-1)) (hK_0_62 : ∀ j : Int, 0 ≤ j → j < 96 → (-300000000) ≤ nodeX_0 j ∧ nodeX_0 j ≤ 300000000) (hK_0_63 : ∀ j : Int, 0 ≤ j → j < 96 → (-300000000) ≤ nodeY_0 j ∧ nodeY_0 j ≤ 300000000) (hK_0_64 : ∀ j : Int, 0 ≤ j → j < 192 → 0 ≤ bendMany_0 j ∧ bendMany_0 j ≤ 24) (hK_0_65 : ∀ j : Int, 0 ≤ j → j < 4608 → (-300000011) ≤ bendX_0 j ∧ bendX_0 j ≤ 221100000) (hK_0_66 : ∀ j : Int, 0 ≤ j → j < 4608 → (-900000000) ≤ bendY_0 j ∧ bendY_0 j ≤ 900000000) (kz_0_139 : 0 ≤ g0_0 ∧ g0_0 ≤ 3) (kz_0_153 : (-2147483648) ≤ leastX_0 ∧ leastX_0 ≤ 300000000) (kz_0_154 : (-900000000) ≤ mostX_0 ∧ mostX_0 ≤ 2147483647) (kz_0_155 : (-2147483648) ≤ leastY_0 ∧ leastY_0 ≤ 300000000) (kz_0_156 : (-900000000) ≤ mostY_0 ∧ mostY_0 ≤ 2147483647) (kz_0_173 : 0 ≤ dotWide_0 ∧ dotWide_0 ≤ 64) (kz_0_174 : 0 ≤ dotTall_0 ∧ dotTall_0 ≤ 64) : 1 * leastX_0 + ((-1) * x9 + 0) ≤ 0 := by
  first
    | assumption
    | (clear f0 f1 f2 hK_0_62 hK_0_63 hK_0_64 hK_0_65 hK_0_66; omega)
    | exact (bna_x ‹BNA _ _ _ _ _ _ _ _ _ _ _ _› (by assumption) (by assumption) (by assumption) (by assumption) (by assumption) (by assumption) (by assumption) (by omega) (by omega)).1
    | exact (bna_x ‹BNA _ _ _ _ _ _ _ _ _ _ _ _› (by assumption) (by assumption) (by assumption) (by assumption) (by assumption) (by assumption) (by assumption) (by omega) (by omega)).2
    | exact (bna_y ‹BNA _ _ _ _ _ _ _ _ _ _ _ _› (by assumption) (by assumption) (by assumption) (by assumption) (by assumption) (by assumption) (by assumption) (by omega) (by omega)).1
    | exact (bna_y ‹BNA _ _ _ _ _ _ _ _ _ _ _ _› (by assumption) (by assumption) (by assumption) (by assumption) (by assumption) (by assumption) (by assumption) (by omega) (by omega)).2
    | exact (bna_nx ‹BNA _ _ _ _ _ _ _ _ _ _ _ _› (by assumption) (by clear f0 f1 f2 hK_0_62 hK_0_63 hK_0_64 hK_0_65 hK_0_66; omega) (by clear f0 f1 f2 hK_0_62 hK_0_63 hK_0_64 hK_0_65 hK_0_66; omega)).1
    | exact (bna_nx ‹BNA _ _ _ _ _ _ _ _ _ _ _ _› (by assumption) (by clear f0 f1 f2 hK_0_62 hK_0_63 hK_0_64 hK_0_65 hK_0_66; omega) (by clear f0 f1 f2 hK_0_62 hK_0_63 hK_0_64 hK_0_65 hK_0_66; omega)).2
    | exact (bna_ny ‹BNA _ _ _ _ _ _ _ _ _ _ _ _› (by assumption) (by clear f0 f1 f2 hK_0_62 hK_0_63 hK_0_64 hK_0_65 hK_0_66; omega) (by clear f0 f1 f2 hK_0_62 hK_0_63 hK_0_64 hK_0_65 hK_0_66; omega)).1
    | exact (bna_ny ‹BNA _ _ _ _ _ _ _ _ _ _ _ _› (by assumption) (by clear f0 f1 f2 hK_0_62 hK_0_63 hK_0_64 hK_0_65 hK_0_66; omega) (by clear f0 f1 f2 hK_0_62 hK_0_63 hK_0_64 hK_0_65 hK_0_66; omega)).2
    | omega
set_option maxHeartbeats 4000000 in
theorem vc_Mo_dots_4_1 (x4 : Int) (x5 : Int) (x6 : Int) (x7 : Int) (x8 : Int) (x9 : Int) (nodeX_0 : Int → Int) (all_0 : Int → Int) (g0_0 : Int) (r_0 : Int) (bendMany_0 : Int → Int) (bendX_0 : Int → Int) (nodeY_0 : Int → Int) (bendY_0 : Int → Int) (leastX_0 : Int) (mostX_0 : Int) (leastY_0 : Int) (mostY_0 : Int) (dotWide_0 : Int) (dotTall_0 : Int) (k4 : 0 ≤ x4 ∧ x4 ≤ 47) (k5 : 1 ≤ x5 ∧ x5 ≤ 24) (k6 : 1 ≤ x6 ∧ x6 ≤ 1) (k7 : 2 ≤ x7 ∧ x7 ≤ 25) (k8 : 2 ≤ x8 ∧ x8 ≤ 26) (k9 : (-300000011) ≤ x9 ∧ x9 ≤ 221100000) (d0 : x8 + (-4294967296) ≤ x7 ∧ x7 ≤ x8 + (-1)) (d1 : x5 + 1 ≤ x7 ∧ x7 ≤ x5 + 1) (f0 : (x5 = 0) → (x9 = nodeX_0 (((24 * g0_0) + all_0 (((r_0 + 267) + x4)))))) (f1 : (x5 = (bendMany_0 (((48 * g0_0) + x4)) + 1)) → (x9 = nodeX_0 (((24 * g0_0) + all_0 (((r_0 + 315) + x4)))))) (f2 : (x5 = 0) ∨ ((x5 = (bendMany_0 (((48 * g0_0) + x4)) + 1)) ∨ (x9 = bendX_0 (((24 * ((48 * g0_0) + x4)) + (x5 - 1)))))) (f3 : x5 ≤ (bendMany_0 (((48 * g0_0) + x4)) + 1)) (f4 : x7 < x8) (f5 : x8 = (bendMany_0 (((48 * g0_0) + x4)) + 2)) (f6 : x7 = x5 + x6) (f7 : BNA (leastX_0) (mostX_0) (leastY_0) (mostY_0) (g0_0) (r_0) (nodeX_0) (nodeY_0) (all_0) (bendMany_0) (bendX_0) (bendY_0)) (f8 : (-1) * dotWide_0 + 0 ≤ (-1)) (f9 : 1 * dotWide_0 + 0 ≤ 64) (f10 : (-1) * dotTall_0 + 0 ≤ (-1)) (f11 : 1 * dotTall_0 + 0 ≤ 64) (f12 : 1 * x4 + ((-1) * all_0 (r_0 + 1) + 0) ≤ (-1)) (hK_0_62 : ∀ j : Int, 0 ≤ j → j < 96 → (-300000000) ≤ nodeX_0 j ∧ nodeX_0 j ≤ 300000000) (hK_0_63 : ∀ j : Int, 0 ≤ j → j < 96 → (-300000000) ≤ nodeY_0 j ∧ nodeY_0 j ≤ 300000000) (hK_0_64 : ∀ j : Int, 0 ≤ j → j < 192 → 0 ≤ bendMany_0 j ∧ bendMany_0 j ≤ 24) (hK_0_65 : ∀ j : Int, 0 ≤ j → j < 4608 → (-300000011) ≤ bendX_0 j ∧ bendX_0 j ≤ 221100000) (hK_0_66 : ∀ j : Int, 0 ≤ j → j < 4608 → (-900000000) ≤ bendY_0 j ∧ bendY_0 j ≤ 900000000) (kz_0_139 : 0 ≤ g0_0 ∧ g0_0 ≤ 3) (kz_0_153 : (-2147483648) ≤ leastX_0 ∧ leastX_0 ≤ 300000000) (kz_0_154 : (-900000000) ≤ mostX_0 ∧ mostX_0 ≤ 2147483647) (kz_0_155 : (-2147483648) ≤ leastY_0 ∧ leastY_0 ≤ 300000000) (kz_0_156 : (-900000000) ≤ mostY_0 ∧ mostY_0 ≤ 2147483647) (kz_0_173 : 0 ≤ dotWide_0 ∧ dotWide_0 ≤ 64) (kz_0_174 : 0 ≤ dotTall_0 ∧ dotTall_0 ≤ 64) : 1 * x9 + ((-1) * mostX_0 + 0) ≤ 0 := by
  first
    | assumption
    | (clear f0 f1 f2 hK_0_62 hK_0_63 hK_0_64 hK_0_65 hK_0_66; omega)
    | exact (bna_x ‹BNA _ _ _ _ _ _ _ _ _ _ _ _› (by assumption) (by assumption) (by assumption) (by assumption) (by assumption) (by assumption) (by assumption) (by omega) (by omega)).1
    | exact (bna_x ‹BNA _ _ _ _ _ _ _ _ _ _ _ _› (by assumption) (by assumption) (by assumption) (by assumption) (by assumption) (by assumption) (by assumption) (by omega) (by omega)).2
    | exact (bna_y ‹BNA _ _ _ _ _ _ _ _ _ _ _ _› (by assumption) (by assumption) (by assumption) (by assumption) (by assumption) (by assumption) (by assumption) (by omega) (by omega)).1
    | exact (bna_y ‹BNA _ _ _ _ _ _ _ _ _ _ _ _› (by assumption) (by assumption) (by assumption) (by assumption) (by assumption) (by assumption) (by assumption) (by omega) (by omega)).2
    | exact (bna_nx ‹BNA _ _ _ _ _ _ _ _ _ _ _ _› (by assumption) (by clear f0 f1 f2 hK_0_62 hK_0_63 hK_0_64 hK_0_65 hK_0_66; omega) (by clear f0 f1 f2 hK_0_62 hK_0_63 hK_0_64 hK_0_65 hK_0_66; omega)).1
    | exact (bna_nx ‹BNA _ _ _ _ _ _ _ _ _ _ _ _› (by assumption) (by clear f0 f1 f2 hK_0_62 hK_0_63 hK_0_64 hK_0_65 hK_0_66; omega) (by clear f0 f1 f2 hK_0_62 hK_0_63 hK_0_64 hK_0_65 hK_0_66; omega)).2
    | exact (bna_ny ‹BNA _ _ _ _ _ _ _ _ _ _ _ _› (by assumption) (by clear f0 f1 f2 hK_0_62 hK_0_63 hK_0_64 hK_0_65 hK_0_66; omega) (by clear f0 f1 f2 hK_0_62 hK_0_63 hK_0_64 hK_0_65 hK_0_66; omega)).1
    | exact (bna_ny ‹BNA _ _ _ _ _ _ _ _ _ _ _ _› (by assumption) (by clear f0 f1 f2 hK_0_62 hK_0_63 hK_0_64 hK_0_65 hK_0_66; omega) (by clear f0 f1 f2 hK_0_62 hK_0_63 hK_0_64 hK_0_65 hK_0_66; omega)).2
    | omega
def o_Mo_dots_4 : or_T := (107, 10, [(0, (2, 0, 0, [165])), (4, (0, 0, 47, [])), (5, (0, 1, 24, [])), (6, (0, 1, 1, [])), (7, (0, 2, 25, [])), (8, (0, 2, 26, [])), (9, (0, -300000011, 221100000, []))], [(20, [5, 9, 0, 4], [50, 2, 2, 2139, 2005, 2062, 2002, 4, 6, 1, 2, 1, 0, 0, 0, 1, 2, 1, 1, 3, 2, 62, 4, 7, 6, 2, 0, 24, 2, 2, 139, 3, 2, 2, 4, 7, 4, 3, 2, 2, 5, 0, 267, 1, 3]), (20, [5, 0, 4, 9], [50, 2, 3, 1139, 1005, 1064, 1062, 1002, 4, 22, 1, 2, 1, 0, 4, 14, 3, 1, 64, 4, 7, 6, 2, 0, 48, 2, 1, 139, 1, 2, 0, 1, 1, 2, 1, 3, 3, 1, 62, 4, 7, 6, 2, 0, 24, 2, 1, 139, 3, 1, 2, 4, 7, 4, 3, 2, 1, 5, 0, 315, 1, 2]), (20, [5, 0, 4, 9], [50, 1, 2, 1139, 1064, 1065, 3, 6, 1, 2, 1, 0, 0, 0, 3, 22, 1, 2, 1, 0, 4, 14, 3, 1, 64, 4, 7, 6, 2, 0, 48, 2, 1, 139, 1, 2, 0, 1, 1, 2, 1, 3, 3, 1, 65, 4, 15, 6, 2, 0, 24, 4, 7, 6, 2, 0, 48, 2, 1, 139, 1, 2, 5, 2, 1, 0, 0, 1]), (20, [5, 0, 4], [50, 1, 1, 1139, 1064, 0, 2, 1, 0, 4, 14, 3, 1, 64, 4, 7, 6, 2, 0, 48, 2, 1, 139, 1, 2, 0, 1]), (7, [7, 8], [2]), (20, [8, 0, 4], [50, 1, 1, 1139, 1064, 1, 2, 1, 0, 4, 14, 3, 1, 64, 4, 7, 6, 2, 0, 48, 2, 1, 139, 1, 2, 0, 2]), (1, [7, 5, 6], []), (20, [0], [60, 6, 6, 945, 153, 154, 155, 156, 139, 5, 62, 63, 2, 64, 65, 66]), (20, [0], [30, -1, -1, 1, 173]), (20, [0], [30, 64, 1, 1, 173]), (20, [0], [30, -1, -1, 1, 174]), (20, [0], [30, 64, 1, 1, 174]), (20, [4, 0], [30, -1, 1, 0, 0, -1, 3, 2005001])], [], [], [(20, [0, 9], [30, 0, 1, 1, 153, -1, 0, 0]), (20, [9, 0], [30, 0, 1, 0, 0, -1, 1, 154])], [], [(7, 8, -4294967296, -1), (7, 5, 1, 1)])
theorem oo_Mo_dots_4 {kA : Nat → ClassId} : or_ok PRD kA GG o_Mo_dots_4 := by
  refine or_mk fun A ta ws vs hD hth hl => ?_
  intro t0 r0 t4 k4 t5 k5 t6 k6 t7 k7 t8 k8 t9 k9 d0 d1 f0 f1 f2 f3 f4 f5 f6 f7 f8 f9 f10 f11 f12
  have cr_0_62 := fdq_173 hD hth r0
  have cr_0_63 := fdq_174 hD hth r0
  have cr_0_64 := fdq_171 hD hth r0
  have cr_0_65 := fdq_292 hD hth r0
  have cr_0_66 := fdq_293 hD hth r0
  have hK_0_62 := elq_102 hD hth cr_0_62
  have hK_0_63 := elq_103 hD hth cr_0_63
  have hK_0_64 := elq_101 hD hth cr_0_64
  have hK_0_65 := elq_184 hD hth cr_0_65
  have hK_0_66 := elq_185 hD hth cr_0_66
  have kz_0_139 := fdq_172 hD hth r0
  have kz_0_153 := fdq_14 hD hth r0
  have kz_0_154 := fdq_15 hD hth r0
  have kz_0_155 := fdq_17 hD hth r0
  have kz_0_156 := fdq_18 hD hth r0
  have kz_0_173 := fdq_16 hD hth r0
  have kz_0_174 := fdq_19 hD hth r0
  have nf0 : fc_1 PRD (20, [0, 9], [30, 0, 1, 1, 153, -1, 0, 0]) ws (vs) := ⟨nf_in hl rfl, sgq_146 (vc_Mo_dots_4_0 (v_iv (n_v vs 4)) (v_iv (n_v vs 5)) (v_iv (n_v vs 6)) (v_iv (n_v vs 7)) (v_iv (n_v vs 8)) (v_iv (n_v vs 9)) (w_ei ws (w_ar ws (n_v vs 0) 62)) (w_ei ws (w_ar ws (n_v vs 0) 2)) (w_fi ws (n_v vs 0) 139) (w_fi ws (n_v vs 0) 5) (w_ei ws (w_ar ws (n_v vs 0) 64)) (w_ei ws (w_ar ws (n_v vs 0) 65)) (w_ei ws (w_ar ws (n_v vs 0) 63)) (w_ei ws (w_ar ws (n_v vs 0) 66)) (w_fi ws (n_v vs 0) 153) (w_fi ws (n_v vs 0) 154) (w_fi ws (n_v vs 0) 155) (w_fi ws (n_v vs 0) 156) (w_fi ws (n_v vs 0) 173) (w_fi ws (n_v vs 0) 174) k4 k5 k6 k7 k8 k9 d0 d1 (shm_1423 f0) (shm_1424 f1) (shm_1425 f2) (shm_1421 f3) (shm_6 f4) (shm_683 f5) (shm_12 f6) (shm_1845 f7) (shm_148 f8) (shm_149 f9) (shm_155 f10) (shm_156 f11) (shm_979 f12) hK_0_62 hK_0_63 hK_0_64 hK_0_65 hK_0_66 kz_0_139 kz_0_153 kz_0_154 kz_0_155 kz_0_156 kz_0_173 kz_0_174)⟩
  have nf1 : fc_1 PRD (20, [9, 0], [30, 0, 1, 0, 0, -1, 1, 154]) ws (vs) := ⟨nf_in hl rfl, sgq_147 (vc_Mo_dots_4_1 (v_iv (n_v vs 4)) (v_iv (n_v vs 5)) (v_iv (n_v vs 6)) (v_iv (n_v vs 7)) (v_iv (n_v vs 8)) (v_iv (n_v vs 9)) (w_ei ws (w_ar ws (n_v vs 0) 62)) (w_ei ws (w_ar ws (n_v vs 0) 2)) (w_fi ws (n_v vs 0) 139) (w_fi ws (n_v vs 0) 5) (w_ei ws (w_ar ws (n_v vs 0) 64)) (w_ei ws (w_ar ws (n_v vs 0) 65)) (w_ei ws (w_ar ws (n_v vs 0) 63)) (w_ei ws (w_ar ws (n_v vs 0) 66)) (w_fi ws (n_v vs 0) 153) (w_fi ws (n_v vs 0) 154) (w_fi ws (n_v vs 0) 155) (w_fi ws (n_v vs 0) 156) (w_fi ws (n_v vs 0) 173) (w_fi ws (n_v vs 0) 174) k4 k5 k6 k7 k8 k9 d0 d1 (shm_1423 f0) (shm_1424 f1) (shm_1425 f2) (shm_1421 f3) (shm_6 f4) (shm_683 f5) (shm_12 f6) (shm_1845 f7) (shm_148 f8) (shm_149 f9) (shm_155 f10) (shm_156 f11) (shm_979 f12) hK_0_62 hK_0_63 hK_0_64 hK_0_65 hK_0_66 kz_0_139 kz_0_153 kz_0_154 kz_0_155 kz_0_156 kz_0_173 kz_0_174)⟩
  refine ⟨(fun _ h => (by cases h)), [], trivial, ?_, (fun _ h => (by cases h))⟩
  rw [List.append_nil]
  exact List.forall_mem_cons.mpr ⟨⟨show (20 : Nat) < 100 from by decide, nf0⟩, List.forall_mem_cons.mpr ⟨⟨show (20 : Nat) < 100 from by decide, nf1⟩, (fun _ h => (by cases h))⟩⟩
set_option maxHeartbeats 4000000 in
theorem vc_Mo_dots_5_0 (x4 : Int) (x5 : Int) (x6 : Int) (x7 : Int) (x8 : Int) (x9 : Int) (x11 : Int) (nodeY_0 : Int → Int) (all_0 : Int → Int) (g0_0 : Int) (r_0 : Int) (bendMany_0 : Int → Int) (bendY_0 : Int → Int) (leastX_0 : Int) (mostX_0 : Int) (nodeX_0 : Int → Int) (bendX_0 : Int → Int) (leastY_0 : Int) (mostY_0 : Int) (dotWide_0 : Int) (dotTall_0 : Int) (k4 : 0 ≤ x4 ∧ x4 ≤ 47) (k5 : 1 ≤ x5 ∧ x5 ≤ 24) (k6 : 1 ≤ x6 ∧ x6 ≤ 1) (k7 : 2 ≤ x7 ∧ x7 ≤ 25) (k8 : 2 ≤ x8 ∧ x8 ≤ 26) (k9 : (-300000011) ≤ x9 ∧ x9 ≤ 221100000) (k11 : (-900000000) ≤ x11 ∧ x11 ≤ 900000000) (d0 : x8 + (-4294967296) ≤ x7 ∧ x7 ≤ x8 + (-1)) (d1 : x5 + 1 ≤ x7 ∧ x7 ≤ x5 + 1) (f0 : (x5 = 0) → (x11 = nodeY_0 (((24 * g0_0) + all_0 (((r_0 + 267) + x4)))))) (f1 : (x5 = (bendMany_0 (((48 * g0_0) + x4)) + 1)) → (x11 = nodeY_0 (((24 * g0_0) + all_0 (((r_0 + 315) + x4)))))) (f2 : (x5 = 0) ∨ ((x5 = (bendMany_0 (((48 * g0_0) + x4)) + 1)) ∨ (x11 = bendY_0 (((24 * ((48 * g0_0) + x4)) + (x5 - 1)))))) (f3 : 1 * leastX_0 + ((-1) * x9 + 0) ≤ 0) (f4 : 1 * x9 + ((-1) * mostX_0 + 0) ≤ 0) (f5 : (x5 = 0) → (x9 = nodeX_0 (((24 * g0_0) + all_0 (((r_0 + 267) + x4)))))) (f6 : (x5 = (bendMany_0 (((48 * g0_0) + x4)) + 1)) → (x9 = nodeX_0 (((24 * g0_0) + all_0 (((r_0 + 315) + x4)))))) (f7 : (x5 = 0) ∨ ((x5 = (bendMany_0 (((48 * g0_0) + x4)) + 1)) ∨ (x9 = bendX_0 (((24 * ((48 * g0_0) + x4)) + (x5 - 1)))))) (f8 : x5 ≤ (bendMany_0 (((48 * g0_0) + x4)) + 1)) (f9 : x7 < x8) (f10 : x8 = (bendMany_0 (((48 * g0_0) + x4)) + 2)) (f11 : x7 = x5 + x6) (f12 : BNA (leastX_0) (mostX_0) (leastY_0) (mostY_0) (g0_0) (r_0) (nodeX_0) (nodeY_0) (all_0) (bendMany_0) (bendX_0) (bendY_0)) (f13 : (-1) * dotWide_0 + 0 ≤ (-1)) (f14 : 1 * dotWide_0 + 0 ≤ 64) (f15 : (-1) * dotTall_0 + 0 ≤ (-1)) (f16 : 1 * dotTall_0 + 0 ≤ 64) (f17 : 1 * x4 + ((-1) * all_0 (r_0 + 1) + 0) ≤ (-1)) (hK_0_62 : ∀ j : Int, 0 ≤ j → j < 96 → (-300000000) ≤ nodeX_0 j ∧ nodeX_0 j ≤ 300000000) (hK_0_63 : ∀ j : Int, 0 ≤ j → j < 96 → (-300000000) ≤ nodeY_0 j ∧ nodeY_0 j ≤ 300000000) (hK_0_64 : ∀ j : Int, 0 ≤ j → j < 192 → 0 ≤ bendMany_0 j ∧ bendMany_0 j ≤ 24) (hK_0_65 : ∀ j : Int, 0 ≤ j → j < 4608 → (-300000011) ≤ bendX_0 j ∧ bendX_0 j ≤ 221100000) (hK_0_66 : ∀ j : Int, 0 ≤ j → j < 4608 → (-900000000) ≤ bendY_0 j ∧ bendY_0 j ≤ 900000000) (kz_0_139 : 0 ≤ g0_0 ∧ g0_0 ≤ 3) (kz_0_153 : (-2147483648) ≤ leastX_0 ∧ leastX_0 ≤ 300000000) (kz_0_154 : (-900000000) ≤ mostX_0 ∧ mostX_0 ≤ 2147483647) (kz_0_155 : (-2147483648) ≤ leastY_0 ∧ leastY_0 ≤ 300000000) (kz_0_156 : (-900000000) ≤ mostY_0 ∧ mostY_0 ≤ 2147483647) (kz_0_173 : 0 ≤ dotWide_0 ∧ dotWide_0 ≤ 64) (kz_0_174 : 0 ≤ dotTall_0 ∧ dotTall_0 ≤ 64) : 1 * leastY_0 + ((-1) * x11 + 0) ≤ 0 := by
  first
    | assumption
    | (clear f0 f1 f2 f5 f6 f7 hK_0_62 hK_0_63 hK_0_64 hK_0_65 hK_0_66; omega)
    | exact (bna_x ‹BNA _ _ _ _ _ _ _ _ _ _ _ _› (by assumption) (by assumption) (by assumption) (by assumption) (by assumption) (by assumption) (by assumption) (by omega) (by omega)).1
    | exact (bna_x ‹BNA _ _ _ _ _ _ _ _ _ _ _ _› (by assumption) (by assumption) (by assumption) (by assumption) (by assumption) (by assumption) (by assumption) (by omega) (by omega)).2
    | exact (bna_y ‹BNA _ _ _ _ _ _ _ _ _ _ _ _› (by assumption) (by assumption) (by assumption) (by assumption) (by assumption) (by assumption) (by assumption) (by omega) (by omega)).1
    | exact (bna_y ‹BNA _ _ _ _ _ _ _ _ _ _ _ _› (by assumption) (by assumption) (by assumption) (by assumption) (by assumption) (by assumption) (by assumption) (by omega) (by omega)).2
    | exact (bna_nx ‹BNA _ _ _ _ _ _ _ _ _ _ _ _› (by assumption) (by clear f0 f1 f2 f5 f6 f7 hK_0_62 hK_0_63 hK_0_64 hK_0_65 hK_0_66; omega) (by clear f0 f1 f2 f5 f6 f7 hK_0_62 hK_0_63 hK_0_64 hK_0_65 hK_0_66; omega)).1
    | exact (bna_nx ‹BNA _ _ _ _ _ _ _ _ _ _ _ _› (by assumption) (by clear f0 f1 f2 f5 f6 f7 hK_0_62 hK_0_63 hK_0_64 hK_0_65 hK_0_66; omega) (by clear f0 f1 f2 f5 f6 f7 hK_0_62 hK_0_63 hK_0_64 hK_0_65 hK_0_66; omega)).2
    | exact (bna_ny ‹BNA _ _ _ _ _ _ _ _ _ _ _ _› (by assumption) (by clear f0 f1 f2 f5 f6 f7 hK_0_62 hK_0_63 hK_0_64 hK_0_65 hK_0_66; omega) (by clear f0 f1 f2 f5 f6 f7 hK_0_62 hK_0_63 hK_0_64 hK_0_65 hK_0_66; omega)).1
    | exact (bna_ny ‹BNA _ _ _ _ _ _ _ _ _ _ _ _› (by assumption) (by clear f0 f1 f2 f5 f6 f7 hK_0_62 hK_0_63 hK_0_64 hK_0_65 hK_0_66; omega) (by clear f0 f1 f2 f5 f6 f7 hK_0_62 hK_0_63 hK_0_64 hK_0_65 hK_0_66; omega)).2
    | omega
set_option maxHeartbeats 4000000 in
theorem vc_Mo_dots_5_1 (x4 : Int) (x5 : Int) (x6 : Int) (x7 : Int) (x8 : Int) (x9 : Int) (x11 : Int) (nodeY_0 : Int → Int) (all_0 : Int → Int) (g0_0 : Int) (r_0 : Int) (bendMany_0 : Int → Int) (bendY_0 : Int → Int) (leastX_0 : Int) (mostX_0 : Int) (nodeX_0 : Int → Int) (bendX_0 : Int → Int) (leastY_0 : Int) (mostY_0 : Int) (dotWide_0 : Int) (dotTall_0 : Int) (k4 : 0 ≤ x4 ∧ x4 ≤ 47) (k5 : 1 ≤ x5 ∧ x5 ≤ 24) (k6 : 1 ≤ x6 ∧ x6 ≤ 1) (k7 : 2 ≤ x7 ∧ x7 ≤ 25) (k8 : 2 ≤ x8 ∧ x8 ≤ 26) (k9 : (-300000011) ≤ x9 ∧ x9 ≤ 221100000) (k11 : (-900000000) ≤ x11 ∧ x11 ≤ 900000000) (d0 : x8 + (-4294967296) ≤ x7 ∧ x7 ≤ x8 + (-1)) (d1 : x5 + 1 ≤ x7 ∧ x7 ≤ x5 + 1) (f0 : (x5 = 0) → (x11 = nodeY_0 (((24 * g0_0) + all_0 (((r_0 + 267) + x4)))))) (f1 : (x5 = (bendMany_0 (((48 * g0_0) + x4)) + 1)) → (x11 = nodeY_0 (((24 * g0_0) + all_0 (((r_0 + 315) + x4)))))) (f2 : (x5 = 0) ∨ ((x5 = (bendMany_0 (((48 * g0_0) + x4)) + 1)) ∨ (x11 = bendY_0 (((24 * ((48 * g0_0) + x4)) + (x5 - 1)))))) (f3 : 1 * leastX_0 + ((-1) * x9 + 0) ≤ 0) (f4 : 1 * x9 + ((-1) * mostX_0 + 0) ≤ 0) (f5 : (x5 = 0) → (x9 = nodeX_0 (((24 * g0_0) + all_0 (((r_0 + 267) + x4)))))) (f6 : (x5 = (bendMany_0 (((48 * g0_0) + x4)) + 1)) → (x9 = nodeX_0 (((24 * g0_0) + all_0 (((r_0 + 315) + x4)))))) (f7 : (x5 = 0) ∨ ((x5 = (bendMany_0 (((48 * g0_0) + x4)) + 1)) ∨ (x9 = bendX_0 (((24 * ((48 * g0_0) + x4)) + (x5 - 1)))))) (f8 : x5 ≤ (bendMany_0 (((48 * g0_0) + x4)) + 1)) (f9 : x7 < x8) (f10 : x8 = (bendMany_0 (((48 * g0_0) + x4)) + 2)) (f11 : x7 = x5 + x6) (f12 : BNA (leastX_0) (mostX_0) (leastY_0) (mostY_0) (g0_0) (r_0) (nodeX_0) (nodeY_0) (all_0) (bendMany_0) (bendX_0) (bendY_0)) (f13 : (-1) * dotWide_0 + 0 ≤ (-1)) (f14 : 1 * dotWide_0 + 0 ≤ 64) (f15 : (-1) * dotTall_0 + 0 ≤ (-1)) (f16 : 1 * dotTall_0 + 0 ≤ 64) (f17 : 1 * x4 + ((-1) * all_0 (r_0 + 1) + 0) ≤ (-1)) (hK_0_62 : ∀ j : Int, 0 ≤ j → j < 96 → (-300000000) ≤ nodeX_0 j ∧ nodeX_0 j ≤ 300000000) (hK_0_63 : ∀ j : Int, 0 ≤ j → j < 96 → (-300000000) ≤ nodeY_0 j ∧ nodeY_0 j ≤ 300000000) (hK_0_64 : ∀ j : Int, 0 ≤ j → j < 192 → 0 ≤ bendMany_0 j ∧ bendMany_0 j ≤ 24) (hK_0_65 : ∀ j : Int, 0 ≤ j → j < 4608 → (-300000011) ≤ bendX_0 j ∧ bendX_0 j ≤ 221100000) (hK_0_66 : ∀ j : Int, 0 ≤ j → j < 4608 → (-900000000) ≤ bendY_0 j ∧ bendY_0 j ≤ 900000000) (kz_0_139 : 0 ≤ g0_0 ∧ g0_0 ≤ 3) (kz_0_153 : (-2147483648) ≤ leastX_0 ∧ leastX_0 ≤ 300000000) (kz_0_154 : (-900000000) ≤ mostX_0 ∧ mostX_0 ≤ 2147483647) (kz_0_155 : (-2147483648) ≤ leastY_0 ∧ leastY_0 ≤ 300000000) (kz_0_156 : (-900000000) ≤ mostY_0 ∧ mostY_0 ≤ 2147483647) (kz_0_173 : 0 ≤ dotWide_0 ∧ dotWide_0 ≤ 64) (kz_0_174 : 0 ≤ dotTall_0 ∧ dotTall_0 ≤ 64) : 1 * x11 + ((-1) * mostY_0 + 0) ≤ 0 := by
  first
    | assumption
    | (clear f0 f1 f2 f5 f6 f7 hK_0_62 hK_0_63 hK_0_64 hK_0_65 hK_0_66; omega)
    | exact (bna_x ‹BNA _ _ _ _ _ _ _ _ _ _ _ _› (by assumption) (by assumption) (by assumption) (by assumption) (by assumption) (by assumption) (by assumption) (by omega) (by omega)).1
    | exact (bna_x ‹BNA _ _ _ _ _ _ _ _ _ _ _ _› (by assumption) (by assumption) (by assumption) (by assumption) (by assumption) (by assumption) (by assumption) (by omega) (by omega)).2
    | exact (bna_y ‹BNA _ _ _ _ _ _ _ _ _ _ _ _› (by assumption) (by assumption) (by assumption) (by assumption) (by assumption) (by assumption) (by assumption) (by omega) (by omega)).1
    | exact (bna_y ‹BNA _ _ _ _ _ _ _ _ _ _ _ _› (by assumption) (by assumption) (by assumption) (by assumption) (by assumption) (by assumption) (by assumption) (by omega) (by omega)).2
    | exact (bna_nx ‹BNA _ _ _ _ _ _ _ _ _ _ _ _› (by assumption) (by clear f0 f1 f2 f5 f6 f7 hK_0_62 hK_0_63 hK_0_64 hK_0_65 hK_0_66; omega) (by clear f0 f1 f2 f5 f6 f7 hK_0_62 hK_0_63 hK_0_64 hK_0_65 hK_0_66; omega)).1
    | exact (bna_nx ‹BNA _ _ _ _ _ _ _ _ _ _ _ _› (by assumption) (by clear f0 f1 f2 f5 f6 f7 hK_0_62 hK_0_63 hK_0_64 hK_0_65 hK_0_66; omega) (by clear f0 f1 f2 f5 f6 f7 hK_0_62 hK_0_63 hK_0_64 hK_0_65 hK_0_66; omega)).2
    | exact (bna_ny ‹BNA _ _ _ _ _ _ _ _ _ _ _ _› (by assumption) (by clear f0 f1 f2 f5 f6 f7 hK_0_62 hK_0_63 hK_0_64 hK_0_65 hK_0_66; omega) (by clear f0 f1 f2 f5 f6 f7 hK_0_62 hK_0_63 hK_0_64 hK_0_65 hK_0_66; omega)).1
    | exact (bna_ny ‹BNA _ _ _ _ _ _ _ _ _ _ _ _› (by assumption) (by clear f0 f1 f2 f5 f6 f7 hK_0_62 hK_0_63 hK_0_64 hK_0_65 hK_0_66; omega) (by clear f0 f1 f2 f5 f6 f7 hK_0_62 hK_0_63 hK_0_64 hK_0_65 hK_0_66; omega)).2
    | omega
def o_Mo_dots_5 : or_T := (119, 12, [(0, (2, 0, 0, [165])), (4, (0, 0, 47, [])), (5, (0, 1, 24, [])), (6, (0, 1, 1, [])), (7, (0, 2, 25, [])), (8, (0, 2, 26, [])), (9, (0, -300000011, 221100000, [])), (11, (0, -900000000, 900000000, []))], [(20, [5, 11, 0, 4], [50, 2, 2, 2139, 2005, 2063, 2002, 4, 6, 1, 2, 1, 0, 0, 0, 1, 2, 1, 1, 3, 2, 63, 4, 7, 6, 2, 0, 24, 2, 2, 139, 3, 2, 2, 4, 7, 4, 3, 2, 2, 5, 0, 267, 1, 3]), (20, [5, 0, 4, 11], [50, 2, 3, 1139, 1005, 1064, 1063, 1002, 4, 22, 1, 2, 1, 0, 4, 14, 3, 1, 64, 4, 7, 6, 2, 0, 48, 2, 1, 139, 1, 2, 0, 1, 1, 2, 1, 3, 3, 1, 63, 4, 7, 6, 2, 0, 24, 2, 1, 139, 3, 1, 2, 4, 7, 4, 3, 2, 1, 5, 0, 315, 1, 2]), (20, [5, 0, 4, 11], [50, 1, 2, 1139, 1064, 1066, 3, 6, 1, 2, 1, 0, 0, 0, 3, 22, 1, 2, 1, 0, 4, 14, 3, 1, 64, 4, 7, 6, 2, 0, 48, 2, 1, 139, 1, 2, 0, 1, 1, 2, 1, 3, 3, 1, 66, 4, 15, 6, 2, 0, 24, 4, 7, 6, 2, 0, 48, 2, 1, 139, 1, 2, 5, 2, 1, 0, 0, 1]), (20, [0, 9], [30, 0, 1, 1, 153, -1, 0, 0]), (20, [9, 0], [30, 0, 1, 0, 0, -1, 1, 154]), (20, [5, 9, 0, 4], [50, 2, 2, 2139, 2005, 2062, 2002, 4, 6, 1, 2, 1, 0, 0, 0, 1, 2, 1, 1, 3, 2, 62, 4, 7, 6, 2, 0, 24, 2, 2, 139, 3, 2, 2, 4, 7, 4, 3, 2, 2, 5, 0, 267, 1, 3]), (20, [5, 0, 4, 9], [50, 2, 3, 1139, 1005, 1064, 1062, 1002, 4, 22, 1, 2, 1, 0, 4, 14, 3, 1, 64, 4, 7, 6, 2, 0, 48, 2, 1, 139, 1, 2, 0, 1, 1, 2, 1, 3, 3, 1, 62, 4, 7, 6, 2, 0, 24, 2, 1, 139, 3, 1, 2, 4, 7, 4, 3, 2, 1, 5, 0, 315, 1, 2]), (20, [5, 0, 4, 9], [50, 1, 2, 1139, 1064, 1065, 3, 6, 1, 2, 1, 0, 0, 0, 3, 22, 1, 2, 1, 0, 4, 14, 3, 1, 64, 4, 7, 6, 2, 0, 48, 2, 1, 139, 1, 2, 0, 1, 1, 2, 1, 3, 3, 1, 65, 4, 15, 6, 2, 0, 24, 4, 7, 6, 2, 0, 48, 2, 1, 139, 1, 2, 5, 2, 1, 0, 0, 1]), (20, [5, 0, 4], [50, 1, 1, 1139, 1064, 0, 2, 1, 0, 4, 14, 3, 1, 64, 4, 7, 6, 2, 0, 48, 2, 1, 139, 1, 2, 0, 1]), (7, [7, 8], [2]), (20, [8, 0, 4], [50, 1, 1, 1139, 1064, 1, 2, 1, 0, 4, 14, 3, 1, 64, 4, 7, 6, 2, 0, 48, 2, 1, 139, 1, 2, 0, 2]), (1, [7, 5, 6], []), (20, [0], [60, 6, 6, 945, 153, 154, 155, 156, 139, 5, 62, 63, 2, 64, 65, 66]), (20, [0], [30, -1, -1, 1, 173]), (20, [0], [30, 64, 1, 1, 173]), (20, [0], [30, -1, -1, 1, 174]), (20, [0], [30, 64, 1, 1, 174]), (20, [4, 0], [30, -1, 1, 0, 0, -1, 3, 2005001])], [], [], [(20, [0, 11], [30, 0, 1, 1, 155, -1, 0, 0]), (20, [11, 0], [30, 0, 1, 0, 0, -1, 1, 156])], [], [(7, 8, -4294967296, -1), (7, 5, 1, 1)])
theorem oo_Mo_dots_5 {kA : Nat → ClassId} : or_ok PRD kA GG o_Mo_dots_5 := by
  refine or_mk fun A ta ws vs hD hth hl => ?_
  intro t0 r0 t4 k4 t5 k5 t6 k6 t7 k7 t8 k8 t9 k9 t11 k11 d0 d1 f0 f1 f2 f3 f4 f5 f6 f7 f8 f9 f10 f11 f12 f13 f14 f15 f16 f17
  have cr_0_62 := fdq_173 hD hth r0
  have cr_0_63 := fdq_174 hD hth r0
  have cr_0_64 := fdq_171 hD hth r0
  have cr_0_65 := fdq_292 hD hth r0
  have cr_0_66 := fdq_293 hD hth r0
  have hK_0_62 := elq_102 hD hth cr_0_62
  have hK_0_63 := elq_103 hD hth cr_0_63
  have hK_0_64 := elq_101 hD hth cr_0_64
  have hK_0_65 := elq_184 hD hth cr_0_65
  have hK_0_66 := elq_185 hD hth cr_0_66
  have kz_0_139 := fdq_172 hD hth r0
  have kz_0_153 := fdq_14 hD hth r0
  have kz_0_154 := fdq_15 hD hth r0
  have kz_0_155 := fdq_17 hD hth r0
  have kz_0_156 := fdq_18 hD hth r0
  have kz_0_173 := fdq_16 hD hth r0
  have kz_0_174 := fdq_19 hD hth r0
  have nf0 : fc_1 PRD (20, [0, 11], [30, 0, 1, 1, 155, -1, 0, 0]) ws (vs) := ⟨nf_in hl rfl, sgq_153 (vc_Mo_dots_5_0 (v_iv (n_v vs 4)) (v_iv (n_v vs 5)) (v_iv (n_v vs 6)) (v_iv (n_v vs 7)) (v_iv (n_v vs 8)) (v_iv (n_v vs 9)) (v_iv (n_v vs 11)) (w_ei ws (w_ar ws (n_v vs 0) 63)) (w_ei ws (w_ar ws (n_v vs 0) 2)) (w_fi ws (n_v vs 0) 139) (w_fi ws (n_v vs 0) 5) (w_ei ws (w_ar ws (n_v vs 0) 64)) (w_ei ws (w_ar ws (n_v vs 0) 66)) (w_fi ws (n_v vs 0) 153) (w_fi ws (n_v vs 0) 154) (w_ei ws (w_ar ws (n_v vs 0) 62)) (w_ei ws (w_ar ws (n_v vs 0) 65)) (w_fi ws (n_v vs 0) 155) (w_fi ws (n_v vs 0) 156) (w_fi ws (n_v vs 0) 173) (w_fi ws (n_v vs 0) 174) k4 k5 k6 k7 k8 k9 k11 d0 d1 (shm_1427 f0) (shm_1428 f1) (shm_1429 f2) (shm_146 f3) (shm_147 f4) (shm_1423 f5) (shm_1424 f6) (shm_1425 f7) (shm_1421 f8) (shm_6 f9) (shm_683 f10) (shm_12 f11) (shm_1845 f12) (shm_148 f13) (shm_149 f14) (shm_155 f15) (shm_156 f16) (shm_979 f17) hK_0_62 hK_0_63 hK_0_64 hK_0_65 hK_0_66 kz_0_139 kz_0_153 kz_0_154 kz_0_155 kz_0_156 kz_0_173 kz_0_174)⟩
  have nf1 : fc_1 PRD (20, [11, 0], [30, 0, 1, 0, 0, -1, 1, 156]) ws (vs) := ⟨nf_in hl rfl, sgq_154 (vc_Mo_dots_5_1 (v_iv (n_v vs 4)) (v_iv (n_v vs 5)) (v_iv (n_v vs 6)) (v_iv (n_v vs 7)) (v_iv (n_v vs 8)) (v_iv (n_v vs 9)) (v_iv (n_v vs 11)) (w_ei ws (w_ar ws (n_v vs 0) 63)) (w_ei ws (w_ar ws (n_v vs 0) 2)) (w_fi ws (n_v vs 0) 139) (w_fi ws (n_v vs 0) 5) (w_ei ws (w_ar ws (n_v vs 0) 64)) (w_ei ws (w_ar ws (n_v vs 0) 66)) (w_fi ws (n_v vs 0) 153) (w_fi ws (n_v vs 0) 154) (w_ei ws (w_ar ws (n_v vs 0) 62)) (w_ei ws (w_ar ws (n_v vs 0) 65)) (w_fi ws (n_v vs 0) 155) (w_fi ws (n_v vs 0) 156) (w_fi ws (n_v vs 0) 173) (w_fi ws (n_v vs 0) 174) k4 k5 k6 k7 k8 k9 k11 d0 d1 (shm_1427 f0) (shm_1428 f1) (shm_1429 f2) (shm_146 f3) (shm_147 f4) (shm_1423 f5) (shm_1424 f6) (shm_1425 f7) (shm_1421 f8) (shm_6 f9) (shm_683 f10) (shm_12 f11) (shm_1845 f12) (shm_148 f13) (shm_149 f14) (shm_155 f15) (shm_156 f16) (shm_979 f17) hK_0_62 hK_0_63 hK_0_64 hK_0_65 hK_0_66 kz_0_139 kz_0_153 kz_0_154 kz_0_155 kz_0_156 kz_0_173 kz_0_174)⟩
  refine ⟨(fun _ h => (by cases h)), [], trivial, ?_, (fun _ h => (by cases h))⟩
  rw [List.append_nil]
  exact List.forall_mem_cons.mpr ⟨⟨show (20 : Nat) < 100 from by decide, nf0⟩, List.forall_mem_cons.mpr ⟨⟨show (20 : Nat) < 100 from by decide, nf1⟩, (fun _ h => (by cases h))⟩⟩
set_option maxHeartbeats 4000000 in
theorem vc_Mo_dots_6_0 (x4 : Int) (x5 : Int) (x6 : Int) (x7 : Int) (x8 : Int) (x9 : Int) (x11 : Int) (x13 : Int) (x14 : Int) (leastY_0 : Int) (mostY_0 : Int) (nodeY_0 : Int → Int) (all_0 : Int → Int) (g0_0 : Int) (r_0 : Int) (bendMany_0 : Int → Int) (bendY_0 : Int → Int) (leastX_0 : Int) (mostX_0 : Int) (nodeX_0 : Int → Int) (bendX_0 : Int → Int) (dotWide_0 : Int) (dotTall_0 : Int) (k4 : 0 ≤ x4 ∧ x4 ≤ 47) (k5 : 1 ≤ x5 ∧ x5 ≤ 24) (k6 : 1 ≤ x6 ∧ x6 ≤ 1) (k7 : 2 ≤ x7 ∧ x7 ≤ 25) (k8 : 2 ≤ x8 ∧ x8 ≤ 26) (k9 : (-300000011) ≤ x9 ∧ x9 ≤ 221100000) (k11 : (-900000000) ≤ x11 ∧ x11 ≤ 900000000) (k13 : 1 ≤ x13 ∧ x13 ≤ 1) (k14 : 2 ≤ x14 ∧ x14 ≤ 25) (d0 : x5 + 1 ≤ x14 ∧ x14 ≤ x5 + 1) (d1 : x8 + (-4294967296) ≤ x7 ∧ x7 ≤ x8 + (-1)) (d2 : x5 + 1 ≤ x7 ∧ x7 ≤ x5 + 1) (f0 : x14 = x5 + x13) (f1 : 1 * leastY_0 + ((-1) * x11 + 0) ≤ 0) (f2 : 1 * x11 + ((-1) * mostY_0 + 0) ≤ 0) (f3 : (x5 = 0) → (x11 = nodeY_0 (((24 * g0_0) + all_0 (((r_0 + 267) + x4)))))) (f4 : (x5 = (bendMany_0 (((48 * g0_0) + x4)) + 1)) → (x11 = nodeY_0 (((24 * g0_0) + all_0 (((r_0 + 315) + x4)))))) (f5 : (x5 = 0) ∨ ((x5 = (bendMany_0 (((48 * g0_0) + x4)) + 1)) ∨ (x11 = bendY_0 (((24 * ((48 * g0_0) + x4)) + (x5 - 1)))))) (f6 : 1 * leastX_0 + ((-1) * x9 + 0) ≤ 0) (f7 : 1 * x9 + ((-1) * mostX_0 + 0) ≤ 0) (f8 : (x5 = 0) → (x9 = nodeX_0 (((24 * g0_0) + all_0 (((r_0 + 267) + x4)))))) (f9 : (x5 = (bendMany_0 (((48 * g0_0) + x4)) + 1)) → (x9 = nodeX_0 (((24 * g0_0) + all_0 (((r_0 + 315) + x4)))))) (f10 : (x5 = 0) ∨ ((x5 = (bendMany_0 (((48 * g0_0) + x4)) + 1)) ∨ (x9 = bendX_0 (((24 * ((48 * g0_0) + x4)) + (x5 - 1)))))) (f11 : x5 ≤ (bendMany_0 (((48 * g0_0) + x4)) + 1)) (f12 : x7 < x8) (f13 : x8 = (bendMany_0 (((48 * g0_0) + x4)) + 2)) (f14 : x7 = x5 + x6) (f15 : BNA (leastX_0) (mostX_0) (leastY_0) (mostY_0) (g0_0) (r_0) (nodeX_0) (nodeY_0) (all_0) (bendMany_0) (bendX_0) (bendY_0)) (f16 : (-1) * dotWide_0 + 0 ≤ (-1)) (f17 : 1 * dotWide_0 + 0 ≤ 64) (f18 : (-1) * dotTall_0 + 0 ≤ (-1)) (f19 : 1 * dotTall_0 + 0 ≤ 64) (f20 : 1 * x4 + ((-1) * all_0 (r_0 + 1) + 0) ≤ (-1)) (hK_0_62 : ∀ j : Int, 0 ≤ j → j < 96 → (-300000000) ≤ nodeX_0 j ∧ nodeX_0 j ≤ 300000000) (hK_0_63 : ∀ j : Int, 0 ≤ j → j < 96 → (-300000000) ≤ nodeY_0 j ∧ nodeY_0 j ≤ 300000000) (hK_0_64 : ∀ j : Int, 0 ≤ j → j < 192 → 0 ≤ bendMany_0 j ∧ bendMany_0 j ≤ 24) (hK_0_65 : ∀ j : Int, 0 ≤ j → j < 4608 → (-300000011) ≤ bendX_0 j ∧ bendX_0 j ≤ 221100000) (hK_0_66 : ∀ j : Int, 0 ≤ j → j < 4608 → (-900000000) ≤ bendY_0 j ∧ bendY_0 j ≤ 900000000) (kz_0_139 : 0 ≤ g0_0 ∧ g0_0 ≤ 3) (kz_0_153 : (-2147483648) ≤ leastX_0 ∧ leastX_0 ≤ 300000000) (kz_0_154 : (-900000000) ≤ mostX_0 ∧ mostX_0 ≤ 2147483647) (kz_0_155 : (-2147483648) ≤ leastY_0 ∧ leastY_0 ≤ 300000000) (kz_0_156 : (-900000000) ≤ mostY_0 ∧ mostY_0 ≤ 2147483647) (kz_0_173 : 0 ≤ dotWide_0 ∧ dotWide_0 ≤ 64) (kz_0_174 : 0 ≤ dotTall_0 ∧ dotTall_0 ≤ 64) : x14 ≤ (bendMany_0 (((48 * g0_0) + x4)) + 1) := by
  first
    | assumption
    | (clear f3 f4 f5 f8 f9 f10 hK_0_62 hK_0_63 hK_0_64 hK_0_65 hK_0_66; omega)
    | exact (bna_x ‹BNA _ _ _ _ _ _ _ _ _ _ _ _› (by assumption) (by assumption) (by assumption) (by assumption) (by assumption) (by assumption) (by assumption) (by omega) (by omega)).1
    | exact (bna_x ‹BNA _ _ _ _ _ _ _ _ _ _ _ _› (by assumption) (by assumption) (by assumption) (by assumption) (by assumption) (by assumption) (by assumption) (by omega) (by omega)).2
    | exact (bna_y ‹BNA _ _ _ _ _ _ _ _ _ _ _ _› (by assumption) (by assumption) (by assumption) (by assumption) (by assumption) (by assumption) (by assumption) (by omega) (by omega)).1
    | exact (bna_y ‹BNA _ _ _ _ _ _ _ _ _ _ _ _› (by assumption) (by assumption) (by assumption) (by assumption) (by assumption) (by assumption) (by assumption) (by omega) (by omega)).2
    | exact (bna_nx ‹BNA _ _ _ _ _ _ _ _ _ _ _ _› (by assumption) (by clear f3 f4 f5 f8 f9 f10 hK_0_62 hK_0_63 hK_0_64 hK_0_65 hK_0_66; omega) (by clear f3 f4 f5 f8 f9 f10 hK_0_62 hK_0_63 hK_0_64 hK_0_65 hK_0_66; omega)).1
    | exact (bna_nx ‹BNA _ _ _ _ _ _ _ _ _ _ _ _› (by assumption) (by clear f3 f4 f5 f8 f9 f10 hK_0_62 hK_0_63 hK_0_64 hK_0_65 hK_0_66; omega) (by clear f3 f4 f5 f8 f9 f10 hK_0_62 hK_0_63 hK_0_64 hK_0_65 hK_0_66; omega)).2
    | exact (bna_ny ‹BNA _ _ _ _ _ _ _ _ _ _ _ _› (by assumption) (by clear f3 f4 f5 f8 f9 f10 hK_0_62 hK_0_63 hK_0_64 hK_0_65 hK_0_66; omega) (by clear f3 f4 f5 f8 f9 f10 hK_0_62 hK_0_63 hK_0_64 hK_0_65 hK_0_66; omega)).1
    | exact (bna_ny ‹BNA _ _ _ _ _ _ _ _ _ _ _ _› (by assumption) (by clear f3 f4 f5 f8 f9 f10 hK_0_62 hK_0_63 hK_0_64 hK_0_65 hK_0_66; omega) (by clear f3 f4 f5 f8 f9 f10 hK_0_62 hK_0_63 hK_0_64 hK_0_65 hK_0_66; omega)).2
    | omega
def o_Mo_dots_6 : or_T := (130, 15, [(0, (2, 0, 0, [165])), (4, (0, 0, 47, [])), (5, (0, 1, 24, [])), (6, (0, 1, 1, [])), (7, (0, 2, 25, [])), (8, (0, 2, 26, [])), (9, (0, -300000011, 221100000, [])), (11, (0, -900000000, 900000000, [])), (13, (0, 1, 1, [])), (14, (0, 2, 25, []))], [(1, [14, 5, 13], []), (20, [0, 11], [30, 0, 1, 1, 155, -1, 0, 0]), (20, [11, 0], [30, 0, 1, 0, 0, -1, 1, 156]), (20, [5, 11, 0, 4], [50, 2, 2, 2139, 2005, 2063, 2002, 4, 6, 1, 2, 1, 0, 0, 0, 1, 2, 1, 1, 3, 2, 63, 4, 7, 6, 2, 0, 24, 2, 2, 139, 3, 2, 2, 4, 7, 4, 3, 2, 2, 5, 0, 267, 1, 3]), (20, [5, 0, 4, 11], [50, 2, 3, 1139, 1005, 1064, 1063, 1002, 4, 22, 1, 2, 1, 0, 4, 14, 3, 1, 64, 4, 7, 6, 2, 0, 48, 2, 1, 139, 1, 2, 0, 1, 1, 2, 1, 3, 3, 1, 63, 4, 7, 6, 2, 0, 24, 2, 1, 139, 3, 1, 2, 4, 7, 4, 3, 2, 1, 5, 0, 315, 1, 2]), (20, [5, 0, 4, 11], [50, 1, 2, 1139, 1064, 1066, 3, 6, 1, 2, 1, 0, 0, 0, 3, 22, 1, 2, 1, 0, 4, 14, 3, 1, 64, 4, 7, 6, 2, 0, 48, 2, 1, 139, 1, 2, 0, 1, 1, 2, 1, 3, 3, 1, 66, 4, 15, 6, 2, 0, 24, 4, 7, 6, 2, 0, 48, 2, 1, 139, 1, 2, 5, 2, 1, 0, 0, 1]), (20, [0, 9], [30, 0, 1, 1, 153, -1, 0, 0]), (20, [9, 0], [30, 0, 1, 0, 0, -1, 1, 154]), (20, [5, 9, 0, 4], [50, 2, 2, 2139, 2005, 2062, 2002, 4, 6, 1, 2, 1, 0, 0, 0, 1, 2, 1, 1, 3, 2, 62, 4, 7, 6, 2, 0, 24, 2, 2, 139, 3, 2, 2, 4, 7, 4, 3, 2, 2, 5, 0, 267, 1, 3]), (20, [5, 0, 4, 9], [50, 2, 3, 1139, 1005, 1064, 1062, 1002, 4, 22, 1, 2, 1, 0, 4, 14, 3, 1, 64, 4, 7, 6, 2, 0, 48, 2, 1, 139, 1, 2, 0, 1, 1, 2, 1, 3, 3, 1, 62, 4, 7, 6, 2, 0, 24, 2, 1, 139, 3, 1, 2, 4, 7, 4, 3, 2, 1, 5, 0, 315, 1, 2]), (20, [5, 0, 4, 9], [50, 1, 2, 1139, 1064, 1065, 3, 6, 1, 2, 1, 0, 0, 0, 3, 22, 1, 2, 1, 0, 4, 14, 3, 1, 64, 4, 7, 6, 2, 0, 48, 2, 1, 139, 1, 2, 0, 1, 1, 2, 1, 3, 3, 1, 65, 4, 15, 6, 2, 0, 24, 4, 7, 6, 2, 0, 48, 2, 1, 139, 1, 2, 5, 2, 1, 0, 0, 1]), (20, [5, 0, 4], [50, 1, 1, 1139, 1064, 0, 2, 1, 0, 4, 14, 3, 1, 64, 4, 7, 6, 2, 0, 48, 2, 1, 139, 1, 2, 0, 1]), (7, [7, 8], [2]), (20, [8, 0, 4], [50, 1, 1, 1139, 1064, 1, 2, 1, 0, 4, 14, 3, 1, 64, 4, 7, 6, 2, 0, 48, 2, 1, 139, 1, 2, 0, 2]), (1, [7, 5, 6], []), (20, [0], [60, 6, 6, 945, 153, 154, 155, 156, 139, 5, 62, 63, 2, 64, 65, 66]), (20, [0], [30, -1, -1, 1, 173]), (20, [0], [30, 64, 1, 1, 173]), (20, [0], [30, -1, -1, 1, 174]), (20, [0], [30, 64, 1, 1, 174]), (20, [4, 0], [30, -1, 1, 0, 0, -1, 3, 2005001])], [], [], [(20, [14, 0, 4], [50, 1, 1, 1139, 1064, 0, 2, 1, 0, 4, 14, 3, 1, 64, 4, 7, 6, 2, 0, 48, 2, 1, 139, 1, 2, 0, 1])], [], [(14, 5, 1, 1), (7, 8, -4294967296, -1), (7, 5, 1, 1)])
theorem oo_Mo_dots_6 {kA : Nat → ClassId} : or_ok PRD kA GG o_Mo_dots_6 := by
  refine or_mk fun A ta ws vs hD hth hl => ?_
  intro t0 r0 t4 k4 t5 k5 t6 k6 t7 k7 t8 k8 t9 k9 t11 k11 t13 k13 t14 k14 d0 d1 d2 f0 f1 f2 f3 f4 f5 f6 f7 f8 f9 f10 f11 f12 f13 f14 f15 f16 f17 f18 f19 f20
  have cr_0_62 := fdq_173 hD hth r0
  have cr_0_63 := fdq_174 hD hth r0
  have cr_0_64 := fdq_171 hD hth r0
  have cr_0_65 := fdq_292 hD hth r0
  have cr_0_66 := fdq_293 hD hth r0
  have hK_0_62 := elq_102 hD hth cr_0_62
  have hK_0_63 := elq_103 hD hth cr_0_63
  have hK_0_64 := elq_101 hD hth cr_0_64
  have hK_0_65 := elq_184 hD hth cr_0_65
  have hK_0_66 := elq_185 hD hth cr_0_66
  have kz_0_139 := fdq_172 hD hth r0
  have kz_0_153 := fdq_14 hD hth r0
  have kz_0_154 := fdq_15 hD hth r0
  have kz_0_155 := fdq_17 hD hth r0
  have kz_0_156 := fdq_18 hD hth r0
  have kz_0_173 := fdq_16 hD hth r0
  have kz_0_174 := fdq_19 hD hth r0
  have nf0 : fc_1 PRD (20, [14, 0, 4], [50, 1, 1, 1139, 1064, 0, 2, 1, 0, 4, 14, 3, 1, 64, 4, 7, 6, 2, 0, 48, 2, 1, 139, 1, 2, 0, 1]) ws (vs) := ⟨nf_in hl rfl, sgq_1421 (vc_Mo_dots_6_0 (v_iv (n_v vs 4)) (v_iv (n_v vs 5)) (v_iv (n_v vs 6)) (v_iv (n_v vs 7)) (v_iv (n_v vs 8)) (v_iv (n_v vs 9)) (v_iv (n_v vs 11)) (v_iv (n_v vs 13)) (v_iv (n_v vs 14)) (w_fi ws (n_v vs 0) 155) (w_fi ws (n_v vs 0) 156) (w_ei ws (w_ar ws (n_v vs 0) 63)) (w_ei ws (w_ar ws (n_v vs 0) 2)) (w_fi ws (n_v vs 0) 139) (w_fi ws (n_v vs 0) 5) (w_ei ws (w_ar ws (n_v vs 0) 64)) (w_ei ws (w_ar ws (n_v vs 0) 66)) (w_fi ws (n_v vs 0) 153) (w_fi ws (n_v vs 0) 154) (w_ei ws (w_ar ws (n_v vs 0) 62)) (w_ei ws (w_ar ws (n_v vs 0) 65)) (w_fi ws (n_v vs 0) 173) (w_fi ws (n_v vs 0) 174) k4 k5 k6 k7 k8 k9 k11 k13 k14 d0 d1 d2 (shm_12 f0) (shm_153 f1) (shm_154 f2) (shm_1427 f3) (shm_1428 f4) (shm_1429 f5) (shm_146 f6) (shm_147 f7) (shm_1423 f8) (shm_1424 f9) (shm_1425 f10) (shm_1421 f11) (shm_6 f12) (shm_683 f13) (shm_12 f14) (shm_1845 f15) (shm_148 f16) (shm_149 f17) (shm_155 f18) (shm_156 f19) (shm_979 f20) hK_0_62 hK_0_63 hK_0_64 hK_0_65 hK_0_66 kz_0_139 kz_0_153 kz_0_154 kz_0_155 kz_0_156 kz_0_173 kz_0_174)⟩
  refine ⟨(fun _ h => (by cases h)), [], trivial, ?_, (fun _ h => (by cases h))⟩
  rw [List.append_nil]
  exact List.forall_mem_cons.mpr ⟨⟨show (20 : Nat) < 100 from by decide, nf0⟩, (fun _ h => (by cases h))⟩
set_option maxHeartbeats 4000000 in
theorem vc_Mo_dots_7_0 (x4 : Int) (x5 : Int) (x6 : Int) (x7 : Int) (x8 : Int) (x9 : Int) (x11 : Int) (x13 : Int) (x14 : Int) (x15 : Int) (nodeX_0 : Int → Int) (all_0 : Int → Int) (g0_0 : Int) (r_0 : Int) (bendMany_0 : Int → Int) (bendX_0 : Int → Int) (leastY_0 : Int) (mostY_0 : Int) (nodeY_0 : Int → Int) (bendY_0 : Int → Int) (leastX_0 : Int) (mostX_0 : Int) (dotWide_0 : Int) (dotTall_0 : Int) (k4 : 0 ≤ x4 ∧ x4 ≤ 47) (k5 : 1 ≤ x5 ∧ x5 ≤ 24) (k6 : 1 ≤ x6 ∧ x6 ≤ 1) (k7 : 2 ≤ x7 ∧ x7 ≤ 25) (k8 : 2 ≤ x8 ∧ x8 ≤ 26) (k9 : (-300000011) ≤ x9 ∧ x9 ≤ 221100000) (k11 : (-900000000) ≤ x11 ∧ x11 ≤ 900000000) (k13 : 1 ≤ x13 ∧ x13 ≤ 1) (k14 : 2 ≤ x14 ∧ x14 ≤ 25) (k15 : (-300000011) ≤ x15 ∧ x15 ≤ 221100000) (d0 : x5 + 1 ≤ x14 ∧ x14 ≤ x5 + 1) (d1 : x8 + (-4294967296) ≤ x7 ∧ x7 ≤ x8 + (-1)) (d2 : x5 + 1 ≤ x7 ∧ x7 ≤ x5 + 1) (f0 : (x14 = 0) → (x15 = nodeX_0 (((24 * g0_0) + all_0 (((r_0 + 267) + x4)))))) (f1 : (x14 = (bendMany_0 (((48 * g0_0) + x4)) + 1)) → (x15 = nodeX_0 (((24 * g0_0) + all_0 (((r_0 + 315) + x4)))))) (f2 : (x14 = 0) ∨ ((x14 = (bendMany_0 (((48 * g0_0) + x4)) + 1)) ∨ (x15 = bendX_0 (((24 * ((48 * g0_0) + x4)) + (x14 - 1)))))) (f3 : x14 ≤ (bendMany_0 (((48 * g0_0) + x4)) + 1)) (f4 : x14 = x5 + x13) (f5 : 1 * leastY_0 + ((-1) * x11 + 0) ≤ 0) (f6 : 1 * x11 + ((-1) * mostY_0 + 0) ≤ 0) (f7 : (x5 = 0) → (x11 = nodeY_0 (((24 * g0_0) + all_0 (((r_0 + 267) + x4)))))) (f8 : (x5 = (bendMany_0 (((48 * g0_0) + x4)) + 1)) → (x11 = nodeY_0 (((24 * g0_0) + all_0 (((r_0 + 315) + x4)))))) (f9 : (x5 = 0) ∨ ((x5 = (bendMany_0 (((48 * g0_0) + x4)) + 1)) ∨ (x11 = bendY_0 (((24 * ((48 * g0_0) + x4)) + (x5 - 1)))))) (f10 : 1 * leastX_0 + ((-1) * x9 + 0) ≤ 0) (f11 : 1 * x9 + ((-1) * mostX_0 + 0) ≤ 0) (f12 : (x5 = 0) → (x9 = nodeX_0 (((24 * g0_0) + all_0 (((r_0 + 267) + x4)))))) (f13 : (x5 = (bendMany_0 (((48 * g0_0) + x4)) + 1)) → (x9 = nodeX_0 (((24 * g0_0) + all_0 (((r_0 + 315) + x4)))))) (f14 : (x5 = 0) ∨ ((x5 = (bendMany_0 (((48 * g0_0) + x4)) + 1)) ∨ (x9 = bendX_0 (((24 * ((48 * g0_0) + x4)) + (x5 - 1)))))) (f15 : x5 ≤ (bendMany_0 (((48 * g0_0) + x4)) + 1)) (f16 : x7 < x8) (f17 : x8 = (bendMany_0 (((48 * g0_0) + x4)) + 2)) (f18 : x7 = x5 + x6) (f19 : BNA (leastX_0) (mostX_0) (leastY_0) (mostY_0) (g0_0) (r_0) (nodeX_0) (nodeY_0) (all_0) (bendMany_0) (bendX_0) (bendY_0)) (f20 : (-1) * dotWide_0 + 0 ≤ (-1)) (f21 : 1 * dotWide_0 + 0 ≤ 64) (f22 : (-1) * dotTall_0 + 0 ≤ (-1)) (f23 : 1 * dotTall_0 + 0 ≤ 64) (f24 : 1 * x4 + ((-1) * all_0 (r_0 + 1) + 0) ≤ (-1)) (hK_0_62 : ∀ j : Int, 0 ≤ j → j < 96 → (-300000000) ≤ nodeX_0 j ∧ nodeX_0 j ≤ 300000000) (hK_0_63 : ∀ j : Int, 0 ≤ j → j < 96 → (-300000000) ≤ nodeY_0 j ∧ nodeY_0 j ≤ 300000000) (hK_0_64 : ∀ j : Int, 0 ≤ j → j < 192 → 0 ≤ bendMany_0 j ∧ bendMany_0 j ≤ 24) (hK_0_65 : ∀ j : Int, 0 ≤ j → j < 4608 → (-300000011) ≤ bendX_0 j ∧ bendX_0 j ≤ 221100000) (hK_0_66 : ∀ j : Int, 0 ≤ j → j < 4608 → (-900000000) ≤ bendY_0 j ∧ bendY_0 j ≤ 900000000) (kz_0_139 : 0 ≤ g0_0 ∧ g0_0 ≤ 3) (kz_0_153 : (-2147483648) ≤ leastX_0 ∧ leastX_0 ≤ 300000000) (kz_0_154 : (-900000000) ≤ mostX_0 ∧ mostX_0 ≤ 2147483647) (kz_0_155 : (-2147483648) ≤ leastY_0 ∧ leastY_0 ≤ 300000000) (kz_0_156 : (-900000000) ≤ mostY_0 ∧ mostY_0 ≤ 2147483647) (kz_0_173 : 0 ≤ dotWide_0 ∧ dotWide_0 ≤ 64) (kz_0_174 : 0 ≤ dotTall_0 ∧ dotTall_0 ≤ 64) : 1 * leastX_0 + ((-1) * x15 + 0) ≤ 0 := by
  first
    | assumption
    | (clear f0 f1 f2 f7 f8 f9 f12 f13 f14 hK_0_62 hK_0_63 hK_0_64 hK_0_65 hK_0_66; omega)
    | exact (bna_x ‹BNA _ _ _ _ _ _ _ _ _ _ _ _› (by assumption) (by assumption) (by assumption) (by assumption) (by assumption) (by assumption) (by assumption) (by omega) (by omega)).1
    | exact (bna_x ‹BNA _ _ _ _ _ _ _ _ _ _ _ _› (by assumption) (by assumption) (by assumption) (by assumption) (by assumption) (by assumption) (by assumption) (by omega) (by omega)).2
    | exact (bna_y ‹BNA _ _ _ _ _ _ _ _ _ _ _ _› (by assumption) (by assumption) (by assumption) (by assumption) (by assumption) (by assumption) (by assumption) (by omega) (by omega)).1
    | exact (bna_y ‹BNA _ _ _ _ _ _ _ _ _ _ _ _› (by assumption) (by assumption) (by assumption) (by assumption) (by assumption) (by assumption) (by assumption) (by omega) (by omega)).2
    | exact (bna_nx ‹BNA _ _ _ _ _ _ _ _ _ _ _ _› (by assumption) (by clear f0 f1 f2 f7 f8 f9 f12 f13 f14 hK_0_62 hK_0_63 hK_0_64 hK_0_65 hK_0_66; omega) (by clear f0 f1 f2 f7 f8 f9 f12 f13 f14 hK_0_62 hK_0_63 hK_0_64 hK_0_65 hK_0_66; omega)).1
    | exact (bna_nx ‹BNA _ _ _ _ _ _ _ _ _ _ _ _› (by assumption) (by clear f0 f1 f2 f7 f8 f9 f12 f13 f14 hK_0_62 hK_0_63 hK_0_64 hK_0_65 hK_0_66; omega) (by clear f0 f1 f2 f7 f8 f9 f12 f13 f14 hK_0_62 hK_0_63 hK_0_64 hK_0_65 hK_0_66; omega)).2
    | exact (bna_ny ‹BNA _ _ _ _ _ _ _ _ _ _ _ _› (by assumption) (by clear f0 f1 f2 f7 f8 f9 f12 f13 f14 hK_0_62 hK_0_63 hK_0_64 hK_0_65 hK_0_66; omega) (by clear f0 f1 f2 f7 f8 f9 f12 f13 f14 hK_0_62 hK_0_63 hK_0_64 hK_0_65 hK_0_66; omega)).1
    | exact (bna_ny ‹BNA _ _ _ _ _ _ _ _ _ _ _ _› (by assumption) (by clear f0 f1 f2 f7 f8 f9 f12 f13 f14 hK_0_62 hK_0_63 hK_0_64 hK_0_65 hK_0_66; omega) (by clear f0 f1 f2 f7 f8 f9 f12 f13 f14 hK_0_62 hK_0_63 hK_0_64 hK_0_65 hK_0_66; omega)).2
    | omega
set_option maxHeartbeats 4000000 in
theorem vc_Mo_dots_7_1 (x4 : Int) (x5 : Int) (x6 : Int) (x7 : Int) (x8 : Int) (x9 : Int) (x11 : Int) (x13 : Int) (x14 : Int) (x15 : Int) (nodeX_0 : Int → Int) (all_0 : Int → Int) (g0_0 : Int) (r_0 : Int) (bendMany_0 : Int → Int) (bendX_0 : Int → Int) (leastY_0 : Int) (mostY_0 : Int) (nodeY_0 : Int → Int) (bendY_0 : Int → Int) (leastX_0 : Int) (mostX_0 : Int) (dotWide_0 : Int) (dotTall_0 : Int) (k4 : 0 ≤ x4 ∧ x4 ≤ 47) (k5 : 1 ≤ x5 ∧ x5 ≤ 24) (k6 : 1 ≤ x6 ∧ x6 ≤ 1) (k7 : 2 ≤ x7 ∧ x7 ≤ 25) (k8 : 2 ≤ x8 ∧ x8 ≤ 26) (k9 : (-300000011) ≤ x9 ∧ x9 ≤ 221100000) (k11 : (-900000000) ≤ x11 ∧ x11 ≤ 900000000) (k13 : 1 ≤ x13 ∧ x13 ≤ 1) (k14 : 2 ≤ x14 ∧ x14 ≤ 25) (k15 : (-300000011) ≤ x15 ∧ x15 ≤ 221100000) (d0 : x5 + 1 ≤ x14 ∧ x14 ≤ x5 + 1) (d1 : x8 + (-4294967296) ≤ x7 ∧ x7 ≤ x8 + (-1)) (d2 : x5 + 1 ≤ x7 ∧ x7 ≤ x5 + 1) (f0 : (x14 = 0) → (x15 = nodeX_0 (((24 * g0_0) + all_0 (((r_0 + 267) + x4)))))) (f1 : (x14 = (bendMany_0 (((48 * g0_0) + x4)) + 1)) → (x15 = nodeX_0 (((24 * g0_0) + all_0 (((r_0 + 315) + x4)))))) (f2 : (x14 = 0) ∨ ((x14 = (bendMany_0 (((48 * g0_0) + x4)) + 1)) ∨ (x15 = bendX_0 (((24 * ((48 * g0_0) + x4)) + (x14 - 1)))))) (f3 : x14 ≤ (bendMany_0 (((48 * g0_0) + x4)) + 1)) (f4 : x14 = x5 + x13) (f5 : 1 * leastY_0 + ((-1) * x11 + 0) ≤ 0) (f6 : 1 * x11 + ((-1) * mostY_0 + 0) ≤ 0) (f7 : (x5 = 0) → (x11 = nodeY_0 (((24 * g0_0) + all_0 (((r_0 + 267) + x4)))))) (f8 : (x5 = (bendMany_0 (((48 * g0_0) + x4)) + 1)) → (x11 = nodeY_0 (((24 * g0_0) + all_0 (((r_0 + 315) + x4)))))) (f9 : (x5 = 0) ∨ ((x5 = (bendMany_0 (((48 * g0_0) + x4)) + 1)) ∨ (x11 = bendY_0 (((24 * ((48 * g0_0) + x4)) + (x5 - 1)))))) (f10 : 1 * leastX_0 + ((-1) * x9 + 0) ≤ 0) (f11 : 1 * x9 + ((-1) * mostX_0 + 0) ≤ 0) (f12 : (x5 = 0) → (x9 = nodeX_0 (((24 * g0_0) + all_0 (((r_0 + 267) + x4)))))) (f13 : (x5 = (bendMany_0 (((48 * g0_0) + x4)) + 1)) → (x9 = nodeX_0 (((24 * g0_0) + all_0 (((r_0 + 315) + x4)))))) (f14 : (x5 = 0) ∨ ((x5 = (bendMany_0 (((48 * g0_0) + x4)) + 1)) ∨ (x9 = bendX_0 (((24 * ((48 * g0_0) + x4)) + (x5 - 1)))))) (f15 : x5 ≤ (bendMany_0 (((48 * g0_0) + x4)) + 1)) (f16 : x7 < x8) (f17 : x8 = (bendMany_0 (((48 * g0_0) + x4)) + 2)) (f18 : x7 = x5 + x6) (f19 : BNA (leastX_0) (mostX_0) (leastY_0) (mostY_0) (g0_0) (r_0) (nodeX_0) (nodeY_0) (all_0) (bendMany_0) (bendX_0) (bendY_0)) (f20 : (-1) * dotWide_0 + 0 ≤ (-1)) (f21 : 1 * dotWide_0 + 0 ≤ 64) (f22 : (-1) * dotTall_0 + 0 ≤ (-1)) (f23 : 1 * dotTall_0 + 0 ≤ 64) (f24 : 1 * x4 + ((-1) * all_0 (r_0 + 1) + 0) ≤ (-1)) (hK_0_62 : ∀ j : Int, 0 ≤ j → j < 96 → (-300000000) ≤ nodeX_0 j ∧ nodeX_0 j ≤ 300000000) (hK_0_63 : ∀ j : Int, 0 ≤ j → j < 96 → (-300000000) ≤ nodeY_0 j ∧ nodeY_0 j ≤ 300000000) (hK_0_64 : ∀ j : Int, 0 ≤ j → j < 192 → 0 ≤ bendMany_0 j ∧ bendMany_0 j ≤ 24) (hK_0_65 : ∀ j : Int, 0 ≤ j → j < 4608 → (-300000011) ≤ bendX_0 j ∧ bendX_0 j ≤ 221100000) (hK_0_66 : ∀ j : Int, 0 ≤ j → j < 4608 → (-900000000) ≤ bendY_0 j ∧ bendY_0 j ≤ 900000000) (kz_0_139 : 0 ≤ g0_0 ∧ g0_0 ≤ 3) (kz_0_153 : (-2147483648) ≤ leastX_0 ∧ leastX_0 ≤ 300000000) (kz_0_154 : (-900000000) ≤ mostX_0 ∧ mostX_0 ≤ 2147483647) (kz_0_155 : (-2147483648) ≤ leastY_0 ∧ leastY_0 ≤ 300000000) (kz_0_156 : (-900000000) ≤ mostY_0 ∧ mostY_0 ≤ 2147483647) (kz_0_173 : 0 ≤ dotWide_0 ∧ dotWide_0 ≤ 64) (kz_0_174 : 0 ≤ dotTall_0 ∧ dotTall_0 ≤ 64) : 1 * x15 + ((-1) * mostX_0 + 0) ≤ 0 := by
  first
    | assumption
    | (clear f0 f1 f2 f7 f8 f9 f12 f13 f14 hK_0_62 hK_0_63 hK_0_64 hK_0_65 hK_0_66; omega)
    | exact (bna_x ‹BNA _ _ _ _ _ _ _ _ _ _ _ _› (by assumption) (by assumption) (by assumption) (by assumption) (by assumption) (by assumption) (by assumption) (by omega) (by omega)).1
    | exact (bna_x ‹BNA _ _ _ _ _ _ _ _ _ _ _ _› (by assumption) (by assumption) (by assumption) (by assumption) (by assumption) (by assumption) (by assumption) (by omega) (by omega)).2
    | exact (bna_y ‹BNA _ _ _ _ _ _ _ _ _ _ _ _› (by assumption) (by assumption) (by assumption) (by assumption) (by assumption) (by assumption) (by assumption) (by omega) (by omega)).1
    | exact (bna_y ‹BNA _ _ _ _ _ _ _ _ _ _ _ _› (by assumption) (by assumption) (by assumption) (by assumption) (by assumption) (by assumption) (by assumption) (by omega) (by omega)).2
    | exact (bna_nx ‹BNA _ _ _ _ _ _ _ _ _ _ _ _› (by assumption) (by clear f0 f1 f2 f7 f8 f9 f12 f13 f14 hK_0_62 hK_0_63 hK_0_64 hK_0_65 hK_0_66; omega) (by clear f0 f1 f2 f7 f8 f9 f12 f13 f14 hK_0_62 hK_0_63 hK_0_64 hK_0_65 hK_0_66; omega)).1
    | exact (bna_nx ‹BNA _ _ _ _ _ _ _ _ _ _ _ _› (by assumption) (by clear f0 f1 f2 f7 f8 f9 f12 f13 f14 hK_0_62 hK_0_63 hK_0_64 hK_0_65 hK_0_66; omega) (by clear f0 f1 f2 f7 f8 f9 f12 f13 f14 hK_0_62 hK_0_63 hK_0_64 hK_0_65 hK_0_66; omega)).2
    | exact (bna_ny ‹BNA _ _ _ _ _ _ _ _ _ _ _ _› (by assumption) (by clear f0 f1 f2 f7 f8 f9 f12 f13 f14 hK_0_62 hK_0_63 hK_0_64 hK_0_65 hK_0_66; omega) (by clear f0 f1 f2 f7 f8 f9 f12 f13 f14 hK_0_62 hK_0_63 hK_0_64 hK_0_65 hK_0_66; omega)).1
    | exact (bna_ny ‹BNA _ _ _ _ _ _ _ _ _ _ _ _› (by assumption) (by clear f0 f1 f2 f7 f8 f9 f12 f13 f14 hK_0_62 hK_0_63 hK_0_64 hK_0_65 hK_0_66; omega) (by clear f0 f1 f2 f7 f8 f9 f12 f13 f14 hK_0_62 hK_0_63 hK_0_64 hK_0_65 hK_0_66; omega)).2
    | omega
def o_Mo_dots_7 : or_T := (133, 16, [(0, (2, 0, 0, [165])), (4, (0, 0, 47, [])), (5, (0, 1, 24, [])), (6, (0, 1, 1, [])), (7, (0, 2, 25, [])), (8, (0, 2, 26, [])), (9, (0, -300000011, 221100000, [])), (11, (0, -900000000, 900000000, [])), (13, (0, 1, 1, [])), (14, (0, 2, 25, [])), (15, (0, -300000011, 221100000, []))], [(20, [14, 15, 0, 4], [50, 2, 2, 2139, 2005, 2062, 2002, 4, 6, 1, 2, 1, 0, 0, 0, 1, 2, 1, 1, 3, 2, 62, 4, 7, 6, 2, 0, 24, 2, 2, 139, 3, 2, 2, 4, 7, 4, 3, 2, 2, 5, 0, 267, 1, 3]), (20, [14, 0, 4, 15], [50, 2, 3, 1139, 1005, 1064, 1062, 1002, 4, 22, 1, 2, 1, 0, 4, 14, 3, 1, 64, 4, 7, 6, 2, 0, 48, 2, 1, 139, 1, 2, 0, 1, 1, 2, 1, 3, 3, 1, 62, 4, 7, 6, 2, 0, 24, 2, 1, 139, 3, 1, 2, 4, 7, 4, 3, 2, 1, 5, 0, 315, 1, 2]), (20, [14, 0, 4, 15], [50, 1, 2, 1139, 1064, 1065, 3, 6, 1, 2, 1, 0, 0, 0, 3, 22, 1, 2, 1, 0, 4, 14, 3, 1, 64, 4, 7, 6, 2, 0, 48, 2, 1, 139, 1, 2, 0, 1, 1, 2, 1, 3, 3, 1, 65, 4, 15, 6, 2, 0, 24, 4, 7, 6, 2, 0, 48, 2, 1, 139, 1, 2, 5, 2, 1, 0, 0, 1]), (20, [14, 0, 4], [50, 1, 1, 1139, 1064, 0, 2, 1, 0, 4, 14, 3, 1, 64, 4, 7, 6, 2, 0, 48, 2, 1, 139, 1, 2, 0, 1]), (1, [14, 5, 13], []), (20, [0, 11], [30, 0, 1, 1, 155, -1, 0, 0]), (20, [11, 0], [30, 0, 1, 0, 0, -1, 1, 156]), (20, [5, 11, 0, 4], [50, 2, 2, 2139, 2005, 2063, 2002, 4, 6, 1, 2, 1, 0, 0, 0, 1, 2, 1, 1, 3, 2, 63, 4, 7, 6, 2, 0, 24, 2, 2, 139, 3, 2, 2, 4, 7, 4, 3, 2, 2, 5, 0, 267, 1, 3]), (20, [5, 0, 4, 11], [50, 2, 3, 1139, 1005, 1064, 1063, 1002, 4, 22, 1, 2, 1, 0, 4, 14, 3, 1, 64, 4, 7, 6, 2, 0, 48, 2, 1, 139, 1, 2, 0, 1, 1, 2, 1, 3, 3, 1, 63, 4, 7, 6, 2, 0, 24, 2, 1, 139, 3, 1, 2, 4, 7, 4, 3, 2, 1, 5, 0, 315, 1, 2]), (20, [5, 0, 4, 11], [50, 1, 2, 1139, 1064, 1066, 3, 6, 1, 2, 1, 0, 0, 0, 3, 22, 1, 2, 1, 0, 4, 14, 3, 1, 64, 4, 7, 6, 2, 0, 48, 2, 1, 139, 1, 2, 0, 1, 1, 2, 1, 3, 3, 1, 66, 4, 15, 6, 2, 0, 24, 4, 7, 6, 2, 0, 48, 2, 1, 139, 1, 2, 5, 2, 1, 0, 0, 1]), (20, [0, 9], [30, 0, 1, 1, 153, -1, 0, 0]), (20, [9, 0], [30, 0, 1, 0, 0, -1, 1, 154]), (20, [5, 9, 0, 4], [50, 2, 2, 2139, 2005, 2062, 2002, 4, 6, 1, 2, 1, 0, 0, 0, 1, 2, 1, 1, 3, 2, 62, 4, 7, 6, 2, 0, 24, 2, 2, 139, 3, 2, 2, 4, 7, 4, 3, 2, 2, 5, 0, 267, 1, 3]), (20, [5, 0, 4, 9], [50, 2, 3, 1139, 1005, 1064, 1062, 1002, 4, 22, 1, 2, 1, 0, 4, 14, 3, 1, 64, 4, 7, 6, 2, 0, 48, 2, 1, 139, 1, 2, 0, 1, 1, 2, 1, 3, 3, 1, 62, 4, 7, 6, 2, 0, 24, 2, 1, 139, 3, 1, 2, 4, 7, 4, 3, 2, 1, 5, 0, 315, 1, 2]), (20, [5, 0, 4, 9], [50, 1, 2, 1139, 1064, 1065, 3, 6, 1, 2, 1, 0, 0, 0, 3, 22, 1, 2, 1, 0, 4, 14, 3, 1, 64, 4, 7, 6, 2, 0, 48, 2, 1, 139, 1, 2, 0, 1, 1, 2, 1, 3, 3, 1, 65, 4, 15, 6, 2, 0, 24, 4, 7, 6, 2, 0, 48, 2, 1, 139, 1, 2, 5, 2, 1, 0, 0, 1]), (20, [5, 0, 4], [50, 1, 1, 1139, 1064, 0, 2, 1, 0, 4, 14, 3, 1, 64, 4, 7, 6, 2, 0, 48, 2, 1, 139, 1, 2, 0, 1]), (7, [7, 8], [2]), (20, [8, 0, 4], [50, 1, 1, 1139, 1064, 1, 2, 1, 0, 4, 14, 3, 1, 64, 4, 7, 6, 2, 0, 48, 2, 1, 139, 1, 2, 0, 2]), (1, [7, 5, 6], []), (20, [0], [60, 6, 6, 945, 153, 154, 155, 156, 139, 5, 62, 63, 2, 64, 65, 66]), (20, [0], [30, -1, -1, 1, 173]), (20, [0], [30, 64, 1, 1, 173]), (20, [0], [30, -1, -1, 1, 174]), (20, [0], [30, 64, 1, 1, 174]), (20, [4, 0], [30, -1, 1, 0, 0, -1, 3, 2005001])], [], [], [(20, [0, 15], [30, 0, 1, 1, 153, -1, 0, 0]), (20, [15, 0], [30, 0, 1, 0, 0, -1, 1, 154])], [], [(14, 5, 1, 1), (7, 8, -4294967296, -1), (7, 5, 1, 1)])
theorem oo_Mo_dots_7 {kA : Nat → ClassId} : or_ok PRD kA GG o_Mo_dots_7 := by
  refine or_mk fun A ta ws vs hD hth hl => ?_
  intro t0 r0 t4 k4 t5 k5 t6 k6 t7 k7 t8 k8 t9 k9 t11 k11 t13 k13 t14 k14 t15 k15 d0 d1 d2 f0 f1 f2 f3 f4 f5 f6 f7 f8 f9 f10 f11 f12 f13 f14 f15 f16 f17 f18 f19 f20 f21 f22 f23 f24
  have cr_0_62 := fdq_173 hD hth r0
  have cr_0_63 := fdq_174 hD hth r0
  have cr_0_64 := fdq_171 hD hth r0
  have cr_0_65 := fdq_292 hD hth r0
  have cr_0_66 := fdq_293 hD hth r0
  have hK_0_62 := elq_102 hD hth cr_0_62
  have hK_0_63 := elq_103 hD hth cr_0_63
  have hK_0_64 := elq_101 hD hth cr_0_64
  have hK_0_65 := elq_184 hD hth cr_0_65
  have hK_0_66 := elq_185 hD hth cr_0_66
  have kz_0_139 := fdq_172 hD hth r0
  have kz_0_153 := fdq_14 hD hth r0
  have kz_0_154 := fdq_15 hD hth r0
  have kz_0_155 := fdq_17 hD hth r0
  have kz_0_156 := fdq_18 hD hth r0
  have kz_0_173 := fdq_16 hD hth r0
  have kz_0_174 := fdq_19 hD hth r0
  have nf0 : fc_1 PRD (20, [0, 15], [30, 0, 1, 1, 153, -1, 0, 0]) ws (vs) := ⟨nf_in hl rfl, sgq_146 (vc_Mo_dots_7_0 (v_iv (n_v vs 4)) (v_iv (n_v vs 5)) (v_iv (n_v vs 6)) (v_iv (n_v vs 7)) (v_iv (n_v vs 8)) (v_iv (n_v vs 9)) (v_iv (n_v vs 11)) (v_iv (n_v vs 13)) (v_iv (n_v vs 14)) (v_iv (n_v vs 15)) (w_ei ws (w_ar ws (n_v vs 0) 62)) (w_ei ws (w_ar ws (n_v vs 0) 2)) (w_fi ws (n_v vs 0) 139) (w_fi ws (n_v vs 0) 5) (w_ei ws (w_ar ws (n_v vs 0) 64)) (w_ei ws (w_ar ws (n_v vs 0) 65)) (w_fi ws (n_v vs 0) 155) (w_fi ws (n_v vs 0) 156) (w_ei ws (w_ar ws (n_v vs 0) 63)) (w_ei ws (w_ar ws (n_v vs 0) 66)) (w_fi ws (n_v vs 0) 153) (w_fi ws (n_v vs 0) 154) (w_fi ws (n_v vs 0) 173) (w_fi ws (n_v vs 0) 174) k4 k5 k6 k7 k8 k9 k11 k13 k14 k15 d0 d1 d2 (shm_1423 f0) (shm_1424 f1) (shm_1425 f2) (shm_1421 f3) (shm_12 f4) (shm_153 f5) (shm_154 f6) (shm_1427 f7) (shm_1428 f8) (shm_1429 f9) (shm_146 f10) (shm_147 f11) (shm_1423 f12) (shm_1424 f13) (shm_1425 f14) (shm_1421 f15) (shm_6 f16) (shm_683 f17) (shm_12 f18) (shm_1845 f19) (shm_148 f20) (shm_149 f21) (shm_155 f22) (shm_156 f23) (shm_979 f24) hK_0_62 hK_0_63 hK_0_64 hK_0_65 hK_0_66 kz_0_139 kz_0_153 kz_0_154 kz_0_155 kz_0_156 kz_0_173 kz_0_174)⟩
  have nf1 : fc_1 PRD (20, [15, 0], [30, 0, 1, 0, 0, -1, 1, 154]) ws (vs) := ⟨nf_in hl rfl, sgq_147 (vc_Mo_dots_7_1 (v_iv (n_v vs 4)) (v_iv (n_v vs 5)) (v_iv (n_v vs 6)) (v_iv (n_v vs 7)) (v_iv (n_v vs 8)) (v_iv (n_v vs 9)) (v_iv (n_v vs 11)) (v_iv (n_v vs 13)) (v_iv (n_v vs 14)) (v_iv (n_v vs 15)) (w_ei ws (w_ar ws (n_v vs 0) 62)) (w_ei ws (w_ar ws (n_v vs 0) 2)) (w_fi ws (n_v vs 0) 139) (w_fi ws (n_v vs 0) 5) (w_ei ws (w_ar ws (n_v vs 0) 64)) (w_ei ws (w_ar ws (n_v vs 0) 65)) (w_fi ws (n_v vs 0) 155) (w_fi ws (n_v vs 0) 156) (w_ei ws (w_ar ws (n_v vs 0) 63)) (w_ei ws (w_ar ws (n_v vs 0) 66)) (w_fi ws (n_v vs 0) 153) (w_fi ws (n_v vs 0) 154) (w_fi ws (n_v vs 0) 173) (w_fi ws (n_v vs 0) 174) k4 k5 k6 k7 k8 k9 k11 k13 k14 k15 d0 d1 d2 (shm_1423 f0) (shm_1424 f1) (shm_1425 f2) (shm_1421 f3) (shm_12 f4) (shm_153 f5) (shm_154 f6) (shm_1427 f7) (shm_1428 f8) (shm_1429 f9) (shm_146 f10) (shm_147 f11) (shm_1423 f12) (shm_1424 f13) (shm_1425 f14) (shm_1421 f15) (shm_6 f16) (shm_683 f17) (shm_12 f18) (shm_1845 f19) (shm_148 f20) (shm_149 f21) (shm_155 f22) (shm_156 f23) (shm_979 f24) hK_0_62 hK_0_63 hK_0_64 hK_0_65 hK_0_66 kz_0_139 kz_0_153 kz_0_154 kz_0_155 kz_0_156 kz_0_173 kz_0_174)⟩
  refine ⟨(fun _ h => (by cases h)), [], trivial, ?_, (fun _ h => (by cases h))⟩
  rw [List.append_nil]
  exact List.forall_mem_cons.mpr ⟨⟨show (20 : Nat) < 100 from by decide, nf0⟩, List.forall_mem_cons.mpr ⟨⟨show (20 : Nat) < 100 from by decide, nf1⟩, (fun _ h => (by cases h))⟩⟩
set_option maxHeartbeats 4000000 in
theorem vc_Mo_dots_8_0 (x4 : Int) (x5 : Int) (x6 : Int) (x7 : Int) (x8 : Int) (x9 : Int) (x11 : Int) (x13 : Int) (x14 : Int) (x15 : Int) (x17 : Int) (x18 : Int) (leastX_0 : Int) (mostX_0 : Int) (nodeX_0 : Int → Int) (all_0 : Int → Int) (g0_0 : Int) (r_0 : Int) (bendMany_0 : Int → Int) (bendX_0 : Int → Int) (leastY_0 : Int) (mostY_0 : Int) (nodeY_0 : Int → Int) (bendY_0 : Int → Int) (dotWide_0 : Int) (dotTall_0 : Int) (k4 : 0 ≤ x4 ∧ x4 ≤ 47) (k5 : 1 ≤ x5 ∧ x5 ≤ 24) (k6 : 1 ≤ x6 ∧ x6 ≤ 1) (k7 : 2 ≤ x7 ∧ x7 ≤ 25) (k8 : 2 ≤ x8 ∧ x8 ≤ 26) (k9 : (-300000011) ≤ x9 ∧ x9 ≤ 221100000) (k11 : (-900000000) ≤ x11 ∧ x11 ≤ 900000000) (k13 : 1 ≤ x13 ∧ x13 ≤ 1) (k14 : 2 ≤ x14 ∧ x14 ≤ 25) (k15 : (-300000011) ≤ x15 ∧ x15 ≤ 221100000) (k17 : 1 ≤ x17 ∧ x17 ≤ 1) (k18 : 2 ≤ x18 ∧ x18 ≤ 25) (d0 : x5 + 1 ≤ x18 ∧ x18 ≤ x5 + 1) (d1 : x5 + 1 ≤ x14 ∧ x14 ≤ x5 + 1) (d2 : x8 + (-4294967296) ≤ x7 ∧ x7 ≤ x8 + (-1)) (d3 : x5 + 1 ≤ x7 ∧ x7 ≤ x5 + 1) (f0 : x18 = x5 + x17) (f1 : 1 * leastX_0 + ((-1) * x15 + 0) ≤ 0) (f2 : 1 * x15 + ((-1) * mostX_0 + 0) ≤ 0) (f3 : (x14 = 0) → (x15 = nodeX_0 (((24 * g0_0) + all_0 (((r_0 + 267) + x4)))))) (f4 : (x14 = (bendMany_0 (((48 * g0_0) + x4)) + 1)) → (x15 = nodeX_0 (((24 * g0_0) + all_0 (((r_0 + 315) + x4)))))) (f5 : (x14 = 0) ∨ ((x14 = (bendMany_0 (((48 * g0_0) + x4)) + 1)) ∨ (x15 = bendX_0 (((24 * ((48 * g0_0) + x4)) + (x14 - 1)))))) (f6 : x14 ≤ (bendMany_0 (((48 * g0_0) + x4)) + 1)) (f7 : x14 = x5 + x13) (f8 : 1 * leastY_0 + ((-1) * x11 + 0) ≤ 0) (f9 : 1 * x11 + ((-1) * mostY_0 + 0) ≤ 0) (f10 : (x5 = 0) → (x11 = nodeY_0 (((24 * g0_0) + all_0 (((r_0 + 267) + x4)))))) (f11 : (x5 = (bendMany_0 (((48 * g0_0) + x4)) + 1)) → (x11 = nodeY_0 (((24 * g0_0) + all_0 (((r_0 + 315) + x4)))))) (f12 : (x5 = 0) ∨ ((x5 = (bendMany_0 (((48 * g0_0) + x4)) + 1)) ∨ (x11 = bendY_0 (((24 * ((48 * g0_0) + x4)) + (x5 - 1)))))) (f13 : 1 * leastX_0 + ((-1) * x9 + 0) ≤ 0) (f14 : 1 * x9 + ((-1) * mostX_0 + 0) ≤ 0) (f15 : (x5 = 0) → (x9 = nodeX_0 (((24 * g0_0) + all_0 (((r_0 + 267) + x4)))))) (f16 : (x5 = (bendMany_0 (((48 * g0_0) + x4)) + 1)) → (x9 = nodeX_0 (((24 * g0_0) + all_0 (((r_0 + 315) + x4)))))) (f17 : (x5 = 0) ∨ ((x5 = (bendMany_0 (((48 * g0_0) + x4)) + 1)) ∨ (x9 = bendX_0 (((24 * ((48 * g0_0) + x4)) + (x5 - 1)))))) (f18 : x5 ≤ (bendMany_0 (((48 * g0_0) + x4)) + 1)) (f19 : x7 < x8) (f20 : x8 = (bendMany_0 (((48 * g0_0) + x4)) + 2)) (f21 : x7 = x5 + x6) (f22 : BNA (leastX_0) (mostX_0) (leastY_0) (mostY_0) (g0_0) (r_0) (nodeX_0) (nodeY_0) (all_0) (bendMany_0) (bendX_0) (bendY_0)) (f23 : (-1) * dotWide_0 + 0 ≤ (-1)) (f24 : 1 * dotWide_0 + 0 ≤ 64) (f25 : (-1) * dotTall_0 + 0 ≤ (-1)) (f26 : 1 * dotTall_0 + 0 ≤ 64) (f27 : 1 * x4 + ((-1) * all_0 (r_0 + 1) + 0) ≤ (-1)) (hK_0_62 : ∀ j : Int, 0 ≤ j → j < 96 → (-300000000) ≤ nodeX_0 j ∧ nodeX_0 j ≤ 300000000) (hK_0_63 : ∀ j : Int, 0 ≤ j → j < 96 → (-300000000) ≤ nodeY_0 j ∧ nodeY_0 j ≤ 300000000) (hK_0_64 : ∀ j : Int, 0 ≤ j → j < 192 → 0 ≤ bendMany_0 j ∧ bendMany_0 j ≤ 24) (hK_0_65 : ∀ j : Int, 0 ≤ j → j < 4608 → (-300000011) ≤ bendX_0 j ∧ bendX_0 j ≤ 221100000) (hK_0_66 : ∀ j : Int, 0 ≤ j → j < 4608 → (-900000000) ≤ bendY_0 j ∧ bendY_0 j ≤ 900000000) (kz_0_139 : 0 ≤ g0_0 ∧ g0_0 ≤ 3) (kz_0_153 : (-2147483648) ≤ leastX_0 ∧ leastX_0 ≤ 300000000) (kz_0_154 : (-900000000) ≤ mostX_0 ∧ mostX_0 ≤ 2147483647) (kz_0_155 : (-2147483648) ≤ leastY_0 ∧ leastY_0 ≤ 300000000) (kz_0_156 : (-900000000) ≤ mostY_0 ∧ mostY_0 ≤ 2147483647) (kz_0_173 : 0 ≤ dotWide_0 ∧ dotWide_0 ≤ 64) (kz_0_174 : 0 ≤ dotTall_0 ∧ dotTall_0 ≤ 64) : x18 ≤ (bendMany_0 (((48 * g0_0) + x4)) + 1) := by
  first
    | assumption
    | (clear f3 f4 f5 f10 f11 f12 f15 f16 f17 hK_0_62 hK_0_63 hK_0_64 hK_0_65 hK_0_66; omega)
    | exact (bna_x ‹BNA _ _ _ _ _ _ _ _ _ _ _ _› (by assumption) (by assumption) (by assumption) (by assumption) (by assumption) (by assumption) (by assumption) (by omega) (by omega)).1
    | exact (bna_x ‹BNA _ _ _ _ _ _ _ _ _ _ _ _› (by assumption) (by assumption) (by assumption) (by assumption) (by assumption) (by assumption) (by assumption) (by omega) (by omega)).2
    | exact (bna_y ‹BNA _ _ _ _ _ _ _ _ _ _ _ _› (by assumption) (by assumption) (by assumption) (by assumption) (by assumption) (by assumption) (by assumption) (by omega) (by omega)).1
    | exact (bna_y ‹BNA _ _ _ _ _ _ _ _ _ _ _ _› (by assumption) (by assumption) (by assumption) (by assumption) (by assumption) (by assumption) (by assumption) (by omega) (by omega)).2
    | exact (bna_nx ‹BNA _ _ _ _ _ _ _ _ _ _ _ _› (by assumption) (by clear f3 f4 f5 f10 f11 f12 f15 f16 f17 hK_0_62 hK_0_63 hK_0_64 hK_0_65 hK_0_66; omega) (by clear f3 f4 f5 f10 f11 f12 f15 f16 f17 hK_0_62 hK_0_63 hK_0_64 hK_0_65 hK_0_66; omega)).1
    | exact (bna_nx ‹BNA _ _ _ _ _ _ _ _ _ _ _ _› (by assumption) (by clear f3 f4 f5 f10 f11 f12 f15 f16 f17 hK_0_62 hK_0_63 hK_0_64 hK_0_65 hK_0_66; omega) (by clear f3 f4 f5 f10 f11 f12 f15 f16 f17 hK_0_62 hK_0_63 hK_0_64 hK_0_65 hK_0_66; omega)).2
    | exact (bna_ny ‹BNA _ _ _ _ _ _ _ _ _ _ _ _› (by assumption) (by clear f3 f4 f5 f10 f11 f12 f15 f16 f17 hK_0_62 hK_0_63 hK_0_64 hK_0_65 hK_0_66; omega) (by clear f3 f4 f5 f10 f11 f12 f15 f16 f17 hK_0_62 hK_0_63 hK_0_64 hK_0_65 hK_0_66; omega)).1
    | exact (bna_ny ‹BNA _ _ _ _ _ _ _ _ _ _ _ _› (by assumption) (by clear f3 f4 f5 f10 f11 f12 f15 f16 f17 hK_0_62 hK_0_63 hK_0_64 hK_0_65 hK_0_66; omega) (by clear f3 f4 f5 f10 f11 f12 f15 f16 f17 hK_0_62 hK_0_63 hK_0_64 hK_0_65 hK_0_66; omega)).2
    | omega
def o_Mo_dots_8 : or_T := (144, 19, [(0, (2, 0, 0, [165])), (4, (0, 0, 47, [])), (5, (0, 1, 24, [])), (6, (0, 1, 1, [])), (7, (0, 2, 25, [])), (8, (0, 2, 26, [])), (9, (0, -300000011, 221100000, [])), (11, (0, -900000000, 900000000, [])), (13, (0, 1, 1, [])), (14, (0, 2, 25, [])), (15, (0, -300000011, 221100000, [])), (17, (0, 1, 1, [])), (18, (0, 2, 25, []))], [(1, [18, 5, 17], []), (20, [0, 15], [30, 0, 1, 1, 153, -1, 0, 0]), (20, [15, 0], [30, 0, 1, 0, 0, -1, 1, 154]), (20, [14, 15, 0, 4], [50, 2, 2, 2139, 2005, 2062, 2002, 4, 6, 1, 2, 1, 0, 0, 0, 1, 2, 1, 1, 3, 2, 62, 4, 7, 6, 2, 0, 24, 2, 2, 139, 3, 2, 2, 4, 7, 4, 3, 2, 2, 5, 0, 267, 1, 3]), (20, [14, 0, 4, 15], [50, 2, 3, 1139, 1005, 1064, 1062, 1002, 4, 22, 1, 2, 1, 0, 4, 14, 3, 1, 64, 4, 7, 6, 2, 0, 48, 2, 1, 139, 1, 2, 0, 1, 1, 2, 1, 3, 3, 1, 62, 4, 7, 6, 2, 0, 24, 2, 1, 139, 3, 1, 2, 4, 7, 4, 3, 2, 1, 5, 0, 315, 1, 2]), (20, [14, 0, 4, 15], [50, 1, 2, 1139, 1064, 1065, 3, 6, 1, 2, 1, 0, 0, 0, 3, 22, 1, 2, 1, 0, 4, 14, 3, 1, 64, 4, 7, 6, 2, 0, 48, 2, 1, 139, 1, 2, 0, 1, 1, 2, 1, 3, 3, 1, 65, 4, 15, 6, 2, 0, 24, 4, 7, 6, 2, 0, 48, 2, 1, 139, 1, 2, 5, 2, 1, 0, 0, 1]), (20, [14, 0, 4], [50, 1, 1, 1139, 1064, 0, 2, 1, 0, 4, 14, 3, 1, 64, 4, 7, 6, 2, 0, 48, 2, 1, 139, 1, 2, 0, 1]), (1, [14, 5, 13], []), (20, [0, 11], [30, 0, 1, 1, 155, -1, 0, 0]), (20, [11, 0], [30, 0, 1, 0, 0, -1, 1, 156]), (20, [5, 11, 0, 4], [50, 2, 2, 2139, 2005, 2063, 2002, 4, 6, 1, 2, 1, 0, 0, 0, 1, 2, 1, 1, 3, 2, 63, 4, 7, 6, 2, 0, 24, 2, 2, 139, 3, 2, 2, 4, 7, 4, 3, 2, 2, 5, 0, 267, 1, 3]), (20, [5, 0, 4, 11], [50, 2, 3, 1139, 1005, 1064, 1063, 1002, 4, 22, 1, 2, 1, 0, 4, 14, 3, 1, 64, 4, 7, 6, 2, 0, 48, 2, 1, 139, 1, 2, 0, 1, 1, 2, 1, 3, 3, 1, 63, 4, 7, 6, 2, 0, 24, 2, 1, 139, 3, 1, 2, 4, 7, 4, 3, 2, 1, 5, 0, 315, 1, 2]), (20, [5, 0, 4, 11], [50, 1, 2, 1139, 1064, 1066, 3, 6, 1, 2, 1, 0, 0, 0, 3, 22, 1, 2, 1, 0, 4, 14, 3, 1, 64, 4, 7, 6, 2, 0, 48, 2, 1, 139, 1, 2, 0, 1, 1, 2, 1, 3, 3, 1, 66, 4, 15, 6, 2, 0, 24, 4, 7, 6, 2, 0, 48, 2, 1, 139, 1, 2, 5, 2, 1, 0, 0, 1]), (20, [0, 9], [30, 0, 1, 1, 153, -1, 0, 0]), (20, [9, 0], [30, 0, 1, 0, 0, -1, 1, 154]), (20, [5, 9, 0, 4], [50, 2, 2, 2139, 2005, 2062, 2002, 4, 6, 1, 2, 1, 0, 0, 0, 1, 2, 1, 1, 3, 2, 62, 4, 7, 6, 2, 0, 24, 2, 2, 139, 3, 2, 2, 4, 7, 4, 3, 2, 2, 5, 0, 267, 1, 3]), (20, [5, 0, 4, 9], [50, 2, 3, 1139, 1005, 1064, 1062, 1002, 4, 22, 1, 2, 1, 0, 4, 14, 3, 1, 64, 4, 7, 6, 2, 0, 48, 2, 1, 139, 1, 2, 0, 1, 1, 2, 1, 3, 3, 1, 62, 4, 7, 6, 2, 0, 24, 2, 1, 139, 3, 1, 2, 4, 7, 4, 3, 2, 1, 5, 0, 315, 1, 2]), (20, [5, 0, 4, 9], [50, 1, 2, 1139, 1064, 1065, 3, 6, 1, 2, 1, 0, 0, 0, 3, 22, 1, 2, 1, 0, 4, 14, 3, 1, 64, 4, 7, 6, 2, 0, 48, 2, 1, 139, 1, 2, 0, 1, 1, 2, 1, 3, 3, 1, 65, 4, 15, 6, 2, 0, 24, 4, 7, 6, 2, 0, 48, 2, 1, 139, 1, 2, 5, 2, 1, 0, 0, 1]), (20, [5, 0, 4], [50, 1, 1, 1139, 1064, 0, 2, 1, 0, 4, 14, 3, 1, 64, 4, 7, 6, 2, 0, 48, 2, 1, 139, 1, 2, 0, 1]), (7, [7, 8], [2]), (20, [8, 0, 4], [50, 1, 1, 1139, 1064, 1, 2, 1, 0, 4, 14, 3, 1, 64, 4, 7, 6, 2, 0, 48, 2, 1, 139, 1, 2, 0, 2]), (1, [7, 5, 6], []), (20, [0], [60, 6, 6, 945, 153, 154, 155, 156, 139, 5, 62, 63, 2, 64, 65, 66]), (20, [0], [30, -1, -1, 1, 173]), (20, [0], [30, 64, 1, 1, 173]), (20, [0], [30, -1, -1, 1, 174]), (20, [0], [30, 64, 1, 1, 174]), (20, [4, 0], [30, -1, 1, 0, 0, -1, 3, 2005001])], [], [], [(20, [18, 0, 4], [50, 1, 1, 1139, 1064, 0, 2, 1, 0, 4, 14, 3, 1, 64, 4, 7, 6, 2, 0, 48, 2, 1, 139, 1, 2, 0, 1])], [], [(18, 5, 1, 1), (14, 5, 1, 1), (7, 8, -4294967296, -1), (7, 5, 1, 1)])
theorem oo_Mo_dots_8 {kA : Nat → ClassId} : or_ok PRD kA GG o_Mo_dots_8 := by
  refine or_mk fun A ta ws vs hD hth hl => ?_
  intro t0 r0 t4 k4 t5 k5 t6 k6 t7 k7 t8 k8 t9 k9 t11 k11 t13 k13 t14 k14 t15 k15 t17 k17 t18 k18 d0 d1 d2 d3 f0 f1 f2 f3 f4 f5 f6 f7 f8 f9 f10 f11 f12 f13 f14 f15 f16 f17 f18 f19 f20 f21 f22 f23 f24 f25 f26 f27
  have cr_0_62 := fdq_173 hD hth r0
  have cr_0_63 := fdq_174 hD hth r0
  have cr_0_64 := fdq_171 hD hth r0
  have cr_0_65 := fdq_292 hD hth r0
  have cr_0_66 := fdq_293 hD hth r0
  have hK_0_62 := elq_102 hD hth cr_0_62
  have hK_0_63 := elq_103 hD hth cr_0_63
  have hK_0_64 := elq_101 hD hth cr_0_64
  have hK_0_65 := elq_184 hD hth cr_0_65
  have hK_0_66 := elq_185 hD hth cr_0_66
  have kz_0_139 := fdq_172 hD hth r0
  have kz_0_153 := fdq_14 hD hth r0
  have kz_0_154 := fdq_15 hD hth r0
  have kz_0_155 := fdq_17 hD hth r0
  have kz_0_156 := fdq_18 hD hth r0
  have kz_0_173 := fdq_16 hD hth r0
  have kz_0_174 := fdq_19 hD hth r0
  have nf0 : fc_1 PRD (20, [18, 0, 4], [50, 1, 1, 1139, 1064, 0, 2, 1, 0, 4, 14, 3, 1, 64, 4, 7, 6, 2, 0, 48, 2, 1, 139, 1, 2, 0, 1]) ws (vs) := ⟨nf_in hl rfl, sgq_1421 (vc_Mo_dots_8_0 (v_iv (n_v vs 4)) (v_iv (n_v vs 5)) (v_iv (n_v vs 6)) (v_iv (n_v vs 7)) (v_iv (n_v vs 8)) (v_iv (n_v vs 9)) (v_iv (n_v vs 11)) (v_iv (n_v vs 13)) (v_iv (n_v vs 14)) (v_iv (n_v vs 15)) (v_iv (n_v vs 17)) (v_iv (n_v vs 18)) (w_fi ws (n_v vs 0) 153) (w_fi ws (n_v vs 0) 154) (w_ei ws (w_ar ws (n_v vs 0) 62)) (w_ei ws (w_ar ws (n_v vs 0) 2)) (w_fi ws (n_v vs 0) 139) (w_fi ws (n_v vs 0) 5) (w_ei ws (w_ar ws (n_v vs 0) 64)) (w_ei ws (w_ar ws (n_v vs 0) 65)) (w_fi ws (n_v vs 0) 155) (w_fi ws (n_v vs 0) 156) (w_ei ws (w_ar ws (n_v vs 0) 63)) (w_ei ws (w_ar ws (n_v vs 0) 66)) (w_fi ws (n_v vs 0) 173) (w_fi ws (n_v vs 0) 174) k4 k5 k6 k7 k8 k9 k11 k13 k14 k15 k17 k18 d0 d1 d2 d3 (shm_12 f0) (shm_146 f1) (shm_147 f2) (shm_1423 f3) (shm_1424 f4) (shm_1425 f5) (shm_1421 f6) (shm_12 f7) (shm_153 f8) (shm_154 f9) (shm_1427 f10) (shm_1428 f11) (shm_1429 f12) (shm_146 f13) (shm_147 f14) (shm_1423 f15) (shm_1424 f16) (shm_1425 f17) (shm_1421 f18) (shm_6 f19) (shm_683 f20) (shm_12 f21) (shm_1845 f22) (shm_148 f23) (shm_149 f24) (shm_155 f25) (shm_156 f26) (shm_979 f27) hK_0_62 hK_0_63 hK_0_64 hK_0_65 hK_0_66 kz_0_139 kz_0_153 kz_0_154 kz_0_155 kz_0_156 kz_0_173 kz_0_174)⟩
  refine ⟨(fun _ h => (by cases h)), [], trivial, ?_, (fun _ h => (by cases h))⟩
  rw [List.append_nil]
  exact List.forall_mem_cons.mpr ⟨⟨show (20 : Nat) < 100 from by decide, nf0⟩, (fun _ h => (by cases h))⟩
set_option maxHeartbeats 4000000 in
theorem vc_Mo_dots_9_0 (x4 : Int) (x5 : Int) (x6 : Int) (x7 : Int) (x8 : Int) (x9 : Int) (x11 : Int) (x13 : Int) (x14 : Int) (x15 : Int) (x17 : Int) (x18 : Int) (x19 : Int) (nodeY_0 : Int → Int) (all_0 : Int → Int) (g0_0 : Int) (r_0 : Int) (bendMany_0 : Int → Int) (bendY_0 : Int → Int) (leastX_0 : Int) (mostX_0 : Int) (nodeX_0 : Int → Int) (bendX_0 : Int → Int) (leastY_0 : Int) (mostY_0 : Int) (dotWide_0 : Int) (dotTall_0 : Int) (k4 : 0 ≤ x4 ∧ x4 ≤ 47) (k5 : 1 ≤ x5 ∧ x5 ≤ 24) (k6 : 1 ≤ x6 ∧ x6 ≤ 1) (k7 : 2 ≤ x7 ∧ x7 ≤ 25) (k8 : 2 ≤ x8 ∧ x8 ≤ 26) (k9 : (-300000011) ≤ x9 ∧ x9 ≤ 221100000) (k11 : (-900000000) ≤ x11 ∧ x11 ≤ 900000000) (k13 : 1 ≤ x13 ∧ x13 ≤ 1) (k14 : 2 ≤ x14 ∧ x14 ≤ 25) (k15 : (-300000011) ≤ x15 ∧ x15 ≤ 221100000) (k17 : 1 ≤ x17 ∧ x17 ≤ 1) (k18 : 2 ≤ x18 ∧ x18 ≤ 25) (k19 : (-900000000) ≤ x19 ∧ x19 ≤ 900000000) (d0 : x5 + 1 ≤ x18 ∧ x18 ≤ x5 + 1) (d1 : x5 + 1 ≤ x14 ∧ x14 ≤ x5 + 1) (d2 : x8 + (-4294967296) ≤ x7 ∧ x7 ≤ x8 + (-1)) (d3 : x5 + 1 ≤ x7 ∧ x7 ≤ x5 + 1) (f0 : (x18 = 0) → (x19 = nodeY_0 (((24 * g0_0) + all_0 (((r_0 + 267) + x4)))))) (f1 : (x18 = (bendMany_0 (((48 * g0_0) + x4)) + 1)) → (x19 = nodeY_0 (((24 * g0_0) + all_0 (((r_0 + 315) + x4)))))) (f2 : (x18 = 0) ∨ ((x18 = (bendMany_0 (((48 * g0_0) + x4)) + 1)) ∨ (x19 = bendY_0 (((24 * ((48 * g0_0) + x4)) + (x18 - 1)))))) (f3 : x18 ≤ (bendMany_0 (((48 * g0_0) + x4)) + 1)) (f4 : x18 = x5 + x17) (f5 : 1 * leastX_0 + ((-1) * x15 + 0) ≤ 0) (f6 : 1 * x15 + ((-1) * mostX_0 + 0) ≤ 0) (f7 : (x14 = 0) → (x15 = nodeX_0 (((24 * g0_0) + all_0 (((r_0 + 267) + x4)))))) (f8 : (x14 = (bendMany_0 (((48 * g0_0) + x4)) + 1)) → (x15 = nodeX_0 (((24 * g0_0) + all_0 (((r_0 + 315) + x4)))))) (f9 : (x14 = 0) ∨ ((x14 = (bendMany_0 (((48 * g0_0) + x4)) + 1)) ∨ (x15 = bendX_0 (((24 * ((48 * g0_0) + x4)) + (x14 - 1)))))) (f10 : x14 ≤ (bendMany_0 (((48 * g0_0) + x4)) + 1)) (f11 : x14 = x5 + x13) (f12 : 1 * leastY_0 + ((-1) * x11 + 0) ≤ 0) (f13 : 1 * x11 + ((-1) * mostY_0 + 0) ≤ 0) (f14 : (x5 = 0) → (x11 = nodeY_0 (((24 * g0_0) + all_0 (((r_0 + 267) + x4)))))) (f15 : (x5 = (bendMany_0 (((48 * g0_0) + x4)) + 1)) → (x11 = nodeY_0 (((24 * g0_0) + all_0 (((r_0 + 315) + x4)))))) (f16 : (x5 = 0) ∨ ((x5 = (bendMany_0 (((48 * g0_0) + x4)) + 1)) ∨ (x11 = bendY_0 (((24 * ((48 * g0_0) + x4)) + (x5 - 1)))))) (f17 : 1 * leastX_0 + ((-1) * x9 + 0) ≤ 0) (f18 : 1 * x9 + ((-1) * mostX_0 + 0) ≤ 0) (f19 : (x5 = 0) → (x9 = nodeX_0 (((24 * g0_0) + all_0 (((r_0 + 267) + x4)))))) (f20 : (x5 = (bendMany_0 (((48 * g0_0) + x4)) + 1)) → (x9 = nodeX_0 (((24 * g0_0) + all_0 (((r_0 + 315) + x4)))))) (f21 : (x5 = 0) ∨ ((x5 = (bendMany_0 (((48 * g0_0) + x4)) + 1)) ∨ (x9 = bendX_0 (((24 * ((48 * g0_0) + x4)) + (x5 - 1)))))) (f22 : x5 ≤ (bendMany_0 (((48 * g0_0) + x4)) + 1)) (f23 : x7 < x8) (f24 : x8 = (bendMany_0 (((48 * g0_0) + x4)) + 2)) (f25 : x7 = x5 + x6) (f26 : BNA (leastX_0) (mostX_0) (leastY_0) (mostY_0) (g0_0) (r_0) (nodeX_0) (nodeY_0) (all_0) (bendMany_0) (bendX_0) (bendY_0)) (f27 : (-1) * dotWide_0 + 0 ≤ (-1)) (f28 : 1 * dotWide_0 + 0 ≤ 64) (f29 : (-1) * dotTall_0 + 0 ≤ (-1)) (f30 : 1 * dotTall_0 + 0 ≤ 64) (f31 : 1 * x4 + ((-1) * all_0 (r_0 + 1) + 0) ≤ (-1)) (hK_0_62 : ∀ j : Int, 0 ≤ j → j < 96 → (-300000000) ≤ nodeX_0 j ∧ nodeX_0 j ≤ 300000000) (hK_0_63 : ∀ j : Int, 0 ≤ j → j < 96 → (-300000000) ≤ nodeY_0 j ∧ nodeY_0 j ≤ 300000000) (hK_0_64 : ∀ j : Int, 0 ≤ j → j < 192 → 0 ≤ bendMany_0 j ∧ bendMany_0 j ≤ 24) (hK_0_65 : ∀ j : Int, 0 ≤ j → j < 4608 → (-300000011) ≤ bendX_0 j ∧ bendX_0 j ≤ 221100000) (hK_0_66 : ∀ j : Int, 0 ≤ j → j < 4608 → (-900000000) ≤ bendY_0 j ∧ bendY_0 j ≤ 900000000) (kz_0_139 : 0 ≤ g0_0 ∧ g0_0 ≤ 3) (kz_0_153 : (-2147483648) ≤ leastX_0 ∧ leastX_0 ≤ 300000000) (kz_0_154 : (-900000000) ≤ mostX_0 ∧ mostX_0 ≤ 2147483647) (kz_0_155 : (-2147483648) ≤ leastY_0 ∧ leastY_0 ≤ 300000000) (kz_0_156 : (-900000000) ≤ mostY_0 ∧ mostY_0 ≤ 2147483647) (kz_0_173 : 0 ≤ dotWide_0 ∧ dotWide_0 ≤ 64) (kz_0_174 : 0 ≤ dotTall_0 ∧ dotTall_0 ≤ 64) : 1 * leastY_0 + ((-1) * x19 + 0) ≤ 0 := by
  first
    | assumption
    | (clear f0 f1 f2 f7 f8 f9 f14 f15 f16 f19 f20 f21 hK_0_62 hK_0_63 hK_0_64 hK_0_65 hK_0_66; omega)
    | exact (bna_x ‹BNA _ _ _ _ _ _ _ _ _ _ _ _› (by assumption) (by assumption) (by assumption) (by assumption) (by assumption) (by assumption) (by assumption) (by omega) (by omega)).1
    | exact (bna_x ‹BNA _ _ _ _ _ _ _ _ _ _ _ _› (by assumption) (by assumption) (by assumption) (by assumption) (by assumption) (by assumption) (by assumption) (by omega) (by omega)).2
    | exact (bna_y ‹BNA _ _ _ _ _ _ _ _ _ _ _ _› (by assumption) (by assumption) (by assumption) (by assumption) (by assumption) (by assumption) (by assumption) (by omega) (by omega)).1
    | exact (bna_y ‹BNA _ _ _ _ _ _ _ _ _ _ _ _› (by assumption) (by assumption) (by assumption) (by assumption) (by assumption) (by assumption) (by assumption) (by omega) (by omega)).2
    | exact (bna_nx ‹BNA _ _ _ _ _ _ _ _ _ _ _ _› (by assumption) (by clear f0 f1 f2 f7 f8 f9 f14 f15 f16 f19 f20 f21 hK_0_62 hK_0_63 hK_0_64 hK_0_65 hK_0_66; omega) (by clear f0 f1 f2 f7 f8 f9 f14 f15 f16 f19 f20 f21 hK_0_62 hK_0_63 hK_0_64 hK_0_65 hK_0_66; omega)).1
    | exact (bna_nx ‹BNA _ _ _ _ _ _ _ _ _ _ _ _› (by assumption) (by clear f0 f1 f2 f7 f8 f9 f14 f15 f16 f19 f20 f21 hK_0_62 hK_0_63 hK_0_64 hK_0_65 hK_0_66; omega) (by clear f0 f1 f2 f7 f8 f9 f14 f15 f16 f19 f20 f21 hK_0_62 hK_0_63 hK_0_64 hK_0_65 hK_0_66; omega)).2
    | exact (bna_ny ‹BNA _ _ _ _ _ _ _ _ _ _ _ _› (by assumption) (by clear f0 f1 f2 f7 f8 f9 f14 f15 f16 f19 f20 f21 hK_0_62 hK_0_63 hK_0_64 hK_0_65 hK_0_66; omega) (by clear f0 f1 f2 f7 f8 f9 f14 f15 f16 f19 f20 f21 hK_0_62 hK_0_63 hK_0_64 hK_0_65 hK_0_66; omega)).1
    | exact (bna_ny ‹BNA _ _ _ _ _ _ _ _ _ _ _ _› (by assumption) (by clear f0 f1 f2 f7 f8 f9 f14 f15 f16 f19 f20 f21 hK_0_62 hK_0_63 hK_0_64 hK_0_65 hK_0_66; omega) (by clear f0 f1 f2 f7 f8 f9 f14 f15 f16 f19 f20 f21 hK_0_62 hK_0_63 hK_0_64 hK_0_65 hK_0_66; omega)).2
    | omega
set_option maxHeartbeats 4000000 in
theorem vc_Mo_dots_9_1 (x4 : Int) (x5 : Int) (x6 : Int) (x7 : Int) (x8 : Int) (x9 : Int) (x11 : Int) (x13 : Int) (x14 : Int) (x15 : Int) (x17 : Int) (x18 : Int) (x19 : Int) (nodeY_0 : Int → Int) (all_0 : Int → Int) (g0_0 : Int) (r_0 : Int) (bendMany_0 : Int → Int) (bendY_0 : Int → Int) (leastX_0 : Int) (mostX_0 : Int) (nodeX_0 : Int → Int) (bendX_0 : Int → Int) (leastY_0 : Int) (mostY_0 : Int) (dotWide_0 : Int) (dotTall_0 : Int) (k4 : 0 ≤ x4 ∧ x4 ≤ 47) (k5 : 1 ≤ x5 ∧ x5 ≤ 24) (k6 : 1 ≤ x6 ∧ x6 ≤ 1) (k7 : 2 ≤ x7 ∧ x7 ≤ 25) (k8 : 2 ≤ x8 ∧ x8 ≤ 26) (k9 : (-300000011) ≤ x9 ∧ x9 ≤ 221100000) (k11 : (-900000000) ≤ x11 ∧ x11 ≤ 900000000) (k13 : 1 ≤ x13 ∧ x13 ≤ 1) (k14 : 2 ≤ x14 ∧ x14 ≤ 25) (k15 : (-300000011) ≤ x15 ∧ x15 ≤ 221100000) (k17 : 1 ≤ x17 ∧ x17 ≤ 1) (k18 : 2 ≤ x18 ∧ x18 ≤ 25) (k19 : (-900000000) ≤ x19 ∧ x19 ≤ 900000000) (d0 : x5 + 1 ≤ x18 ∧ x18 ≤ x5 + 1) (d1 : x5 + 1 ≤ x14 ∧ x14 ≤ x5 + 1) (d2 : x8 + (-4294967296) ≤ x7 ∧ x7 ≤ x8 + (-1)) (d3 : x5 + 1 ≤ x7 ∧ x7 ≤ x5 + 1) (f0 : (x18 = 0) → (x19 = nodeY_0 (((24 * g0_0) + all_0 (((r_0 + 267) + x4)))))) (f1 : (x18 = (bendMany_0 (((48 * g0_0) + x4)) + 1)) → (x19 = nodeY_0 (((24 * g0_0) + all_0 (((r_0 + 315) + x4)))))) (f2 : (x18 = 0) ∨ ((x18 = (bendMany_0 (((48 * g0_0) + x4)) + 1)) ∨ (x19 = bendY_0 (((24 * ((48 * g0_0) + x4)) + (x18 - 1)))))) (f3 : x18 ≤ (bendMany_0 (((48 * g0_0) + x4)) + 1)) (f4 : x18 = x5 + x17) (f5 : 1 * leastX_0 + ((-1) * x15 + 0) ≤ 0) (f6 : 1 * x15 + ((-1) * mostX_0 + 0) ≤ 0) (f7 : (x14 = 0) → (x15 = nodeX_0 (((24 * g0_0) + all_0 (((r_0 + 267) + x4)))))) (f8 : (x14 = (bendMany_0 (((48 * g0_0) + x4)) + 1)) → (x15 = nodeX_0 (((24 * g0_0) + all_0 (((r_0 + 315) + x4)))))) (f9 : (x14 = 0) ∨ ((x14 = (bendMany_0 (((48 * g0_0) + x4)) + 1)) ∨ (x15 = bendX_0 (((24 * ((48 * g0_0) + x4)) + (x14 - 1)))))) (f10 : x14 ≤ (bendMany_0 (((48 * g0_0) + x4)) + 1)) (f11 : x14 = x5 + x13) (f12 : 1 * leastY_0 + ((-1) * x11 + 0) ≤ 0) (f13 : 1 * x11 + ((-1) * mostY_0 + 0) ≤ 0) (f14 : (x5 = 0) → (x11 = nodeY_0 (((24 * g0_0) + all_0 (((r_0 + 267) + x4)))))) (f15 : (x5 = (bendMany_0 (((48 * g0_0) + x4)) + 1)) → (x11 = nodeY_0 (((24 * g0_0) + all_0 (((r_0 + 315) + x4)))))) (f16 : (x5 = 0) ∨ ((x5 = (bendMany_0 (((48 * g0_0) + x4)) + 1)) ∨ (x11 = bendY_0 (((24 * ((48 * g0_0) + x4)) + (x5 - 1)))))) (f17 : 1 * leastX_0 + ((-1) * x9 + 0) ≤ 0) (f18 : 1 * x9 + ((-1) * mostX_0 + 0) ≤ 0) (f19 : (x5 = 0) → (x9 = nodeX_0 (((24 * g0_0) + all_0 (((r_0 + 267) + x4)))))) (f20 : (x5 = (bendMany_0 (((48 * g0_0) + x4)) + 1)) → (x9 = nodeX_0 (((24 * g0_0) + all_0 (((r_0 + 315) + x4)))))) (f21 : (x5 = 0) ∨ ((x5 = (bendMany_0 (((48 * g0_0) + x4)) + 1)) ∨ (x9 = bendX_0 (((24 * ((48 * g0_0) + x4)) + (x5 - 1)))))) (f22 : x5 ≤ (bendMany_0 (((48 * g0_0) + x4)) + 1)) (f23 : x7 < x8) (f24 : x8 = (bendMany_0 (((48 * g0_0) + x4)) + 2)) (f25 : x7 = x5 + x6) (f26 : BNA (leastX_0) (mostX_0) (leastY_0) (mostY_0) (g0_0) (r_0) (nodeX_0) (nodeY_0) (all_0) (bendMany_0) (bendX_0) (bendY_0)) (f27 : (-1) * dotWide_0 + 0 ≤ (-1)) (f28 : 1 * dotWide_0 + 0 ≤ 64) (f29 : (-1) * dotTall_0 + 0 ≤ (-1)) (f30 : 1 * dotTall_0 + 0 ≤ 64) (f31 : 1 * x4 + ((-1) * all_0 (r_0 + 1) + 0) ≤ (-1)) (hK_0_62 : ∀ j : Int, 0 ≤ j → j < 96 → (-300000000) ≤ nodeX_0 j ∧ nodeX_0 j ≤ 300000000) (hK_0_63 : ∀ j : Int, 0 ≤ j → j < 96 → (-300000000) ≤ nodeY_0 j ∧ nodeY_0 j ≤ 300000000) (hK_0_64 : ∀ j : Int, 0 ≤ j → j < 192 → 0 ≤ bendMany_0 j ∧ bendMany_0 j ≤ 24) (hK_0_65 : ∀ j : Int, 0 ≤ j → j < 4608 → (-300000011) ≤ bendX_0 j ∧ bendX_0 j ≤ 221100000) (hK_0_66 : ∀ j : Int, 0 ≤ j → j < 4608 → (-900000000) ≤ bendY_0 j ∧ bendY_0 j ≤ 900000000) (kz_0_139 : 0 ≤ g0_0 ∧ g0_0 ≤ 3) (kz_0_153 : (-2147483648) ≤ leastX_0 ∧ leastX_0 ≤ 300000000) (kz_0_154 : (-900000000) ≤ mostX_0 ∧ mostX_0 ≤ 2147483647) (kz_0_155 : (-2147483648) ≤ leastY_0 ∧ leastY_0 ≤ 300000000) (kz_0_156 : (-900000000) ≤ mostY_0 ∧ mostY_0 ≤ 2147483647) (kz_0_173 : 0 ≤ dotWide_0 ∧ dotWide_0 ≤ 64) (kz_0_174 : 0 ≤ dotTall_0 ∧ dotTall_0 ≤ 64) : 1 * x19 + ((-1) * mostY_0 + 0) ≤ 0 := by
  first
    | assumption
    | (clear f0 f1 f2 f7 f8 f9 f14 f15 f16 f19 f20 f21 hK_0_62 hK_0_63 hK_0_64 hK_0_65 hK_0_66; omega)
    | exact (bna_x ‹BNA _ _ _ _ _ _ _ _ _ _ _ _› (by assumption) (by assumption) (by assumption) (by assumption) (by assumption) (by assumption) (by assumption) (by omega) (by omega)).1
    | exact (bna_x ‹BNA _ _ _ _ _ _ _ _ _ _ _ _› (by assumption) (by assumption) (by assumption) (by assumption) (by assumption) (by assumption) (by assumption) (by omega) (by omega)).2
    | exact (bna_y ‹BNA _ _ _ _ _ _ _ _ _ _ _ _› (by assumption) (by assumption) (by assumption) (by assumption) (by assumption) (by assumption) (by assumption) (by omega) (by omega)).1
    | exact (bna_y ‹BNA _ _ _ _ _ _ _ _ _ _ _ _› (by assumption) (by assumption) (by assumption) (by assumption) (by assumption) (by assumption) (by assumption) (by omega) (by omega)).2
    | exact (bna_nx ‹BNA _ _ _ _ _ _ _ _ _ _ _ _› (by assumption) (by clear f0 f1 f2 f7 f8 f9 f14 f15 f16 f19 f20 f21 hK_0_62 hK_0_63 hK_0_64 hK_0_65 hK_0_66; omega) (by clear f0 f1 f2 f7 f8 f9 f14 f15 f16 f19 f20 f21 hK_0_62 hK_0_63 hK_0_64 hK_0_65 hK_0_66; omega)).1
    | exact (bna_nx ‹BNA _ _ _ _ _ _ _ _ _ _ _ _› (by assumption) (by clear f0 f1 f2 f7 f8 f9 f14 f15 f16 f19 f20 f21 hK_0_62 hK_0_63 hK_0_64 hK_0_65 hK_0_66; omega) (by clear f0 f1 f2 f7 f8 f9 f14 f15 f16 f19 f20 f21 hK_0_62 hK_0_63 hK_0_64 hK_0_65 hK_0_66; omega)).2
    | exact (bna_ny ‹BNA _ _ _ _ _ _ _ _ _ _ _ _› (by assumption) (by clear f0 f1 f2 f7 f8 f9 f14 f15 f16 f19 f20 f21 hK_0_62 hK_0_63 hK_0_64 hK_0_65 hK_0_66; omega) (by clear f0 f1 f2 f7 f8 f9 f14 f15 f16 f19 f20 f21 hK_0_62 hK_0_63 hK_0_64 hK_0_65 hK_0_66; omega)).1
    | exact (bna_ny ‹BNA _ _ _ _ _ _ _ _ _ _ _ _› (by assumption) (by clear f0 f1 f2 f7 f8 f9 f14 f15 f16 f19 f20 f21 hK_0_62 hK_0_63 hK_0_64 hK_0_65 hK_0_66; omega) (by clear f0 f1 f2 f7 f8 f9 f14 f15 f16 f19 f20 f21 hK_0_62 hK_0_63 hK_0_64 hK_0_65 hK_0_66; omega)).2
    | omega
def o_Mo_dots_9 : or_T := (147, 20, [(0, (2, 0, 0, [165])), (4, (0, 0, 47, [])), (5, (0, 1, 24, [])), (6, (0, 1, 1, [])), (7, (0, 2, 25, [])), (8, (0, 2, 26, [])), (9, (0, -300000011, 221100000, [])), (11, (0, -900000000, 900000000, [])), (13, (0, 1, 1, [])), (14, (0, 2, 25, [])), (15, (0, -300000011, 221100000, [])), (17, (0, 1, 1, [])), (18, (0, 2, 25, [])), (19, (0, -900000000, 900000000, []))], [(20, [18, 19, 0, 4], [50, 2, 2, 2139, 2005, 2063, 2002, 4, 6, 1, 2, 1, 0, 0, 0, 1, 2, 1, 1, 3, 2, 63, 4, 7, 6, 2, 0, 24, 2, 2, 139, 3, 2, 2, 4, 7, 4, 3, 2, 2, 5, 0, 267, 1, 3]), (20, [18, 0, 4, 19], [50, 2, 3, 1139, 1005, 1064, 1063, 1002, 4, 22, 1, 2, 1, 0, 4, 14, 3, 1, 64, 4, 7, 6, 2, 0, 48, 2, 1, 139, 1, 2, 0, 1, 1, 2, 1, 3, 3, 1, 63, 4, 7, 6, 2, 0, 24, 2, 1, 139, 3, 1, 2, 4, 7, 4, 3, 2, 1, 5, 0, 315, 1, 2]), (20, [18, 0, 4, 19], [50, 1, 2, 1139, 1064, 1066, 3, 6, 1, 2, 1, 0, 0, 0, 3, 22, 1, 2, 1, 0, 4, 14, 3, 1, 64, 4, 7, 6, 2, 0, 48, 2, 1, 139, 1, 2, 0, 1, 1, 2, 1, 3, 3, 1, 66, 4, 15, 6, 2, 0, 24, 4, 7, 6, 2, 0, 48, 2, 1, 139, 1, 2, 5, 2, 1, 0, 0, 1]), (20, [18, 0, 4], [50, 1, 1, 1139, 1064, 0, 2, 1, 0, 4, 14, 3, 1, 64, 4, 7, 6, 2, 0, 48, 2, 1, 139, 1, 2, 0, 1]), (1, [18, 5, 17], []), (20, [0, 15], [30, 0, 1, 1, 153, -1, 0, 0]), (20, [15, 0], [30, 0, 1, 0, 0, -1, 1, 154]), (20, [14, 15, 0, 4], [50, 2, 2, 2139, 2005, 2062, 2002, 4, 6, 1, 2, 1, 0, 0, 0, 1, 2, 1, 1, 3, 2, 62, 4, 7, 6, 2, 0, 24, 2, 2, 139, 3, 2, 2, 4, 7, 4, 3, 2, 2, 5, 0, 267, 1, 3]), (20, [14, 0, 4, 15], [50, 2, 3, 1139, 1005, 1064, 1062, 1002, 4, 22, 1, 2, 1, 0, 4, 14, 3, 1, 64, 4, 7, 6, 2, 0, 48, 2, 1, 139, 1, 2, 0, 1, 1, 2, 1, 3, 3, 1, 62, 4, 7, 6, 2, 0, 24, 2, 1, 139, 3, 1, 2, 4, 7, 4, 3, 2, 1, 5, 0, 315, 1, 2]), (20, [14, 0, 4, 15], [50, 1, 2, 1139, 1064, 1065, 3, 6, 1, 2, 1, 0, 0, 0, 3, 22, 1, 2, 1, 0, 4, 14, 3, 1, 64, 4, 7, 6, 2, 0, 48, 2, 1, 139, 1, 2, 0, 1, 1, 2, 1, 3, 3, 1, 65, 4, 15, 6, 2, 0, 24, 4, 7, 6, 2, 0, 48, 2, 1, 139, 1, 2, 5, 2, 1, 0, 0, 1]), (20, [14, 0, 4], [50, 1, 1, 1139, 1064, 0, 2, 1, 0, 4, 14, 3, 1, 64, 4, 7, 6, 2, 0, 48, 2, 1, 139, 1, 2, 0, 1]), (1, [14, 5, 13], []), (20, [0, 11], [30, 0, 1, 1, 155, -1, 0, 0]), (20, [11, 0], [30, 0, 1, 0, 0, -1, 1, 156]), (20, [5, 11, 0, 4], [50, 2, 2, 2139, 2005, 2063, 2002, 4, 6, 1, 2, 1, 0, 0, 0, 1, 2, 1, 1, 3, 2, 63, 4, 7, 6, 2, 0, 24, 2, 2, 139, 3, 2, 2, 4, 7, 4, 3, 2, 2, 5, 0, 267, 1, 3]), (20, [5, 0, 4, 11], [50, 2, 3, 1139, 1005, 1064, 1063, 1002, 4, 22, 1, 2, 1, 0, 4, 14, 3, 1, 64, 4, 7, 6, 2, 0, 48, 2, 1, 139, 1, 2, 0, 1, 1, 2, 1, 3, 3, 1, 63, 4, 7, 6, 2, 0, 24, 2, 1, 139, 3, 1, 2, 4, 7, 4, 3, 2, 1, 5, 0, 315, 1, 2]), (20, [5, 0, 4, 11], [50, 1, 2, 1139, 1064, 1066, 3, 6, 1, 2, 1, 0, 0, 0, 3, 22, 1, 2, 1, 0, 4, 14, 3, 1, 64, 4, 7, 6, 2, 0, 48, 2, 1, 139, 1, 2, 0, 1, 1, 2, 1, 3, 3, 1, 66, 4, 15, 6, 2, 0, 24, 4, 7, 6, 2, 0, 48, 2, 1, 139, 1, 2, 5, 2, 1, 0, 0, 1]), (20, [0, 9], [30, 0, 1, 1, 153, -1, 0, 0]), (20, [9, 0], [30, 0, 1, 0, 0, -1, 1, 154]), (20, [5, 9, 0, 4], [50, 2, 2, 2139, 2005, 2062, 2002, 4, 6, 1, 2, 1, 0, 0, 0, 1, 2, 1, 1, 3, 2, 62, 4, 7, 6, 2, 0, 24, 2, 2, 139, 3, 2, 2, 4, 7, 4, 3, 2, 2, 5, 0, 267, 1, 3]), (20, [5, 0, 4, 9], [50, 2, 3, 1139, 1005, 1064, 1062, 1002, 4, 22, 1, 2, 1, 0, 4, 14, 3, 1, 64, 4, 7, 6, 2, 0, 48, 2, 1, 139, 1, 2, 0, 1, 1, 2, 1, 3, 3, 1, 62, 4, 7, 6, 2, 0, 24, 2, 1, 139, 3, 1, 2, 4, 7, 4, 3, 2, 1, 5, 0, 315, 1, 2]), (20, [5, 0, 4, 9], [50, 1, 2, 1139, 1064, 1065, 3, 6, 1, 2, 1, 0, 0, 0, 3, 22, 1, 2, 1, 0, 4, 14, 3, 1, 64, 4, 7, 6, 2, 0, 48, 2, 1, 139, 1, 2, 0, 1, 1, 2, 1, 3, 3, 1, 65, 4, 15, 6, 2, 0, 24, 4, 7, 6, 2, 0, 48, 2, 1, 139, 1, 2, 5, 2, 1, 0, 0, 1]), (20, [5, 0, 4], [50, 1, 1, 1139, 1064, 0, 2, 1, 0, 4, 14, 3, 1, 64, 4, 7, 6, 2, 0, 48, 2, 1, 139, 1, 2, 0, 1]), (7, [7, 8], [2]), (20, [8, 0, 4], [50, 1, 1, 1139, 1064, 1, 2, 1, 0, 4, 14, 3, 1, 64, 4, 7, 6, 2, 0, 48, 2, 1, 139, 1, 2, 0, 2]), (1, [7, 5, 6], []), (20, [0], [60, 6, 6, 945, 153, 154, 155, 156, 139, 5, 62, 63, 2, 64, 65, 66]), (20, [0], [30, -1, -1, 1, 173]), (20, [0], [30, 64, 1, 1, 173]), (20, [0], [30, -1, -1, 1, 174]), (20, [0], [30, 64, 1, 1, 174]), (20, [4, 0], [30, -1, 1, 0, 0, -1, 3, 2005001])], [], [], [(20, [0, 19], [30, 0, 1, 1, 155, -1, 0, 0]), (20, [19, 0], [30, 0, 1, 0, 0, -1, 1, 156])], [], [(18, 5, 1, 1), (14, 5, 1, 1), (7, 8, -4294967296, -1), (7, 5, 1, 1)])
theorem oo_Mo_dots_9 {kA : Nat → ClassId} : or_ok PRD kA GG o_Mo_dots_9 := by
  refine or_mk fun A ta ws vs hD hth hl => ?_
  intro t0 r0 t4 k4 t5 k5 t6 k6 t7 k7 t8 k8 t9 k9 t11 k11 t13 k13 t14 k14 t15 k15 t17 k17 t18 k18 t19 k19 d0 d1 d2 d3 f0 f1 f2 f3 f4 f5 f6 f7 f8 f9 f10 f11 f12 f13 f14 f15 f16 f17 f18 f19 f20 f21 f22 f23 f24 f25 f26 f27 f28 f29 f30 f31
  have cr_0_62 := fdq_173 hD hth r0
  have cr_0_63 := fdq_174 hD hth r0
  have cr_0_64 := fdq_171 hD hth r0
  have cr_0_65 := fdq_292 hD hth r0
  have cr_0_66 := fdq_293 hD hth r0
  have hK_0_62 := elq_102 hD hth cr_0_62
  have hK_0_63 := elq_103 hD hth cr_0_63
  have hK_0_64 := elq_101 hD hth cr_0_64
  have hK_0_65 := elq_184 hD hth cr_0_65
  have hK_0_66 := elq_185 hD hth cr_0_66
  have kz_0_139 := fdq_172 hD hth r0
  have kz_0_153 := fdq_14 hD hth r0
  have kz_0_154 := fdq_15 hD hth r0
  have kz_0_155 := fdq_17 hD hth r0
  have kz_0_156 := fdq_18 hD hth r0
  have kz_0_173 := fdq_16 hD hth r0
  have kz_0_174 := fdq_19 hD hth r0
  have nf0 : fc_1 PRD (20, [0, 19], [30, 0, 1, 1, 155, -1, 0, 0]) ws (vs) := ⟨nf_in hl rfl, sgq_153 (vc_Mo_dots_9_0 (v_iv (n_v vs 4)) (v_iv (n_v vs 5)) (v_iv (n_v vs 6)) (v_iv (n_v vs 7)) (v_iv (n_v vs 8)) (v_iv (n_v vs 9)) (v_iv (n_v vs 11)) (v_iv (n_v vs 13)) (v_iv (n_v vs 14)) (v_iv (n_v vs 15)) (v_iv (n_v vs 17)) (v_iv (n_v vs 18)) (v_iv (n_v vs 19)) (w_ei ws (w_ar ws (n_v vs 0) 63)) (w_ei ws (w_ar ws (n_v vs 0) 2)) (w_fi ws (n_v vs 0) 139) (w_fi ws (n_v vs 0) 5) (w_ei ws (w_ar ws (n_v vs 0) 64)) (w_ei ws (w_ar ws (n_v vs 0) 66)) (w_fi ws (n_v vs 0) 153) (w_fi ws (n_v vs 0) 154) (w_ei ws (w_ar ws (n_v vs 0) 62)) (w_ei ws (w_ar ws (n_v vs 0) 65)) (w_fi ws (n_v vs 0) 155) (w_fi ws (n_v vs 0) 156) (w_fi ws (n_v vs 0) 173) (w_fi ws (n_v vs 0) 174) k4 k5 k6 k7 k8 k9 k11 k13 k14 k15 k17 k18 k19 d0 d1 d2 d3 (shm_1427 f0) (shm_1428 f1) (shm_1429 f2) (shm_1421 f3) (shm_12 f4) (shm_146 f5) (shm_147 f6) (shm_1423 f7) (shm_1424 f8) (shm_1425 f9) (shm_1421 f10) (shm_12 f11) (shm_153 f12) (shm_154 f13) (shm_1427 f14) (shm_1428 f15) (shm_1429 f16) (shm_146 f17) (shm_147 f18) (shm_1423 f19) (shm_1424 f20) (shm_1425 f21) (shm_1421 f22) (shm_6 f23) (shm_683 f24) (shm_12 f25) (shm_1845 f26) (shm_148 f27) (shm_149 f28) (shm_155 f29) (shm_156 f30) (shm_979 f31) hK_0_62 hK_0_63 hK_0_64 hK_0_65 hK_0_66 kz_0_139 kz_0_153 kz_0_154 kz_0_155 kz_0_156 kz_0_173 kz_0_174)⟩
  have nf1 : fc_1 PRD (20, [19, 0], [30, 0, 1, 0, 0, -1, 1, 156]) ws (vs) := ⟨nf_in hl rfl, sgq_154 (vc_Mo_dots_9_1 (v_iv (n_v vs 4)) (v_iv (n_v vs 5)) (v_iv (n_v vs 6)) (v_iv (n_v vs 7)) (v_iv (n_v vs 8)) (v_iv (n_v vs 9)) (v_iv (n_v vs 11)) (v_iv (n_v vs 13)) (v_iv (n_v vs 14)) (v_iv (n_v vs 15)) (v_iv (n_v vs 17)) (v_iv (n_v vs 18)) (v_iv (n_v vs 19)) (w_ei ws (w_ar ws (n_v vs 0) 63)) (w_ei ws (w_ar ws (n_v vs 0) 2)) (w_fi ws (n_v vs 0) 139) (w_fi ws (n_v vs 0) 5) (w_ei ws (w_ar ws (n_v vs 0) 64)) (w_ei ws (w_ar ws (n_v vs 0) 66)) (w_fi ws (n_v vs 0) 153) (w_fi ws (n_v vs 0) 154) (w_ei ws (w_ar ws (n_v vs 0) 62)) (w_ei ws (w_ar ws (n_v vs 0) 65)) (w_fi ws (n_v vs 0) 155) (w_fi ws (n_v vs 0) 156) (w_fi ws (n_v vs 0) 173) (w_fi ws (n_v vs 0) 174) k4 k5 k6 k7 k8 k9 k11 k13 k14 k15 k17 k18 k19 d0 d1 d2 d3 (shm_1427 f0) (shm_1428 f1) (shm_1429 f2) (shm_1421 f3) (shm_12 f4) (shm_146 f5) (shm_147 f6) (shm_1423 f7) (shm_1424 f8) (shm_1425 f9) (shm_1421 f10) (shm_12 f11) (shm_153 f12) (shm_154 f13) (shm_1427 f14) (shm_1428 f15) (shm_1429 f16) (shm_146 f17) (shm_147 f18) (shm_1423 f19) (shm_1424 f20) (shm_1425 f21) (shm_1421 f22) (shm_6 f23) (shm_683 f24) (shm_12 f25) (shm_1845 f26) (shm_148 f27) (shm_149 f28) (shm_155 f29) (shm_156 f30) (shm_979 f31) hK_0_62 hK_0_63 hK_0_64 hK_0_65 hK_0_66 kz_0_139 kz_0_153 kz_0_154 kz_0_155 kz_0_156 kz_0_173 kz_0_174)⟩
  refine ⟨(fun _ h => (by cases h)), [], trivial, ?_, (fun _ h => (by cases h))⟩
  rw [List.append_nil]
  exact List.forall_mem_cons.mpr ⟨⟨show (20 : Nat) < 100 from by decide, nf0⟩, List.forall_mem_cons.mpr ⟨⟨show (20 : Nat) < 100 from by decide, nf1⟩, (fun _ h => (by cases h))⟩⟩
set_option maxHeartbeats 4000000 in
theorem vc_Mo_dots_10_0 (x4 : Int) (x5 : Int) (x6 : Int) (x7 : Int) (x8 : Int) (x9 : Int) (x11 : Int) (x13 : Int) (x14 : Int) (x15 : Int) (x17 : Int) (x18 : Int) (x19 : Int) (nodeY_0 : Int → Int) (all_0 : Int → Int) (g0_0 : Int) (r_0 : Int) (bendMany_0 : Int → Int) (bendY_0 : Int → Int) (leastX_0 : Int) (mostX_0 : Int) (nodeX_0 : Int → Int) (bendX_0 : Int → Int) (leastY_0 : Int) (mostY_0 : Int) (dotWide_0 : Int) (dotTall_0 : Int) (k4 : 0 ≤ x4 ∧ x4 ≤ 47) (k5 : 1 ≤ x5 ∧ x5 ≤ 24) (k6 : 1 ≤ x6 ∧ x6 ≤ 1) (k7 : 2 ≤ x7 ∧ x7 ≤ 25) (k8 : 2 ≤ x8 ∧ x8 ≤ 26) (k9 : (-300000011) ≤ x9 ∧ x9 ≤ 221100000) (k11 : (-900000000) ≤ x11 ∧ x11 ≤ 900000000) (k13 : 1 ≤ x13 ∧ x13 ≤ 1) (k14 : 2 ≤ x14 ∧ x14 ≤ 25) (k15 : (-300000011) ≤ x15 ∧ x15 ≤ 221100000) (k17 : 1 ≤ x17 ∧ x17 ≤ 1) (k18 : 2 ≤ x18 ∧ x18 ≤ 25) (k19 : (-300000000) ≤ x19 ∧ x19 ≤ 300000000) (d0 : x5 + 1 ≤ x18 ∧ x18 ≤ x5 + 1) (d1 : x5 + 1 ≤ x14 ∧ x14 ≤ x5 + 1) (d2 : x8 + (-4294967296) ≤ x7 ∧ x7 ≤ x8 + (-1)) (d3 : x5 + 1 ≤ x7 ∧ x7 ≤ x5 + 1) (f0 : (x18 = 0) → (x19 = nodeY_0 (((24 * g0_0) + all_0 (((r_0 + 267) + x4)))))) (f1 : (x18 = (bendMany_0 (((48 * g0_0) + x4)) + 1)) → (x19 = nodeY_0 (((24 * g0_0) + all_0 (((r_0 + 315) + x4)))))) (f2 : (x18 = 0) ∨ ((x18 = (bendMany_0 (((48 * g0_0) + x4)) + 1)) ∨ (x19 = bendY_0 (((24 * ((48 * g0_0) + x4)) + (x18 - 1)))))) (f3 : x18 ≤ (bendMany_0 (((48 * g0_0) + x4)) + 1)) (f4 : x18 = x5 + x17) (f5 : 1 * leastX_0 + ((-1) * x15 + 0) ≤ 0) (f6 : 1 * x15 + ((-1) * mostX_0 + 0) ≤ 0) (f7 : (x14 = 0) → (x15 = nodeX_0 (((24 * g0_0) + all_0 (((r_0 + 267) + x4)))))) (f8 : (x14 = (bendMany_0 (((48 * g0_0) + x4)) + 1)) → (x15 = nodeX_0 (((24 * g0_0) + all_0 (((r_0 + 315) + x4)))))) (f9 : (x14 = 0) ∨ ((x14 = (bendMany_0 (((48 * g0_0) + x4)) + 1)) ∨ (x15 = bendX_0 (((24 * ((48 * g0_0) + x4)) + (x14 - 1)))))) (f10 : x14 ≤ (bendMany_0 (((48 * g0_0) + x4)) + 1)) (f11 : x14 = x5 + x13) (f12 : 1 * leastY_0 + ((-1) * x11 + 0) ≤ 0) (f13 : 1 * x11 + ((-1) * mostY_0 + 0) ≤ 0) (f14 : (x5 = 0) → (x11 = nodeY_0 (((24 * g0_0) + all_0 (((r_0 + 267) + x4)))))) (f15 : (x5 = (bendMany_0 (((48 * g0_0) + x4)) + 1)) → (x11 = nodeY_0 (((24 * g0_0) + all_0 (((r_0 + 315) + x4)))))) (f16 : (x5 = 0) ∨ ((x5 = (bendMany_0 (((48 * g0_0) + x4)) + 1)) ∨ (x11 = bendY_0 (((24 * ((48 * g0_0) + x4)) + (x5 - 1)))))) (f17 : 1 * leastX_0 + ((-1) * x9 + 0) ≤ 0) (f18 : 1 * x9 + ((-1) * mostX_0 + 0) ≤ 0) (f19 : (x5 = 0) → (x9 = nodeX_0 (((24 * g0_0) + all_0 (((r_0 + 267) + x4)))))) (f20 : (x5 = (bendMany_0 (((48 * g0_0) + x4)) + 1)) → (x9 = nodeX_0 (((24 * g0_0) + all_0 (((r_0 + 315) + x4)))))) (f21 : (x5 = 0) ∨ ((x5 = (bendMany_0 (((48 * g0_0) + x4)) + 1)) ∨ (x9 = bendX_0 (((24 * ((48 * g0_0) + x4)) + (x5 - 1)))))) (f22 : x5 ≤ (bendMany_0 (((48 * g0_0) + x4)) + 1)) (f23 : x7 < x8) (f24 : x8 = (bendMany_0 (((48 * g0_0) + x4)) + 2)) (f25 : x7 = x5 + x6) (f26 : BNA (leastX_0) (mostX_0) (leastY_0) (mostY_0) (g0_0) (r_0) (nodeX_0) (nodeY_0) (all_0) (bendMany_0) (bendX_0) (bendY_0)) (f27 : (-1) * dotWide_0 + 0 ≤ (-1)) (f28 : 1 * dotWide_0 + 0 ≤ 64) (f29 : (-1) * dotTall_0 + 0 ≤ (-1)) (f30 : 1 * dotTall_0 + 0 ≤ 64) (f31 : 1 * x4 + ((-1) * all_0 (r_0 + 1) + 0) ≤ (-1)) (hK_0_62 : ∀ j : Int, 0 ≤ j → j < 96 → (-300000000) ≤ nodeX_0 j ∧ nodeX_0 j ≤ 300000000) (hK_0_63 : ∀ j : Int, 0 ≤ j → j < 96 → (-300000000) ≤ nodeY_0 j ∧ nodeY_0 j ≤ 300000000) (hK_0_64 : ∀ j : Int, 0 ≤ j → j < 192 → 0 ≤ bendMany_0 j ∧ bendMany_0 j ≤ 24) (hK_0_65 : ∀ j : Int, 0 ≤ j → j < 4608 → (-300000011) ≤ bendX_0 j ∧ bendX_0 j ≤ 221100000) (hK_0_66 : ∀ j : Int, 0 ≤ j → j < 4608 → (-900000000) ≤ bendY_0 j ∧ bendY_0 j ≤ 900000000) (kz_0_139 : 0 ≤ g0_0 ∧ g0_0 ≤ 3) (kz_0_153 : (-2147483648) ≤ leastX_0 ∧ leastX_0 ≤ 300000000) (kz_0_154 : (-900000000) ≤ mostX_0 ∧ mostX_0 ≤ 2147483647) (kz_0_155 : (-2147483648) ≤ leastY_0 ∧ leastY_0 ≤ 300000000) (kz_0_156 : (-900000000) ≤ mostY_0 ∧ mostY_0 ≤ 2147483647) (kz_0_173 : 0 ≤ dotWide_0 ∧ dotWide_0 ≤ 64) (kz_0_174 : 0 ≤ dotTall_0 ∧ dotTall_0 ≤ 64) : 1 * leastY_0 + ((-1) * x19 + 0) ≤ 0 := by
  first
    | assumption
    | (clear f0 f1 f2 f7 f8 f9 f14 f15 f16 f19 f20 f21 hK_0_62 hK_0_63 hK_0_64 hK_0_65 hK_0_66; omega)
    | exact (bna_x ‹BNA _ _ _ _ _ _ _ _ _ _ _ _› (by assumption) (by assumption) (by assumption) (by assumption) (by assumption) (by assumption) (by assumption) (by omega) (by omega)).1
    | exact (bna_x ‹BNA _ _ _ _ _ _ _ _ _ _ _ _› (by assumption) (by assumption) (by assumption) (by assumption) (by assumption) (by assumption) (by assumption) (by omega) (by omega)).2
    | exact (bna_y ‹BNA _ _ _ _ _ _ _ _ _ _ _ _› (by assumption) (by assumption) (by assumption) (by assumption) (by assumption) (by assumption) (by assumption) (by omega) (by omega)).1
    | exact (bna_y ‹BNA _ _ _ _ _ _ _ _ _ _ _ _› (by assumption) (by assumption) (by assumption) (by assumption) (by assumption) (by assumption) (by assumption) (by omega) (by omega)).2
    | exact (bna_nx ‹BNA _ _ _ _ _ _ _ _ _ _ _ _› (by assumption) (by clear f0 f1 f2 f7 f8 f9 f14 f15 f16 f19 f20 f21 hK_0_62 hK_0_63 hK_0_64 hK_0_65 hK_0_66; omega) (by clear f0 f1 f2 f7 f8 f9 f14 f15 f16 f19 f20 f21 hK_0_62 hK_0_63 hK_0_64 hK_0_65 hK_0_66; omega)).1
    | exact (bna_nx ‹BNA _ _ _ _ _ _ _ _ _ _ _ _› (by assumption) (by clear f0 f1 f2 f7 f8 f9 f14 f15 f16 f19 f20 f21 hK_0_62 hK_0_63 hK_0_64 hK_0_65 hK_0_66; omega) (by clear f0 f1 f2 f7 f8 f9 f14 f15 f16 f19 f20 f21 hK_0_62 hK_0_63 hK_0_64 hK_0_65 hK_0_66; omega)).2
    | exact (bna_ny ‹BNA _ _ _ _ _ _ _ _ _ _ _ _› (by assumption) (by clear f0 f1 f2 f7 f8 f9 f14 f15 f16 f19 f20 f21 hK_0_62 hK_0_63 hK_0_64 hK_0_65 hK_0_66; omega) (by clear f0 f1 f2 f7 f8 f9 f14 f15 f16 f19 f20 f21 hK_0_62 hK_0_63 hK_0_64 hK_0_65 hK_0_66; omega)).1
    | exact (bna_ny ‹BNA _ _ _ _ _ _ _ _ _ _ _ _› (by assumption) (by clear f0 f1 f2 f7 f8 f9 f14 f15 f16 f19 f20 f21 hK_0_62 hK_0_63 hK_0_64 hK_0_65 hK_0_66; omega) (by clear f0 f1 f2 f7 f8 f9 f14 f15 f16 f19 f20 f21 hK_0_62 hK_0_63 hK_0_64 hK_0_65 hK_0_66; omega)).2
    | omega
set_option maxHeartbeats 4000000 in
theorem vc_Mo_dots_10_1 (x4 : Int) (x5 : Int) (x6 : Int) (x7 : Int) (x8 : Int) (x9 : Int) (x11 : Int) (x13 : Int) (x14 : Int) (x15 : Int) (x17 : Int) (x18 : Int) (x19 : Int) (nodeY_0 : Int → Int) (all_0 : Int → Int) (g0_0 : Int) (r_0 : Int) (bendMany_0 : Int → Int) (bendY_0 : Int → Int) (leastX_0 : Int) (mostX_0 : Int) (nodeX_0 : Int → Int) (bendX_0 : Int → Int) (leastY_0 : Int) (mostY_0 : Int) (dotWide_0 : Int) (dotTall_0 : Int) (k4 : 0 ≤ x4 ∧ x4 ≤ 47) (k5 : 1 ≤ x5 ∧ x5 ≤ 24) (k6 : 1 ≤ x6 ∧ x6 ≤ 1) (k7 : 2 ≤ x7 ∧ x7 ≤ 25) (k8 : 2 ≤ x8 ∧ x8 ≤ 26) (k9 : (-300000011) ≤ x9 ∧ x9 ≤ 221100000) (k11 : (-900000000) ≤ x11 ∧ x11 ≤ 900000000) (k13 : 1 ≤ x13 ∧ x13 ≤ 1) (k14 : 2 ≤ x14 ∧ x14 ≤ 25) (k15 : (-300000011) ≤ x15 ∧ x15 ≤ 221100000) (k17 : 1 ≤ x17 ∧ x17 ≤ 1) (k18 : 2 ≤ x18 ∧ x18 ≤ 25) (k19 : (-300000000) ≤ x19 ∧ x19 ≤ 300000000) (d0 : x5 + 1 ≤ x18 ∧ x18 ≤ x5 + 1) (d1 : x5 + 1 ≤ x14 ∧ x14 ≤ x5 + 1) (d2 : x8 + (-4294967296) ≤ x7 ∧ x7 ≤ x8 + (-1)) (d3 : x5 + 1 ≤ x7 ∧ x7 ≤ x5 + 1) (f0 : (x18 = 0) → (x19 = nodeY_0 (((24 * g0_0) + all_0 (((r_0 + 267) + x4)))))) (f1 : (x18 = (bendMany_0 (((48 * g0_0) + x4)) + 1)) → (x19 = nodeY_0 (((24 * g0_0) + all_0 (((r_0 + 315) + x4)))))) (f2 : (x18 = 0) ∨ ((x18 = (bendMany_0 (((48 * g0_0) + x4)) + 1)) ∨ (x19 = bendY_0 (((24 * ((48 * g0_0) + x4)) + (x18 - 1)))))) (f3 : x18 ≤ (bendMany_0 (((48 * g0_0) + x4)) + 1)) (f4 : x18 = x5 + x17) (f5 : 1 * leastX_0 + ((-1) * x15 + 0) ≤ 0) (f6 : 1 * x15 + ((-1) * mostX_0 + 0) ≤ 0) (f7 : (x14 = 0) → (x15 = nodeX_0 (((24 * g0_0) + all_0 (((r_0 + 267) + x4)))))) (f8 : (x14 = (bendMany_0 (((48 * g0_0) + x4)) + 1)) → (x15 = nodeX_0 (((24 * g0_0) + all_0 (((r_0 + 315) + x4)))))) (f9 : (x14 = 0) ∨ ((x14 = (bendMany_0 (((48 * g0_0) + x4)) + 1)) ∨ (x15 = bendX_0 (((24 * ((48 * g0_0) + x4)) + (x14 - 1)))))) (f10 : x14 ≤ (bendMany_0 (((48 * g0_0) + x4)) + 1)) (f11 : x14 = x5 + x13) (f12 : 1 * leastY_0 + ((-1) * x11 + 0) ≤ 0) (f13 : 1 * x11 + ((-1) * mostY_0 + 0) ≤ 0) (f14 : (x5 = 0) → (x11 = nodeY_0 (((24 * g0_0) + all_0 (((r_0 + 267) + x4)))))) (f15 : (x5 = (bendMany_0 (((48 * g0_0) + x4)) + 1)) → (x11 = nodeY_0 (((24 * g0_0) + all_0 (((r_0 + 315) + x4)))))) (f16 : (x5 = 0) ∨ ((x5 = (bendMany_0 (((48 * g0_0) + x4)) + 1)) ∨ (x11 = bendY_0 (((24 * ((48 * g0_0) + x4)) + (x5 - 1)))))) (f17 : 1 * leastX_0 + ((-1) * x9 + 0) ≤ 0) (f18 : 1 * x9 + ((-1) * mostX_0 + 0) ≤ 0) (f19 : (x5 = 0) → (x9 = nodeX_0 (((24 * g0_0) + all_0 (((r_0 + 267) + x4)))))) (f20 : (x5 = (bendMany_0 (((48 * g0_0) + x4)) + 1)) → (x9 = nodeX_0 (((24 * g0_0) + all_0 (((r_0 + 315) + x4)))))) (f21 : (x5 = 0) ∨ ((x5 = (bendMany_0 (((48 * g0_0) + x4)) + 1)) ∨ (x9 = bendX_0 (((24 * ((48 * g0_0) + x4)) + (x5 - 1)))))) (f22 : x5 ≤ (bendMany_0 (((48 * g0_0) + x4)) + 1)) (f23 : x7 < x8) (f24 : x8 = (bendMany_0 (((48 * g0_0) + x4)) + 2)) (f25 : x7 = x5 + x6) (f26 : BNA (leastX_0) (mostX_0) (leastY_0) (mostY_0) (g0_0) (r_0) (nodeX_0) (nodeY_0) (all_0) (bendMany_0) (bendX_0) (bendY_0)) (f27 : (-1) * dotWide_0 + 0 ≤ (-1)) (f28 : 1 * dotWide_0 + 0 ≤ 64) (f29 : (-1) * dotTall_0 + 0 ≤ (-1)) (f30 : 1 * dotTall_0 + 0 ≤ 64) (f31 : 1 * x4 + ((-1) * all_0 (r_0 + 1) + 0) ≤ (-1)) (hK_0_62 : ∀ j : Int, 0 ≤ j → j < 96 → (-300000000) ≤ nodeX_0 j ∧ nodeX_0 j ≤ 300000000) (hK_0_63 : ∀ j : Int, 0 ≤ j → j < 96 → (-300000000) ≤ nodeY_0 j ∧ nodeY_0 j ≤ 300000000) (hK_0_64 : ∀ j : Int, 0 ≤ j → j < 192 → 0 ≤ bendMany_0 j ∧ bendMany_0 j ≤ 24) (hK_0_65 : ∀ j : Int, 0 ≤ j → j < 4608 → (-300000011) ≤ bendX_0 j ∧ bendX_0 j ≤ 221100000) (hK_0_66 : ∀ j : Int, 0 ≤ j → j < 4608 → (-900000000) ≤ bendY_0 j ∧ bendY_0 j ≤ 900000000) (kz_0_139 : 0 ≤ g0_0 ∧ g0_0 ≤ 3) (kz_0_153 : (-2147483648) ≤ leastX_0 ∧ leastX_0 ≤ 300000000) (kz_0_154 : (-900000000) ≤ mostX_0 ∧ mostX_0 ≤ 2147483647) (kz_0_155 : (-2147483648) ≤ leastY_0 ∧ leastY_0 ≤ 300000000) (kz_0_156 : (-900000000) ≤ mostY_0 ∧ mostY_0 ≤ 2147483647) (kz_0_173 : 0 ≤ dotWide_0 ∧ dotWide_0 ≤ 64) (kz_0_174 : 0 ≤ dotTall_0 ∧ dotTall_0 ≤ 64) : 1 * x19 + ((-1) * mostY_0 + 0) ≤ 0 := by
  first
    | assumption
    | (clear f0 f1 f2 f7 f8 f9 f14 f15 f16 f19 f20 f21 hK_0_62 hK_0_63 hK_0_64 hK_0_65 hK_0_66; omega)
    | exact (bna_x ‹BNA _ _ _ _ _ _ _ _ _ _ _ _› (by assumption) (by assumption) (by assumption) (by assumption) (by assumption) (by assumption) (by assumption) (by omega) (by omega)).1
    | exact (bna_x ‹BNA _ _ _ _ _ _ _ _ _ _ _ _› (by assumption) (by assumption) (by assumption) (by assumption) (by assumption) (by assumption) (by assumption) (by omega) (by omega)).2
    | exact (bna_y ‹BNA _ _ _ _ _ _ _ _ _ _ _ _› (by assumption) (by assumption) (by assumption) (by assumption) (by assumption) (by assumption) (by assumption) (by omega) (by omega)).1
    | exact (bna_y ‹BNA _ _ _ _ _ _ _ _ _ _ _ _› (by assumption) (by assumption) (by assumption) (by assumption) (by assumption) (by assumption) (by assumption) (by omega) (by omega)).2
    | exact (bna_nx ‹BNA _ _ _ _ _ _ _ _ _ _ _ _› (by assumption) (by clear f0 f1 f2 f7 f8 f9 f14 f15 f16 f19 f20 f21 hK_0_62 hK_0_63 hK_0_64 hK_0_65 hK_0_66; omega) (by clear f0 f1 f2 f7 f8 f9 f14 f15 f16 f19 f20 f21 hK_0_62 hK_0_63 hK_0_64 hK_0_65 hK_0_66; omega)).1
    | exact (bna_nx ‹BNA _ _ _ _ _ _ _ _ _ _ _ _› (by assumption) (by clear f0 f1 f2 f7 f8 f9 f14 f15 f16 f19 f20 f21 hK_0_62 hK_0_63 hK_0_64 hK_0_65 hK_0_66; omega) (by clear f0 f1 f2 f7 f8 f9 f14 f15 f16 f19 f20 f21 hK_0_62 hK_0_63 hK_0_64 hK_0_65 hK_0_66; omega)).2
    | exact (bna_ny ‹BNA _ _ _ _ _ _ _ _ _ _ _ _› (by assumption) (by clear f0 f1 f2 f7 f8 f9 f14 f15 f16 f19 f20 f21 hK_0_62 hK_0_63 hK_0_64 hK_0_65 hK_0_66; omega) (by clear f0 f1 f2 f7 f8 f9 f14 f15 f16 f19 f20 f21 hK_0_62 hK_0_63 hK_0_64 hK_0_65 hK_0_66; omega)).1
    | exact (bna_ny ‹BNA _ _ _ _ _ _ _ _ _ _ _ _› (by assumption) (by clear f0 f1 f2 f7 f8 f9 f14 f15 f16 f19 f20 f21 hK_0_62 hK_0_63 hK_0_64 hK_0_65 hK_0_66; omega) (by clear f0 f1 f2 f7 f8 f9 f14 f15 f16 f19 f20 f21 hK_0_62 hK_0_63 hK_0_64 hK_0_65 hK_0_66; omega)).2
    | omega
def o_Mo_dots_10 : or_T := (147, 20, [(0, (2, 0, 0, [165])), (4, (0, 0, 47, [])), (5, (0, 1, 24, [])), (6, (0, 1, 1, [])), (7, (0, 2, 25, [])), (8, (0, 2, 26, [])), (9, (0, -300000011, 221100000, [])), (11, (0, -900000000, 900000000, [])), (13, (0, 1, 1, [])), (14, (0, 2, 25, [])), (15, (0, -300000011, 221100000, [])), (17, (0, 1, 1, [])), (18, (0, 2, 25, [])), (19, (0, -300000000, 300000000, []))], [(20, [18, 19, 0, 4], [50, 2, 2, 2139, 2005, 2063, 2002, 4, 6, 1, 2, 1, 0, 0, 0, 1, 2, 1, 1, 3, 2, 63, 4, 7, 6, 2, 0, 24, 2, 2, 139, 3, 2, 2, 4, 7, 4, 3, 2, 2, 5, 0, 267, 1, 3]), (20, [18, 0, 4, 19], [50, 2, 3, 1139, 1005, 1064, 1063, 1002, 4, 22, 1, 2, 1, 0, 4, 14, 3, 1, 64, 4, 7, 6, 2, 0, 48, 2, 1, 139, 1, 2, 0, 1, 1, 2, 1, 3, 3, 1, 63, 4, 7, 6, 2, 0, 24, 2, 1, 139, 3, 1, 2, 4, 7, 4, 3, 2, 1, 5, 0, 315, 1, 2]), (20, [18, 0, 4, 19], [50, 1, 2, 1139, 1064, 1066, 3, 6, 1, 2, 1, 0, 0, 0, 3, 22, 1, 2, 1, 0, 4, 14, 3, 1, 64, 4, 7, 6, 2, 0, 48, 2, 1, 139, 1, 2, 0, 1, 1, 2, 1, 3, 3, 1, 66, 4, 15, 6, 2, 0, 24, 4, 7, 6, 2, 0, 48, 2, 1, 139, 1, 2, 5, 2, 1, 0, 0, 1]), (20, [18, 0, 4], [50, 1, 1, 1139, 1064, 0, 2, 1, 0, 4, 14, 3, 1, 64, 4, 7, 6, 2, 0, 48, 2, 1, 139, 1, 2, 0, 1]), (1, [18, 5, 17], []), (20, [0, 15], [30, 0, 1, 1, 153, -1, 0, 0]), (20, [15, 0], [30, 0, 1, 0, 0, -1, 1, 154]), (20, [14, 15, 0, 4], [50, 2, 2, 2139, 2005, 2062, 2002, 4, 6, 1, 2, 1, 0, 0, 0, 1, 2, 1, 1, 3, 2, 62, 4, 7, 6, 2, 0, 24, 2, 2, 139, 3, 2, 2, 4, 7, 4, 3, 2, 2, 5, 0, 267, 1, 3]), (20, [14, 0, 4, 15], [50, 2, 3, 1139, 1005, 1064, 1062, 1002, 4, 22, 1, 2, 1, 0, 4, 14, 3, 1, 64, 4, 7, 6, 2, 0, 48, 2, 1, 139, 1, 2, 0, 1, 1, 2, 1, 3, 3, 1, 62, 4, 7, 6, 2, 0, 24, 2, 1, 139, 3, 1, 2, 4, 7, 4, 3, 2, 1, 5, 0, 315, 1, 2]), (20, [14, 0, 4, 15], [50, 1, 2, 1139, 1064, 1065, 3, 6, 1, 2, 1, 0, 0, 0, 3, 22, 1, 2, 1, 0, 4, 14, 3, 1, 64, 4, 7, 6, 2, 0, 48, 2, 1, 139, 1, 2, 0, 1, 1, 2, 1, 3, 3, 1, 65, 4, 15, 6, 2, 0, 24, 4, 7, 6, 2, 0, 48, 2, 1, 139, 1, 2, 5, 2, 1, 0, 0, 1]), (20, [14, 0, 4], [50, 1, 1, 1139, 1064, 0, 2, 1, 0, 4, 14, 3, 1, 64, 4, 7, 6, 2, 0, 48, 2, 1, 139, 1, 2, 0, 1]), (1, [14, 5, 13], []), (20, [0, 11], [30, 0, 1, 1, 155, -1, 0, 0]), (20, [11, 0], [30, 0, 1, 0, 0, -1, 1, 156]), (20, [5, 11, 0, 4], [50, 2, 2, 2139, 2005, 2063, 2002, 4, 6, 1, 2, 1, 0, 0, 0, 1, 2, 1, 1, 3, 2, 63, 4, 7, 6, 2, 0, 24, 2, 2, 139, 3, 2, 2, 4, 7, 4, 3, 2, 2, 5, 0, 267, 1, 3]), (20, [5, 0, 4, 11], [50, 2, 3, 1139, 1005, 1064, 1063, 1002, 4, 22, 1, 2, 1, 0, 4, 14, 3, 1, 64, 4, 7, 6, 2, 0, 48, 2, 1, 139, 1, 2, 0, 1, 1, 2, 1, 3, 3, 1, 63, 4, 7, 6, 2, 0, 24, 2, 1, 139, 3, 1, 2, 4, 7, 4, 3, 2, 1, 5, 0, 315, 1, 2]), (20, [5, 0, 4, 11], [50, 1, 2, 1139, 1064, 1066, 3, 6, 1, 2, 1, 0, 0, 0, 3, 22, 1, 2, 1, 0, 4, 14, 3, 1, 64, 4, 7, 6, 2, 0, 48, 2, 1, 139, 1, 2, 0, 1, 1, 2, 1, 3, 3, 1, 66, 4, 15, 6, 2, 0, 24, 4, 7, 6, 2, 0, 48, 2, 1, 139, 1, 2, 5, 2, 1, 0, 0, 1]), (20, [0, 9], [30, 0, 1, 1, 153, -1, 0, 0]), (20, [9, 0], [30, 0, 1, 0, 0, -1, 1, 154]), (20, [5, 9, 0, 4], [50, 2, 2, 2139, 2005, 2062, 2002, 4, 6, 1, 2, 1, 0, 0, 0, 1, 2, 1, 1, 3, 2, 62, 4, 7, 6, 2, 0, 24, 2, 2, 139, 3, 2, 2, 4, 7, 4, 3, 2, 2, 5, 0, 267, 1, 3]), (20, [5, 0, 4, 9], [50, 2, 3, 1139, 1005, 1064, 1062, 1002, 4, 22, 1, 2, 1, 0, 4, 14, 3, 1, 64, 4, 7, 6, 2, 0, 48, 2, 1, 139, 1, 2, 0, 1, 1, 2, 1, 3, 3, 1, 62, 4, 7, 6, 2, 0, 24, 2, 1, 139, 3, 1, 2, 4, 7, 4, 3, 2, 1, 5, 0, 315, 1, 2]), (20, [5, 0, 4, 9], [50, 1, 2, 1139, 1064, 1065, 3, 6, 1, 2, 1, 0, 0, 0, 3, 22, 1, 2, 1, 0, 4, 14, 3, 1, 64, 4, 7, 6, 2, 0, 48, 2, 1, 139, 1, 2, 0, 1, 1, 2, 1, 3, 3, 1, 65, 4, 15, 6, 2, 0, 24, 4, 7, 6, 2, 0, 48, 2, 1, 139, 1, 2, 5, 2, 1, 0, 0, 1]), (20, [5, 0, 4], [50, 1, 1, 1139, 1064, 0, 2, 1, 0, 4, 14, 3, 1, 64, 4, 7, 6, 2, 0, 48, 2, 1, 139, 1, 2, 0, 1]), (7, [7, 8], [2]), (20, [8, 0, 4], [50, 1, 1, 1139, 1064, 1, 2, 1, 0, 4, 14, 3, 1, 64, 4, 7, 6, 2, 0, 48, 2, 1, 139, 1, 2, 0, 2]), (1, [7, 5, 6], []), (20, [0], [60, 6, 6, 945, 153, 154, 155, 156, 139, 5, 62, 63, 2, 64, 65, 66]), (20, [0], [30, -1, -1, 1, 173]), (20, [0], [30, 64, 1, 1, 173]), (20, [0], [30, -1, -1, 1, 174]), (20, [0], [30, 64, 1, 1, 174]), (20, [4, 0], [30, -1, 1, 0, 0, -1, 3, 2005001])], [], [], [(20, [0, 19], [30, 0, 1, 1, 155, -1, 0, 0]), (20, [19, 0], [30, 0, 1, 0, 0, -1, 1, 156])], [], [(18, 5, 1, 1), (14, 5, 1, 1), (7, 8, -4294967296, -1), (7, 5, 1, 1)])
theorem oo_Mo_dots_10 {kA : Nat → ClassId} : or_ok PRD kA GG o_Mo_dots_10 := by
  refine or_mk fun A ta ws vs hD hth hl => ?_
  intro t0 r0 t4 k4 t5 k5 t6 k6 t7 k7 t8 k8 t9 k9 t11 k11 t13 k13 t14 k14 t15 k15 t17 k17 t18 k18 t19 k19 d0 d1 d2 d3 f0 f1 f2 f3 f4 f5 f6 f7 f8 f9 f10 f11 f12 f13 f14 f15 f16 f17 f18 f19 f20 f21 f22 f23 f24 f25 f26 f27 f28 f29 f30 f31
  have cr_0_62 := fdq_173 hD hth r0
  have cr_0_63 := fdq_174 hD hth r0
  have cr_0_64 := fdq_171 hD hth r0
  have cr_0_65 := fdq_292 hD hth r0
  have cr_0_66 := fdq_293 hD hth r0
  have hK_0_62 := elq_102 hD hth cr_0_62
  have hK_0_63 := elq_103 hD hth cr_0_63
  have hK_0_64 := elq_101 hD hth cr_0_64
  have hK_0_65 := elq_184 hD hth cr_0_65
  have hK_0_66 := elq_185 hD hth cr_0_66
  have kz_0_139 := fdq_172 hD hth r0
  have kz_0_153 := fdq_14 hD hth r0
  have kz_0_154 := fdq_15 hD hth r0
  have kz_0_155 := fdq_17 hD hth r0
  have kz_0_156 := fdq_18 hD hth r0
  have kz_0_173 := fdq_16 hD hth r0
  have kz_0_174 := fdq_19 hD hth r0
  have nf0 : fc_1 PRD (20, [0, 19], [30, 0, 1, 1, 155, -1, 0, 0]) ws (vs) := ⟨nf_in hl rfl, sgq_153 (vc_Mo_dots_10_0 (v_iv (n_v vs 4)) (v_iv (n_v vs 5)) (v_iv (n_v vs 6)) (v_iv (n_v vs 7)) (v_iv (n_v vs 8)) (v_iv (n_v vs 9)) (v_iv (n_v vs 11)) (v_iv (n_v vs 13)) (v_iv (n_v vs 14)) (v_iv (n_v vs 15)) (v_iv (n_v vs 17)) (v_iv (n_v vs 18)) (v_iv (n_v vs 19)) (w_ei ws (w_ar ws (n_v vs 0) 63)) (w_ei ws (w_ar ws (n_v vs 0) 2)) (w_fi ws (n_v vs 0) 139) (w_fi ws (n_v vs 0) 5) (w_ei ws (w_ar ws (n_v vs 0) 64)) (w_ei ws (w_ar ws (n_v vs 0) 66)) (w_fi ws (n_v vs 0) 153) (w_fi ws (n_v vs 0) 154) (w_ei ws (w_ar ws (n_v vs 0) 62)) (w_ei ws (w_ar ws (n_v vs 0) 65)) (w_fi ws (n_v vs 0) 155) (w_fi ws (n_v vs 0) 156) (w_fi ws (n_v vs 0) 173) (w_fi ws (n_v vs 0) 174) k4 k5 k6 k7 k8 k9 k11 k13 k14 k15 k17 k18 k19 d0 d1 d2 d3 (shm_1427 f0) (shm_1428 f1) (shm_1429 f2) (shm_1421 f3) (shm_12 f4) (shm_146 f5) (shm_147 f6) (shm_1423 f7) (shm_1424 f8) (shm_1425 f9) (shm_1421 f10) (shm_12 f11) (shm_153 f12) (shm_154 f13) (shm_1427 f14) (shm_1428 f15) (shm_1429 f16) (shm_146 f17) (shm_147 f18) (shm_1423 f19) (shm_1424 f20) (shm_1425 f21) (shm_1421 f22) (shm_6 f23) (shm_683 f24) (shm_12 f25) (shm_1845 f26) (shm_148 f27) (shm_149 f28) (shm_155 f29) (shm_156 f30) (shm_979 f31) hK_0_62 hK_0_63 hK_0_64 hK_0_65 hK_0_66 kz_0_139 kz_0_153 kz_0_154 kz_0_155 kz_0_156 kz_0_173 kz_0_174)⟩
  have nf1 : fc_1 PRD (20, [19, 0], [30, 0, 1, 0, 0, -1, 1, 156]) ws (vs) := ⟨nf_in hl rfl, sgq_154 (vc_Mo_dots_10_1 (v_iv (n_v vs 4)) (v_iv (n_v vs 5)) (v_iv (n_v vs 6)) (v_iv (n_v vs 7)) (v_iv (n_v vs 8)) (v_iv (n_v vs 9)) (v_iv (n_v vs 11)) (v_iv (n_v vs 13)) (v_iv (n_v vs 14)) (v_iv (n_v vs 15)) (v_iv (n_v vs 17)) (v_iv (n_v vs 18)) (v_iv (n_v vs 19)) (w_ei ws (w_ar ws (n_v vs 0) 63)) (w_ei ws (w_ar ws (n_v vs 0) 2)) (w_fi ws (n_v vs 0) 139) (w_fi ws (n_v vs 0) 5) (w_ei ws (w_ar ws (n_v vs 0) 64)) (w_ei ws (w_ar ws (n_v vs 0) 66)) (w_fi ws (n_v vs 0) 153) (w_fi ws (n_v vs 0) 154) (w_ei ws (w_ar ws (n_v vs 0) 62)) (w_ei ws (w_ar ws (n_v vs 0) 65)) (w_fi ws (n_v vs 0) 155) (w_fi ws (n_v vs 0) 156) (w_fi ws (n_v vs 0) 173) (w_fi ws (n_v vs 0) 174) k4 k5 k6 k7 k8 k9 k11 k13 k14 k15 k17 k18 k19 d0 d1 d2 d3 (shm_1427 f0) (shm_1428 f1) (shm_1429 f2) (shm_1421 f3) (shm_12 f4) (shm_146 f5) (shm_147 f6) (shm_1423 f7) (shm_1424 f8) (shm_1425 f9) (shm_1421 f10) (shm_12 f11) (shm_153 f12) (shm_154 f13) (shm_1427 f14) (shm_1428 f15) (shm_1429 f16) (shm_146 f17) (shm_147 f18) (shm_1423 f19) (shm_1424 f20) (shm_1425 f21) (shm_1421 f22) (shm_6 f23) (shm_683 f24) (shm_12 f25) (shm_1845 f26) (shm_148 f27) (shm_149 f28) (shm_155 f29) (shm_156 f30) (shm_979 f31) hK_0_62 hK_0_63 hK_0_64 hK_0_65 hK_0_66 kz_0_139 kz_0_153 kz_0_154 kz_0_155 kz_0_156 kz_0_173 kz_0_174)⟩
  refine ⟨(fun _ h => (by cases h)), [], trivial, ?_, (fun _ h => (by cases h))⟩
  rw [List.append_nil]
  exact List.forall_mem_cons.mpr ⟨⟨show (20 : Nat) < 100 from by decide, nf0⟩, List.forall_mem_cons.mpr ⟨⟨show (20 : Nat) < 100 from by decide, nf1⟩, (fun _ h => (by cases h))⟩⟩
set_option maxHeartbeats 4000000 in
theorem vc_Mo_dots_11_0 (x4 : Int) (x5 : Int) (x6 : Int) (x7 : Int) (x8 : Int) (x9 : Int) (x11 : Int) (x13 : Int) (x14 : Int) (x15 : Int) (nodeX_0 : Int → Int) (all_0 : Int → Int) (g0_0 : Int) (r_0 : Int) (bendMany_0 : Int → Int) (bendX_0 : Int → Int) (leastY_0 : Int) (mostY_0 : Int) (nodeY_0 : Int → Int) (bendY_0 : Int → Int) (leastX_0 : Int) (mostX_0 : Int) (dotWide_0 : Int) (dotTall_0 : Int) (k4 : 0 ≤ x4 ∧ x4 ≤ 47) (k5 : 1 ≤ x5 ∧ x5 ≤ 24) (k6 : 1 ≤ x6 ∧ x6 ≤ 1) (k7 : 2 ≤ x7 ∧ x7 ≤ 25) (k8 : 2 ≤ x8 ∧ x8 ≤ 26) (k9 : (-300000011) ≤ x9 ∧ x9 ≤ 221100000) (k11 : (-900000000) ≤ x11 ∧ x11 ≤ 900000000) (k13 : 1 ≤ x13 ∧ x13 ≤ 1) (k14 : 2 ≤ x14 ∧ x14 ≤ 25) (k15 : (-300000000) ≤ x15 ∧ x15 ≤ 300000000) (d0 : x5 + 1 ≤ x14 ∧ x14 ≤ x5 + 1) (d1 : x8 + (-4294967296) ≤ x7 ∧ x7 ≤ x8 + (-1)) (d2 : x5 + 1 ≤ x7 ∧ x7 ≤ x5 + 1) (f0 : (x14 = 0) → (x15 = nodeX_0 (((24 * g0_0) + all_0 (((r_0 + 267) + x4)))))) (f1 : (x14 = (bendMany_0 (((48 * g0_0) + x4)) + 1)) → (x15 = nodeX_0 (((24 * g0_0) + all_0 (((r_0 + 315) + x4)))))) (f2 : (x14 = 0) ∨ ((x14 = (bendMany_0 (((48 * g0_0) + x4)) + 1)) ∨ (x15 = bendX_0 (((24 * ((48 * g0_0) + x4)) + (x14 - 1)))))) (f3 : x14 ≤ (bendMany_0 (((48 * g0_0) + x4)) + 1)) (f4 : x14 = x5 + x13) (f5 : 1 * leastY_0 + ((-1) * x11 + 0) ≤ 0) (f6 : 1 * x11 + ((-1) * mostY_0 + 0) ≤ 0) (f7 : (x5 = 0) → (x11 = nodeY_0 (((24 * g0_0) + all_0 (((r_0 + 267) + x4)))))) (f8 : (x5 = (bendMany_0 (((48 * g0_0) + x4)) + 1)) → (x11 = nodeY_0 (((24 * g0_0) + all_0 (((r_0 + 315) + x4)))))) (f9 : (x5 = 0) ∨ ((x5 = (bendMany_0 (((48 * g0_0) + x4)) + 1)) ∨ (x11 = bendY_0 (((24 * ((48 * g0_0) + x4)) + (x5 - 1)))))) (f10 : 1 * leastX_0 + ((-1) * x9 + 0) ≤ 0) (f11 : 1 * x9 + ((-1) * mostX_0 + 0) ≤ 0) (f12 : (x5 = 0) → (x9 = nodeX_0 (((24 * g0_0) + all_0 (((r_0 + 267) + x4)))))) (f13 : (x5 = (bendMany_0 (((48 * g0_0) + x4)) + 1)) → (x9 = nodeX_0 (((24 * g0_0) + all_0 (((r_0 + 315) + x4)))))) (f14 : (x5 = 0) ∨ ((x5 = (bendMany_0 (((48 * g0_0) + x4)) + 1)) ∨ (x9 = bendX_0 (((24 * ((48 * g0_0) + x4)) + (x5 - 1)))))) (f15 : x5 ≤ (bendMany_0 (((48 * g0_0) + x4)) + 1)) (f16 : x7 < x8) (f17 : x8 = (bendMany_0 (((48 * g0_0) + x4)) + 2)) (f18 : x7 = x5 + x6) (f19 : BNA (leastX_0) (mostX_0) (leastY_0) (mostY_0) (g0_0) (r_0) (nodeX_0) (nodeY_0) (all_0) (bendMany_0) (bendX_0) (bendY_0)) (f20 : (-1) * dotWide_0 + 0 ≤ (-1)) (f21 : 1 * dotWide_0 + 0 ≤ 64) (f22 : (-1) * dotTall_0 + 0 ≤ (-1)) (f23 : 1 * dotTall_0 + 0 ≤ 64) (f24 : 1 * x4 + ((-1) * all_0 (r_0 + 1) + 0) ≤ (-1)) (hK_0_62 : ∀ j : Int, 0 ≤ j → j < 96 → (-300000000) ≤ nodeX_0 j ∧ nodeX_0 j ≤ 300000000) (hK_0_63 : ∀ j : Int, 0 ≤ j → j < 96 → (-300000000) ≤ nodeY_0 j ∧ nodeY_0 j ≤ 300000000) (hK_0_64 : ∀ j : Int, 0 ≤ j → j < 192 → 0 ≤ bendMany_0 j ∧ bendMany_0 j ≤ 24) (hK_0_65 : ∀ j : Int, 0 ≤ j → j < 4608 → (-300000011) ≤ bendX_0 j ∧ bendX_0 j ≤ 221100000) (hK_0_66 : ∀ j : Int, 0 ≤ j → j < 4608 → (-900000000) ≤ bendY_0 j ∧ bendY_0 j ≤ 900000000) (kz_0_139 : 0 ≤ g0_0 ∧ g0_0 ≤ 3) (kz_0_153 : (-2147483648) ≤ leastX_0 ∧ leastX_0 ≤ 300000000) (kz_0_154 : (-900000000) ≤ mostX_0 ∧ mostX_0 ≤ 2147483647) (kz_0_155 : (-2147483648) ≤ leastY_0 ∧ leastY_0 ≤ 300000000) (kz_0_156 : (-900000000) ≤ mostY_0 ∧ mostY_0 ≤ 2147483647) (kz_0_173 : 0 ≤ dotWide_0 ∧ dotWide_0 ≤ 64) (kz_0_174 : 0 ≤ dotTall_0 ∧ dotTall_0 ≤ 64) : 1 * leastX_0 + ((-1) * x15 + 0) ≤ 0 := by
  first
    | assumption
    | (clear f0 f1 f2 f7 f8 f9 f12 f13 f14 hK_0_62 hK_0_63 hK_0_64 hK_0_65 hK_0_66; omega)
    | exact (bna_x ‹BNA _ _ _ _ _ _ _ _ _ _ _ _› (by assumption) (by assumption) (by assumption) (by assumption) (by assumption) (by assumption) (by assumption) (by omega) (by omega)).1
    | exact (bna_x ‹BNA _ _ _ _ _ _ _ _ _ _ _ _› (by assumption) (by assumption) (by assumption) (by assumption) (by assumption) (by assumption) (by assumption) (by omega) (by omega)).2
    | exact (bna_y ‹BNA _ _ _ _ _ _ _ _ _ _ _ _› (by assumption) (by assumption) (by assumption) (by assumption) (by assumption) (by assumption) (by assumption) (by omega) (by omega)).1
    | exact (bna_y ‹BNA _ _ _ _ _ _ _ _ _ _ _ _› (by assumption) (by assumption) (by assumption) (by assumption) (by assumption) (by assumption) (by assumption) (by omega) (by omega)).2
    | exact (bna_nx ‹BNA _ _ _ _ _ _ _ _ _ _ _ _› (by assumption) (by clear f0 f1 f2 f7 f8 f9 f12 f13 f14 hK_0_62 hK_0_63 hK_0_64 hK_0_65 hK_0_66; omega) (by clear f0 f1 f2 f7 f8 f9 f12 f13 f14 hK_0_62 hK_0_63 hK_0_64 hK_0_65 hK_0_66; omega)).1
    | exact (bna_nx ‹BNA _ _ _ _ _ _ _ _ _ _ _ _› (by assumption) (by clear f0 f1 f2 f7 f8 f9 f12 f13 f14 hK_0_62 hK_0_63 hK_0_64 hK_0_65 hK_0_66; omega) (by clear f0 f1 f2 f7 f8 f9 f12 f13 f14 hK_0_62 hK_0_63 hK_0_64 hK_0_65 hK_0_66; omega)).2
    | exact (bna_ny ‹BNA _ _ _ _ _ _ _ _ _ _ _ _› (by assumption) (by clear f0 f1 f2 f7 f8 f9 f12 f13 f14 hK_0_62 hK_0_63 hK_0_64 hK_0_65 hK_0_66; omega) (by clear f0 f1 f2 f7 f8 f9 f12 f13 f14 hK_0_62 hK_0_63 hK_0_64 hK_0_65 hK_0_66; omega)).1
    | exact (bna_ny ‹BNA _ _ _ _ _ _ _ _ _ _ _ _› (by assumption) (by clear f0 f1 f2 f7 f8 f9 f12 f13 f14 hK_0_62 hK_0_63 hK_0_64 hK_0_65 hK_0_66; omega) (by clear f0 f1 f2 f7 f8 f9 f12 f13 f14 hK_0_62 hK_0_63 hK_0_64 hK_0_65 hK_0_66; omega)).2
    | omega
set_option maxHeartbeats 4000000 in
theorem vc_Mo_dots_11_1 (x4 : Int) (x5 : Int) (x6 : Int) (x7 : Int) (x8 : Int) (x9 : Int) (x11 : Int) (x13 : Int) (x14 : Int) (x15 : Int) (nodeX_0 : Int → Int) (all_0 : Int → Int) (g0_0 : Int) (r_0 : Int) (bendMany_0 : Int → Int) (bendX_0 : Int → Int) (leastY_0 : Int) (mostY_0 : Int) (nodeY_0 : Int → Int) (bendY_0 : Int → Int) (leastX_0 : Int) (mostX_0 : Int) (dotWide_0 : Int) (dotTall_0 : Int) (k4 : 0 ≤ x4 ∧ x4 ≤ 47) (k5 : 1 ≤ x5 ∧ x5 ≤ 24) (k6 : 1 ≤ x6 ∧ x6 ≤ 1) (k7 : 2 ≤ x7 ∧ x7 ≤ 25) (k8 : 2 ≤ x8 ∧ x8 ≤ 26) (k9 : (-300000011) ≤ x9 ∧ x9 ≤ 221100000) (k11 : (-900000000) ≤ x11 ∧ x11 ≤ 900000000) (k13 : 1 ≤ x13 ∧ x13 ≤ 1) (k14 : 2 ≤ x14 ∧ x14 ≤ 25) (k15 : (-300000000) ≤ x15 ∧ x15 ≤ 300000000) (d0 : x5 + 1 ≤ x14 ∧ x14 ≤ x5 + 1) (d1 : x8 + (-4294967296) ≤ x7 ∧ x7 ≤ x8 + (-1)) (d2 : x5 + 1 ≤ x7 ∧ x7 ≤ x5 + 1) (f0 : (x14 = 0) → (x15 = nodeX_0 (((24 * g0_0) + all_0 (((r_0 + 267) + x4)))))) (f1 : (x14 = (bendMany_0 (((48 * g0_0) + x4)) + 1)) → (x15 = nodeX_0 (((24 * g0_0) + all_0 (((r_0 + 315) + x4)))))) (f2 : (x14 = 0) ∨ ((x14 = (bendMany_0 (((48 * g0_0) + x4)) + 1)) ∨ (x15 = bendX_0 (((24 * ((48 * g0_0) + x4)) + (x14 - 1)))))) (f3 : x14 ≤ (bendMany_0 (((48 * g0_0) + x4)) + 1)) (f4 : x14 = x5 + x13) (f5 : 1 * leastY_0 + ((-1) * x11 + 0) ≤ 0) (f6 : 1 * x11 + ((-1) * mostY_0 + 0) ≤ 0) (f7 : (x5 = 0) → (x11 = nodeY_0 (((24 * g0_0) + all_0 (((r_0 + 267) + x4)))))) (f8 : (x5 = (bendMany_0 (((48 * g0_0) + x4)) + 1)) → (x11 = nodeY_0 (((24 * g0_0) + all_0 (((r_0 + 315) + x4)))))) (f9 : (x5 = 0) ∨ ((x5 = (bendMany_0 (((48 * g0_0) + x4)) + 1)) ∨ (x11 = bendY_0 (((24 * ((48 * g0_0) + x4)) + (x5 - 1)))))) (f10 : 1 * leastX_0 + ((-1) * x9 + 0) ≤ 0) (f11 : 1 * x9 + ((-1) * mostX_0 + 0) ≤ 0) (f12 : (x5 = 0) → (x9 = nodeX_0 (((24 * g0_0) + all_0 (((r_0 + 267) + x4)))))) (f13 : (x5 = (bendMany_0 (((48 * g0_0) + x4)) + 1)) → (x9 = nodeX_0 (((24 * g0_0) + all_0 (((r_0 + 315) + x4)))))) (f14 : (x5 = 0) ∨ ((x5 = (bendMany_0 (((48 * g0_0) + x4)) + 1)) ∨ (x9 = bendX_0 (((24 * ((48 * g0_0) + x4)) + (x5 - 1)))))) (f15 : x5 ≤ (bendMany_0 (((48 * g0_0) + x4)) + 1)) (f16 : x7 < x8) (f17 : x8 = (bendMany_0 (((48 * g0_0) + x4)) + 2)) (f18 : x7 = x5 + x6) (f19 : BNA (leastX_0) (mostX_0) (leastY_0) (mostY_0) (g0_0) (r_0) (nodeX_0) (nodeY_0) (all_0) (bendMany_0) (bendX_0) (bendY_0)) (f20 : (-1) * dotWide_0 + 0 ≤ (-1)) (f21 : 1 * dotWide_0 + 0 ≤ 64) (f22 : (-1) * dotTall_0 + 0 ≤ (-1)) (f23 : 1 * dotTall_0 + 0 ≤ 64) (f24 : 1 * x4 + ((-1) * all_0 (r_0 + 1) + 0) ≤ (-1)) (hK_0_62 : ∀ j : Int, 0 ≤ j → j < 96 → (-300000000) ≤ nodeX_0 j ∧ nodeX_0 j ≤ 300000000) (hK_0_63 : ∀ j : Int, 0 ≤ j → j < 96 → (-300000000) ≤ nodeY_0 j ∧ nodeY_0 j ≤ 300000000) (hK_0_64 : ∀ j : Int, 0 ≤ j → j < 192 → 0 ≤ bendMany_0 j ∧ bendMany_0 j ≤ 24) (hK_0_65 : ∀ j : Int, 0 ≤ j → j < 4608 → (-300000011) ≤ bendX_0 j ∧ bendX_0 j ≤ 221100000) (hK_0_66 : ∀ j : Int, 0 ≤ j → j < 4608 → (-900000000) ≤ bendY_0 j ∧ bendY_0 j ≤ 900000000) (kz_0_139 : 0 ≤ g0_0 ∧ g0_0 ≤ 3) (kz_0_153 : (-2147483648) ≤ leastX_0 ∧ leastX_0 ≤ 300000000) (kz_0_154 : (-900000000) ≤ mostX_0 ∧ mostX_0 ≤ 2147483647) (kz_0_155 : (-2147483648) ≤ leastY_0 ∧ leastY_0 ≤ 300000000) (kz_0_156 : (-900000000) ≤ mostY_0 ∧ mostY_0 ≤ 2147483647) (kz_0_173 : 0 ≤ dotWide_0 ∧ dotWide_0 ≤ 64) (kz_0_174 : 0 ≤ dotTall_0 ∧ dotTall_0 ≤ 64) : 1 * x15 + ((-1) * mostX_0 + 0) ≤ 0 := by
  first
    | assumption
    | (clear f0 f1 f2 f7 f8 f9 f12 f13 f14 hK_0_62 hK_0_63 hK_0_64 hK_0_65 hK_0_66; omega)
    | exact (bna_x ‹BNA _ _ _ _ _ _ _ _ _ _ _ _› (by assumption) (by assumption) (by assumption) (by assumption) (by assumption) (by assumption) (by assumption) (by omega) (by omega)).1
    | exact (bna_x ‹BNA _ _ _ _ _ _ _ _ _ _ _ _› (by assumption) (by assumption) (by assumption) (by assumption) (by assumption) (by assumption) (by assumption) (by omega) (by omega)).2
    | exact (bna_y ‹BNA _ _ _ _ _ _ _ _ _ _ _ _› (by assumption) (by assumption) (by assumption) (by assumption) (by assumption) (by assumption) (by assumption) (by omega) (by omega)).1
    | exact (bna_y ‹BNA _ _ _ _ _ _ _ _ _ _ _ _› (by assumption) (by assumption) (by assumption) (by assumption) (by assumption) (by assumption) (by assumption) (by omega) (by omega)).2
    | exact (bna_nx ‹BNA _ _ _ _ _ _ _ _ _ _ _ _› (by assumption) (by clear f0 f1 f2 f7 f8 f9 f12 f13 f14 hK_0_62 hK_0_63 hK_0_64 hK_0_65 hK_0_66; omega) (by clear f0 f1 f2 f7 f8 f9 f12 f13 f14 hK_0_62 hK_0_63 hK_0_64 hK_0_65 hK_0_66; omega)).1
    | exact (bna_nx ‹BNA _ _ _ _ _ _ _ _ _ _ _ _› (by assumption) (by clear f0 f1 f2 f7 f8 f9 f12 f13 f14 hK_0_62 hK_0_63 hK_0_64 hK_0_65 hK_0_66; omega) (by clear f0 f1 f2 f7 f8 f9 f12 f13 f14 hK_0_62 hK_0_63 hK_0_64 hK_0_65 hK_0_66; omega)).2
    | exact (bna_ny ‹BNA _ _ _ _ _ _ _ _ _ _ _ _› (by assumption) (by clear f0 f1 f2 f7 f8 f9 f12 f13 f14 hK_0_62 hK_0_63 hK_0_64 hK_0_65 hK_0_66; omega) (by clear f0 f1 f2 f7 f8 f9 f12 f13 f14 hK_0_62 hK_0_63 hK_0_64 hK_0_65 hK_0_66; omega)).1
    | exact (bna_ny ‹BNA _ _ _ _ _ _ _ _ _ _ _ _› (by assumption) (by clear f0 f1 f2 f7 f8 f9 f12 f13 f14 hK_0_62 hK_0_63 hK_0_64 hK_0_65 hK_0_66; omega) (by clear f0 f1 f2 f7 f8 f9 f12 f13 f14 hK_0_62 hK_0_63 hK_0_64 hK_0_65 hK_0_66; omega)).2
    | omega
def o_Mo_dots_11 : or_T := (133, 16, [(0, (2, 0, 0, [165])), (4, (0, 0, 47, [])), (5, (0, 1, 24, [])), (6, (0, 1, 1, [])), (7, (0, 2, 25, [])), (8, (0, 2, 26, [])), (9, (0, -300000011, 221100000, [])), (11, (0, -900000000, 900000000, [])), (13, (0, 1, 1, [])), (14, (0, 2, 25, [])), (15, (0, -300000000, 300000000, []))], [(20, [14, 15, 0, 4], [50, 2, 2, 2139, 2005, 2062, 2002, 4, 6, 1, 2, 1, 0, 0, 0, 1, 2, 1, 1, 3, 2, 62, 4, 7, 6, 2, 0, 24, 2, 2, 139, 3, 2, 2, 4, 7, 4, 3, 2, 2, 5, 0, 267, 1, 3]), (20, [14, 0, 4, 15], [50, 2, 3, 1139, 1005, 1064, 1062, 1002, 4, 22, 1, 2, 1, 0, 4, 14, 3, 1, 64, 4, 7, 6, 2, 0, 48, 2, 1, 139, 1, 2, 0, 1, 1, 2, 1, 3, 3, 1, 62, 4, 7, 6, 2, 0, 24, 2, 1, 139, 3, 1, 2, 4, 7, 4, 3, 2, 1, 5, 0, 315, 1, 2]), (20, [14, 0, 4, 15], [50, 1, 2, 1139, 1064, 1065, 3, 6, 1, 2, 1, 0, 0, 0, 3, 22, 1, 2, 1, 0, 4, 14, 3, 1, 64, 4, 7, 6, 2, 0, 48, 2, 1, 139, 1, 2, 0, 1, 1, 2, 1, 3, 3, 1, 65, 4, 15, 6, 2, 0, 24, 4, 7, 6, 2, 0, 48, 2, 1, 139, 1, 2, 5, 2, 1, 0, 0, 1]), (20, [14, 0, 4], [50, 1, 1, 1139, 1064, 0, 2, 1, 0, 4, 14, 3, 1, 64, 4, 7, 6, 2, 0, 48, 2, 1, 139, 1, 2, 0, 1]), (1, [14, 5, 13], []), (20, [0, 11], [30, 0, 1, 1, 155, -1, 0, 0]), (20, [11, 0], [30, 0, 1, 0, 0, -1, 1, 156]), (20, [5, 11, 0, 4], [50, 2, 2, 2139, 2005, 2063, 2002, 4, 6, 1, 2, 1, 0, 0, 0, 1, 2, 1, 1, 3, 2, 63, 4, 7, 6, 2, 0, 24, 2, 2, 139, 3, 2, 2, 4, 7, 4, 3, 2, 2, 5, 0, 267, 1, 3]), (20, [5, 0, 4, 11], [50, 2, 3, 1139, 1005, 1064, 1063, 1002, 4, 22, 1, 2, 1, 0, 4, 14, 3, 1, 64, 4, 7, 6, 2, 0, 48, 2, 1, 139, 1, 2, 0, 1, 1, 2, 1, 3, 3, 1, 63, 4, 7, 6, 2, 0, 24, 2, 1, 139, 3, 1, 2, 4, 7, 4, 3, 2, 1, 5, 0, 315, 1, 2]), (20, [5, 0, 4, 11], [50, 1, 2, 1139, 1064, 1066, 3, 6, 1, 2, 1, 0, 0, 0, 3, 22, 1, 2, 1, 0, 4, 14, 3, 1, 64, 4, 7, 6, 2, 0, 48, 2, 1, 139, 1, 2, 0, 1, 1, 2, 1, 3, 3, 1, 66, 4, 15, 6, 2, 0, 24, 4, 7, 6, 2, 0, 48, 2, 1, 139, 1, 2, 5, 2, 1, 0, 0, 1]), (20, [0, 9], [30, 0, 1, 1, 153, -1, 0, 0]), (20, [9, 0], [30, 0, 1, 0, 0, -1, 1, 154]), (20, [5, 9, 0, 4], [50, 2, 2, 2139, 2005, 2062, 2002, 4, 6, 1, 2, 1, 0, 0, 0, 1, 2, 1, 1, 3, 2, 62, 4, 7, 6, 2, 0, 24, 2, 2, 139, 3, 2, 2, 4, 7, 4, 3, 2, 2, 5, 0, 267, 1, 3]), (20, [5, 0, 4, 9], [50, 2, 3, 1139, 1005, 1064, 1062, 1002, 4, 22, 1, 2, 1, 0, 4, 14, 3, 1, 64, 4, 7, 6, 2, 0, 48, 2, 1, 139, 1, 2, 0, 1, 1, 2, 1, 3, 3, 1, 62, 4, 7, 6, 2, 0, 24, 2, 1, 139, 3, 1, 2, 4, 7, 4, 3, 2, 1, 5, 0, 315, 1, 2]), (20, [5, 0, 4, 9], [50, 1, 2, 1139, 1064, 1065, 3, 6, 1, 2, 1, 0, 0, 0, 3, 22, 1, 2, 1, 0, 4, 14, 3, 1, 64, 4, 7, 6, 2, 0, 48, 2, 1, 139, 1, 2, 0, 1, 1, 2, 1, 3, 3, 1, 65, 4, 15, 6, 2, 0, 24, 4, 7, 6, 2, 0, 48, 2, 1, 139, 1, 2, 5, 2, 1, 0, 0, 1]), (20, [5, 0, 4], [50, 1, 1, 1139, 1064, 0, 2, 1, 0, 4, 14, 3, 1, 64, 4, 7, 6, 2, 0, 48, 2, 1, 139, 1, 2, 0, 1]), (7, [7, 8], [2]), (20, [8, 0, 4], [50, 1, 1, 1139, 1064, 1, 2, 1, 0, 4, 14, 3, 1, 64, 4, 7, 6, 2, 0, 48, 2, 1, 139, 1, 2, 0, 2]), (1, [7, 5, 6], []), (20, [0], [60, 6, 6, 945, 153, 154, 155, 156, 139, 5, 62, 63, 2, 64, 65, 66]), (20, [0], [30, -1, -1, 1, 173]), (20, [0], [30, 64, 1, 1, 173]), (20, [0], [30, -1, -1, 1, 174]), (20, [0], [30, 64, 1, 1, 174]), (20, [4, 0], [30, -1, 1, 0, 0, -1, 3, 2005001])], [], [], [(20, [0, 15], [30, 0, 1, 1, 153, -1, 0, 0]), (20, [15, 0], [30, 0, 1, 0, 0, -1, 1, 154])], [], [(14, 5, 1, 1), (7, 8, -4294967296, -1), (7, 5, 1, 1)])
theorem oo_Mo_dots_11 {kA : Nat → ClassId} : or_ok PRD kA GG o_Mo_dots_11 := by
  refine or_mk fun A ta ws vs hD hth hl => ?_
  intro t0 r0 t4 k4 t5 k5 t6 k6 t7 k7 t8 k8 t9 k9 t11 k11 t13 k13 t14 k14 t15 k15 d0 d1 d2 f0 f1 f2 f3 f4 f5 f6 f7 f8 f9 f10 f11 f12 f13 f14 f15 f16 f17 f18 f19 f20 f21 f22 f23 f24
  have cr_0_62 := fdq_173 hD hth r0
  have cr_0_63 := fdq_174 hD hth r0
  have cr_0_64 := fdq_171 hD hth r0
  have cr_0_65 := fdq_292 hD hth r0
  have cr_0_66 := fdq_293 hD hth r0
  have hK_0_62 := elq_102 hD hth cr_0_62
  have hK_0_63 := elq_103 hD hth cr_0_63
  have hK_0_64 := elq_101 hD hth cr_0_64
  have hK_0_65 := elq_184 hD hth cr_0_65
  have hK_0_66 := elq_185 hD hth cr_0_66
  have kz_0_139 := fdq_172 hD hth r0
  have kz_0_153 := fdq_14 hD hth r0
  have kz_0_154 := fdq_15 hD hth r0
  have kz_0_155 := fdq_17 hD hth r0
  have kz_0_156 := fdq_18 hD hth r0
  have kz_0_173 := fdq_16 hD hth r0
  have kz_0_174 := fdq_19 hD hth r0
  have nf0 : fc_1 PRD (20, [0, 15], [30, 0, 1, 1, 153, -1, 0, 0]) ws (vs) := ⟨nf_in hl rfl, sgq_146 (vc_Mo_dots_11_0 (v_iv (n_v vs 4)) (v_iv (n_v vs 5)) (v_iv (n_v vs 6)) (v_iv (n_v vs 7)) (v_iv (n_v vs 8)) (v_iv (n_v vs 9)) (v_iv (n_v vs 11)) (v_iv (n_v vs 13)) (v_iv (n_v vs 14)) (v_iv (n_v vs 15)) (w_ei ws (w_ar ws (n_v vs 0) 62)) (w_ei ws (w_ar ws (n_v vs 0) 2)) (w_fi ws (n_v vs 0) 139) (w_fi ws (n_v vs 0) 5) (w_ei ws (w_ar ws (n_v vs 0) 64)) (w_ei ws (w_ar ws (n_v vs 0) 65)) (w_fi ws (n_v vs 0) 155) (w_fi ws (n_v vs 0) 156) (w_ei ws (w_ar ws (n_v vs 0) 63)) (w_ei ws (w_ar ws (n_v vs 0) 66)) (w_fi ws (n_v vs 0) 153) (w_fi ws (n_v vs 0) 154) (w_fi ws (n_v vs 0) 173) (w_fi ws (n_v vs 0) 174) k4 k5 k6 k7 k8 k9 k11 k13 k14 k15 d0 d1 d2 (shm_1423 f0) (shm_1424 f1) (shm_1425 f2) (shm_1421 f3) (shm_12 f4) (shm_153 f5) (shm_154 f6) (shm_1427 f7) (shm_1428 f8) (shm_1429 f9) (shm_146 f10) (shm_147 f11) (shm_1423 f12) (shm_1424 f13) (shm_1425 f14) (shm_1421 f15) (shm_6 f16) (shm_683 f17) (shm_12 f18) (shm_1845 f19) (shm_148 f20) (shm_149 f21) (shm_155 f22) (shm_156 f23) (shm_979 f24) hK_0_62 hK_0_63 hK_0_64 hK_0_65 hK_0_66 kz_0_139 kz_0_153 kz_0_154 kz_0_155 kz_0_156 kz_0_173 kz_0_174)⟩
  have nf1 : fc_1 PRD (20, [15, 0], [30, 0, 1, 0, 0, -1, 1, 154]) ws (vs) := ⟨nf_in hl rfl, sgq_147 (vc_Mo_dots_11_1 (v_iv (n_v vs 4)) (v_iv (n_v vs 5)) (v_iv (n_v vs 6)) (v_iv (n_v vs 7)) (v_iv (n_v vs 8)) (v_iv (n_v vs 9)) (v_iv (n_v vs 11)) (v_iv (n_v vs 13)) (v_iv (n_v vs 14)) (v_iv (n_v vs 15)) (w_ei ws (w_ar ws (n_v vs 0) 62)) (w_ei ws (w_ar ws (n_v vs 0) 2)) (w_fi ws (n_v vs 0) 139) (w_fi ws (n_v vs 0) 5) (w_ei ws (w_ar ws (n_v vs 0) 64)) (w_ei ws (w_ar ws (n_v vs 0) 65)) (w_fi ws (n_v vs 0) 155) (w_fi ws (n_v vs 0) 156) (w_ei ws (w_ar ws (n_v vs 0) 63)) (w_ei ws (w_ar ws (n_v vs 0) 66)) (w_fi ws (n_v vs 0) 153) (w_fi ws (n_v vs 0) 154) (w_fi ws (n_v vs 0) 173) (w_fi ws (n_v vs 0) 174) k4 k5 k6 k7 k8 k9 k11 k13 k14 k15 d0 d1 d2 (shm_1423 f0) (shm_1424 f1) (shm_1425 f2) (shm_1421 f3) (shm_12 f4) (shm_153 f5) (shm_154 f6) (shm_1427 f7) (shm_1428 f8) (shm_1429 f9) (shm_146 f10) (shm_147 f11) (shm_1423 f12) (shm_1424 f13) (shm_1425 f14) (shm_1421 f15) (shm_6 f16) (shm_683 f17) (shm_12 f18) (shm_1845 f19) (shm_148 f20) (shm_149 f21) (shm_155 f22) (shm_156 f23) (shm_979 f24) hK_0_62 hK_0_63 hK_0_64 hK_0_65 hK_0_66 kz_0_139 kz_0_153 kz_0_154 kz_0_155 kz_0_156 kz_0_173 kz_0_174)⟩
  refine ⟨(fun _ h => (by cases h)), [], trivial, ?_, (fun _ h => (by cases h))⟩
  rw [List.append_nil]
  exact List.forall_mem_cons.mpr ⟨⟨show (20 : Nat) < 100 from by decide, nf0⟩, List.forall_mem_cons.mpr ⟨⟨show (20 : Nat) < 100 from by decide, nf1⟩, (fun _ h => (by cases h))⟩⟩
set_option maxHeartbeats 4000000 in
theorem vc_Mo_dots_12_0 (x4 : Int) (x5 : Int) (x6 : Int) (x7 : Int) (x8 : Int) (x9 : Int) (x11 : Int) (x13 : Int) (x14 : Int) (x15 : Int) (x17 : Int) (x18 : Int) (leastX_0 : Int) (mostX_0 : Int) (nodeX_0 : Int → Int) (all_0 : Int → Int) (g0_0 : Int) (r_0 : Int) (bendMany_0 : Int → Int) (bendX_0 : Int → Int) (leastY_0 : Int) (mostY_0 : Int) (nodeY_0 : Int → Int) (bendY_0 : Int → Int) (dotWide_0 : Int) (dotTall_0 : Int) (k4 : 0 ≤ x4 ∧ x4 ≤ 47) (k5 : 1 ≤ x5 ∧ x5 ≤ 24) (k6 : 1 ≤ x6 ∧ x6 ≤ 1) (k7 : 2 ≤ x7 ∧ x7 ≤ 25) (k8 : 2 ≤ x8 ∧ x8 ≤ 26) (k9 : (-300000011) ≤ x9 ∧ x9 ≤ 221100000) (k11 : (-900000000) ≤ x11 ∧ x11 ≤ 900000000) (k13 : 1 ≤ x13 ∧ x13 ≤ 1) (k14 : 2 ≤ x14 ∧ x14 ≤ 25) (k15 : (-300000000) ≤ x15 ∧ x15 ≤ 300000000) (k17 : 1 ≤ x17 ∧ x17 ≤ 1) (k18 : 2 ≤ x18 ∧ x18 ≤ 25) (d0 : x5 + 1 ≤ x18 ∧ x18 ≤ x5 + 1) (d1 : x5 + 1 ≤ x14 ∧ x14 ≤ x5 + 1) (d2 : x8 + (-4294967296) ≤ x7 ∧ x7 ≤ x8 + (-1)) (d3 : x5 + 1 ≤ x7 ∧ x7 ≤ x5 + 1) (f0 : x18 = x5 + x17) (f1 : 1 * leastX_0 + ((-1) * x15 + 0) ≤ 0) (f2 : 1 * x15 + ((-1) * mostX_0 + 0) ≤ 0) (f3 : (x14 = 0) → (x15 = nodeX_0 (((24 * g0_0) + all_0 (((r_0 + 267) + x4)))))) (f4 : (x14 = (bendMany_0 (((48 * g0_0) + x4)) + 1)) → (x15 = nodeX_0 (((24 * g0_0) + all_0 (((r_0 + 315) + x4)))))) (f5 : (x14 = 0) ∨ ((x14 = (bendMany_0 (((48 * g0_0) + x4)) + 1)) ∨ (x15 = bendX_0 (((24 * ((48 * g0_0) + x4)) + (x14 - 1)))))) (f6 : x14 ≤ (bendMany_0 (((48 * g0_0) + x4)) + 1)) (f7 : x14 = x5 + x13) (f8 : 1 * leastY_0 + ((-1) * x11 + 0) ≤ 0) (f9 : 1 * x11 + ((-1) * mostY_0 + 0) ≤ 0) (f10 : (x5 = 0) → (x11 = nodeY_0 (((24 * g0_0) + all_0 (((r_0 + 267) + x4)))))) (f11 : (x5 = (bendMany_0 (((48 * g0_0) + x4)) + 1)) → (x11 = nodeY_0 (((24 * g0_0) + all_0 (((r_0 + 315) + x4)))))) (f12 : (x5 = 0) ∨ ((x5 = (bendMany_0 (((48 * g0_0) + x4)) + 1)) ∨ (x11 = bendY_0 (((24 * ((48 * g0_0) + x4)) + (x5 - 1)))))) (f13 : 1 * leastX_0 + ((-1) * x9 + 0) ≤ 0) (f14 : 1 * x9 + ((-1) * mostX_0 + 0) ≤ 0) (f15 : (x5 = 0) → (x9 = nodeX_0 (((24 * g0_0) + all_0 (((r_0 + 267) + x4)))))) (f16 : (x5 = (bendMany_0 (((48 * g0_0) + x4)) + 1)) → (x9 = nodeX_0 (((24 * g0_0) + all_0 (((r_0 + 315) + x4)))))) (f17 : (x5 = 0) ∨ ((x5 = (bendMany_0 (((48 * g0_0) + x4)) + 1)) ∨ (x9 = bendX_0 (((24 * ((48 * g0_0) + x4)) + (x5 - 1)))))) (f18 : x5 ≤ (bendMany_0 (((48 * g0_0) + x4)) + 1)) (f19 : x7 < x8) (f20 : x8 = (bendMany_0 (((48 * g0_0) + x4)) + 2)) (f21 : x7 = x5 + x6) (f22 : BNA (leastX_0) (mostX_0) (leastY_0) (mostY_0) (g0_0) (r_0) (nodeX_0) (nodeY_0) (all_0) (bendMany_0) (bendX_0) (bendY_0)) (f23 : (-1) * dotWide_0 + 0 ≤ (-1)) (f24 : 1 * dotWide_0 + 0 ≤ 64) (f25 : (-1) * dotTall_0 + 0 ≤ (-1)) (f26 : 1 * dotTall_0 + 0 ≤ 64) (f27 : 1 * x4 + ((-1) * all_0 (r_0 + 1) + 0) ≤ (-1)) (hK_0_62 : ∀ j : Int, 0 ≤ j → j < 96 → (-300000000) ≤ nodeX_0 j ∧ nodeX_0 j ≤ 300000000) (hK_0_63 : ∀ j : Int, 0 ≤ j → j < 96 → (-300000000) ≤ nodeY_0 j ∧ nodeY_0 j ≤ 300000000) (hK_0_64 : ∀ j : Int, 0 ≤ j → j < 192 → 0 ≤ bendMany_0 j ∧ bendMany_0 j ≤ 24) (hK_0_65 : ∀ j : Int, 0 ≤ j → j < 4608 → (-300000011) ≤ bendX_0 j ∧ bendX_0 j ≤ 221100000) (hK_0_66 : ∀ j : Int, 0 ≤ j → j < 4608 → (-900000000) ≤ bendY_0 j ∧ bendY_0 j ≤ 900000000) (kz_0_139 : 0 ≤ g0_0 ∧ g0_0 ≤ 3) (kz_0_153 : (-2147483648) ≤ leastX_0 ∧ leastX_0 ≤ 300000000) (kz_0_154 : (-900000000) ≤ mostX_0 ∧ mostX_0 ≤ 2147483647) (kz_0_155 : (-2147483648) ≤ leastY_0 ∧ leastY_0 ≤ 300000000) (kz_0_156 : (-900000000) ≤ mostY_0 ∧ mostY_0 ≤ 2147483647) (kz_0_173 : 0 ≤ dotWide_0 ∧ dotWide_0 ≤ 64) (kz_0_174 : 0 ≤ dotTall_0 ∧ dotTall_0 ≤ 64) : x18 ≤ (bendMany_0 (((48 * g0_0) + x4)) + 1) := by
  first
    | assumption
    | (clear f3 f4 f5 f10 f11 f12 f15 f16 f17 hK_0_62 hK_0_63 hK_0_64 hK_0_65 hK_0_66; omega)
    | exact (bna_x ‹BNA _ _ _ _ _ _ _ _ _ _ _ _› (by assumption) (by assumption) (by assumption) (by assumption) (by assumption) (by assumption) (by assumption) (by omega) (by omega)).1
    | exact (bna_x ‹BNA _ _ _ _ _ _ _ _ _ _ _ _› (by assumption) (by assumption) (by assumption) (by assumption) (by assumption) (by assumption) (by assumption) (by omega) (by omega)).2
    | exact (bna_y ‹BNA _ _ _ _ _ _ _ _ _ _ _ _› (by assumption) (by assumption) (by assumption) (by assumption) (by assumption) (by assumption) (by assumption) (by omega) (by omega)).1
    | exact (bna_y ‹BNA _ _ _ _ _ _ _ _ _ _ _ _› (by assumption) (by assumption) (by assumption) (by assumption) (by assumption) (by assumption) (by assumption) (by omega) (by omega)).2
    | exact (bna_nx ‹BNA _ _ _ _ _ _ _ _ _ _ _ _› (by assumption) (by clear f3 f4 f5 f10 f11 f12 f15 f16 f17 hK_0_62 hK_0_63 hK_0_64 hK_0_65 hK_0_66; omega) (by clear f3 f4 f5 f10 f11 f12 f15 f16 f17 hK_0_62 hK_0_63 hK_0_64 hK_0_65 hK_0_66; omega)).1
    | exact (bna_nx ‹BNA _ _ _ _ _ _ _ _ _ _ _ _› (by assumption) (by clear f3 f4 f5 f10 f11 f12 f15 f16 f17 hK_0_62 hK_0_63 hK_0_64 hK_0_65 hK_0_66; omega) (by clear f3 f4 f5 f10 f11 f12 f15 f16 f17 hK_0_62 hK_0_63 hK_0_64 hK_0_65 hK_0_66; omega)).2
    | exact (bna_ny ‹BNA _ _ _ _ _ _ _ _ _ _ _ _› (by assumption) (by clear f3 f4 f5 f10 f11 f12 f15 f16 f17 hK_0_62 hK_0_63 hK_0_64 hK_0_65 hK_0_66; omega) (by clear f3 f4 f5 f10 f11 f12 f15 f16 f17 hK_0_62 hK_0_63 hK_0_64 hK_0_65 hK_0_66; omega)).1
    | exact (bna_ny ‹BNA _ _ _ _ _ _ _ _ _ _ _ _› (by assumption) (by clear f3 f4 f5 f10 f11 f12 f15 f16 f17 hK_0_62 hK_0_63 hK_0_64 hK_0_65 hK_0_66; omega) (by clear f3 f4 f5 f10 f11 f12 f15 f16 f17 hK_0_62 hK_0_63 hK_0_64 hK_0_65 hK_0_66; omega)).2
    | omega
def o_Mo_dots_12 : or_T := (144, 19, [(0, (2, 0, 0, [165])), (4, (0, 0, 47, [])), (5, (0, 1, 24, [])), (6, (0, 1, 1, [])), (7, (0, 2, 25, [])), (8, (0, 2, 26, [])), (9, (0, -300000011, 221100000, [])), (11, (0, -900000000, 900000000, [])), (13, (0, 1, 1, [])), (14, (0, 2, 25, [])), (15, (0, -300000000, 300000000, [])), (17, (0, 1, 1, [])), (18, (0, 2, 25, []))], [(1, [18, 5, 17], []), (20, [0, 15], [30, 0, 1, 1, 153, -1, 0, 0]), (20, [15, 0], [30, 0, 1, 0, 0, -1, 1, 154]), (20, [14, 15, 0, 4], [50, 2, 2, 2139, 2005, 2062, 2002, 4, 6, 1, 2, 1, 0, 0, 0, 1, 2, 1, 1, 3, 2, 62, 4, 7, 6, 2, 0, 24, 2, 2, 139, 3, 2, 2, 4, 7, 4, 3, 2, 2, 5, 0, 267, 1, 3]), (20, [14, 0, 4, 15], [50, 2, 3, 1139, 1005, 1064, 1062, 1002, 4, 22, 1, 2, 1, 0, 4, 14, 3, 1, 64, 4, 7, 6, 2, 0, 48, 2, 1, 139, 1, 2, 0, 1, 1, 2, 1, 3, 3, 1, 62, 4, 7, 6, 2, 0, 24, 2, 1, 139, 3, 1, 2, 4, 7, 4, 3, 2, 1, 5, 0, 315, 1, 2]), (20, [14, 0, 4, 15], [50, 1, 2, 1139, 1064, 1065, 3, 6, 1, 2, 1, 0, 0, 0, 3, 22, 1, 2, 1, 0, 4, 14, 3, 1, 64, 4, 7, 6, 2, 0, 48, 2, 1, 139, 1, 2, 0, 1, 1, 2, 1, 3, 3, 1, 65, 4, 15, 6, 2, 0, 24, 4, 7, 6, 2, 0, 48, 2, 1, 139, 1, 2, 5, 2, 1, 0, 0, 1]), (20, [14, 0, 4], [50, 1, 1, 1139, 1064, 0, 2, 1, 0, 4, 14, 3, 1, 64, 4, 7, 6, 2, 0, 48, 2, 1, 139, 1, 2, 0, 1]), (1, [14, 5, 13], []), (20, [0, 11], [30, 0, 1, 1, 155, -1, 0, 0]), (20, [11, 0], [30, 0, 1, 0, 0, -1, 1, 156]), (20, [5, 11, 0, 4], [50, 2, 2, 2139, 2005, 2063, 2002, 4, 6, 1, 2, 1, 0, 0, 0, 1, 2, 1, 1, 3, 2, 63, 4, 7, 6, 2, 0, 24, 2, 2, 139, 3, 2, 2, 4, 7, 4, 3, 2, 2, 5, 0, 267, 1, 3]), (20, [5, 0, 4, 11], [50, 2, 3, 1139, 1005, 1064, 1063, 1002, 4, 22, 1, 2, 1, 0, 4, 14, 3, 1, 64, 4, 7, 6, 2, 0, 48, 2, 1, 139, 1, 2, 0, 1, 1, 2, 1, 3, 3, 1, 63, 4, 7, 6, 2, 0, 24, 2, 1, 139, 3, 1, 2, 4, 7, 4, 3, 2, 1, 5, 0, 315, 1, 2]), (20, [5, 0, 4, 11], [50, 1, 2, 1139, 1064, 1066, 3, 6, 1, 2, 1, 0, 0, 0, 3, 22, 1, 2, 1, 0, 4, 14, 3, 1, 64, 4, 7, 6, 2, 0, 48, 2, 1, 139, 1, 2, 0, 1, 1, 2, 1, 3, 3, 1, 66, 4, 15, 6, 2, 0, 24, 4, 7, 6, 2, 0, 48, 2, 1, 139, 1, 2, 5, 2, 1, 0, 0, 1]), (20, [0, 9], [30, 0, 1, 1, 153, -1, 0, 0]), (20, [9, 0], [30, 0, 1, 0, 0, -1, 1, 154]), (20, [5, 9, 0, 4], [50, 2, 2, 2139, 2005, 2062, 2002, 4, 6, 1, 2, 1, 0, 0, 0, 1, 2, 1, 1, 3, 2, 62, 4, 7, 6, 2, 0, 24, 2, 2, 139, 3, 2, 2, 4, 7, 4, 3, 2, 2, 5, 0, 267, 1, 3]), (20, [5, 0, 4, 9], [50, 2, 3, 1139, 1005, 1064, 1062, 1002, 4, 22, 1, 2, 1, 0, 4, 14, 3, 1, 64, 4, 7, 6, 2, 0, 48, 2, 1, 139, 1, 2, 0, 1, 1, 2, 1, 3, 3, 1, 62, 4, 7, 6, 2, 0, 24, 2, 1, 139, 3, 1, 2, 4, 7, 4, 3, 2, 1, 5, 0, 315, 1, 2]), (20, [5, 0, 4, 9], [50, 1, 2, 1139, 1064, 1065, 3, 6, 1, 2, 1, 0, 0, 0, 3, 22, 1, 2, 1, 0, 4, 14, 3, 1, 64, 4, 7, 6, 2, 0, 48, 2, 1, 139, 1, 2, 0, 1, 1, 2, 1, 3, 3, 1, 65, 4, 15, 6, 2, 0, 24, 4, 7, 6, 2, 0, 48, 2, 1, 139, 1, 2, 5, 2, 1, 0, 0, 1]), (20, [5, 0, 4], [50, 1, 1, 1139, 1064, 0, 2, 1, 0, 4, 14, 3, 1, 64, 4, 7, 6, 2, 0, 48, 2, 1, 139, 1, 2, 0, 1]), (7, [7, 8], [2]), (20, [8, 0, 4], [50, 1, 1, 1139, 1064, 1, 2, 1, 0, 4, 14, 3, 1, 64, 4, 7, 6, 2, 0, 48, 2, 1, 139, 1, 2, 0, 2]), (1, [7, 5, 6], []), (20, [0], [60, 6, 6, 945, 153, 154, 155, 156, 139, 5, 62, 63, 2, 64, 65, 66]), (20, [0], [30, -1, -1, 1, 173]), (20, [0], [30, 64, 1, 1, 173]), (20, [0], [30, -1, -1, 1, 174]), (20, [0], [30, 64, 1, 1, 174]), (20, [4, 0], [30, -1, 1, 0, 0, -1, 3, 2005001])], [], [], [(20, [18, 0, 4], [50, 1, 1, 1139, 1064, 0, 2, 1, 0, 4, 14, 3, 1, 64, 4, 7, 6, 2, 0, 48, 2, 1, 139, 1, 2, 0, 1])], [], [(18, 5, 1, 1), (14, 5, 1, 1), (7, 8, -4294967296, -1), (7, 5, 1, 1)])
theorem oo_Mo_dots_12 {kA : Nat → ClassId} : or_ok PRD kA GG o_Mo_dots_12 := by
  refine or_mk fun A ta ws vs hD hth hl => ?_
  intro t0 r0 t4 k4 t5 k5 t6 k6 t7 k7 t8 k8 t9 k9 t11 k11 t13 k13 t14 k14 t15 k15 t17 k17 t18 k18 d0 d1 d2 d3 f0 f1 f2 f3 f4 f5 f6 f7 f8 f9 f10 f11 f12 f13 f14 f15 f16 f17 f18 f19 f20 f21 f22 f23 f24 f25 f26 f27
  have cr_0_62 := fdq_173 hD hth r0
  have cr_0_63 := fdq_174 hD hth r0
  have cr_0_64 := fdq_171 hD hth r0
  have cr_0_65 := fdq_292 hD hth r0
  have cr_0_66 := fdq_293 hD hth r0
  have hK_0_62 := elq_102 hD hth cr_0_62
  have hK_0_63 := elq_103 hD hth cr_0_63
  have hK_0_64 := elq_101 hD hth cr_0_64
  have hK_0_65 := elq_184 hD hth cr_0_65
  have hK_0_66 := elq_185 hD hth cr_0_66
  have kz_0_139 := fdq_172 hD hth r0
  have kz_0_153 := fdq_14 hD hth r0
  have kz_0_154 := fdq_15 hD hth r0
  have kz_0_155 := fdq_17 hD hth r0
  have kz_0_156 := fdq_18 hD hth r0
  have kz_0_173 := fdq_16 hD hth r0
  have kz_0_174 := fdq_19 hD hth r0
  have nf0 : fc_1 PRD (20, [18, 0, 4], [50, 1, 1, 1139, 1064, 0, 2, 1, 0, 4, 14, 3, 1, 64, 4, 7, 6, 2, 0, 48, 2, 1, 139, 1, 2, 0, 1]) ws (vs) := ⟨nf_in hl rfl, sgq_1421 (vc_Mo_dots_12_0 (v_iv (n_v vs 4)) (v_iv (n_v vs 5)) (v_iv (n_v vs 6)) (v_iv (n_v vs 7)) (v_iv (n_v vs 8)) (v_iv (n_v vs 9)) (v_iv (n_v vs 11)) (v_iv (n_v vs 13)) (v_iv (n_v vs 14)) (v_iv (n_v vs 15)) (v_iv (n_v vs 17)) (v_iv (n_v vs 18)) (w_fi ws (n_v vs 0) 153) (w_fi ws (n_v vs 0) 154) (w_ei ws (w_ar ws (n_v vs 0) 62)) (w_ei ws (w_ar ws (n_v vs 0) 2)) (w_fi ws (n_v vs 0) 139) (w_fi ws (n_v vs 0) 5) (w_ei ws (w_ar ws (n_v vs 0) 64)) (w_ei ws (w_ar ws (n_v vs 0) 65)) (w_fi ws (n_v vs 0) 155) (w_fi ws (n_v vs 0) 156) (w_ei ws (w_ar ws (n_v vs 0) 63)) (w_ei ws (w_ar ws (n_v vs 0) 66)) (w_fi ws (n_v vs 0) 173) (w_fi ws (n_v vs 0) 174) k4 k5 k6 k7 k8 k9 k11 k13 k14 k15 k17 k18 d0 d1 d2 d3 (shm_12 f0) (shm_146 f1) (shm_147 f2) (shm_1423 f3) (shm_1424 f4) (shm_1425 f5) (shm_1421 f6) (shm_12 f7) (shm_153 f8) (shm_154 f9) (shm_1427 f10) (shm_1428 f11) (shm_1429 f12) (shm_146 f13) (shm_147 f14) (shm_1423 f15) (shm_1424 f16) (shm_1425 f17) (shm_1421 f18) (shm_6 f19) (shm_683 f20) (shm_12 f21) (shm_1845 f22) (shm_148 f23) (shm_149 f24) (shm_155 f25) (shm_156 f26) (shm_979 f27) hK_0_62 hK_0_63 hK_0_64 hK_0_65 hK_0_66 kz_0_139 kz_0_153 kz_0_154 kz_0_155 kz_0_156 kz_0_173 kz_0_174)⟩
  refine ⟨(fun _ h => (by cases h)), [], trivial, ?_, (fun _ h => (by cases h))⟩
  rw [List.append_nil]
  exact List.forall_mem_cons.mpr ⟨⟨show (20 : Nat) < 100 from by decide, nf0⟩, (fun _ h => (by cases h))⟩
set_option maxHeartbeats 4000000 in
theorem vc_Mo_dots_13_0 (x4 : Int) (x5 : Int) (x6 : Int) (x7 : Int) (x8 : Int) (x9 : Int) (x11 : Int) (x13 : Int) (x14 : Int) (x15 : Int) (x17 : Int) (x18 : Int) (x19 : Int) (nodeY_0 : Int → Int) (all_0 : Int → Int) (g0_0 : Int) (r_0 : Int) (bendMany_0 : Int → Int) (bendY_0 : Int → Int) (leastX_0 : Int) (mostX_0 : Int) (nodeX_0 : Int → Int) (bendX_0 : Int → Int) (leastY_0 : Int) (mostY_0 : Int) (dotWide_0 : Int) (dotTall_0 : Int) (k4 : 0 ≤ x4 ∧ x4 ≤ 47) (k5 : 1 ≤ x5 ∧ x5 ≤ 24) (k6 : 1 ≤ x6 ∧ x6 ≤ 1) (k7 : 2 ≤ x7 ∧ x7 ≤ 25) (k8 : 2 ≤ x8 ∧ x8 ≤ 26) (k9 : (-300000011) ≤ x9 ∧ x9 ≤ 221100000) (k11 : (-900000000) ≤ x11 ∧ x11 ≤ 900000000) (k13 : 1 ≤ x13 ∧ x13 ≤ 1) (k14 : 2 ≤ x14 ∧ x14 ≤ 25) (k15 : (-300000000) ≤ x15 ∧ x15 ≤ 300000000) (k17 : 1 ≤ x17 ∧ x17 ≤ 1) (k18 : 2 ≤ x18 ∧ x18 ≤ 25) (k19 : (-900000000) ≤ x19 ∧ x19 ≤ 900000000) (d0 : x5 + 1 ≤ x18 ∧ x18 ≤ x5 + 1) (d1 : x5 + 1 ≤ x14 ∧ x14 ≤ x5 + 1) (d2 : x8 + (-4294967296) ≤ x7 ∧ x7 ≤ x8 + (-1)) (d3 : x5 + 1 ≤ x7 ∧ x7 ≤ x5 + 1) (f0 : (x18 = 0) → (x19 = nodeY_0 (((24 * g0_0) + all_0 (((r_0 + 267) + x4)))))) (f1 : (x18 = (bendMany_0 (((48 * g0_0) + x4)) + 1)) → (x19 = nodeY_0 (((24 * g0_0) + all_0 (((r_0 + 315) + x4)))))) (f2 : (x18 = 0) ∨ ((x18 = (bendMany_0 (((48 * g0_0) + x4)) + 1)) ∨ (x19 = bendY_0 (((24 * ((48 * g0_0) + x4)) + (x18 - 1)))))) (f3 : x18 ≤ (bendMany_0 (((48 * g0_0) + x4)) + 1)) (f4 : x18 = x5 + x17) (f5 : 1 * leastX_0 + ((-1) * x15 + 0) ≤ 0) (f6 : 1 * x15 + ((-1) * mostX_0 + 0) ≤ 0) (f7 : (x14 = 0) → (x15 = nodeX_0 (((24 * g0_0) + all_0 (((r_0 + 267) + x4)))))) (f8 : (x14 = (bendMany_0 (((48 * g0_0) + x4)) + 1)) → (x15 = nodeX_0 (((24 * g0_0) + all_0 (((r_0 + 315) + x4)))))) (f9 : (x14 = 0) ∨ ((x14 = (bendMany_0 (((48 * g0_0) + x4)) + 1)) ∨ (x15 = bendX_0 (((24 * ((48 * g0_0) + x4)) + (x14 - 1)))))) (f10 : x14 ≤ (bendMany_0 (((48 * g0_0) + x4)) + 1)) (f11 : x14 = x5 + x13) (f12 : 1 * leastY_0 + ((-1) * x11 + 0) ≤ 0) (f13 : 1 * x11 + ((-1) * mostY_0 + 0) ≤ 0) (f14 : (x5 = 0) → (x11 = nodeY_0 (((24 * g0_0) + all_0 (((r_0 + 267) + x4)))))) (f15 : (x5 = (bendMany_0 (((48 * g0_0) + x4)) + 1)) → (x11 = nodeY_0 (((24 * g0_0) + all_0 (((r_0 + 315) + x4)))))) (f16 : (x5 = 0) ∨ ((x5 = (bendMany_0 (((48 * g0_0) + x4)) + 1)) ∨ (x11 = bendY_0 (((24 * ((48 * g0_0) + x4)) + (x5 - 1)))))) (f17 : 1 * leastX_0 + ((-1) * x9 + 0) ≤ 0) (f18 : 1 * x9 + ((-1) * mostX_0 + 0) ≤ 0) (f19 : (x5 = 0) → (x9 = nodeX_0 (((24 * g0_0) + all_0 (((r_0 + 267) + x4)))))) (f20 : (x5 = (bendMany_0 (((48 * g0_0) + x4)) + 1)) → (x9 = nodeX_0 (((24 * g0_0) + all_0 (((r_0 + 315) + x4)))))) (f21 : (x5 = 0) ∨ ((x5 = (bendMany_0 (((48 * g0_0) + x4)) + 1)) ∨ (x9 = bendX_0 (((24 * ((48 * g0_0) + x4)) + (x5 - 1)))))) (f22 : x5 ≤ (bendMany_0 (((48 * g0_0) + x4)) + 1)) (f23 : x7 < x8) (f24 : x8 = (bendMany_0 (((48 * g0_0) + x4)) + 2)) (f25 : x7 = x5 + x6) (f26 : BNA (leastX_0) (mostX_0) (leastY_0) (mostY_0) (g0_0) (r_0) (nodeX_0) (nodeY_0) (all_0) (bendMany_0) (bendX_0) (bendY_0)) (f27 : (-1) * dotWide_0 + 0 ≤ (-1)) (f28 : 1 * dotWide_0 + 0 ≤ 64) (f29 : (-1) * dotTall_0 + 0 ≤ (-1)) (f30 : 1 * dotTall_0 + 0 ≤ 64) (f31 : 1 * x4 + ((-1) * all_0 (r_0 + 1) + 0) ≤ (-1)) (hK_0_62 : ∀ j : Int, 0 ≤ j → j < 96 → (-300000000) ≤ nodeX_0 j ∧ nodeX_0 j ≤ 300000000) (hK_0_63 : ∀ j : Int, 0 ≤ j → j < 96 → (-300000000) ≤ nodeY_0 j ∧ nodeY_0 j ≤ 300000000) (hK_0_64 : ∀ j : Int, 0 ≤ j → j < 192 → 0 ≤ bendMany_0 j ∧ bendMany_0 j ≤ 24) (hK_0_65 : ∀ j : Int, 0 ≤ j → j < 4608 → (-300000011) ≤ bendX_0 j ∧ bendX_0 j ≤ 221100000) (hK_0_66 : ∀ j : Int, 0 ≤ j → j < 4608 → (-900000000) ≤ bendY_0 j ∧ bendY_0 j ≤ 900000000) (kz_0_139 : 0 ≤ g0_0 ∧ g0_0 ≤ 3) (kz_0_153 : (-2147483648) ≤ leastX_0 ∧ leastX_0 ≤ 300000000) (kz_0_154 : (-900000000) ≤ mostX_0 ∧ mostX_0 ≤ 2147483647) (kz_0_155 : (-2147483648) ≤ leastY_0 ∧ leastY_0 ≤ 300000000) (kz_0_156 : (-900000000) ≤ mostY_0 ∧ mostY_0 ≤ 2147483647) (kz_0_173 : 0 ≤ dotWide_0 ∧ dotWide_0 ≤ 64) (kz_0_174 : 0 ≤ dotTall_0 ∧ dotTall_0 ≤ 64) : 1 * leastY_0 + ((-1) * x19 + 0) ≤ 0 := by
  first
    | assumption
    | (clear f0 f1 f2 f7 f8 f9 f14 f15 f16 f19 f20 f21 hK_0_62 hK_0_63 hK_0_64 hK_0_65 hK_0_66; omega)
    | exact (bna_x ‹BNA _ _ _ _ _ _ _ _ _ _ _ _› (by assumption) (by assumption) (by assumption) (by assumption) (by assumption) (by assumption) (by assumption) (by omega) (by omega)).1
    | exact (bna_x ‹BNA _ _ _ _ _ _ _ _ _ _ _ _› (by assumption) (by assumption) (by assumption) (by assumption) (by assumption) (by assumption) (by assumption) (by omega) (by omega)).2
    | exact (bna_y ‹BNA _ _ _ _ _ _ _ _ _ _ _ _› (by assumption) (by assumption) (by assumption) (by assumption) (by assumption) (by assumption) (by assumption) (by omega) (by omega)).1
    | exact (bna_y ‹BNA _ _ _ _ _ _ _ _ _ _ _ _› (by assumption) (by assumption) (by assumption) (by assumption) (by assumption) (by assumption) (by assumption) (by omega) (by omega)).2
    | exact (bna_nx ‹BNA _ _ _ _ _ _ _ _ _ _ _ _› (by assumption) (by clear f0 f1 f2 f7 f8 f9 f14 f15 f16 f19 f20 f21 hK_0_62 hK_0_63 hK_0_64 hK_0_65 hK_0_66; omega) (by clear f0 f1 f2 f7 f8 f9 f14 f15 f16 f19 f20 f21 hK_0_62 hK_0_63 hK_0_64 hK_0_65 hK_0_66; omega)).1
    | exact (bna_nx ‹BNA _ _ _ _ _ _ _ _ _ _ _ _› (by assumption) (by clear f0 f1 f2 f7 f8 f9 f14 f15 f16 f19 f20 f21 hK_0_62 hK_0_63 hK_0_64 hK_0_65 hK_0_66; omega) (by clear f0 f1 f2 f7 f8 f9 f14 f15 f16 f19 f20 f21 hK_0_62 hK_0_63 hK_0_64 hK_0_65 hK_0_66; omega)).2
    | exact (bna_ny ‹BNA _ _ _ _ _ _ _ _ _ _ _ _› (by assumption) (by clear f0 f1 f2 f7 f8 f9 f14 f15 f16 f19 f20 f21 hK_0_62 hK_0_63 hK_0_64 hK_0_65 hK_0_66; omega) (by clear f0 f1 f2 f7 f8 f9 f14 f15 f16 f19 f20 f21 hK_0_62 hK_0_63 hK_0_64 hK_0_65 hK_0_66; omega)).1
    | exact (bna_ny ‹BNA _ _ _ _ _ _ _ _ _ _ _ _› (by assumption) (by clear f0 f1 f2 f7 f8 f9 f14 f15 f16 f19 f20 f21 hK_0_62 hK_0_63 hK_0_64 hK_0_65 hK_0_66; omega) (by clear f0 f1 f2 f7 f8 f9 f14 f15 f16 f19 f20 f21 hK_0_62 hK_0_63 hK_0_64 hK_0_65 hK_0_66; omega)).2
    | omega
set_option maxHeartbeats 4000000 in
theorem vc_Mo_dots_13_1 (x4 : Int) (x5 : Int) (x6 : Int) (x7 : Int) (x8 : Int) (x9 : Int) (x11 : Int) (x13 : Int) (x14 : Int) (x15 : Int) (x17 : Int) (x18 : Int) (x19 : Int) (nodeY_0 : Int → Int) (all_0 : Int → Int) (g0_0 : Int) (r_0 : Int) (bendMany_0 : Int → Int) (bendY_0 : Int → Int) (leastX_0 : Int) (mostX_0 : Int) (nodeX_0 : Int → Int) (bendX_0 : Int → Int) (leastY_0 : Int) (mostY_0 : Int) (dotWide_0 : Int) (dotTall_0 : Int) (k4 : 0 ≤ x4 ∧ x4 ≤ 47) (k5 : 1 ≤ x5 ∧ x5 ≤ 24) (k6 : 1 ≤ x6 ∧ x6 ≤ 1) (k7 : 2 ≤ x7 ∧ x7 ≤ 25) (k8 : 2 ≤ x8 ∧ x8 ≤ 26) (k9 : (-300000011) ≤ x9 ∧ x9 ≤ 221100000) (k11 : (-900000000) ≤ x11 ∧ x11 ≤ 900000000) (k13 : 1 ≤ x13 ∧ x13 ≤ 1) (k14 : 2 ≤ x14 ∧ x14 ≤ 25) (k15 : (-300000000) ≤ x15 ∧ x15 ≤ 300000000) (k17 : 1 ≤ x17 ∧ x17 ≤ 1) (k18 : 2 ≤ x18 ∧ x18 ≤ 25) (k19 : (-900000000) ≤ x19 ∧ x19 ≤ 900000000) (d0 : x5 + 1 ≤ x18 ∧ x18 ≤ x5 + 1) (d1 : x5 + 1 ≤ x14 ∧ x14 ≤ x5 + 1) (d2 : x8 + (-4294967296) ≤ x7 ∧ x7 ≤ x8 + (-1)) (d3 : x5 + 1 ≤ x7 ∧ x7 ≤ x5 + 1) (f0 : (x18 = 0) → (x19 = nodeY_0 (((24 * g0_0) + all_0 (((r_0 + 267) + x4)))))) (f1 : (x18 = (bendMany_0 (((48 * g0_0) + x4)) + 1)) → (x19 = nodeY_0 (((24 * g0_0) + all_0 (((r_0 + 315) + x4)))))) (f2 : (x18 = 0) ∨ ((x18 = (bendMany_0 (((48 * g0_0) + x4)) + 1)) ∨ (x19 = bendY_0 (((24 * ((48 * g0_0) + x4)) + (x18 - 1)))))) (f3 : x18 ≤ (bendMany_0 (((48 * g0_0) + x4)) + 1)) (f4 : x18 = x5 + x17) (f5 : 1 * leastX_0 + ((-1) * x15 + 0) ≤ 0) (f6 : 1 * x15 + ((-1) * mostX_0 + 0) ≤ 0) (f7 : (x14 = 0) → (x15 = nodeX_0 (((24 * g0_0) + all_0 (((r_0 + 267) + x4)))))) (f8 : (x14 = (bendMany_0 (((48 * g0_0) + x4)) + 1)) → (x15 = nodeX_0 (((24 * g0_0) + all_0 (((r_0 + 315) + x4)))))) (f9 : (x14 = 0) ∨ ((x14 = (bendMany_0 (((48 * g0_0) + x4)) + 1)) ∨ (x15 = bendX_0 (((24 * ((48 * g0_0) + x4)) + (x14 - 1)))))) (f10 : x14 ≤ (bendMany_0 (((48 * g0_0) + x4)) + 1)) (f11 : x14 = x5 + x13) (f12 : 1 * leastY_0 + ((-1) * x11 + 0) ≤ 0) (f13 : 1 * x11 + ((-1) * mostY_0 + 0) ≤ 0) (f14 : (x5 = 0) → (x11 = nodeY_0 (((24 * g0_0) + all_0 (((r_0 + 267) + x4)))))) (f15 : (x5 = (bendMany_0 (((48 * g0_0) + x4)) + 1)) → (x11 = nodeY_0 (((24 * g0_0) + all_0 (((r_0 + 315) + x4)))))) (f16 : (x5 = 0) ∨ ((x5 = (bendMany_0 (((48 * g0_0) + x4)) + 1)) ∨ (x11 = bendY_0 (((24 * ((48 * g0_0) + x4)) + (x5 - 1)))))) (f17 : 1 * leastX_0 + ((-1) * x9 + 0) ≤ 0) (f18 : 1 * x9 + ((-1) * mostX_0 + 0) ≤ 0) (f19 : (x5 = 0) → (x9 = nodeX_0 (((24 * g0_0) + all_0 (((r_0 + 267) + x4)))))) (f20 : (x5 = (bendMany_0 (((48 * g0_0) + x4)) + 1)) → (x9 = nodeX_0 (((24 * g0_0) + all_0 (((r_0 + 315) + x4)))))) (f21 : (x5 = 0) ∨ ((x5 = (bendMany_0 (((48 * g0_0) + x4)) + 1)) ∨ (x9 = bendX_0 (((24 * ((48 * g0_0) + x4)) + (x5 - 1)))))) (f22 : x5 ≤ (bendMany_0 (((48 * g0_0) + x4)) + 1)) (f23 : x7 < x8) (f24 : x8 = (bendMany_0 (((48 * g0_0) + x4)) + 2)) (f25 : x7 = x5 + x6) (f26 : BNA (leastX_0) (mostX_0) (leastY_0) (mostY_0) (g0_0) (r_0) (nodeX_0) (nodeY_0) (all_0) (bendMany_0) (bendX_0) (bendY_0)) (f27 : (-1) * dotWide_0 + 0 ≤ (-1)) (f28 : 1 * dotWide_0 + 0 ≤ 64) (f29 : (-1) * dotTall_0 + 0 ≤ (-1)) (f30 : 1 * dotTall_0 + 0 ≤ 64) (f31 : 1 * x4 + ((-1) * all_0 (r_0 + 1) + 0) ≤ (-1)) (hK_0_62 : ∀ j : Int, 0 ≤ j → j < 96 → (-300000000) ≤ nodeX_0 j ∧ nodeX_0 j ≤ 300000000) (hK_0_63 : ∀ j : Int, 0 ≤ j → j < 96 → (-300000000) ≤ nodeY_0 j ∧ nodeY_0 j ≤ 300000000) (hK_0_64 : ∀ j : Int, 0 ≤ j → j < 192 → 0 ≤ bendMany_0 j ∧ bendMany_0 j ≤ 24) (hK_0_65 : ∀ j : Int, 0 ≤ j → j < 4608 → (-300000011) ≤ bendX_0 j ∧ bendX_0 j ≤ 221100000) (hK_0_66 : ∀ j : Int, 0 ≤ j → j < 4608 → (-900000000) ≤ bendY_0 j ∧ bendY_0 j ≤ 900000000) (kz_0_139 : 0 ≤ g0_0 ∧ g0_0 ≤ 3) (kz_0_153 : (-2147483648) ≤ leastX_0 ∧ leastX_0 ≤ 300000000) (kz_0_154 : (-900000000) ≤ mostX_0 ∧ mostX_0 ≤ 2147483647) (kz_0_155 : (-2147483648) ≤ leastY_0 ∧ leastY_0 ≤ 300000000) (kz_0_156 : (-900000000) ≤ mostY_0 ∧ mostY_0 ≤ 2147483647) (kz_0_173 : 0 ≤ dotWide_0 ∧ dotWide_0 ≤ 64) (kz_0_174 : 0 ≤ dotTall_0 ∧ dotTall_0 ≤ 64) : 1 * x19 + ((-1) * mostY_0 + 0) ≤ 0 := by
  first
    | assumption
    | (clear f0 f1 f2 f7 f8 f9 f14 f15 f16 f19 f20 f21 hK_0_62 hK_0_63 hK_0_64 hK_0_65 hK_0_66; omega)
    | exact (bna_x ‹BNA _ _ _ _ _ _ _ _ _ _ _ _› (by assumption) (by assumption) (by assumption) (by assumption) (by assumption) (by assumption) (by assumption) (by omega) (by omega)).1
    | exact (bna_x ‹BNA _ _ _ _ _ _ _ _ _ _ _ _› (by assumption) (by assumption) (by assumption) (by assumption) (by assumption) (by assumption) (by assumption) (by omega) (by omega)).2
    | exact (bna_y ‹BNA _ _ _ _ _ _ _ _ _ _ _ _› (by assumption) (by assumption) (by assumption) (by assumption) (by assumption) (by assumption) (by assumption) (by omega) (by omega)).1
    | exact (bna_y ‹BNA _ _ _ _ _ _ _ _ _ _ _ _› (by assumption) (by assumption) (by assumption) (by assumption) (by assumption) (by assumption) (by assumption) (by omega) (by omega)).2
    | exact (bna_nx ‹BNA _ _ _ _ _ _ _ _ _ _ _ _› (by assumption) (by clear f0 f1 f2 f7 f8 f9 f14 f15 f16 f19 f20 f21 hK_0_62 hK_0_63 hK_0_64 hK_0_65 hK_0_66; omega) (by clear f0 f1 f2 f7 f8 f9 f14 f15 f16 f19 f20 f21 hK_0_62 hK_0_63 hK_0_64 hK_0_65 hK_0_66; omega)).1
    | exact (bna_nx ‹BNA _ _ _ _ _ _ _ _ _ _ _ _› (by assumption) (by clear f0 f1 f2 f7 f8 f9 f14 f15 f16 f19 f20 f21 hK_0_62 hK_0_63 hK_0_64 hK_0_65 hK_0_66; omega) (by clear f0 f1 f2 f7 f8 f9 f14 f15 f16 f19 f20 f21 hK_0_62 hK_0_63 hK_0_64 hK_0_65 hK_0_66; omega)).2
    | exact (bna_ny ‹BNA _ _ _ _ _ _ _ _ _ _ _ _› (by assumption) (by clear f0 f1 f2 f7 f8 f9 f14 f15 f16 f19 f20 f21 hK_0_62 hK_0_63 hK_0_64 hK_0_65 hK_0_66; omega) (by clear f0 f1 f2 f7 f8 f9 f14 f15 f16 f19 f20 f21 hK_0_62 hK_0_63 hK_0_64 hK_0_65 hK_0_66; omega)).1
    | exact (bna_ny ‹BNA _ _ _ _ _ _ _ _ _ _ _ _› (by assumption) (by clear f0 f1 f2 f7 f8 f9 f14 f15 f16 f19 f20 f21 hK_0_62 hK_0_63 hK_0_64 hK_0_65 hK_0_66; omega) (by clear f0 f1 f2 f7 f8 f9 f14 f15 f16 f19 f20 f21 hK_0_62 hK_0_63 hK_0_64 hK_0_65 hK_0_66; omega)).2
    | omega
def o_Mo_dots_13 : or_T := (147, 20, [(0, (2, 0, 0, [165])), (4, (0, 0, 47, [])), (5, (0, 1, 24, [])), (6, (0, 1, 1, [])), (7, (0, 2, 25, [])), (8, (0, 2, 26, [])), (9, (0, -300000011, 221100000, [])), (11, (0, -900000000, 900000000, [])), (13, (0, 1, 1, [])), (14, (0, 2, 25, [])), (15, (0, -300000000, 300000000, [])), (17, (0, 1, 1, [])), (18, (0, 2, 25, [])), (19, (0, -900000000, 900000000, []))], [(20, [18, 19, 0, 4], [50, 2, 2, 2139, 2005, 2063, 2002, 4, 6, 1, 2, 1, 0, 0, 0, 1, 2, 1, 1, 3, 2, 63, 4, 7, 6, 2, 0, 24, 2, 2, 139, 3, 2, 2, 4, 7, 4, 3, 2, 2, 5, 0, 267, 1, 3]), (20, [18, 0, 4, 19], [50, 2, 3, 1139, 1005, 1064, 1063, 1002, 4, 22, 1, 2, 1, 0, 4, 14, 3, 1, 64, 4, 7, 6, 2, 0, 48, 2, 1, 139, 1, 2, 0, 1, 1, 2, 1, 3, 3, 1, 63, 4, 7, 6, 2, 0, 24, 2, 1, 139, 3, 1, 2, 4, 7, 4, 3, 2, 1, 5, 0, 315, 1, 2]), (20, [18, 0, 4, 19], [50, 1, 2, 1139, 1064, 1066, 3, 6, 1, 2, 1, 0, 0, 0, 3, 22, 1, 2, 1, 0, 4, 14, 3, 1, 64, 4, 7, 6, 2, 0, 48, 2, 1, 139, 1, 2, 0, 1, 1, 2, 1, 3, 3, 1, 66, 4, 15, 6, 2, 0, 24, 4, 7, 6, 2, 0, 48, 2, 1, 139, 1, 2, 5, 2, 1, 0, 0, 1]), (20, [18, 0, 4], [50, 1, 1, 1139, 1064, 0, 2, 1, 0, 4, 14, 3, 1, 64, 4, 7, 6, 2, 0, 48, 2, 1, 139, 1, 2, 0, 1]), (1, [18, 5, 17], []), (20, [0, 15], [30, 0, 1, 1, 153, -1, 0, 0]), (20, [15, 0], [30, 0, 1, 0, 0, -1, 1, 154]), (20, [14, 15, 0, 4], [50, 2, 2, 2139, 2005, 2062, 2002, 4, 6, 1, 2, 1, 0, 0, 0, 1, 2, 1, 1, 3, 2, 62, 4, 7, 6, 2, 0, 24, 2, 2, 139, 3, 2, 2, 4, 7, 4, 3, 2, 2, 5, 0, 267, 1, 3]), (20, [14, 0, 4, 15], [50, 2, 3, 1139, 1005, 1064, 1062, 1002, 4, 22, 1, 2, 1, 0, 4, 14, 3, 1, 64, 4, 7, 6, 2, 0, 48, 2, 1, 139, 1, 2, 0, 1, 1, 2, 1, 3, 3, 1, 62, 4, 7, 6, 2, 0, 24, 2, 1, 139, 3, 1, 2, 4, 7, 4, 3, 2, 1, 5, 0, 315, 1, 2]), (20, [14, 0, 4, 15], [50, 1, 2, 1139, 1064, 1065, 3, 6, 1, 2, 1, 0, 0, 0, 3, 22, 1, 2, 1, 0, 4, 14, 3, 1, 64, 4, 7, 6, 2, 0, 48, 2, 1, 139, 1, 2, 0, 1, 1, 2, 1, 3, 3, 1, 65, 4, 15, 6, 2, 0, 24, 4, 7, 6, 2, 0, 48, 2, 1, 139, 1, 2, 5, 2, 1, 0, 0, 1]), (20, [14, 0, 4], [50, 1, 1, 1139, 1064, 0, 2, 1, 0, 4, 14, 3, 1, 64, 4, 7, 6, 2, 0, 48, 2, 1, 139, 1, 2, 0, 1]), (1, [14, 5, 13], []), (20, [0, 11], [30, 0, 1, 1, 155, -1, 0, 0]), (20, [11, 0], [30, 0, 1, 0, 0, -1, 1, 156]), (20, [5, 11, 0, 4], [50, 2, 2, 2139, 2005, 2063, 2002, 4, 6, 1, 2, 1, 0, 0, 0, 1, 2, 1, 1, 3, 2, 63, 4, 7, 6, 2, 0, 24, 2, 2, 139, 3, 2, 2, 4, 7, 4, 3, 2, 2, 5, 0, 267, 1, 3]), (20, [5, 0, 4, 11], [50, 2, 3, 1139, 1005, 1064, 1063, 1002, 4, 22, 1, 2, 1, 0, 4, 14, 3, 1, 64, 4, 7, 6, 2, 0, 48, 2, 1, 139, 1, 2, 0, 1, 1, 2, 1, 3, 3, 1, 63, 4, 7, 6, 2, 0, 24, 2, 1, 139, 3, 1, 2, 4, 7, 4, 3, 2, 1, 5, 0, 315, 1, 2]), (20, [5, 0, 4, 11], [50, 1, 2, 1139, 1064, 1066, 3, 6, 1, 2, 1, 0, 0, 0, 3, 22, 1, 2, 1, 0, 4, 14, 3, 1, 64, 4, 7, 6, 2, 0, 48, 2, 1, 139, 1, 2, 0, 1, 1, 2, 1, 3, 3, 1, 66, 4, 15, 6, 2, 0, 24, 4, 7, 6, 2, 0, 48, 2, 1, 139, 1, 2, 5, 2, 1, 0, 0, 1]), (20, [0, 9], [30, 0, 1, 1, 153, -1, 0, 0]), (20, [9, 0], [30, 0, 1, 0, 0, -1, 1, 154]), (20, [5, 9, 0, 4], [50, 2, 2, 2139, 2005, 2062, 2002, 4, 6, 1, 2, 1, 0, 0, 0, 1, 2, 1, 1, 3, 2, 62, 4, 7, 6, 2, 0, 24, 2, 2, 139, 3, 2, 2, 4, 7, 4, 3, 2, 2, 5, 0, 267, 1, 3]), (20, [5, 0, 4, 9], [50, 2, 3, 1139, 1005, 1064, 1062, 1002, 4, 22, 1, 2, 1, 0, 4, 14, 3, 1, 64, 4, 7, 6, 2, 0, 48, 2, 1, 139, 1, 2, 0, 1, 1, 2, 1, 3, 3, 1, 62, 4, 7, 6, 2, 0, 24, 2, 1, 139, 3, 1, 2, 4, 7, 4, 3, 2, 1, 5, 0, 315, 1, 2]), (20, [5, 0, 4, 9], [50, 1, 2, 1139, 1064, 1065, 3, 6, 1, 2, 1, 0, 0, 0, 3, 22, 1, 2, 1, 0, 4, 14, 3, 1, 64, 4, 7, 6, 2, 0, 48, 2, 1, 139, 1, 2, 0, 1, 1, 2, 1, 3, 3, 1, 65, 4, 15, 6, 2, 0, 24, 4, 7, 6, 2, 0, 48, 2, 1, 139, 1, 2, 5, 2, 1, 0, 0, 1]), (20, [5, 0, 4], [50, 1, 1, 1139, 1064, 0, 2, 1, 0, 4, 14, 3, 1, 64, 4, 7, 6, 2, 0, 48, 2, 1, 139, 1, 2, 0, 1]), (7, [7, 8], [2]), (20, [8, 0, 4], [50, 1, 1, 1139, 1064, 1, 2, 1, 0, 4, 14, 3, 1, 64, 4, 7, 6, 2, 0, 48, 2, 1, 139, 1, 2, 0, 2]), (1, [7, 5, 6], []), (20, [0], [60, 6, 6, 945, 153, 154, 155, 156, 139, 5, 62, 63, 2, 64, 65, 66]), (20, [0], [30, -1, -1, 1, 173]), (20, [0], [30, 64, 1, 1, 173]), (20, [0], [30, -1, -1, 1, 174]), (20, [0], [30, 64, 1, 1, 174]), (20, [4, 0], [30, -1, 1, 0, 0, -1, 3, 2005001])], [], [], [(20, [0, 19], [30, 0, 1, 1, 155, -1, 0, 0]), (20, [19, 0], [30, 0, 1, 0, 0, -1, 1, 156])], [], [(18, 5, 1, 1), (14, 5, 1, 1), (7, 8, -4294967296, -1), (7, 5, 1, 1)])
theorem oo_Mo_dots_13 {kA : Nat → ClassId} : or_ok PRD kA GG o_Mo_dots_13 := by
  refine or_mk fun A ta ws vs hD hth hl => ?_
  intro t0 r0 t4 k4 t5 k5 t6 k6 t7 k7 t8 k8 t9 k9 t11 k11 t13 k13 t14 k14 t15 k15 t17 k17 t18 k18 t19 k19 d0 d1 d2 d3 f0 f1 f2 f3 f4 f5 f6 f7 f8 f9 f10 f11 f12 f13 f14 f15 f16 f17 f18 f19 f20 f21 f22 f23 f24 f25 f26 f27 f28 f29 f30 f31
  have cr_0_62 := fdq_173 hD hth r0
  have cr_0_63 := fdq_174 hD hth r0
  have cr_0_64 := fdq_171 hD hth r0
  have cr_0_65 := fdq_292 hD hth r0
  have cr_0_66 := fdq_293 hD hth r0
  have hK_0_62 := elq_102 hD hth cr_0_62
  have hK_0_63 := elq_103 hD hth cr_0_63
  have hK_0_64 := elq_101 hD hth cr_0_64
  have hK_0_65 := elq_184 hD hth cr_0_65
  have hK_0_66 := elq_185 hD hth cr_0_66
  have kz_0_139 := fdq_172 hD hth r0
  have kz_0_153 := fdq_14 hD hth r0
  have kz_0_154 := fdq_15 hD hth r0
  have kz_0_155 := fdq_17 hD hth r0
  have kz_0_156 := fdq_18 hD hth r0
  have kz_0_173 := fdq_16 hD hth r0
  have kz_0_174 := fdq_19 hD hth r0
  have nf0 : fc_1 PRD (20, [0, 19], [30, 0, 1, 1, 155, -1, 0, 0]) ws (vs) := ⟨nf_in hl rfl, sgq_153 (vc_Mo_dots_13_0 (v_iv (n_v vs 4)) (v_iv (n_v vs 5)) (v_iv (n_v vs 6)) (v_iv (n_v vs 7)) (v_iv (n_v vs 8)) (v_iv (n_v vs 9)) (v_iv (n_v vs 11)) (v_iv (n_v vs 13)) (v_iv (n_v vs 14)) (v_iv (n_v vs 15)) (v_iv (n_v vs 17)) (v_iv (n_v vs 18)) (v_iv (n_v vs 19)) (w_ei ws (w_ar ws (n_v vs 0) 63)) (w_ei ws (w_ar ws (n_v vs 0) 2)) (w_fi ws (n_v vs 0) 139) (w_fi ws (n_v vs 0) 5) (w_ei ws (w_ar ws (n_v vs 0) 64)) (w_ei ws (w_ar ws (n_v vs 0) 66)) (w_fi ws (n_v vs 0) 153) (w_fi ws (n_v vs 0) 154) (w_ei ws (w_ar ws (n_v vs 0) 62)) (w_ei ws (w_ar ws (n_v vs 0) 65)) (w_fi ws (n_v vs 0) 155) (w_fi ws (n_v vs 0) 156) (w_fi ws (n_v vs 0) 173) (w_fi ws (n_v vs 0) 174) k4 k5 k6 k7 k8 k9 k11 k13 k14 k15 k17 k18 k19 d0 d1 d2 d3 (shm_1427 f0) (shm_1428 f1) (shm_1429 f2) (shm_1421 f3) (shm_12 f4) (shm_146 f5) (shm_147 f6) (shm_1423 f7) (shm_1424 f8) (shm_1425 f9) (shm_1421 f10) (shm_12 f11) (shm_153 f12) (shm_154 f13) (shm_1427 f14) (shm_1428 f15) (shm_1429 f16) (shm_146 f17) (shm_147 f18) (shm_1423 f19) (shm_1424 f20) (shm_1425 f21) (shm_1421 f22) (shm_6 f23) (shm_683 f24) (shm_12 f25) (shm_1845 f26) (shm_148 f27) (shm_149 f28) (shm_155 f29) (shm_156 f30) (shm_979 f31) hK_0_62 hK_0_63 hK_0_64 hK_0_65 hK_0_66 kz_0_139 kz_0_153 kz_0_154 kz_0_155 kz_0_156 kz_0_173 kz_0_174)⟩
  have nf1 : fc_1 PRD (20, [19, 0], [30, 0, 1, 0, 0, -1, 1, 156]) ws (vs) := ⟨nf_in hl rfl, sgq_154 (vc_Mo_dots_13_1 (v_iv (n_v vs 4)) (v_iv (n_v vs 5)) (v_iv (n_v vs 6)) (v_iv (n_v vs 7)) (v_iv (n_v vs 8)) (v_iv (n_v vs 9)) (v_iv (n_v vs 11)) (v_iv (n_v vs 13)) (v_iv (n_v vs 14)) (v_iv (n_v vs 15)) (v_iv (n_v vs 17)) (v_iv (n_v vs 18)) (v_iv (n_v vs 19)) (w_ei ws (w_ar ws (n_v vs 0) 63)) (w_ei ws (w_ar ws (n_v vs 0) 2)) (w_fi ws (n_v vs 0) 139) (w_fi ws (n_v vs 0) 5) (w_ei ws (w_ar ws (n_v vs 0) 64)) (w_ei ws (w_ar ws (n_v vs 0) 66)) (w_fi ws (n_v vs 0) 153) (w_fi ws (n_v vs 0) 154) (w_ei ws (w_ar ws (n_v vs 0) 62)) (w_ei ws (w_ar ws (n_v vs 0) 65)) (w_fi ws (n_v vs 0) 155) (w_fi ws (n_v vs 0) 156) (w_fi ws (n_v vs 0) 173) (w_fi ws (n_v vs 0) 174) k4 k5 k6 k7 k8 k9 k11 k13 k14 k15 k17 k18 k19 d0 d1 d2 d3 (shm_1427 f0) (shm_1428 f1) (shm_1429 f2) (shm_1421 f3) (shm_12 f4) (shm_146 f5) (shm_147 f6) (shm_1423 f7) (shm_1424 f8) (shm_1425 f9) (shm_1421 f10) (shm_12 f11) (shm_153 f12) (shm_154 f13) (shm_1427 f14) (shm_1428 f15) (shm_1429 f16) (shm_146 f17) (shm_147 f18) (shm_1423 f19) (shm_1424 f20) (shm_1425 f21) (shm_1421 f22) (shm_6 f23) (shm_683 f24) (shm_12 f25) (shm_1845 f26) (shm_148 f27) (shm_149 f28) (shm_155 f29) (shm_156 f30) (shm_979 f31) hK_0_62 hK_0_63 hK_0_64 hK_0_65 hK_0_66 kz_0_139 kz_0_153 kz_0_154 kz_0_155 kz_0_156 kz_0_173 kz_0_174)⟩
  refine ⟨(fun _ h => (by cases h)), [], trivial, ?_, (fun _ h => (by cases h))⟩
  rw [List.append_nil]
  exact List.forall_mem_cons.mpr ⟨⟨show (20 : Nat) < 100 from by decide, nf0⟩, List.forall_mem_cons.mpr ⟨⟨show (20 : Nat) < 100 from by decide, nf1⟩, (fun _ h => (by cases h))⟩⟩
set_option maxHeartbeats 4000000 in
theorem vc_Mo_dots_14_0 (x4 : Int) (x5 : Int) (x6 : Int) (x7 : Int) (x8 : Int) (x9 : Int) (x11 : Int) (x13 : Int) (x14 : Int) (x15 : Int) (x17 : Int) (x18 : Int) (x19 : Int) (nodeY_0 : Int → Int) (all_0 : Int → Int) (g0_0 : Int) (r_0 : Int) (bendMany_0 : Int → Int) (bendY_0 : Int → Int) (leastX_0 : Int) (mostX_0 : Int) (nodeX_0 : Int → Int) (bendX_0 : Int → Int) (leastY_0 : Int) (mostY_0 : Int) (dotWide_0 : Int) (dotTall_0 : Int) (k4 : 0 ≤ x4 ∧ x4 ≤ 47) (k5 : 1 ≤ x5 ∧ x5 ≤ 24) (k6 : 1 ≤ x6 ∧ x6 ≤ 1) (k7 : 2 ≤ x7 ∧ x7 ≤ 25) (k8 : 2 ≤ x8 ∧ x8 ≤ 26) (k9 : (-300000011) ≤ x9 ∧ x9 ≤ 221100000) (k11 : (-900000000) ≤ x11 ∧ x11 ≤ 900000000) (k13 : 1 ≤ x13 ∧ x13 ≤ 1) (k14 : 2 ≤ x14 ∧ x14 ≤ 25) (k15 : (-300000000) ≤ x15 ∧ x15 ≤ 300000000) (k17 : 1 ≤ x17 ∧ x17 ≤ 1) (k18 : 2 ≤ x18 ∧ x18 ≤ 25) (k19 : (-300000000) ≤ x19 ∧ x19 ≤ 300000000) (d0 : x5 + 1 ≤ x18 ∧ x18 ≤ x5 + 1) (d1 : x5 + 1 ≤ x14 ∧ x14 ≤ x5 + 1) (d2 : x8 + (-4294967296) ≤ x7 ∧ x7 ≤ x8 + (-1)) (d3 : x5 + 1 ≤ x7 ∧ x7 ≤ x5 + 1) (f0 : (x18 = 0) → (x19 = nodeY_0 (((24 * g0_0) + all_0 (((r_0 + 267) + x4)))))) (f1 : (x18 = (bendMany_0 (((48 * g0_0) + x4)) + 1)) → (x19 = nodeY_0 (((24 * g0_0) + all_0 (((r_0 + 315) + x4)))))) (f2 : (x18 = 0) ∨ ((x18 = (bendMany_0 (((48 * g0_0) + x4)) + 1)) ∨ (x19 = bendY_0 (((24 * ((48 * g0_0) + x4)) + (x18 - 1)))))) (f3 : x18 ≤ (bendMany_0 (((48 * g0_0) + x4)) + 1)) (f4 : x18 = x5 + x17) (f5 : 1 * leastX_0 + ((-1) * x15 + 0) ≤ 0) (f6 : 1 * x15 + ((-1) * mostX_0 + 0) ≤ 0) (f7 : (x14 = 0) → (x15 = nodeX_0 (((24 * g0_0) + all_0 (((r_0 + 267) + x4)))))) (f8 : (x14 = (bendMany_0 (((48 * g0_0) + x4)) + 1)) → (x15 = nodeX_0 (((24 * g0_0) + all_0 (((r_0 + 315) + x4)))))) (f9 : (x14 = 0) ∨ ((x14 = (bendMany_0 (((48 * g0_0) + x4)) + 1)) ∨ (x15 = bendX_0 (((24 * ((48 * g0_0) + x4)) + (x14 - 1)))))) (f10 : x14 ≤ (bendMany_0 (((48 * g0_0) + x4)) + 1)) (f11 : x14 = x5 + x13) (f12 : 1 * leastY_0 + ((-1) * x11 + 0) ≤ 0) (f13 : 1 * x11 + ((-1) * mostY_0 + 0) ≤ 0) (f14 : (x5 = 0) → (x11 = nodeY_0 (((24 * g0_0) + all_0 (((r_0 + 267) + x4)))))) (f15 : (x5 = (bendMany_0 (((48 * g0_0) + x4)) + 1)) → (x11 = nodeY_0 (((24 * g0_0) + all_0 (((r_0 + 315) + x4)))))) (f16 : (x5 = 0) ∨ ((x5 = (bendMany_0 (((48 * g0_0) + x4)) + 1)) ∨ (x11 = bendY_0 (((24 * ((48 * g0_0) + x4)) + (x5 - 1)))))) (f17 : 1 * leastX_0 + ((-1) * x9 + 0) ≤ 0) (f18 : 1 * x9 + ((-1) * mostX_0 + 0) ≤ 0) (f19 : (x5 = 0) → (x9 = nodeX_0 (((24 * g0_0) + all_0 (((r_0 + 267) + x4)))))) (f20 : (x5 = (bendMany_0 (((48 * g0_0) + x4)) + 1)) → (x9 = nodeX_0 (((24 * g0_0) + all_0 (((r_0 + 315) + x4)))))) (f21 : (x5 = 0) ∨ ((x5 = (bendMany_0 (((48 * g0_0) + x4)) + 1)) ∨ (x9 = bendX_0 (((24 * ((48 * g0_0) + x4)) + (x5 - 1)))))) (f22 : x5 ≤ (bendMany_0 (((48 * g0_0) + x4)) + 1)) (f23 : x7 < x8) (f24 : x8 = (bendMany_0 (((48 * g0_0) + x4)) + 2)) (f25 : x7 = x5 + x6) (f26 : BNA (leastX_0) (mostX_0) (leastY_0) (mostY_0) (g0_0) (r_0) (nodeX_0) (nodeY_0) (all_0) (bendMany_0) (bendX_0) (bendY_0)) (f27 : (-1) * dotWide_0 + 0 ≤ (-1)) (f28 : 1 * dotWide_0 + 0 ≤ 64) (f29 : (-1) * dotTall_0 + 0 ≤ (-1)) (f30 : 1 * dotTall_0 + 0 ≤ 64) (f31 : 1 * x4 + ((-1) * all_0 (r_0 + 1) + 0) ≤ (-1)) (hK_0_62 : ∀ j : Int, 0 ≤ j → j < 96 → (-300000000) ≤ nodeX_0 j ∧ nodeX_0 j ≤ 300000000) (hK_0_63 : ∀ j : Int, 0 ≤ j → j < 96 → (-300000000) ≤ nodeY_0 j ∧ nodeY_0 j ≤ 300000000) (hK_0_64 : ∀ j : Int, 0 ≤ j → j < 192 → 0 ≤ bendMany_0 j ∧ bendMany_0 j ≤ 24) (hK_0_65 : ∀ j : Int, 0 ≤ j → j < 4608 → (-300000011) ≤ bendX_0 j ∧ bendX_0 j ≤ 221100000) (hK_0_66 : ∀ j : Int, 0 ≤ j → j < 4608 → (-900000000) ≤ bendY_0 j ∧ bendY_0 j ≤ 900000000) (kz_0_139 : 0 ≤ g0_0 ∧ g0_0 ≤ 3) (kz_0_153 : (-2147483648) ≤ leastX_0 ∧ leastX_0 ≤ 300000000) (kz_0_154 : (-900000000) ≤ mostX_0 ∧ mostX_0 ≤ 2147483647) (kz_0_155 : (-2147483648) ≤ leastY_0 ∧ leastY_0 ≤ 300000000) (kz_0_156 : (-900000000) ≤ mostY_0 ∧ mostY_0 ≤ 2147483647) (kz_0_173 : 0 ≤ dotWide_0 ∧ dotWide_0 ≤ 64) (kz_0_174 : 0 ≤ dotTall_0 ∧ dotTall_0 ≤ 64) : 1 * leastY_0 + ((-1) * x19 + 0) ≤ 0 := by
  first
    | assumption
    | (clear f0 f1 f2 f7 f8 f9 f14 f15 f16 f19 f20 f21 hK_0_62 hK_0_63 hK_0_64 hK_0_65 hK_0_66; omega)
    | exact (bna_x ‹BNA _ _ _ _ _ _ _ _ _ _ _ _› (by assumption) (by assumption) (by assumption) (by assumption) (by assumption) (by assumption) (by assumption) (by omega) (by omega)).1
    | exact (bna_x ‹BNA _ _ _ _ _ _ _ _ _ _ _ _› (by assumption) (by assumption) (by assumption) (by assumption) (by assumption) (by assumption) (by assumption) (by omega) (by omega)).2
    | exact (bna_y ‹BNA _ _ _ _ _ _ _ _ _ _ _ _› (by assumption) (by assumption) (by assumption) (by assumption) (by assumption) (by assumption) (by assumption) (by omega) (by omega)).1
    | exact (bna_y ‹BNA _ _ _ _ _ _ _ _ _ _ _ _› (by assumption) (by assumption) (by assumption) (by assumption) (by assumption) (by assumption) (by assumption) (by omega) (by omega)).2
    | exact (bna_nx ‹BNA _ _ _ _ _ _ _ _ _ _ _ _› (by assumption) (by clear f0 f1 f2 f7 f8 f9 f14 f15 f16 f19 f20 f21 hK_0_62 hK_0_63 hK_0_64 hK_0_65 hK_0_66; omega) (by clear f0 f1 f2 f7 f8 f9 f14 f15 f16 f19 f20 f21 hK_0_62 hK_0_63 hK_0_64 hK_0_65 hK_0_66; omega)).1
    | exact (bna_nx ‹BNA _ _ _ _ _ _ _ _ _ _ _ _› (by assumption) (by clear f0 f1 f2 f7 f8 f9 f14 f15 f16 f19 f20 f21 hK_0_62 hK_0_63 hK_0_64 hK_0_65 hK_0_66; omega) (by clear f0 f1 f2 f7 f8 f9 f14 f15 f16 f19 f20 f21 hK_0_62 hK_0_63 hK_0_64 hK_0_65 hK_0_66; omega)).2
    | exact (bna_ny ‹BNA _ _ _ _ _ _ _ _ _ _ _ _› (by assumption) (by clear f0 f1 f2 f7 f8 f9 f14 f15 f16 f19 f20 f21 hK_0_62 hK_0_63 hK_0_64 hK_0_65 hK_0_66; omega) (by clear f0 f1 f2 f7 f8 f9 f14 f15 f16 f19 f20 f21 hK_0_62 hK_0_63 hK_0_64 hK_0_65 hK_0_66; omega)).1
    | exact (bna_ny ‹BNA _ _ _ _ _ _ _ _ _ _ _ _› (by assumption) (by clear f0 f1 f2 f7 f8 f9 f14 f15 f16 f19 f20 f21 hK_0_62 hK_0_63 hK_0_64 hK_0_65 hK_0_66; omega) (by clear f0 f1 f2 f7 f8 f9 f14 f15 f16 f19 f20 f21 hK_0_62 hK_0_63 hK_0_64 hK_0_65 hK_0_66; omega)).2
    | omega
set_option maxHeartbeats 4000000 in
theorem vc_Mo_dots_14_1 (x4 : Int) (x5 : Int) (x6 : Int) (x7 : Int) (x8 : Int) (x9 : Int) (x11 : Int) (x13 : Int) (x14 : Int) (x15 : Int) (x17 : Int) (x18 : Int) (x19 : Int) (nodeY_0 : Int → Int) (all_0 : Int → Int) (g0_0 : Int) (r_0 : Int) (bendMany_0 : Int → Int) (bendY_0 : Int → Int) (leastX_0 : Int) (mostX_0 : Int) (nodeX_0 : Int → Int) (bendX_0 : Int → Int) (leastY_0 : Int) (mostY_0 : Int) (dotWide_0 : Int) (dotTall_0 : Int) (k4 : 0 ≤ x4 ∧ x4 ≤ 47) (k5 : 1 ≤ x5 ∧ x5 ≤ 24) (k6 : 1 ≤ x6 ∧ x6 ≤ 1) (k7 : 2 ≤ x7 ∧ x7 ≤ 25) (k8 : 2 ≤ x8 ∧ x8 ≤ 26) (k9 : (-300000011) ≤ x9 ∧ x9 ≤ 221100000) (k11 : (-900000000) ≤ x11 ∧ x11 ≤ 900000000) (k13 : 1 ≤ x13 ∧ x13 ≤ 1) (k14 : 2 ≤ x14 ∧ x14 ≤ 25) (k15 : (-300000000) ≤ x15 ∧ x15 ≤ 300000000) (k17 : 1 ≤ x17 ∧ x17 ≤ 1) (k18 : 2 ≤ x18 ∧ x18 ≤ 25) (k19 : (-300000000) ≤ x19 ∧ x19 ≤ 300000000) (d0 : x5 + 1 ≤ x18 ∧ x18 ≤ x5 + 1) (d1 : x5 + 1 ≤ x14 ∧ x14 ≤ x5 + 1) (d2 : x8 + (-4294967296) ≤ x7 ∧ x7 ≤ x8 + (-1)) (d3 : x5 + 1 ≤ x7 ∧ x7 ≤ x5 + 1) (f0 : (x18 = 0) → (x19 = nodeY_0 (((24 * g0_0) + all_0 (((r_0 + 267) + x4)))))) (f1 : (x18 = (bendMany_0 (((48 * g0_0) + x4)) + 1)) → (x19 = nodeY_0 (((24 * g0_0) + all_0 (((r_0 + 315) + x4)))))) (f2 : (x18 = 0) ∨ ((x18 = (bendMany_0 (((48 * g0_0) + x4)) + 1)) ∨ (x19 = bendY_0 (((24 * ((48 * g0_0) + x4)) + (x18 - 1)))))) (f3 : x18 ≤ (bendMany_0 (((48 * g0_0) + x4)) + 1)) (f4 : x18 = x5 + x17) (f5 : 1 * leastX_0 + ((-1) * x15 + 0) ≤ 0) (f6 : 1 * x15 + ((-1) * mostX_0 + 0) ≤ 0) (f7 : (x14 = 0) → (x15 = nodeX_0 (((24 * g0_0) + all_0 (((r_0 + 267) + x4)))))) (f8 : (x14 = (bendMany_0 (((48 * g0_0) + x4)) + 1)) → (x15 = nodeX_0 (((24 * g0_0) + all_0 (((r_0 + 315) + x4)))))) (f9 : (x14 = 0) ∨ ((x14 = (bendMany_0 (((48 * g0_0) + x4)) + 1)) ∨ (x15 = bendX_0 (((24 * ((48 * g0_0) + x4)) + (x14 - 1)))))) (f10 : x14 ≤ (bendMany_0 (((48 * g0_0) + x4)) + 1)) (f11 : x14 = x5 + x13) (f12 : 1 * leastY_0 + ((-1) * x11 + 0) ≤ 0) (f13 : 1 * x11 + ((-1) * mostY_0 + 0) ≤ 0) (f14 : (x5 = 0) → (x11 = nodeY_0 (((24 * g0_0) + all_0 (((r_0 + 267) + x4)))))) (f15 : (x5 = (bendMany_0 (((48 * g0_0) + x4)) + 1)) → (x11 = nodeY_0 (((24 * g0_0) + all_0 (((r_0 + 315) + x4)))))) (f16 : (x5 = 0) ∨ ((x5 = (bendMany_0 (((48 * g0_0) + x4)) + 1)) ∨ (x11 = bendY_0 (((24 * ((48 * g0_0) + x4)) + (x5 - 1)))))) (f17 : 1 * leastX_0 + ((-1) * x9 + 0) ≤ 0) (f18 : 1 * x9 + ((-1) * mostX_0 + 0) ≤ 0) (f19 : (x5 = 0) → (x9 = nodeX_0 (((24 * g0_0) + all_0 (((r_0 + 267) + x4)))))) (f20 : (x5 = (bendMany_0 (((48 * g0_0) + x4)) + 1)) → (x9 = nodeX_0 (((24 * g0_0) + all_0 (((r_0 + 315) + x4)))))) (f21 : (x5 = 0) ∨ ((x5 = (bendMany_0 (((48 * g0_0) + x4)) + 1)) ∨ (x9 = bendX_0 (((24 * ((48 * g0_0) + x4)) + (x5 - 1)))))) (f22 : x5 ≤ (bendMany_0 (((48 * g0_0) + x4)) + 1)) (f23 : x7 < x8) (f24 : x8 = (bendMany_0 (((48 * g0_0) + x4)) + 2)) (f25 : x7 = x5 + x6) (f26 : BNA (leastX_0) (mostX_0) (leastY_0) (mostY_0) (g0_0) (r_0) (nodeX_0) (nodeY_0) (all_0) (bendMany_0) (bendX_0) (bendY_0)) (f27 : (-1) * dotWide_0 + 0 ≤ (-1)) (f28 : 1 * dotWide_0 + 0 ≤ 64) (f29 : (-1) * dotTall_0 + 0 ≤ (-1)) (f30 : 1 * dotTall_0 + 0 ≤ 64) (f31 : 1 * x4 + ((-1) * all_0 (r_0 + 1) + 0) ≤ (-1)) (hK_0_62 : ∀ j : Int, 0 ≤ j → j < 96 → (-300000000) ≤ nodeX_0 j ∧ nodeX_0 j ≤ 300000000) (hK_0_63 : ∀ j : Int, 0 ≤ j → j < 96 → (-300000000) ≤ nodeY_0 j ∧ nodeY_0 j ≤ 300000000) (hK_0_64 : ∀ j : Int, 0 ≤ j → j < 192 → 0 ≤ bendMany_0 j ∧ bendMany_0 j ≤ 24) (hK_0_65 : ∀ j : Int, 0 ≤ j → j < 4608 → (-300000011) ≤ bendX_0 j ∧ bendX_0 j ≤ 221100000) (hK_0_66 : ∀ j : Int, 0 ≤ j → j < 4608 → (-900000000) ≤ bendY_0 j ∧ bendY_0 j ≤ 900000000) (kz_0_139 : 0 ≤ g0_0 ∧ g0_0 ≤ 3) (kz_0_153 : (-2147483648) ≤ leastX_0 ∧ leastX_0 ≤ 300000000) (kz_0_154 : (-900000000) ≤ mostX_0 ∧ mostX_0 ≤ 2147483647) (kz_0_155 : (-2147483648) ≤ leastY_0 ∧ leastY_0 ≤ 300000000) (kz_0_156 : (-900000000) ≤ mostY_0 ∧ mostY_0 ≤ 2147483647) (kz_0_173 : 0 ≤ dotWide_0 ∧ dotWide_0 ≤ 64) (kz_0_174 : 0 ≤ dotTall_0 ∧ dotTall_0 ≤ 64) : 1 * x19 + ((-1) * mostY_0 + 0) ≤ 0 := by
  first
    | assumption
    | (clear f0 f1 f2 f7 f8 f9 f14 f15 f16 f19 f20 f21 hK_0_62 hK_0_63 hK_0_64 hK_0_65 hK_0_66; omega)
    | exact (bna_x ‹BNA _ _ _ _ _ _ _ _ _ _ _ _› (by assumption) (by assumption) (by assumption) (by assumption) (by assumption) (by assumption) (by assumption) (by omega) (by omega)).1
    | exact (bna_x ‹BNA _ _ _ _ _ _ _ _ _ _ _ _› (by assumption) (by assumption) (by assumption) (by assumption) (by assumption) (by assumption) (by assumption) (by omega) (by omega)).2
    | exact (bna_y ‹BNA _ _ _ _ _ _ _ _ _ _ _ _› (by assumption) (by assumption) (by assumption) (by assumption) (by assumption) (by assumption) (by assumption) (by omega) (by omega)).1
    | exact (bna_y ‹BNA _ _ _ _ _ _ _ _ _ _ _ _› (by assumption) (by assumption) (by assumption) (by assumption) (by assumption) (by assumption) (by assumption) (by omega) (by omega)).2
    | exact (bna_nx ‹BNA _ _ _ _ _ _ _ _ _ _ _ _› (by assumption) (by clear f0 f1 f2 f7 f8 f9 f14 f15 f16 f19 f20 f21 hK_0_62 hK_0_63 hK_0_64 hK_0_65 hK_0_66; omega) (by clear f0 f1 f2 f7 f8 f9 f14 f15 f16 f19 f20 f21 hK_0_62 hK_0_63 hK_0_64 hK_0_65 hK_0_66; omega)).1
    | exact (bna_nx ‹BNA _ _ _ _ _ _ _ _ _ _ _ _› (by assumption) (by clear f0 f1 f2 f7 f8 f9 f14 f15 f16 f19 f20 f21 hK_0_62 hK_0_63 hK_0_64 hK_0_65 hK_0_66; omega) (by clear f0 f1 f2 f7 f8 f9 f14 f15 f16 f19 f20 f21 hK_0_62 hK_0_63 hK_0_64 hK_0_65 hK_0_66; omega)).2
    | exact (bna_ny ‹BNA _ _ _ _ _ _ _ _ _ _ _ _› (by assumption) (by clear f0 f1 f2 f7 f8 f9 f14 f15 f16 f19 f20 f21 hK_0_62 hK_0_63 hK_0_64 hK_0_65 hK_0_66; omega) (by clear f0 f1 f2 f7 f8 f9 f14 f15 f16 f19 f20 f21 hK_0_62 hK_0_63 hK_0_64 hK_0_65 hK_0_66; omega)).1
    | exact (bna_ny ‹BNA _ _ _ _ _ _ _ _ _ _ _ _› (by assumption) (by clear f0 f1 f2 f7 f8 f9 f14 f15 f16 f19 f20 f21 hK_0_62 hK_0_63 hK_0_64 hK_0_65 hK_0_66; omega) (by clear f0 f1 f2 f7 f8 f9 f14 f15 f16 f19 f20 f21 hK_0_62 hK_0_63 hK_0_64 hK_0_65 hK_0_66; omega)).2
    | omega
def o_Mo_dots_14 : or_T := (147, 20, [(0, (2, 0, 0, [165])), (4, (0, 0, 47, [])), (5, (0, 1, 24, [])), (6, (0, 1, 1, [])), (7, (0, 2, 25, [])), (8, (0, 2, 26, [])), (9, (0, -300000011, 221100000, [])), (11, (0, -900000000, 900000000, [])), (13, (0, 1, 1, [])), (14, (0, 2, 25, [])), (15, (0, -300000000, 300000000, [])), (17, (0, 1, 1, [])), (18, (0, 2, 25, [])), (19, (0, -300000000, 300000000, []))], [(20, [18, 19, 0, 4], [50, 2, 2, 2139, 2005, 2063, 2002, 4, 6, 1, 2, 1, 0, 0, 0, 1, 2, 1, 1, 3, 2, 63, 4, 7, 6, 2, 0, 24, 2, 2, 139, 3, 2, 2, 4, 7, 4, 3, 2, 2, 5, 0, 267, 1, 3]), (20, [18, 0, 4, 19], [50, 2, 3, 1139, 1005, 1064, 1063, 1002, 4, 22, 1, 2, 1, 0, 4, 14, 3, 1, 64, 4, 7, 6, 2, 0, 48, 2, 1, 139, 1, 2, 0, 1, 1, 2, 1, 3, 3, 1, 63, 4, 7, 6, 2, 0, 24, 2, 1, 139, 3, 1, 2, 4, 7, 4, 3, 2, 1, 5, 0, 315, 1, 2]), (20, [18, 0, 4, 19], [50, 1, 2, 1139, 1064, 1066, 3, 6, 1, 2, 1, 0, 0, 0, 3, 22, 1, 2, 1, 0, 4, 14, 3, 1, 64, 4, 7, 6, 2, 0, 48, 2, 1, 139, 1, 2, 0, 1, 1, 2, 1, 3, 3, 1, 66, 4, 15, 6, 2, 0, 24, 4, 7, 6, 2, 0, 48, 2, 1, 139, 1, 2, 5, 2, 1, 0, 0, 1]), (20, [18, 0, 4], [50, 1, 1, 1139, 1064, 0, 2, 1, 0, 4, 14, 3, 1, 64, 4, 7, 6, 2, 0, 48, 2, 1, 139, 1, 2, 0, 1]), (1, [18, 5, 17], []), (20, [0, 15], [30, 0, 1, 1, 153, -1, 0, 0]), (20, [15, 0], [30, 0, 1, 0, 0, -1, 1, 154]), (20, [14, 15, 0, 4], [50, 2, 2, 2139, 2005, 2062, 2002, 4, 6, 1, 2, 1, 0, 0, 0, 1, 2, 1, 1, 3, 2, 62, 4, 7, 6, 2, 0, 24, 2, 2, 139, 3, 2, 2, 4, 7, 4, 3, 2, 2, 5, 0, 267, 1, 3]), (20, [14, 0, 4, 15], [50, 2, 3, 1139, 1005, 1064, 1062, 1002, 4, 22, 1, 2, 1, 0, 4, 14, 3, 1, 64, 4, 7, 6, 2, 0, 48, 2, 1, 139, 1, 2, 0, 1, 1, 2, 1, 3, 3, 1, 62, 4, 7, 6, 2, 0, 24, 2, 1, 139, 3, 1, 2, 4, 7, 4, 3, 2, 1, 5, 0, 315, 1, 2]), (20, [14, 0, 4, 15], [50, 1, 2, 1139, 1064, 1065, 3, 6, 1, 2, 1, 0, 0, 0, 3, 22, 1, 2, 1, 0, 4, 14, 3, 1, 64, 4, 7, 6, 2, 0, 48, 2, 1, 139, 1, 2, 0, 1, 1, 2, 1, 3, 3, 1, 65, 4, 15, 6, 2, 0, 24, 4, 7, 6, 2, 0, 48, 2, 1, 139, 1, 2, 5, 2, 1, 0, 0, 1]), (20, [14, 0, 4], [50, 1, 1, 1139, 1064, 0, 2, 1, 0, 4, 14, 3, 1, 64, 4, 7, 6, 2, 0, 48, 2, 1, 139, 1, 2, 0, 1]), (1, [14, 5, 13], []), (20, [0, 11], [30, 0, 1, 1, 155, -1, 0, 0]), (20, [11, 0], [30, 0, 1, 0, 0, -1, 1, 156]), (20, [5, 11, 0, 4], [50, 2, 2, 2139, 2005, 2063, 2002, 4, 6, 1, 2, 1, 0, 0, 0, 1, 2, 1, 1, 3, 2, 63, 4, 7, 6, 2, 0, 24, 2, 2, 139, 3, 2, 2, 4, 7, 4, 3, 2, 2, 5, 0, 267, 1, 3]), (20, [5, 0, 4, 11], [50, 2, 3, 1139, 1005, 1064, 1063, 1002, 4, 22, 1, 2, 1, 0, 4, 14, 3, 1, 64, 4, 7, 6, 2, 0, 48, 2, 1, 139, 1, 2, 0, 1, 1, 2, 1, 3, 3, 1, 63, 4, 7, 6, 2, 0, 24, 2, 1, 139, 3, 1, 2, 4, 7, 4, 3, 2, 1, 5, 0, 315, 1, 2]), (20, [5, 0, 4, 11], [50, 1, 2, 1139, 1064, 1066, 3, 6, 1, 2, 1, 0, 0, 0, 3, 22, 1, 2, 1, 0, 4, 14, 3, 1, 64, 4, 7, 6, 2, 0, 48, 2, 1, 139, 1, 2, 0, 1, 1, 2, 1, 3, 3, 1, 66, 4, 15, 6, 2, 0, 24, 4, 7, 6, 2, 0, 48, 2, 1, 139, 1, 2, 5, 2, 1, 0, 0, 1]), (20, [0, 9], [30, 0, 1, 1, 153, -1, 0, 0]), (20, [9, 0], [30, 0, 1, 0, 0, -1, 1, 154]), (20, [5, 9, 0, 4], [50, 2, 2, 2139, 2005, 2062, 2002, 4, 6, 1, 2, 1, 0, 0, 0, 1, 2, 1, 1, 3, 2, 62, 4, 7, 6, 2, 0, 24, 2, 2, 139, 3, 2, 2, 4, 7, 4, 3, 2, 2, 5, 0, 267, 1, 3]), (20, [5, 0, 4, 9], [50, 2, 3, 1139, 1005, 1064, 1062, 1002, 4, 22, 1, 2, 1, 0, 4, 14, 3, 1, 64, 4, 7, 6, 2, 0, 48, 2, 1, 139, 1, 2, 0, 1, 1, 2, 1, 3, 3, 1, 62, 4, 7, 6, 2, 0, 24, 2, 1, 139, 3, 1, 2, 4, 7, 4, 3, 2, 1, 5, 0, 315, 1, 2]), (20, [5, 0, 4, 9], [50, 1, 2, 1139, 1064, 1065, 3, 6, 1, 2, 1, 0, 0, 0, 3, 22, 1, 2, 1, 0, 4, 14, 3, 1, 64, 4, 7, 6, 2, 0, 48, 2, 1, 139, 1, 2, 0, 1, 1, 2, 1, 3, 3, 1, 65, 4, 15, 6, 2, 0, 24, 4, 7, 6, 2, 0, 48, 2, 1, 139, 1, 2, 5, 2, 1, 0, 0, 1]), (20, [5, 0, 4], [50, 1, 1, 1139, 1064, 0, 2, 1, 0, 4, 14, 3, 1, 64, 4, 7, 6, 2, 0, 48, 2, 1, 139, 1, 2, 0, 1]), (7, [7, 8], [2]), (20, [8, 0, 4], [50, 1, 1, 1139, 1064, 1, 2, 1, 0, 4, 14, 3, 1, 64, 4, 7, 6, 2, 0, 48, 2, 1, 139, 1, 2, 0, 2]), (1, [7, 5, 6], []), (20, [0], [60, 6, 6, 945, 153, 154, 155, 156, 139, 5, 62, 63, 2, 64, 65, 66]), (20, [0], [30, -1, -1, 1, 173]), (20, [0], [30, 64, 1, 1, 173]), (20, [0], [30, -1, -1, 1, 174]), (20, [0], [30, 64, 1, 1, 174]), (20, [4, 0], [30, -1, 1, 0, 0, -1, 3, 2005001])], [], [], [(20, [0, 19], [30, 0, 1, 1, 155, -1, 0, 0]), (20, [19, 0], [30, 0, 1, 0, 0, -1, 1, 156])], [], [(18, 5, 1, 1), (14, 5, 1, 1), (7, 8, -4294967296, -1), (7, 5, 1, 1)])
theorem oo_Mo_dots_14 {kA : Nat → ClassId} : or_ok PRD kA GG o_Mo_dots_14 := by
  refine or_mk fun A ta ws vs hD hth hl => ?_
  intro t0 r0 t4 k4 t5 k5 t6 k6 t7 k7 t8 k8 t9 k9 t11 k11 t13 k13 t14 k14 t15 k15 t17 k17 t18 k18 t19 k19 d0 d1 d2 d3 f0 f1 f2 f3 f4 f5 f6 f7 f8 f9 f10 f11 f12 f13 f14 f15 f16 f17 f18 f19 f20 f21 f22 f23 f24 f25 f26 f27 f28 f29 f30 f31
  have cr_0_62 := fdq_173 hD hth r0
  have cr_0_63 := fdq_174 hD hth r0
  have cr_0_64 := fdq_171 hD hth r0
  have cr_0_65 := fdq_292 hD hth r0
  have cr_0_66 := fdq_293 hD hth r0
  have hK_0_62 := elq_102 hD hth cr_0_62
  have hK_0_63 := elq_103 hD hth cr_0_63
  have hK_0_64 := elq_101 hD hth cr_0_64
  have hK_0_65 := elq_184 hD hth cr_0_65
  have hK_0_66 := elq_185 hD hth cr_0_66
  have kz_0_139 := fdq_172 hD hth r0
  have kz_0_153 := fdq_14 hD hth r0
  have kz_0_154 := fdq_15 hD hth r0
  have kz_0_155 := fdq_17 hD hth r0
  have kz_0_156 := fdq_18 hD hth r0
  have kz_0_173 := fdq_16 hD hth r0
  have kz_0_174 := fdq_19 hD hth r0
  have nf0 : fc_1 PRD (20, [0, 19], [30, 0, 1, 1, 155, -1, 0, 0]) ws (vs) := ⟨nf_in hl rfl, sgq_153 (vc_Mo_dots_14_0 (v_iv (n_v vs 4)) (v_iv (n_v vs 5)) (v_iv (n_v vs 6)) (v_iv (n_v vs 7)) (v_iv (n_v vs 8)) (v_iv (n_v vs 9)) (v_iv (n_v vs 11)) (v_iv (n_v vs 13)) (v_iv (n_v vs 14)) (v_iv (n_v vs 15)) (v_iv (n_v vs 17)) (v_iv (n_v vs 18)) (v_iv (n_v vs 19)) (w_ei ws (w_ar ws (n_v vs 0) 63)) (w_ei ws (w_ar ws (n_v vs 0) 2)) (w_fi ws (n_v vs 0) 139) (w_fi ws (n_v vs 0) 5) (w_ei ws (w_ar ws (n_v vs 0) 64)) (w_ei ws (w_ar ws (n_v vs 0) 66)) (w_fi ws (n_v vs 0) 153) (w_fi ws (n_v vs 0) 154) (w_ei ws (w_ar ws (n_v vs 0) 62)) (w_ei ws (w_ar ws (n_v vs 0) 65)) (w_fi ws (n_v vs 0) 155) (w_fi ws (n_v vs 0) 156) (w_fi ws (n_v vs 0) 173) (w_fi ws (n_v vs 0) 174) k4 k5 k6 k7 k8 k9 k11 k13 k14 k15 k17 k18 k19 d0 d1 d2 d3 (shm_1427 f0) (shm_1428 f1) (shm_1429 f2) (shm_1421 f3) (shm_12 f4) (shm_146 f5) (shm_147 f6) (shm_1423 f7) (shm_1424 f8) (shm_1425 f9) (shm_1421 f10) (shm_12 f11) (shm_153 f12) (shm_154 f13) (shm_1427 f14) (shm_1428 f15) (shm_1429 f16) (shm_146 f17) (shm_147 f18) (shm_1423 f19) (shm_1424 f20) (shm_1425 f21) (shm_1421 f22) (shm_6 f23) (shm_683 f24) (shm_12 f25) (shm_1845 f26) (shm_148 f27) (shm_149 f28) (shm_155 f29) (shm_156 f30) (shm_979 f31) hK_0_62 hK_0_63 hK_0_64 hK_0_65 hK_0_66 kz_0_139 kz_0_153 kz_0_154 kz_0_155 kz_0_156 kz_0_173 kz_0_174)⟩
  have nf1 : fc_1 PRD (20, [19, 0], [30, 0, 1, 0, 0, -1, 1, 156]) ws (vs) := ⟨nf_in hl rfl, sgq_154 (vc_Mo_dots_14_1 (v_iv (n_v vs 4)) (v_iv (n_v vs 5)) (v_iv (n_v vs 6)) (v_iv (n_v vs 7)) (v_iv (n_v vs 8)) (v_iv (n_v vs 9)) (v_iv (n_v vs 11)) (v_iv (n_v vs 13)) (v_iv (n_v vs 14)) (v_iv (n_v vs 15)) (v_iv (n_v vs 17)) (v_iv (n_v vs 18)) (v_iv (n_v vs 19)) (w_ei ws (w_ar ws (n_v vs 0) 63)) (w_ei ws (w_ar ws (n_v vs 0) 2)) (w_fi ws (n_v vs 0) 139) (w_fi ws (n_v vs 0) 5) (w_ei ws (w_ar ws (n_v vs 0) 64)) (w_ei ws (w_ar ws (n_v vs 0) 66)) (w_fi ws (n_v vs 0) 153) (w_fi ws (n_v vs 0) 154) (w_ei ws (w_ar ws (n_v vs 0) 62)) (w_ei ws (w_ar ws (n_v vs 0) 65)) (w_fi ws (n_v vs 0) 155) (w_fi ws (n_v vs 0) 156) (w_fi ws (n_v vs 0) 173) (w_fi ws (n_v vs 0) 174) k4 k5 k6 k7 k8 k9 k11 k13 k14 k15 k17 k18 k19 d0 d1 d2 d3 (shm_1427 f0) (shm_1428 f1) (shm_1429 f2) (shm_1421 f3) (shm_12 f4) (shm_146 f5) (shm_147 f6) (shm_1423 f7) (shm_1424 f8) (shm_1425 f9) (shm_1421 f10) (shm_12 f11) (shm_153 f12) (shm_154 f13) (shm_1427 f14) (shm_1428 f15) (shm_1429 f16) (shm_146 f17) (shm_147 f18) (shm_1423 f19) (shm_1424 f20) (shm_1425 f21) (shm_1421 f22) (shm_6 f23) (shm_683 f24) (shm_12 f25) (shm_1845 f26) (shm_148 f27) (shm_149 f28) (shm_155 f29) (shm_156 f30) (shm_979 f31) hK_0_62 hK_0_63 hK_0_64 hK_0_65 hK_0_66 kz_0_139 kz_0_153 kz_0_154 kz_0_155 kz_0_156 kz_0_173 kz_0_174)⟩
  refine ⟨(fun _ h => (by cases h)), [], trivial, ?_, (fun _ h => (by cases h))⟩
  rw [List.append_nil]
  exact List.forall_mem_cons.mpr ⟨⟨show (20 : Nat) < 100 from by decide, nf0⟩, List.forall_mem_cons.mpr ⟨⟨show (20 : Nat) < 100 from by decide, nf1⟩, (fun _ h => (by cases h))⟩⟩
set_option maxHeartbeats 4000000 in
theorem vc_Mo_dots_15_0 (x4 : Int) (x5 : Int) (x6 : Int) (x7 : Int) (x8 : Int) (x9 : Int) (x11 : Int) (nodeY_0 : Int → Int) (all_0 : Int → Int) (g0_0 : Int) (r_0 : Int) (bendMany_0 : Int → Int) (bendY_0 : Int → Int) (leastX_0 : Int) (mostX_0 : Int) (nodeX_0 : Int → Int) (bendX_0 : Int → Int) (leastY_0 : Int) (mostY_0 : Int) (dotWide_0 : Int) (dotTall_0 : Int) (k4 : 0 ≤ x4 ∧ x4 ≤ 47) (k5 : 1 ≤ x5 ∧ x5 ≤ 24) (k6 : 1 ≤ x6 ∧ x6 ≤ 1) (k7 : 2 ≤ x7 ∧ x7 ≤ 25) (k8 : 2 ≤ x8 ∧ x8 ≤ 26) (k9 : (-300000011) ≤ x9 ∧ x9 ≤ 221100000) (k11 : (-300000000) ≤ x11 ∧ x11 ≤ 300000000) (d0 : x8 + (-4294967296) ≤ x7 ∧ x7 ≤ x8 + (-1)) (d1 : x5 + 1 ≤ x7 ∧ x7 ≤ x5 + 1) (f0 : (x5 = 0) → (x11 = nodeY_0 (((24 * g0_0) + all_0 (((r_0 + 267) + x4)))))) (f1 : (x5 = (bendMany_0 (((48 * g0_0) + x4)) + 1)) → (x11 = nodeY_0 (((24 * g0_0) + all_0 (((r_0 + 315) + x4)))))) (f2 : (x5 = 0) ∨ ((x5 = (bendMany_0 (((48 * g0_0) + x4)) + 1)) ∨ (x11 = bendY_0 (((24 * ((48 * g0_0) + x4)) + (x5 - 1)))))) (f3 : 1 * leastX_0 + ((-1) * x9 + 0) ≤ 0) (f4 : 1 * x9 + ((-1) * mostX_0 + 0) ≤ 0) (f5 : (x5 = 0) → (x9 = nodeX_0 (((24 * g0_0) + all_0 (((r_0 + 267) + x4)))))) (f6 : (x5 = (bendMany_0 (((48 * g0_0) + x4)) + 1)) → (x9 = nodeX_0 (((24 * g0_0) + all_0 (((r_0 + 315) + x4)))))) (f7 : (x5 = 0) ∨ ((x5 = (bendMany_0 (((48 * g0_0) + x4)) + 1)) ∨ (x9 = bendX_0 (((24 * ((48 * g0_0) + x4)) + (x5 - 1)))))) (f8 : x5 ≤ (bendMany_0 (((48 * g0_0) + x4)) + 1)) (f9 : x7 < x8) (f10 : x8 = (bendMany_0 (((48 * g0_0) + x4)) + 2)) (f11 : x7 = x5 + x6) (f12 : BNA (leastX_0) (mostX_0) (leastY_0) (mostY_0) (g0_0) (r_0) (nodeX_0) (nodeY_0) (all_0) (bendMany_0) (bendX_0) (bendY_0)) (f13 : (-1) * dotWide_0 + 0 ≤ (-1)) (f14 : 1 * dotWide_0 + 0 ≤ 64) (f15 : (-1) * dotTall_0 + 0 ≤ (-1)) (f16 : 1 * dotTall_0 + 0 ≤ 64) (f17 : 1 * x4 + ((-1) * all_0 (r_0 + 1) + 0) ≤ (-1)) (hK_0_62 : ∀ j : Int, 0 ≤ j → j < 96 → (-300000000) ≤ nodeX_0 j ∧ nodeX_0 j ≤ 300000000) (hK_0_63 : ∀ j : Int, 0 ≤ j → j < 96 → (-300000000) ≤ nodeY_0 j ∧ nodeY_0 j ≤ 300000000) (hK_0_64 : ∀ j : Int, 0 ≤ j → j < 192 → 0 ≤ bendMany_0 j ∧ bendMany_0 j ≤ 24) (hK_0_65 : ∀ j : Int, 0 ≤ j → j < 4608 → (-300000011) ≤ bendX_0 j ∧ bendX_0 j ≤ 221100000) (hK_0_66 : ∀ j : Int, 0 ≤ j → j < 4608 → (-900000000) ≤ bendY_0 j ∧ bendY_0 j ≤ 900000000) (kz_0_139 : 0 ≤ g0_0 ∧ g0_0 ≤ 3) (kz_0_153 : (-2147483648) ≤ leastX_0 ∧ leastX_0 ≤ 300000000) (kz_0_154 : (-900000000) ≤ mostX_0 ∧ mostX_0 ≤ 2147483647) (kz_0_155 : (-2147483648) ≤ leastY_0 ∧ leastY_0 ≤ 300000000) (kz_0_156 : (-900000000) ≤ mostY_0 ∧ mostY_0 ≤ 2147483647) (kz_0_173 : 0 ≤ dotWide_0 ∧ dotWide_0 ≤ 64) (kz_0_174 : 0 ≤ dotTall_0 ∧ dotTall_0 ≤ 64) : 1 * leastY_0 + ((-1) * x11 + 0) ≤ 0 := by
  first
    | assumption
    | (clear f0 f1 f2 f5 f6 f7 hK_0_62 hK_0_63 hK_0_64 hK_0_65 hK_0_66; omega)
    | exact (bna_x ‹BNA _ _ _ _ _ _ _ _ _ _ _ _› (by assumption) (by assumption) (by assumption) (by assumption) (by assumption) (by assumption) (by assumption) (by omega) (by omega)).1
    | exact (bna_x ‹BNA _ _ _ _ _ _ _ _ _ _ _ _› (by assumption) (by assumption) (by assumption) (by assumption) (by assumption) (by assumption) (by assumption) (by omega) (by omega)).2
    | exact (bna_y ‹BNA _ _ _ _ _ _ _ _ _ _ _ _› (by assumption) (by assumption) (by assumption) (by assumption) (by assumption) (by assumption) (by assumption) (by omega) (by omega)).1
    | exact (bna_y ‹BNA _ _ _ _ _ _ _ _ _ _ _ _› (by assumption) (by assumption) (by assumption) (by assumption) (by assumption) (by assumption) (by assumption) (by omega) (by omega)).2
    | exact (bna_nx ‹BNA _ _ _ _ _ _ _ _ _ _ _ _› (by assumption) (by clear f0 f1 f2 f5 f6 f7 hK_0_62 hK_0_63 hK_0_64 hK_0_65 hK_0_66; omega) (by clear f0 f1 f2 f5 f6 f7 hK_0_62 hK_0_63 hK_0_64 hK_0_65 hK_0_66; omega)).1
    | exact (bna_nx ‹BNA _ _ _ _ _ _ _ _ _ _ _ _› (by assumption) (by clear f0 f1 f2 f5 f6 f7 hK_0_62 hK_0_63 hK_0_64 hK_0_65 hK_0_66; omega) (by clear f0 f1 f2 f5 f6 f7 hK_0_62 hK_0_63 hK_0_64 hK_0_65 hK_0_66; omega)).2
    | exact (bna_ny ‹BNA _ _ _ _ _ _ _ _ _ _ _ _› (by assumption) (by clear f0 f1 f2 f5 f6 f7 hK_0_62 hK_0_63 hK_0_64 hK_0_65 hK_0_66; omega) (by clear f0 f1 f2 f5 f6 f7 hK_0_62 hK_0_63 hK_0_64 hK_0_65 hK_0_66; omega)).1
    | exact (bna_ny ‹BNA _ _ _ _ _ _ _ _ _ _ _ _› (by assumption) (by clear f0 f1 f2 f5 f6 f7 hK_0_62 hK_0_63 hK_0_64 hK_0_65 hK_0_66; omega) (by clear f0 f1 f2 f5 f6 f7 hK_0_62 hK_0_63 hK_0_64 hK_0_65 hK_0_66; omega)).2
    | omega
set_option maxHeartbeats 4000000 in
theorem vc_Mo_dots_15_1 (x4 : Int) (x5 : Int) (x6 : Int) (x7 : Int) (x8 : Int) (x9 : Int) (x11 : Int) (nodeY_0 : Int → Int) (all_0 : Int → Int) (g0_0 : Int) (r_0 : Int) (bendMany_0 : Int → Int) (bendY_0 : Int → Int) (leastX_0 : Int) (mostX_0 : Int) (nodeX_0 : Int → Int) (bendX_0 : Int → Int) (leastY_0 : Int) (mostY_0 : Int) (dotWide_0 : Int) (dotTall_0 : Int) (k4 : 0 ≤ x4 ∧ x4 ≤ 47) (k5 : 1 ≤ x5 ∧ x5 ≤ 24) (k6 : 1 ≤ x6 ∧ x6 ≤ 1) (k7 : 2 ≤ x7 ∧ x7 ≤ 25) (k8 : 2 ≤ x8 ∧ x8 ≤ 26) (k9 : (-300000011) ≤ x9 ∧ x9 ≤ 221100000) (k11 : (-300000000) ≤ x11 ∧ x11 ≤ 300000000) (d0 : x8 + (-4294967296) ≤ x7 ∧ x7 ≤ x8 + (-1)) (d1 : x5 + 1 ≤ x7 ∧ x7 ≤ x5 + 1) (f0 : (x5 = 0) → (x11 = nodeY_0 (((24 * g0_0) + all_0 (((r_0 + 267) + x4)))))) (f1 : (x5 = (bendMany_0 (((48 * g0_0) + x4)) + 1)) → (x11 = nodeY_0 (((24 * g0_0) + all_0 (((r_0 + 315) + x4)))))) (f2 : (x5 = 0) ∨ ((x5 = (bendMany_0 (((48 * g0_0) + x4)) + 1)) ∨ (x11 = bendY_0 (((24 * ((48 * g0_0) + x4)) + (x5 - 1)))))) (f3 : 1 * leastX_0 + ((-1) * x9 + 0) ≤ 0) (f4 : 1 * x9 + ((-1) * mostX_0 + 0) ≤ 0) (f5 : (x5 = 0) → (x9 = nodeX_0 (((24 * g0_0) + all_0 (((r_0 + 267) + x4)))))) (f6 : (x5 = (bendMany_0 (((48 * g0_0) + x4)) + 1)) → (x9 = nodeX_0 (((24 * g0_0) + all_0 (((r_0 + 315) + x4)))))) (f7 : (x5 = 0) ∨ ((x5 = (bendMany_0 (((48 * g0_0) + x4)) + 1)) ∨ (x9 = bendX_0 (((24 * ((48 * g0_0) + x4)) + (x5 - 1)))))) (f8 : x5 ≤ (bendMany_0 (((48 * g0_0) + x4)) + 1)) (f9 : x7 < x8) (f10 : x8 = (bendMany_0 (((48 * g0_0) + x4)) + 2)) (f11 : x7 = x5 + x6) (f12 : BNA (leastX_0) (mostX_0) (leastY_0) (mostY_0) (g0_0) (r_0) (nodeX_0) (nodeY_0) (all_0) (bendMany_0) (bendX_0) (bendY_0)) (f13 : (-1) * dotWide_0 + 0 ≤ (-1)) (f14 : 1 * dotWide_0 + 0 ≤ 64) (f15 : (-1) * dotTall_0 + 0 ≤ (-1)) (f16 : 1 * dotTall_0 + 0 ≤ 64) (f17 : 1 * x4 + ((-1) * all_0 (r_0 + 1) + 0) ≤ (-1)) (hK_0_62 : ∀ j : Int, 0 ≤ j → j < 96 → (-300000000) ≤ nodeX_0 j ∧ nodeX_0 j ≤ 300000000) (hK_0_63 : ∀ j : Int, 0 ≤ j → j < 96 → (-300000000) ≤ nodeY_0 j ∧ nodeY_0 j ≤ 300000000) (hK_0_64 : ∀ j : Int, 0 ≤ j → j < 192 → 0 ≤ bendMany_0 j ∧ bendMany_0 j ≤ 24) (hK_0_65 : ∀ j : Int, 0 ≤ j → j < 4608 → (-300000011) ≤ bendX_0 j ∧ bendX_0 j ≤ 221100000) (hK_0_66 : ∀ j : Int, 0 ≤ j → j < 4608 → (-900000000) ≤ bendY_0 j ∧ bendY_0 j ≤ 900000000) (kz_0_139 : 0 ≤ g0_0 ∧ g0_0 ≤ 3) (kz_0_153 : (-2147483648) ≤ leastX_0 ∧ leastX_0 ≤ 300000000) (kz_0_154 : (-900000000) ≤ mostX_0 ∧ mostX_0 ≤ 2147483647) (kz_0_155 : (-2147483648) ≤ leastY_0 ∧ leastY_0 ≤ 300000000) (kz_0_156 : (-900000000) ≤ mostY_0 ∧ mostY_0 ≤ 2147483647) (kz_0_173 : 0 ≤ dotWide_0 ∧ dotWide_0 ≤ 64) (kz_0_174 : 0 ≤ dotTall_0 ∧ dotTall_0 ≤ 64) : 1 * x11 + ((-1) * mostY_0 + 0) ≤ 0 := by
  first
    | assumption
    | (clear f0 f1 f2 f5 f6 f7 hK_0_62 hK_0_63 hK_0_64 hK_0_65 hK_0_66; omega)
    | exact (bna_x ‹BNA _ _ _ _ _ _ _ _ _ _ _ _› (by assumption) (by assumption) (by assumption) (by assumption) (by assumption) (by assumption) (by assumption) (by omega) (by omega)).1
    | exact (bna_x ‹BNA _ _ _ _ _ _ _ _ _ _ _ _› (by assumption) (by assumption) (by assumption) (by assumption) (by assumption) (by assumption) (by assumption) (by omega) (by omega)).2
    | exact (bna_y ‹BNA _ _ _ _ _ _ _ _ _ _ _ _› (by assumption) (by assumption) (by assumption) (by assumption) (by assumption) (by assumption) (by assumption) (by omega) (by omega)).1
    | exact (bna_y ‹BNA _ _ _ _ _ _ _ _ _ _ _ _› (by assumption) (by assumption) (by assumption) (by assumption) (by assumption) (by assumption) (by assumption) (by omega) (by omega)).2
    | exact (bna_nx ‹BNA _ _ _ _ _ _ _ _ _ _ _ _› (by assumption) (by clear f0 f1 f2 f5 f6 f7 hK_0_62 hK_0_63 hK_0_64 hK_0_65 hK_0_66; omega) (by clear f0 f1 f2 f5 f6 f7 hK_0_62 hK_0_63 hK_0_64 hK_0_65 hK_0_66; omega)).1
    | exact (bna_nx ‹BNA _ _ _ _ _ _ _ _ _ _ _ _› (by assumption) (by clear f0 f1 f2 f5 f6 f7 hK_0_62 hK_0_63 hK_0_64 hK_0_65 hK_0_66; omega) (by clear f0 f1 f2 f5 f6 f7 hK_0_62 hK_0_63 hK_0_64 hK_0_65 hK_0_66; omega)).2
    | exact (bna_ny ‹BNA _ _ _ _ _ _ _ _ _ _ _ _› (by assumption) (by clear f0 f1 f2 f5 f6 f7 hK_0_62 hK_0_63 hK_0_64 hK_0_65 hK_0_66; omega) (by clear f0 f1 f2 f5 f6 f7 hK_0_62 hK_0_63 hK_0_64 hK_0_65 hK_0_66; omega)).1
    | exact (bna_ny ‹BNA _ _ _ _ _ _ _ _ _ _ _ _› (by assumption) (by clear f0 f1 f2 f5 f6 f7 hK_0_62 hK_0_63 hK_0_64 hK_0_65 hK_0_66; omega) (by clear f0 f1 f2 f5 f6 f7 hK_0_62 hK_0_63 hK_0_64 hK_0_65 hK_0_66; omega)).2
    | omega
def o_Mo_dots_15 : or_T := (119, 12, [(0, (2, 0, 0, [165])), (4, (0, 0, 47, [])), (5, (0, 1, 24, [])), (6, (0, 1, 1, [])), (7, (0, 2, 25, [])), (8, (0, 2, 26, [])), (9, (0, -300000011, 221100000, [])), (11, (0, -300000000, 300000000, []))], [(20, [5, 11, 0, 4], [50, 2, 2, 2139, 2005, 2063, 2002, 4, 6, 1, 2, 1, 0, 0, 0, 1, 2, 1, 1, 3, 2, 63, 4, 7, 6, 2, 0, 24, 2, 2, 139, 3, 2, 2, 4, 7, 4, 3, 2, 2, 5, 0, 267, 1, 3]), (20, [5, 0, 4, 11], [50, 2, 3, 1139, 1005, 1064, 1063, 1002, 4, 22, 1, 2, 1, 0, 4, 14, 3, 1, 64, 4, 7, 6, 2, 0, 48, 2, 1, 139, 1, 2, 0, 1, 1, 2, 1, 3, 3, 1, 63, 4, 7, 6, 2, 0, 24, 2, 1, 139, 3, 1, 2, 4, 7, 4, 3, 2, 1, 5, 0, 315, 1, 2]), (20, [5, 0, 4, 11], [50, 1, 2, 1139, 1064, 1066, 3, 6, 1, 2, 1, 0, 0, 0, 3, 22, 1, 2, 1, 0, 4, 14, 3, 1, 64, 4, 7, 6, 2, 0, 48, 2, 1, 139, 1, 2, 0, 1, 1, 2, 1, 3, 3, 1, 66, 4, 15, 6, 2, 0, 24, 4, 7, 6, 2, 0, 48, 2, 1, 139, 1, 2, 5, 2, 1, 0, 0, 1]), (20, [0, 9], [30, 0, 1, 1, 153, -1, 0, 0]), (20, [9, 0], [30, 0, 1, 0, 0, -1, 1, 154]), (20, [5, 9, 0, 4], [50, 2, 2, 2139, 2005, 2062, 2002, 4, 6, 1, 2, 1, 0, 0, 0, 1, 2, 1, 1, 3, 2, 62, 4, 7, 6, 2, 0, 24, 2, 2, 139, 3, 2, 2, 4, 7, 4, 3, 2, 2, 5, 0, 267, 1, 3]), (20, [5, 0, 4, 9], [50, 2, 3, 1139, 1005, 1064, 1062, 1002, 4, 22, 1, 2, 1, 0, 4, 14, 3, 1, 64, 4, 7, 6, 2, 0, 48, 2, 1, 139, 1, 2, 0, 1, 1, 2, 1, 3, 3, 1, 62, 4, 7, 6, 2, 0, 24, 2, 1, 139, 3, 1, 2, 4, 7, 4, 3, 2, 1, 5, 0, 315, 1, 2]), (20, [5, 0, 4, 9], [50, 1, 2, 1139, 1064, 1065, 3, 6, 1, 2, 1, 0, 0, 0, 3, 22, 1, 2, 1, 0, 4, 14, 3, 1, 64, 4, 7, 6, 2, 0, 48, 2, 1, 139, 1, 2, 0, 1, 1, 2, 1, 3, 3, 1, 65, 4, 15, 6, 2, 0, 24, 4, 7, 6, 2, 0, 48, 2, 1, 139, 1, 2, 5, 2, 1, 0, 0, 1]), (20, [5, 0, 4], [50, 1, 1, 1139, 1064, 0, 2, 1, 0, 4, 14, 3, 1, 64, 4, 7, 6, 2, 0, 48, 2, 1, 139, 1, 2, 0, 1]), (7, [7, 8], [2]), (20, [8, 0, 4], [50, 1, 1, 1139, 1064, 1, 2, 1, 0, 4, 14, 3, 1, 64, 4, 7, 6, 2, 0, 48, 2, 1, 139, 1, 2, 0, 2]), (1, [7, 5, 6], []), (20, [0], [60, 6, 6, 945, 153, 154, 155, 156, 139, 5, 62, 63, 2, 64, 65, 66]), (20, [0], [30, -1, -1, 1, 173]), (20, [0], [30, 64, 1, 1, 173]), (20, [0], [30, -1, -1, 1, 174]), (20, [0], [30, 64, 1, 1, 174]), (20, [4, 0], [30, -1, 1, 0, 0, -1, 3, 2005001])], [], [], [(20, [0, 11], [30, 0, 1, 1, 155, -1, 0, 0]), (20, [11, 0], [30, 0, 1, 0, 0, -1, 1, 156])], [], [(7, 8, -4294967296, -1), (7, 5, 1, 1)])
theorem oo_Mo_dots_15 {kA : Nat → ClassId} : or_ok PRD kA GG o_Mo_dots_15 := by
  refine or_mk fun A ta ws vs hD hth hl => ?_
  intro t0 r0 t4 k4 t5 k5 t6 k6 t7 k7 t8 k8 t9 k9 t11 k11 d0 d1 f0 f1 f2 f3 f4 f5 f6 f7 f8 f9 f10 f11 f12 f13 f14 f15 f16 f17
  have cr_0_62 := fdq_173 hD hth r0
  have cr_0_63 := fdq_174 hD hth r0
  have cr_0_64 := fdq_171 hD hth r0
  have cr_0_65 := fdq_292 hD hth r0
  have cr_0_66 := fdq_293 hD hth r0
  have hK_0_62 := elq_102 hD hth cr_0_62
  have hK_0_63 := elq_103 hD hth cr_0_63
  have hK_0_64 := elq_101 hD hth cr_0_64
  have hK_0_65 := elq_184 hD hth cr_0_65
  have hK_0_66 := elq_185 hD hth cr_0_66
  have kz_0_139 := fdq_172 hD hth r0
  have kz_0_153 := fdq_14 hD hth r0
  have kz_0_154 := fdq_15 hD hth r0
  have kz_0_155 := fdq_17 hD hth r0
  have kz_0_156 := fdq_18 hD hth r0
  have kz_0_173 := fdq_16 hD hth r0
  have kz_0_174 := fdq_19 hD hth r0
  have nf0 : fc_1 PRD (20, [0, 11], [30, 0, 1, 1, 155, -1, 0, 0]) ws (vs) := ⟨nf_in hl rfl, sgq_153 (vc_Mo_dots_15_0 (v_iv (n_v vs 4)) (v_iv (n_v vs 5)) (v_iv (n_v vs 6)) (v_iv (n_v vs 7)) (v_iv (n_v vs 8)) (v_iv (n_v vs 9)) (v_iv (n_v vs 11)) (w_ei ws (w_ar ws (n_v vs 0) 63)) (w_ei ws (w_ar ws (n_v vs 0) 2)) (w_fi ws (n_v vs 0) 139) (w_fi ws (n_v vs 0) 5) (w_ei ws (w_ar ws (n_v vs 0) 64)) (w_ei ws (w_ar ws (n_v vs 0) 66)) (w_fi ws (n_v vs 0) 153) (w_fi ws (n_v vs 0) 154) (w_ei ws (w_ar ws (n_v vs 0) 62)) (w_ei ws (w_ar ws (n_v vs 0) 65)) (w_fi ws (n_v vs 0) 155) (w_fi ws (n_v vs 0) 156) (w_fi ws (n_v vs 0) 173) (w_fi ws (n_v vs 0) 174) k4 k5 k6 k7 k8 k9 k11 d0 d1 (shm_1427 f0) (shm_1428 f1) (shm_1429 f2) (shm_146 f3) (shm_147 f4) (shm_1423 f5) (shm_1424 f6) (shm_1425 f7) (shm_1421 f8) (shm_6 f9) (shm_683 f10) (shm_12 f11) (shm_1845 f12) (shm_148 f13) (shm_149 f14) (shm_155 f15) (shm_156 f16) (shm_979 f17) hK_0_62 hK_0_63 hK_0_64 hK_0_65 hK_0_66 kz_0_139 kz_0_153 kz_0_154 kz_0_155 kz_0_156 kz_0_173 kz_0_174)⟩
  have nf1 : fc_1 PRD (20, [11, 0], [30, 0, 1, 0, 0, -1, 1, 156]) ws (vs) := ⟨nf_in hl rfl, sgq_154 (vc_Mo_dots_15_1 (v_iv (n_v vs 4)) (v_iv (n_v vs 5)) (v_iv (n_v vs 6)) (v_iv (n_v vs 7)) (v_iv (n_v vs 8)) (v_iv (n_v vs 9)) (v_iv (n_v vs 11)) (w_ei ws (w_ar ws (n_v vs 0) 63)) (w_ei ws (w_ar ws (n_v vs 0) 2)) (w_fi ws (n_v vs 0) 139) (w_fi ws (n_v vs 0) 5) (w_ei ws (w_ar ws (n_v vs 0) 64)) (w_ei ws (w_ar ws (n_v vs 0) 66)) (w_fi ws (n_v vs 0) 153) (w_fi ws (n_v vs 0) 154) (w_ei ws (w_ar ws (n_v vs 0) 62)) (w_ei ws (w_ar ws (n_v vs 0) 65)) (w_fi ws (n_v vs 0) 155) (w_fi ws (n_v vs 0) 156) (w_fi ws (n_v vs 0) 173) (w_fi ws (n_v vs 0) 174) k4 k5 k6 k7 k8 k9 k11 d0 d1 (shm_1427 f0) (shm_1428 f1) (shm_1429 f2) (shm_146 f3) (shm_147 f4) (shm_1423 f5) (shm_1424 f6) (shm_1425 f7) (shm_1421 f8) (shm_6 f9) (shm_683 f10) (shm_12 f11) (shm_1845 f12) (shm_148 f13) (shm_149 f14) (shm_155 f15) (shm_156 f16) (shm_979 f17) hK_0_62 hK_0_63 hK_0_64 hK_0_65 hK_0_66 kz_0_139 kz_0_153 kz_0_154 kz_0_155 kz_0_156 kz_0_173 kz_0_174)⟩
  refine ⟨(fun _ h => (by cases h)), [], trivial, ?_, (fun _ h => (by cases h))⟩
  rw [List.append_nil]
  exact List.forall_mem_cons.mpr ⟨⟨show (20 : Nat) < 100 from by decide, nf0⟩, List.forall_mem_cons.mpr ⟨⟨show (20 : Nat) < 100 from by decide, nf1⟩, (fun _ h => (by cases h))⟩⟩
set_option maxHeartbeats 4000000 in
theorem vc_Mo_dots_16_0 (x4 : Int) (x5 : Int) (x6 : Int) (x7 : Int) (x8 : Int) (x9 : Int) (x11 : Int) (x13 : Int) (x14 : Int) (leastY_0 : Int) (mostY_0 : Int) (nodeY_0 : Int → Int) (all_0 : Int → Int) (g0_0 : Int) (r_0 : Int) (bendMany_0 : Int → Int) (bendY_0 : Int → Int) (leastX_0 : Int) (mostX_0 : Int) (nodeX_0 : Int → Int) (bendX_0 : Int → Int) (dotWide_0 : Int) (dotTall_0 : Int) (k4 : 0 ≤ x4 ∧ x4 ≤ 47) (k5 : 1 ≤ x5 ∧ x5 ≤ 24) (k6 : 1 ≤ x6 ∧ x6 ≤ 1) (k7 : 2 ≤ x7 ∧ x7 ≤ 25) (k8 : 2 ≤ x8 ∧ x8 ≤ 26) (k9 : (-300000011) ≤ x9 ∧ x9 ≤ 221100000) (k11 : (-300000000) ≤ x11 ∧ x11 ≤ 300000000) (k13 : 1 ≤ x13 ∧ x13 ≤ 1) (k14 : 2 ≤ x14 ∧ x14 ≤ 25) (d0 : x5 + 1 ≤ x14 ∧ x14 ≤ x5 + 1) (d1 : x8 + (-4294967296) ≤ x7 ∧ x7 ≤ x8 + (-1)) (d2 : x5 + 1 ≤ x7 ∧ x7 ≤ x5 + 1) (f0 : x14 = x5 + x13) (f1 : 1 * leastY_0 + ((-1) * x11 + 0) ≤ 0) (f2 : 1 * x11 + ((-1) * mostY_0 + 0) ≤ 0) (f3 : (x5 = 0) → (x11 = nodeY_0 (((24 * g0_0) + all_0 (((r_0 + 267) + x4)))))) (f4 : (x5 = (bendMany_0 (((48 * g0_0) + x4)) + 1)) → (x11 = nodeY_0 (((24 * g0_0) + all_0 (((r_0 + 315) + x4)))))) (f5 : (x5 = 0) ∨ ((x5 = (bendMany_0 (((48 * g0_0) + x4)) + 1)) ∨ (x11 = bendY_0 (((24 * ((48 * g0_0) + x4)) + (x5 - 1)))))) (f6 : 1 * leastX_0 + ((-1) * x9 + 0) ≤ 0) (f7 : 1 * x9 + ((-1) * mostX_0 + 0) ≤ 0) (f8 : (x5 = 0) → (x9 = nodeX_0 (((24 * g0_0) + all_0 (((r_0 + 267) + x4)))))) (f9 : (x5 = (bendMany_0 (((48 * g0_0) + x4)) + 1)) → (x9 = nodeX_0 (((24 * g0_0) + all_0 (((r_0 + 315) + x4)))))) (f10 : (x5 = 0) ∨ ((x5 = (bendMany_0 (((48 * g0_0) + x4)) + 1)) ∨ (x9 = bendX_0 (((24 * ((48 * g0_0) + x4)) + (x5 - 1)))))) (f11 : x5 ≤ (bendMany_0 (((48 * g0_0) + x4)) + 1)) (f12 : x7 < x8) (f13 : x8 = (bendMany_0 (((48 * g0_0) + x4)) + 2)) (f14 : x7 = x5 + x6) (f15 : BNA (leastX_0) (mostX_0) (leastY_0) (mostY_0) (g0_0) (r_0) (nodeX_0) (nodeY_0) (all_0) (bendMany_0) (bendX_0) (bendY_0)) (f16 : (-1) * dotWide_0 + 0 ≤ (-1)) (f17 : 1 * dotWide_0 + 0 ≤ 64) (f18 : (-1) * dotTall_0 + 0 ≤ (-1)) (f19 : 1 * dotTall_0 + 0 ≤ 64) (f20 : 1 * x4 + ((-1) * all_0 (r_0 + 1) + 0) ≤ (-1)) (hK_0_62 : ∀ j : Int, 0 ≤ j → j < 96 → (-300000000) ≤ nodeX_0 j ∧ nodeX_0 j ≤ 300000000) (hK_0_63 : ∀ j : Int, 0 ≤ j → j < 96 → (-300000000) ≤ nodeY_0 j ∧ nodeY_0 j ≤ 300000000) (hK_0_64 : ∀ j : Int, 0 ≤ j → j < 192 → 0 ≤ bendMany_0 j ∧ bendMany_0 j ≤ 24) (hK_0_65 : ∀ j : Int, 0 ≤ j → j < 4608 → (-300000011) ≤ bendX_0 j ∧ bendX_0 j ≤ 221100000) (hK_0_66 : ∀ j : Int, 0 ≤ j → j < 4608 → (-900000000) ≤ bendY_0 j ∧ bendY_0 j ≤ 900000000) (kz_0_139 : 0 ≤ g0_0 ∧ g0_0 ≤ 3) (kz_0_153 : (-2147483648) ≤ leastX_0 ∧ leastX_0 ≤ 300000000) (kz_0_154 : (-900000000) ≤ mostX_0 ∧ mostX_0 ≤ 2147483647) (kz_0_155 : (-2147483648) ≤ leastY_0 ∧ leastY_0 ≤ 300000000) (kz_0_156 : (-900000000) ≤ mostY_0 ∧ mostY_0 ≤ 2147483647) (kz_0_173 : 0 ≤ dotWide_0 ∧ dotWide_0 ≤ 64) (kz_0_174 : 0 ≤ dotTall_0 ∧ dotTall_0 ≤ 64) : x14 ≤ (bendMany_0 (((48 * g0_0) + x4)) + 1) := by
  first
    | assumption
    | (clear f3 f4 f5 f8 f9 f10 hK_0_62 hK_0_63 hK_0_64 hK_0_65 hK_0_66; omega)
    | exact (bna_x ‹BNA _ _ _ _ _ _ _ _ _ _ _ _› (by assumption) (by assumption) (by assumption) (by assumption) (by assumption) (by assumption) (by assumption) (by omega) (by omega)).1
    | exact (bna_x ‹BNA _ _ _ _ _ _ _ _ _ _ _ _› (by assumption) (by assumption) (by assumption) (by assumption) (by assumption) (by assumption) (by assumption) (by omega) (by omega)).2
    | exact (bna_y ‹BNA _ _ _ _ _ _ _ _ _ _ _ _› (by assumption) (by assumption) (by assumption) (by assumption) (by assumption) (by assumption) (by assumption) (by omega) (by omega)).1
    | exact (bna_y ‹BNA _ _ _ _ _ _ _ _ _ _ _ _› (by assumption) (by assumption) (by assumption) (by assumption) (by assumption) (by assumption) (by assumption) (by omega) (by omega)).2
    | exact (bna_nx ‹BNA _ _ _ _ _ _ _ _ _ _ _ _› (by assumption) (by clear f3 f4 f5 f8 f9 f10 hK_0_62 hK_0_63 hK_0_64 hK_0_65 hK_0_66; omega) (by clear f3 f4 f5 f8 f9 f10 hK_0_62 hK_0_63 hK_0_64 hK_0_65 hK_0_66; omega)).1
    | exact (bna_nx ‹BNA _ _ _ _ _ _ _ _ _ _ _ _› (by assumption) (by clear f3 f4 f5 f8 f9 f10 hK_0_62 hK_0_63 hK_0_64 hK_0_65 hK_0_66; omega) (by clear f3 f4 f5 f8 f9 f10 hK_0_62 hK_0_63 hK_0_64 hK_0_65 hK_0_66; omega)).2
    | exact (bna_ny ‹BNA _ _ _ _ _ _ _ _ _ _ _ _› (by assumption) (by clear f3 f4 f5 f8 f9 f10 hK_0_62 hK_0_63 hK_0_64 hK_0_65 hK_0_66; omega) (by clear f3 f4 f5 f8 f9 f10 hK_0_62 hK_0_63 hK_0_64 hK_0_65 hK_0_66; omega)).1
    | exact (bna_ny ‹BNA _ _ _ _ _ _ _ _ _ _ _ _› (by assumption) (by clear f3 f4 f5 f8 f9 f10 hK_0_62 hK_0_63 hK_0_64 hK_0_65 hK_0_66; omega) (by clear f3 f4 f5 f8 f9 f10 hK_0_62 hK_0_63 hK_0_64 hK_0_65 hK_0_66; omega)).2
    | omega
def o_Mo_dots_16 : or_T := (130, 15, [(0, (2, 0, 0, [165])), (4, (0, 0, 47, [])), (5, (0, 1, 24, [])), (6, (0, 1, 1, [])), (7, (0, 2, 25, [])), (8, (0, 2, 26, [])), (9, (0, -300000011, 221100000, [])), (11, (0, -300000000, 300000000, [])), (13, (0, 1, 1, [])), (14, (0, 2, 25, []))], [(1, [14, 5, 13], []), (20, [0, 11], [30, 0, 1, 1, 155, -1, 0, 0]), (20, [11, 0], [30, 0, 1, 0, 0, -1, 1, 156]), (20, [5, 11, 0, 4], [50, 2, 2, 2139, 2005, 2063, 2002, 4, 6, 1, 2, 1, 0, 0, 0, 1, 2, 1, 1, 3, 2, 63, 4, 7, 6, 2, 0, 24, 2, 2, 139, 3, 2, 2, 4, 7, 4, 3, 2, 2, 5, 0, 267, 1, 3]), (20, [5, 0, 4, 11], [50, 2, 3, 1139, 1005, 1064, 1063, 1002, 4, 22, 1, 2, 1, 0, 4, 14, 3, 1, 64, 4, 7, 6, 2, 0, 48, 2, 1, 139, 1, 2, 0, 1, 1, 2, 1, 3, 3, 1, 63, 4, 7, 6, 2, 0, 24, 2, 1, 139, 3, 1, 2, 4, 7, 4, 3, 2, 1, 5, 0, 315, 1, 2]), (20, [5, 0, 4, 11], [50, 1, 2, 1139, 1064, 1066, 3, 6, 1, 2, 1, 0, 0, 0, 3, 22, 1, 2, 1, 0, 4, 14, 3, 1, 64, 4, 7, 6, 2, 0, 48, 2, 1, 139, 1, 2, 0, 1, 1, 2, 1, 3, 3, 1, 66, 4, 15, 6, 2, 0, 24, 4, 7, 6, 2, 0, 48, 2, 1, 139, 1, 2, 5, 2, 1, 0, 0, 1]), (20, [0, 9], [30, 0, 1, 1, 153, -1, 0, 0]), (20, [9, 0], [30, 0, 1, 0, 0, -1, 1, 154]), (20, [5, 9, 0, 4], [50, 2, 2, 2139, 2005, 2062, 2002, 4, 6, 1, 2, 1, 0, 0, 0, 1, 2, 1, 1, 3, 2, 62, 4, 7, 6, 2, 0, 24, 2, 2, 139, 3, 2, 2, 4, 7, 4, 3, 2, 2, 5, 0, 267, 1, 3]), (20, [5, 0, 4, 9], [50, 2, 3, 1139, 1005, 1064, 1062, 1002, 4, 22, 1, 2, 1, 0, 4, 14, 3, 1, 64, 4, 7, 6, 2, 0, 48, 2, 1, 139, 1, 2, 0, 1, 1, 2, 1, 3, 3, 1, 62, 4, 7, 6, 2, 0, 24, 2, 1, 139, 3, 1, 2, 4, 7, 4, 3, 2, 1, 5, 0, 315, 1, 2]), (20, [5, 0, 4, 9], [50, 1, 2, 1139, 1064, 1065, 3, 6, 1, 2, 1, 0, 0, 0, 3, 22, 1, 2, 1, 0, 4, 14, 3, 1, 64, 4, 7, 6, 2, 0, 48, 2, 1, 139, 1, 2, 0, 1, 1, 2, 1, 3, 3, 1, 65, 4, 15, 6, 2, 0, 24, 4, 7, 6, 2, 0, 48, 2, 1, 139, 1, 2, 5, 2, 1, 0, 0, 1]), (20, [5, 0, 4], [50, 1, 1, 1139, 1064, 0, 2, 1, 0, 4, 14, 3, 1, 64, 4, 7, 6, 2, 0, 48, 2, 1, 139, 1, 2, 0, 1]), (7, [7, 8], [2]), (20, [8, 0, 4], [50, 1, 1, 1139, 1064, 1, 2, 1, 0, 4, 14, 3, 1, 64, 4, 7, 6, 2, 0, 48, 2, 1, 139, 1, 2, 0, 2]), (1, [7, 5, 6], []), (20, [0], [60, 6, 6, 945, 153, 154, 155, 156, 139, 5, 62, 63, 2, 64, 65, 66]), (20, [0], [30, -1, -1, 1, 173]), (20, [0], [30, 64, 1, 1, 173]), (20, [0], [30, -1, -1, 1, 174]), (20, [0], [30, 64, 1, 1, 174]), (20, [4, 0], [30, -1, 1, 0, 0, -1, 3, 2005001])], [], [], [(20, [14, 0, 4], [50, 1, 1, 1139, 1064, 0, 2, 1, 0, 4, 14, 3, 1, 64, 4, 7, 6, 2, 0, 48, 2, 1, 139, 1, 2, 0, 1])], [], [(14, 5, 1, 1), (7, 8, -4294967296, -1), (7, 5, 1, 1)])
theorem oo_Mo_dots_16 {kA : Nat → ClassId} : or_ok PRD kA GG o_Mo_dots_16 := by
  refine or_mk fun A ta ws vs hD hth hl => ?_
  intro t0 r0 t4 k4 t5 k5 t6 k6 t7 k7 t8 k8 t9 k9 t11 k11 t13 k13 t14 k14 d0 d1 d2 f0 f1 f2 f3 f4 f5 f6 f7 f8 f9 f10 f11 f12 f13 f14 f15 f16 f17 f18 f19 f20
  have cr_0_62 := fdq_173 hD hth r0
  have cr_0_63 := fdq_174 hD hth r0
  have cr_0_64 := fdq_171 hD hth r0
  have cr_0_65 := fdq_292 hD hth r0
  have cr_0_66 := fdq_293 hD hth r0
  have hK_0_62 := elq_102 hD hth cr_0_62
  have hK_0_63 := elq_103 hD hth cr_0_63
  have hK_0_64 := elq_101 hD hth cr_0_64
  have hK_0_65 := elq_184 hD hth cr_0_65
  have hK_0_66 := elq_185 hD hth cr_0_66
  have kz_0_139 := fdq_172 hD hth r0
  have kz_0_153 := fdq_14 hD hth r0
  have kz_0_154 := fdq_15 hD hth r0
  have kz_0_155 := fdq_17 hD hth r0
  have kz_0_156 := fdq_18 hD hth r0
  have kz_0_173 := fdq_16 hD hth r0
  have kz_0_174 := fdq_19 hD hth r0
  have nf0 : fc_1 PRD (20, [14, 0, 4], [50, 1, 1, 1139, 1064, 0, 2, 1, 0, 4, 14, 3, 1, 64, 4, 7, 6, 2, 0, 48, 2, 1, 139, 1, 2, 0, 1]) ws (vs) := ⟨nf_in hl rfl, sgq_1421 (vc_Mo_dots_16_0 (v_iv (n_v vs 4)) (v_iv (n_v vs 5)) (v_iv (n_v vs 6)) (v_iv (n_v vs 7)) (v_iv (n_v vs 8)) (v_iv (n_v vs 9)) (v_iv (n_v vs 11)) (v_iv (n_v vs 13)) (v_iv (n_v vs 14)) (w_fi ws (n_v vs 0) 155) (w_fi ws (n_v vs 0) 156) (w_ei ws (w_ar ws (n_v vs 0) 63)) (w_ei ws (w_ar ws (n_v vs 0) 2)) (w_fi ws (n_v vs 0) 139) (w_fi ws (n_v vs 0) 5) (w_ei ws (w_ar ws (n_v vs 0) 64)) (w_ei ws (w_ar ws (n_v vs 0) 66)) (w_fi ws (n_v vs 0) 153) (w_fi ws (n_v vs 0) 154) (w_ei ws (w_ar ws (n_v vs 0) 62)) (w_ei ws (w_ar ws (n_v vs 0) 65)) (w_fi ws (n_v vs 0) 173) (w_fi ws (n_v vs 0) 174) k4 k5 k6 k7 k8 k9 k11 k13 k14 d0 d1 d2 (shm_12 f0) (shm_153 f1) (shm_154 f2) (shm_1427 f3) (shm_1428 f4) (shm_1429 f5) (shm_146 f6) (shm_147 f7) (shm_1423 f8) (shm_1424 f9) (shm_1425 f10) (shm_1421 f11) (shm_6 f12) (shm_683 f13) (shm_12 f14) (shm_1845 f15) (shm_148 f16) (shm_149 f17) (shm_155 f18) (shm_156 f19) (shm_979 f20) hK_0_62 hK_0_63 hK_0_64 hK_0_65 hK_0_66 kz_0_139 kz_0_153 kz_0_154 kz_0_155 kz_0_156 kz_0_173 kz_0_174)⟩
  refine ⟨(fun _ h => (by cases h)), [], trivial, ?_, (fun _ h => (by cases h))⟩
  rw [List.append_nil]
  exact List.forall_mem_cons.mpr ⟨⟨show (20 : Nat) < 100 from by decide, nf0⟩, (fun _ h => (by cases h))⟩
set_option maxHeartbeats 4000000 in
theorem vc_Mo_dots_17_0 (x4 : Int) (x5 : Int) (x6 : Int) (x7 : Int) (x8 : Int) (x9 : Int) (x11 : Int) (x13 : Int) (x14 : Int) (x15 : Int) (nodeX_0 : Int → Int) (all_0 : Int → Int) (g0_0 : Int) (r_0 : Int) (bendMany_0 : Int → Int) (bendX_0 : Int → Int) (leastY_0 : Int) (mostY_0 : Int) (nodeY_0 : Int → Int) (bendY_0 : Int → Int) (leastX_0 : Int) (mostX_0 : Int) (dotWide_0 : Int) (dotTall_0 : Int) (k4 : 0 ≤ x4 ∧ x4 ≤ 47) (k5 : 1 ≤ x5 ∧ x5 ≤ 24) (k6 : 1 ≤ x6 ∧ x6 ≤ 1) (k7 : 2 ≤ x7 ∧ x7 ≤ 25) (k8 : 2 ≤ x8 ∧ x8 ≤ 26) (k9 : (-300000011) ≤ x9 ∧ x9 ≤ 221100000) (k11 : (-300000000) ≤ x11 ∧ x11 ≤ 300000000) (k13 : 1 ≤ x13 ∧ x13 ≤ 1) (k14 : 2 ≤ x14 ∧ x14 ≤ 25) (k15 : (-300000011) ≤ x15 ∧ x15 ≤ 221100000) (d0 : x5 + 1 ≤ x14 ∧ x14 ≤ x5 + 1) (d1 : x8 + (-4294967296) ≤ x7 ∧ x7 ≤ x8 + (-1)) (d2 : x5 + 1 ≤ x7 ∧ x7 ≤ x5 + 1) (f0 : (x14 = 0) → (x15 = nodeX_0 (((24 * g0_0) + all_0 (((r_0 + 267) + x4)))))) (f1 : (x14 = (bendMany_0 (((48 * g0_0) + x4)) + 1)) → (x15 = nodeX_0 (((24 * g0_0) + all_0 (((r_0 + 315) + x4)))))) (f2 : (x14 = 0) ∨ ((x14 = (bendMany_0 (((48 * g0_0) + x4)) + 1)) ∨ (x15 = bendX_0 (((24 * ((48 * g0_0) + x4)) + (x14 - 1)))))) (f3 : x14 ≤ (bendMany_0 (((48 * g0_0) + x4)) + 1)) (f4 : x14 = x5 + x13) (f5 : 1 * leastY_0 + ((-1) * x11 + 0) ≤ 0) (f6 : 1 * x11 + ((-1) * mostY_0 + 0) ≤ 0) (f7 : (x5 = 0) → (x11 = nodeY_0 (((24 * g0_0) + all_0 (((r_0 + 267) + x4)))))) (f8 : (x5 = (bendMany_0 (((48 * g0_0) + x4)) + 1)) → (x11 = nodeY_0 (((24 * g0_0) + all_0 (((r_0 + 315) + x4)))))) (f9 : (x5 = 0) ∨ ((x5 = (bendMany_0 (((48 * g0_0) + x4)) + 1)) ∨ (x11 = bendY_0 (((24 * ((48 * g0_0) + x4)) + (x5 - 1)))))) (f10 : 1 * leastX_0 + ((-1) * x9 + 0) ≤ 0) (f11 : 1 * x9 + ((-1) * mostX_0 + 0) ≤ 0) (f12 : (x5 = 0) → (x9 = nodeX_0 (((24 * g0_0) + all_0 (((r_0 + 267) + x4)))))) (f13 : (x5 = (bendMany_0 (((48 * g0_0) + x4)) + 1)) → (x9 = nodeX_0 (((24 * g0_0) + all_0 (((r_0 + 315) + x4)))))) (f14 : (x5 = 0) ∨ ((x5 = (bendMany_0 (((48 * g0_0) + x4)) + 1)) ∨ (x9 = bendX_0 (((24 * ((48 * g0_0) + x4)) + (x5 - 1)))))) (f15 : x5 ≤ (bendMany_0 (((48 * g0_0) + x4)) + 1)) (f16 : x7 < x8) (f17 : x8 = (bendMany_0 (((48 * g0_0) + x4)) + 2)) (f18 : x7 = x5 + x6) (f19 : BNA (leastX_0) (mostX_0) (leastY_0) (mostY_0) (g0_0) (r_0) (nodeX_0) (nodeY_0) (all_0) (bendMany_0) (bendX_0) (bendY_0)) (f20 : (-1) * dotWide_0 + 0 ≤ (-1)) (f21 : 1 * dotWide_0 + 0 ≤ 64) (f22 : (-1) * dotTall_0 + 0 ≤ (-1)) (f23 : 1 * dotTall_0 + 0 ≤ 64) (f24 : 1 * x4 + ((-1) * all_0 (r_0 + 1) + 0) ≤ (-1)) (hK_0_62 : ∀ j : Int, 0 ≤ j → j < 96 → (-300000000) ≤ nodeX_0 j ∧ nodeX_0 j ≤ 300000000) (hK_0_63 : ∀ j : Int, 0 ≤ j → j < 96 → (-300000000) ≤ nodeY_0 j ∧ nodeY_0 j ≤ 300000000) (hK_0_64 : ∀ j : Int, 0 ≤ j → j < 192 → 0 ≤ bendMany_0 j ∧ bendMany_0 j ≤ 24) (hK_0_65 : ∀ j : Int, 0 ≤ j → j < 4608 → (-300000011) ≤ bendX_0 j ∧ bendX_0 j ≤ 221100000) (hK_0_66 : ∀ j : Int, 0 ≤ j → j < 4608 → (-900000000) ≤ bendY_0 j ∧ bendY_0 j ≤ 900000000) (kz_0_139 : 0 ≤ g0_0 ∧ g0_0 ≤ 3) (kz_0_153 : (-2147483648) ≤ leastX_0 ∧ leastX_0 ≤ 300000000) (kz_0_154 : (-900000000) ≤ mostX_0 ∧ mostX_0 ≤ 2147483647) (kz_0_155 : (-2147483648) ≤ leastY_0 ∧ leastY_0 ≤ 300000000) (kz_0_156 : (-900000000) ≤ mostY_0 ∧ mostY_0 ≤ 2147483647) (kz_0_173 : 0 ≤ dotWide_0 ∧ dotWide_0 ≤ 64) (kz_0_174 : 0 ≤ dotTall_0 ∧ dotTall_0 ≤ 64) : 1 * leastX_0 + ((-1) * x15 + 0) ≤ 0 := by
  first
    | assumption
    | (clear f0 f1 f2 f7 f8 f9 f12 f13 f14 hK_0_62 hK_0_63 hK_0_64 hK_0_65 hK_0_66; omega)
    | exact (bna_x ‹BNA _ _ _ _ _ _ _ _ _ _ _ _› (by assumption) (by assumption) (by assumption) (by assumption) (by assumption) (by assumption) (by assumption) (by omega) (by omega)).1
    | exact (bna_x ‹BNA _ _ _ _ _ _ _ _ _ _ _ _› (by assumption) (by assumption) (by assumption) (by assumption) (by assumption) (by assumption) (by assumption) (by omega) (by omega)).2
    | exact (bna_y ‹BNA _ _ _ _ _ _ _ _ _ _ _ _› (by assumption) (by assumption) (by assumption) (by assumption) (by assumption) (by assumption) (by assumption) (by omega) (by omega)).1
    | exact (bna_y ‹BNA _ _ _ _ _ _ _ _ _ _ _ _› (by assumption) (by assumption) (by assumption) (by assumption) (by assumption) (by assumption) (by assumption) (by omega) (by omega)).2
    | exact (bna_nx ‹BNA _ _ _ _ _ _ _ _ _ _ _ _› (by assumption) (by clear f0 f1 f2 f7 f8 f9 f12 f13 f14 hK_0_62 hK_0_63 hK_0_64 hK_0_65 hK_0_66; omega) (by clear f0 f1 f2 f7 f8 f9 f12 f13 f14 hK_0_62 hK_0_63 hK_0_64 hK_0_65 hK_0_66; omega)).1
    | exact (bna_nx ‹BNA _ _ _ _ _ _ _ _ _ _ _ _› (by assumption) (by clear f0 f1 f2 f7 f8 f9 f12 f13 f14 hK_0_62 hK_0_63 hK_0_64 hK_0_65 hK_0_66; omega) (by clear f0 f1 f2 f7 f8 f9 f12 f13 f14 hK_0_62 hK_0_63 hK_0_64 hK_0_65 hK_0_66; omega)).2
    | exact (bna_ny ‹BNA _ _ _ _ _ _ _ _ _ _ _ _› (by assumption) (by clear f0 f1 f2 f7 f8 f9 f12 f13 f14 hK_0_62 hK_0_63 hK_0_64 hK_0_65 hK_0_66; omega) (by clear f0 f1 f2 f7 f8 f9 f12 f13 f14 hK_0_62 hK_0_63 hK_0_64 hK_0_65 hK_0_66; omega)).1
    | exact (bna_ny ‹BNA _ _ _ _ _ _ _ _ _ _ _ _› (by assumption) (by clear f0 f1 f2 f7 f8 f9 f12 f13 f14 hK_0_62 hK_0_63 hK_0_64 hK_0_65 hK_0_66; omega) (by clear f0 f1 f2 f7 f8 f9 f12 f13 f14 hK_0_62 hK_0_63 hK_0_64 hK_0_65 hK_0_66; omega)).2
    | omega
set_option maxHeartbeats 4000000 in
theorem vc_Mo_dots_17_1 (x4 : Int) (x5 : Int) (x6 : Int) (x7 : Int) (x8 : Int) (x9 : Int) (x11 : Int) (x13 : Int) (x14 : Int) (x15 : Int) (nodeX_0 : Int → Int) (all_0 : Int → Int) (g0_0 : Int) (r_0 : Int) (bendMany_0 : Int → Int) (bendX_0 : Int → Int) (leastY_0 : Int) (mostY_0 : Int) (nodeY_0 : Int → Int) (bendY_0 : Int → Int) (leastX_0 : Int) (mostX_0 : Int) (dotWide_0 : Int) (dotTall_0 : Int) (k4 : 0 ≤ x4 ∧ x4 ≤ 47) (k5 : 1 ≤ x5 ∧ x5 ≤ 24) (k6 : 1 ≤ x6 ∧ x6 ≤ 1) (k7 : 2 ≤ x7 ∧ x7 ≤ 25) (k8 : 2 ≤ x8 ∧ x8 ≤ 26) (k9 : (-300000011) ≤ x9 ∧ x9 ≤ 221100000) (k11 : (-300000000) ≤ x11 ∧ x11 ≤ 300000000) (k13 : 1 ≤ x13 ∧ x13 ≤ 1) (k14 : 2 ≤ x14 ∧ x14 ≤ 25) (k15 : (-300000011) ≤ x15 ∧ x15 ≤ 221100000) (d0 : x5 + 1 ≤ x14 ∧ x14 ≤ x5 + 1) (d1 : x8 + (-4294967296) ≤ x7 ∧ x7 ≤ x8 + (-1)) (d2 : x5 + 1 ≤ x7 ∧ x7 ≤ x5 + 1) (f0 : (x14 = 0) → (x15 = nodeX_0 (((24 * g0_0) + all_0 (((r_0 + 267) + x4)))))) (f1 : (x14 = (bendMany_0 (((48 * g0_0) + x4)) + 1)) → (x15 = nodeX_0 (((24 * g0_0) + all_0 (((r_0 + 315) + x4)))))) (f2 : (x14 = 0) ∨ ((x14 = (bendMany_0 (((48 * g0_0) + x4)) + 1)) ∨ (x15 = bendX_0 (((24 * ((48 * g0_0) + x4)) + (x14 - 1)))))) (f3 : x14 ≤ (bendMany_0 (((48 * g0_0) + x4)) + 1)) (f4 : x14 = x5 + x13) (f5 : 1 * leastY_0 + ((-1) * x11 + 0) ≤ 0) (f6 : 1 * x11 + ((-1) * mostY_0 + 0) ≤ 0) (f7 : (x5 = 0) → (x11 = nodeY_0 (((24 * g0_0) + all_0 (((r_0 + 267) + x4)))))) (f8 : (x5 = (bendMany_0 (((48 * g0_0) + x4)) + 1)) → (x11 = nodeY_0 (((24 * g0_0) + all_0 (((r_0 + 315) + x4)))))) (f9 : (x5 = 0) ∨ ((x5 = (bendMany_0 (((48 * g0_0) + x4)) + 1)) ∨ (x11 = bendY_0 (((24 * ((48 * g0_0) + x4)) + (x5 - 1)))))) (f10 : 1 * leastX_0 + ((-1) * x9 + 0) ≤ 0) (f11 : 1 * x9 + ((-1) * mostX_0 + 0) ≤ 0) (f12 : (x5 = 0) → (x9 = nodeX_0 (((24 * g0_0) + all_0 (((r_0 + 267) + x4)))))) (f13 : (x5 = (bendMany_0 (((48 * g0_0) + x4)) + 1)) → (x9 = nodeX_0 (((24 * g0_0) + all_0 (((r_0 + 315) + x4)))))) (f14 : (x5 = 0) ∨ ((x5 = (bendMany_0 (((48 * g0_0) + x4)) + 1)) ∨ (x9 = bendX_0 (((24 * ((48 * g0_0) + x4)) + (x5 - 1)))))) (f15 : x5 ≤ (bendMany_0 (((48 * g0_0) + x4)) + 1)) (f16 : x7 < x8) (f17 : x8 = (bendMany_0 (((48 * g0_0) + x4)) + 2)) (f18 : x7 = x5 + x6) (f19 : BNA (leastX_0) (mostX_0) (leastY_0) (mostY_0) (g0_0) (r_0) (nodeX_0) (nodeY_0) (all_0) (bendMany_0) (bendX_0) (bendY_0)) (f20 : (-1) * dotWide_0 + 0 ≤ (-1)) (f21 : 1 * dotWide_0 + 0 ≤ 64) (f22 : (-1) * dotTall_0 + 0 ≤ (-1)) (f23 : 1 * dotTall_0 + 0 ≤ 64) (f24 : 1 * x4 + ((-1) * all_0 (r_0 + 1) + 0) ≤ (-1)) (hK_0_62 : ∀ j : Int, 0 ≤ j → j < 96 → (-300000000) ≤ nodeX_0 j ∧ nodeX_0 j ≤ 300000000) (hK_0_63 : ∀ j : Int, 0 ≤ j → j < 96 → (-300000000) ≤ nodeY_0 j ∧ nodeY_0 j ≤ 300000000) (hK_0_64 : ∀ j : Int, 0 ≤ j → j < 192 → 0 ≤ bendMany_0 j ∧ bendMany_0 j ≤ 24) (hK_0_65 : ∀ j : Int, 0 ≤ j → j < 4608 → (-300000011) ≤ bendX_0 j ∧ bendX_0 j ≤ 221100000) (hK_0_66 : ∀ j : Int, 0 ≤ j → j < 4608 → (-900000000) ≤ bendY_0 j ∧ bendY_0 j ≤ 900000000) (kz_0_139 : 0 ≤ g0_0 ∧ g0_0 ≤ 3) (kz_0_153 : (-2147483648) ≤ leastX_0 ∧ leastX_0 ≤ 300000000) (kz_0_154 : (-900000000) ≤ mostX_0 ∧ mostX_0 ≤ 2147483647) (kz_0_155 : (-2147483648) ≤ leastY_0 ∧ leastY_0 ≤ 300000000) (kz_0_156 : (-900000000) ≤ mostY_0 ∧ mostY_0 ≤ 2147483647) (kz_0_173 : 0 ≤ dotWide_0 ∧ dotWide_0 ≤ 64) (kz_0_174 : 0 ≤ dotTall_0 ∧ dotTall_0 ≤ 64) : 1 * x15 + ((-1) * mostX_0 + 0) ≤ 0 := by
  first
    | assumption
    | (clear f0 f1 f2 f7 f8 f9 f12 f13 f14 hK_0_62 hK_0_63 hK_0_64 hK_0_65 hK_0_66; omega)
    | exact (bna_x ‹BNA _ _ _ _ _ _ _ _ _ _ _ _› (by assumption) (by assumption) (by assumption) (by assumption) (by assumption) (by assumption) (by assumption) (by omega) (by omega)).1
    | exact (bna_x ‹BNA _ _ _ _ _ _ _ _ _ _ _ _› (by assumption) (by assumption) (by assumption) (by assumption) (by assumption) (by assumption) (by assumption) (by omega) (by omega)).2
    | exact (bna_y ‹BNA _ _ _ _ _ _ _ _ _ _ _ _› (by assumption) (by assumption) (by assumption) (by assumption) (by assumption) (by assumption) (by assumption) (by omega) (by omega)).1
    | exact (bna_y ‹BNA _ _ _ _ _ _ _ _ _ _ _ _› (by assumption) (by assumption) (by assumption) (by assumption) (by assumption) (by assumption) (by assumption) (by omega) (by omega)).2
    | exact (bna_nx ‹BNA _ _ _ _ _ _ _ _ _ _ _ _› (by assumption) (by clear f0 f1 f2 f7 f8 f9 f12 f13 f14 hK_0_62 hK_0_63 hK_0_64 hK_0_65 hK_0_66; omega) (by clear f0 f1 f2 f7 f8 f9 f12 f13 f14 hK_0_62 hK_0_63 hK_0_64 hK_0_65 hK_0_66; omega)).1
    | exact (bna_nx ‹BNA _ _ _ _ _ _ _ _ _ _ _ _› (by assumption) (by clear f0 f1 f2 f7 f8 f9 f12 f13 f14 hK_0_62 hK_0_63 hK_0_64 hK_0_65 hK_0_66; omega) (by clear f0 f1 f2 f7 f8 f9 f12 f13 f14 hK_0_62 hK_0_63 hK_0_64 hK_0_65 hK_0_66; omega)).2
    | exact (bna_ny ‹BNA _ _ _ _ _ _ _ _ _ _ _ _› (by assumption) (by clear f0 f1 f2 f7 f8 f9 f12 f13 f14 hK_0_62 hK_0_63 hK_0_64 hK_0_65 hK_0_66; omega) (by clear f0 f1 f2 f7 f8 f9 f12 f13 f14 hK_0_62 hK_0_63 hK_0_64 hK_0_65 hK_0_66; omega)).1
    | exact (bna_ny ‹BNA _ _ _ _ _ _ _ _ _ _ _ _› (by assumption) (by clear f0 f1 f2 f7 f8 f9 f12 f13 f14 hK_0_62 hK_0_63 hK_0_64 hK_0_65 hK_0_66; omega) (by clear f0 f1 f2 f7 f8 f9 f12 f13 f14 hK_0_62 hK_0_63 hK_0_64 hK_0_65 hK_0_66; omega)).2
    | omega
def o_Mo_dots_17 : or_T := (133, 16, [(0, (2, 0, 0, [165])), (4, (0, 0, 47, [])), (5, (0, 1, 24, [])), (6, (0, 1, 1, [])), (7, (0, 2, 25, [])), (8, (0, 2, 26, [])), (9, (0, -300000011, 221100000, [])), (11, (0, -300000000, 300000000, [])), (13, (0, 1, 1, [])), (14, (0, 2, 25, [])), (15, (0, -300000011, 221100000, []))], [(20, [14, 15, 0, 4], [50, 2, 2, 2139, 2005, 2062, 2002, 4, 6, 1, 2, 1, 0, 0, 0, 1, 2, 1, 1, 3, 2, 62, 4, 7, 6, 2, 0, 24, 2, 2, 139, 3, 2, 2, 4, 7, 4, 3, 2, 2, 5, 0, 267, 1, 3]), (20, [14, 0, 4, 15], [50, 2, 3, 1139, 1005, 1064, 1062, 1002, 4, 22, 1, 2, 1, 0, 4, 14, 3, 1, 64, 4, 7, 6, 2, 0, 48, 2, 1, 139, 1, 2, 0, 1, 1, 2, 1, 3, 3, 1, 62, 4, 7, 6, 2, 0, 24, 2, 1, 139, 3, 1, 2, 4, 7, 4, 3, 2, 1, 5, 0, 315, 1, 2]), (20, [14, 0, 4, 15], [50, 1, 2, 1139, 1064, 1065, 3, 6, 1, 2, 1, 0, 0, 0, 3, 22, 1, 2, 1, 0, 4, 14, 3, 1, 64, 4, 7, 6, 2, 0, 48, 2, 1, 139, 1, 2, 0, 1, 1, 2, 1, 3, 3, 1, 65, 4, 15, 6, 2, 0, 24, 4, 7, 6, 2, 0, 48, 2, 1, 139, 1, 2, 5, 2, 1, 0, 0, 1]), (20, [14, 0, 4], [50, 1, 1, 1139, 1064, 0, 2, 1, 0, 4, 14, 3, 1, 64, 4, 7, 6, 2, 0, 48, 2, 1, 139, 1, 2, 0, 1]), (1, [14, 5, 13], []), (20, [0, 11], [30, 0, 1, 1, 155, -1, 0, 0]), (20, [11, 0], [30, 0, 1, 0, 0, -1, 1, 156]), (20, [5, 11, 0, 4], [50, 2, 2, 2139, 2005, 2063, 2002, 4, 6, 1, 2, 1, 0, 0, 0, 1, 2, 1, 1, 3, 2, 63, 4, 7, 6, 2, 0, 24, 2, 2, 139, 3, 2, 2, 4, 7, 4, 3, 2, 2, 5, 0, 267, 1, 3]), (20, [5, 0, 4, 11], [50, 2, 3, 1139, 1005, 1064, 1063, 1002, 4, 22, 1, 2, 1, 0, 4, 14, 3, 1, 64, 4, 7, 6, 2, 0, 48, 2, 1, 139, 1, 2, 0, 1, 1, 2, 1, 3, 3, 1, 63, 4, 7, 6, 2, 0, 24, 2, 1, 139, 3, 1, 2, 4, 7, 4, 3, 2, 1, 5, 0, 315, 1, 2]), (20, [5, 0, 4, 11], [50, 1, 2, 1139, 1064, 1066, 3, 6, 1, 2, 1, 0, 0, 0, 3, 22, 1, 2, 1, 0, 4, 14, 3, 1, 64, 4, 7, 6, 2, 0, 48, 2, 1, 139, 1, 2, 0, 1, 1, 2, 1, 3, 3, 1, 66, 4, 15, 6, 2, 0, 24, 4, 7, 6, 2, 0, 48, 2, 1, 139, 1, 2, 5, 2, 1, 0, 0, 1]), (20, [0, 9], [30, 0, 1, 1, 153, -1, 0, 0]), (20, [9, 0], [30, 0, 1, 0, 0, -1, 1, 154]), (20, [5, 9, 0, 4], [50, 2, 2, 2139, 2005, 2062, 2002, 4, 6, 1, 2, 1, 0, 0, 0, 1, 2, 1, 1, 3, 2, 62, 4, 7, 6, 2, 0, 24, 2, 2, 139, 3, 2, 2, 4, 7, 4, 3, 2, 2, 5, 0, 267, 1, 3]), (20, [5, 0, 4, 9], [50, 2, 3, 1139, 1005, 1064, 1062, 1002, 4, 22, 1, 2, 1, 0, 4, 14, 3, 1, 64, 4, 7, 6, 2, 0, 48, 2, 1, 139, 1, 2, 0, 1, 1, 2, 1, 3, 3, 1, 62, 4, 7, 6, 2, 0, 24, 2, 1, 139, 3, 1, 2, 4, 7, 4, 3, 2, 1, 5, 0, 315, 1, 2]), (20, [5, 0, 4, 9], [50, 1, 2, 1139, 1064, 1065, 3, 6, 1, 2, 1, 0, 0, 0, 3, 22, 1, 2, 1, 0, 4, 14, 3, 1, 64, 4, 7, 6, 2, 0, 48, 2, 1, 139, 1, 2, 0, 1, 1, 2, 1, 3, 3, 1, 65, 4, 15, 6, 2, 0, 24, 4, 7, 6, 2, 0, 48, 2, 1, 139, 1, 2, 5, 2, 1, 0, 0, 1]), (20, [5, 0, 4], [50, 1, 1, 1139, 1064, 0, 2, 1, 0, 4, 14, 3, 1, 64, 4, 7, 6, 2, 0, 48, 2, 1, 139, 1, 2, 0, 1]), (7, [7, 8], [2]), (20, [8, 0, 4], [50, 1, 1, 1139, 1064, 1, 2, 1, 0, 4, 14, 3, 1, 64, 4, 7, 6, 2, 0, 48, 2, 1, 139, 1, 2, 0, 2]), (1, [7, 5, 6], []), (20, [0], [60, 6, 6, 945, 153, 154, 155, 156, 139, 5, 62, 63, 2, 64, 65, 66]), (20, [0], [30, -1, -1, 1, 173]), (20, [0], [30, 64, 1, 1, 173]), (20, [0], [30, -1, -1, 1, 174]), (20, [0], [30, 64, 1, 1, 174]), (20, [4, 0], [30, -1, 1, 0, 0, -1, 3, 2005001])], [], [], [(20, [0, 15], [30, 0, 1, 1, 153, -1, 0, 0]), (20, [15, 0], [30, 0, 1, 0, 0, -1, 1, 154])], [], [(14, 5, 1, 1), (7, 8, -4294967296, -1), (7, 5, 1, 1)])
theorem oo_Mo_dots_17 {kA : Nat → ClassId} : or_ok PRD kA GG o_Mo_dots_17 := by
  refine or_mk fun A ta ws vs hD hth hl => ?_
  intro t0 r0 t4 k4 t5 k5 t6 k6 t7 k7 t8 k8 t9 k9 t11 k11 t13 k13 t14 k14 t15 k15 d0 d1 d2 f0 f1 f2 f3 f4 f5 f6 f7 f8 f9 f10 f11 f12 f13 f14 f15 f16 f17 f18 f19 f20 f21 f22 f23 f24
  have cr_0_62 := fdq_173 hD hth r0
  have cr_0_63 := fdq_174 hD hth r0
  have cr_0_64 := fdq_171 hD hth r0
  have cr_0_65 := fdq_292 hD hth r0
  have cr_0_66 := fdq_293 hD hth r0
  have hK_0_62 := elq_102 hD hth cr_0_62
  have hK_0_63 := elq_103 hD hth cr_0_63
  have hK_0_64 := elq_101 hD hth cr_0_64
  have hK_0_65 := elq_184 hD hth cr_0_65
  have hK_0_66 := elq_185 hD hth cr_0_66
  have kz_0_139 := fdq_172 hD hth r0
  have kz_0_153 := fdq_14 hD hth r0
  have kz_0_154 := fdq_15 hD hth r0
  have kz_0_155 := fdq_17 hD hth r0
  have kz_0_156 := fdq_18 hD hth r0
  have kz_0_173 := fdq_16 hD hth r0
  have kz_0_174 := fdq_19 hD hth r0
  have nf0 : fc_1 PRD (20, [0, 15], [30, 0, 1, 1, 153, -1, 0, 0]) ws (vs) := ⟨nf_in hl rfl, sgq_146 (vc_Mo_dots_17_0 (v_iv (n_v vs 4)) (v_iv (n_v vs 5)) (v_iv (n_v vs 6)) (v_iv (n_v vs 7)) (v_iv (n_v vs 8)) (v_iv (n_v vs 9)) (v_iv (n_v vs 11)) (v_iv (n_v vs 13)) (v_iv (n_v vs 14)) (v_iv (n_v vs 15)) (w_ei ws (w_ar ws (n_v vs 0) 62)) (w_ei ws (w_ar ws (n_v vs 0) 2)) (w_fi ws (n_v vs 0) 139) (w_fi ws (n_v vs 0) 5) (w_ei ws (w_ar ws (n_v vs 0) 64)) (w_ei ws (w_ar ws (n_v vs 0) 65)) (w_fi ws (n_v vs 0) 155) (w_fi ws (n_v vs 0) 156) (w_ei ws (w_ar ws (n_v vs 0) 63)) (w_ei ws (w_ar ws (n_v vs 0) 66)) (w_fi ws (n_v vs 0) 153) (w_fi ws (n_v vs 0) 154) (w_fi ws (n_v vs 0) 173) (w_fi ws (n_v vs 0) 174) k4 k5 k6 k7 k8 k9 k11 k13 k14 k15 d0 d1 d2 (shm_1423 f0) (shm_1424 f1) (shm_1425 f2) (shm_1421 f3) (shm_12 f4) (shm_153 f5) (shm_154 f6) (shm_1427 f7) (shm_1428 f8) (shm_1429 f9) (shm_146 f10) (shm_147 f11) (shm_1423 f12) (shm_1424 f13) (shm_1425 f14) (shm_1421 f15) (shm_6 f16) (shm_683 f17) (shm_12 f18) (shm_1845 f19) (shm_148 f20) (shm_149 f21) (shm_155 f22) (shm_156 f23) (shm_979 f24) hK_0_62 hK_0_63 hK_0_64 hK_0_65 hK_0_66 kz_0_139 kz_0_153 kz_0_154 kz_0_155 kz_0_156 kz_0_173 kz_0_174)⟩
  have nf1 : fc_1 PRD (20, [15, 0], [30, 0, 1, 0, 0, -1, 1, 154]) ws (vs) := ⟨nf_in hl rfl, sgq_147 (vc_Mo_dots_17_1 (v_iv (n_v vs 4)) (v_iv (n_v vs 5)) (v_iv (n_v vs 6)) (v_iv (n_v vs 7)) (v_iv (n_v vs 8)) (v_iv (n_v vs 9)) (v_iv (n_v vs 11)) (v_iv (n_v vs 13)) (v_iv (n_v vs 14)) (v_iv (n_v vs 15)) (w_ei ws (w_ar ws (n_v vs 0) 62)) (w_ei ws (w_ar ws (n_v vs 0) 2)) (w_fi ws (n_v vs 0) 139) (w_fi ws (n_v vs 0) 5) (w_ei ws (w_ar ws (n_v vs 0) 64)) (w_ei ws (w_ar ws (n_v vs 0) 65)) (w_fi ws (n_v vs 0) 155) (w_fi ws (n_v vs 0) 156) (w_ei ws (w_ar ws (n_v vs 0) 63)) (w_ei ws (w_ar ws (n_v vs 0) 66)) (w_fi ws (n_v vs 0) 153) (w_fi ws (n_v vs 0) 154) (w_fi ws (n_v vs 0) 173) (w_fi ws (n_v vs 0) 174) k4 k5 k6 k7 k8 k9 k11 k13 k14 k15 d0 d1 d2 (shm_1423 f0) (shm_1424 f1) (shm_1425 f2) (shm_1421 f3) (shm_12 f4) (shm_153 f5) (shm_154 f6) (shm_1427 f7) (shm_1428 f8) (shm_1429 f9) (shm_146 f10) (shm_147 f11) (shm_1423 f12) (shm_1424 f13) (shm_1425 f14) (shm_1421 f15) (shm_6 f16) (shm_683 f17) (shm_12 f18) (shm_1845 f19) (shm_148 f20) (shm_149 f21) (shm_155 f22) (shm_156 f23) (shm_979 f24) hK_0_62 hK_0_63 hK_0_64 hK_0_65 hK_0_66 kz_0_139 kz_0_153 kz_0_154 kz_0_155 kz_0_156 kz_0_173 kz_0_174)⟩
  refine ⟨(fun _ h => (by cases h)), [], trivial, ?_, (fun _ h => (by cases h))⟩
  rw [List.append_nil]
  exact List.forall_mem_cons.mpr ⟨⟨show (20 : Nat) < 100 from by decide, nf0⟩, List.forall_mem_cons.mpr ⟨⟨show (20 : Nat) < 100 from by decide, nf1⟩, (fun _ h => (by cases h))⟩⟩
set_option maxHeartbeats 4000000 in
theorem vc_Mo_dots_18_0 (x4 : Int) (x5 : Int) (x6 : Int) (x7 : Int) (x8 : Int) (x9 : Int) (x11 : Int) (x13 : Int) (x14 : Int) (x15 : Int) (x17 : Int) (x18 : Int) (leastX_0 : Int) (mostX_0 : Int) (nodeX_0 : Int → Int) (all_0 : Int → Int) (g0_0 : Int) (r_0 : Int) (bendMany_0 : Int → Int) (bendX_0 : Int → Int) (leastY_0 : Int) (mostY_0 : Int) (nodeY_0 : Int → Int) (bendY_0 : Int → Int) (dotWide_0 : Int) (dotTall_0 : Int) (k4 : 0 ≤ x4 ∧ x4 ≤ 47) (k5 : 1 ≤ x5 ∧ x5 ≤ 24) (k6 : 1 ≤ x6 ∧ x6 ≤ 1) (k7 : 2 ≤ x7 ∧ x7 ≤ 25) (k8 : 2 ≤ x8 ∧ x8 ≤ 26) (k9 : (-300000011) ≤ x9 ∧ x9 ≤ 221100000) (k11 : (-300000000) ≤ x11 ∧ x11 ≤ 300000000) (k13 : 1 ≤ x13 ∧ x13 ≤ 1) (k14 : 2 ≤ x14 ∧ x14 ≤ 25) (k15 : (-300000011) ≤ x15 ∧ x15 ≤ 221100000) (k17 : 1 ≤ x17 ∧ x17 ≤ 1) (k18 : 2 ≤ x18 ∧ x18 ≤ 25) (d0 : x5 + 1 ≤ x18 ∧ x18 ≤ x5 + 1) (d1 : x5 + 1 ≤ x14 ∧ x14 ≤ x5 + 1) (d2 : x8 + (-4294967296) ≤ x7 ∧ x7 ≤ x8 + (-1)) (d3 : x5 + 1 ≤ x7 ∧ x7 ≤ x5 + 1) (f0 : x18 = x5 + x17) (f1 : 1 * leastX_0 + ((-1) * x15 + 0) ≤ 0) (f2 : 1 * x15 + ((-1) * mostX_0 + 0) ≤ 0) (f3 : (x14 = 0) → (x15 = nodeX_0 (((24 * g0_0) + all_0 (((r_0 + 267) + x4)))))) (f4 : (x14 = (bendMany_0 (((48 * g0_0) + x4)) + 1)) → (x15 = nodeX_0 (((24 * g0_0) + all_0 (((r_0 + 315) + x4)))))) (f5 : (x14 = 0) ∨ ((x14 = (bendMany_0 (((48 * g0_0) + x4)) + 1)) ∨ (x15 = bendX_0 (((24 * ((48 * g0_0) + x4)) + (x14 - 1)))))) (f6 : x14 ≤ (bendMany_0 (((48 * g0_0) + x4)) + 1)) (f7 : x14 = x5 + x13) (f8 : 1 * leastY_0 + ((-1) * x11 + 0) ≤ 0) (f9 : 1 * x11 + ((-1) * mostY_0 + 0) ≤ 0) (f10 : (x5 = 0) → (x11 = nodeY_0 (((24 * g0_0) + all_0 (((r_0 + 267) + x4)))))) (f11 : (x5 = (bendMany_0 (((48 * g0_0) + x4)) + 1)) → (x11 = nodeY_0 (((24 * g0_0) + all_0 (((r_0 + 315) + x4)))))) (f12 : (x5 = 0) ∨ ((x5 = (bendMany_0 (((48 * g0_0) + x4)) + 1)) ∨ (x11 = bendY_0 (((24 * ((48 * g0_0) + x4)) + (x5 - 1)))))) (f13 : 1 * leastX_0 + ((-1) * x9 + 0) ≤ 0) (f14 : 1 * x9 + ((-1) * mostX_0 + 0) ≤ 0) (f15 : (x5 = 0) → (x9 = nodeX_0 (((24 * g0_0) + all_0 (((r_0 + 267) + x4)))))) (f16 : (x5 = (bendMany_0 (((48 * g0_0) + x4)) + 1)) → (x9 = nodeX_0 (((24 * g0_0) + all_0 (((r_0 + 315) + x4)))))) (f17 : (x5 = 0) ∨ ((x5 = (bendMany_0 (((48 * g0_0) + x4)) + 1)) ∨ (x9 = bendX_0 (((24 * ((48 * g0_0) + x4)) + (x5 - 1)))))) (f18 : x5 ≤ (bendMany_0 (((48 * g0_0) + x4)) + 1)) (f19 : x7 < x8) (f20 : x8 = (bendMany_0 (((48 * g0_0) + x4)) + 2)) (f21 : x7 = x5 + x6) (f22 : BNA (leastX_0) (mostX_0) (leastY_0) (mostY_0) (g0_0) (r_0) (nodeX_0) (nodeY_0) (all_0) (bendMany_0) (bendX_0) (bendY_0)) (f23 : (-1) * dotWide_0 + 0 ≤ (-1)) (f24 : 1 * dotWide_0 + 0 ≤ 64) (f25 : (-1) * dotTall_0 + 0 ≤ (-1)) (f26 : 1 * dotTall_0 + 0 ≤ 64) (f27 : 1 * x4 + ((-1) * all_0 (r_0 + 1) + 0) ≤ (-1)) (hK_0_62 : ∀ j : Int, 0 ≤ j → j < 96 → (-300000000) ≤ nodeX_0 j ∧ nodeX_0 j ≤ 300000000) (hK_0_63 : ∀ j : Int, 0 ≤ j → j < 96 → (-300000000) ≤ nodeY_0 j ∧ nodeY_0 j ≤ 300000000) (hK_0_64 : ∀ j : Int, 0 ≤ j → j < 192 → 0 ≤ bendMany_0 j ∧ bendMany_0 j ≤ 24) (hK_0_65 : ∀ j : Int, 0 ≤ j → j < 4608 → (-300000011) ≤ bendX_0 j ∧ bendX_0 j ≤ 221100000) (hK_0_66 : ∀ j : Int, 0 ≤ j → j < 4608 → (-900000000) ≤ bendY_0 j ∧ bendY_0 j ≤ 900000000) (kz_0_139 : 0 ≤ g0_0 ∧ g0_0 ≤ 3) (kz_0_153 : (-2147483648) ≤ leastX_0 ∧ leastX_0 ≤ 300000000) (kz_0_154 : (-900000000) ≤ mostX_0 ∧ mostX_0 ≤ 2147483647) (kz_0_155 : (-2147483648) ≤ leastY_0 ∧ leastY_0 ≤ 300000000) (kz_0_156 : (-900000000) ≤ mostY_0 ∧ mostY_0 ≤ 2147483647) (kz_0_173 : 0 ≤ dotWide_0 ∧ dotWide_0 ≤ 64) (kz_0_174 : 0 ≤ dotTall_0 ∧ dotTall_0 ≤ 64) : x18 ≤ (bendMany_0 (((48 * g0_0) + x4)) + 1) := by
  first
    | assumption
    | (clear f3 f4 f5 f10 f11 f12 f15 f16 f17 hK_0_62 hK_0_63 hK_0_64 hK_0_65 hK_0_66; omega)
    | exact (bna_x ‹BNA _ _ _ _ _ _ _ _ _ _ _ _› (by assumption) (by assumption) (by assumption) (by assumption) (by assumption) (by assumption) (by assumption) (by omega) (by omega)).1
    | exact (bna_x ‹BNA _ _ _ _ _ _ _ _ _ _ _ _› (by assumption) (by assumption) (by assumption) (by assumption) (by assumption) (by assumption) (by assumption) (by omega) (by omega)).2
    | exact (bna_y ‹BNA _ _ _ _ _ _ _ _ _ _ _ _› (by assumption) (by assumption) (by assumption) (by assumption) (by assumption) (by assumption) (by assumption) (by omega) (by omega)).1
    | exact (bna_y ‹BNA _ _ _ _ _ _ _ _ _ _ _ _› (by assumption) (by assumption) (by assumption) (by assumption) (by assumption) (by assumption) (by assumption) (by omega) (by omega)).2
    | exact (bna_nx ‹BNA _ _ _ _ _ _ _ _ _ _ _ _› (by assumption) (by clear f3 f4 f5 f10 f11 f12 f15 f16 f17 hK_0_62 hK_0_63 hK_0_64 hK_0_65 hK_0_66; omega) (by clear f3 f4 f5 f10 f11 f12 f15 f16 f17 hK_0_62 hK_0_63 hK_0_64 hK_0_65 hK_0_66; omega)).1
    | exact (bna_nx ‹BNA _ _ _ _ _ _ _ _ _ _ _ _› (by assumption) (by clear f3 f4 f5 f10 f11 f12 f15 f16 f17 hK_0_62 hK_0_63 hK_0_64 hK_0_65 hK_0_66; omega) (by clear f3 f4 f5 f10 f11 f12 f15 f16 f17 hK_0_62 hK_0_63 hK_0_64 hK_0_65 hK_0_66; omega)).2
    | exact (bna_ny ‹BNA _ _ _ _ _ _ _ _ _ _ _ _› (by assumption) (by clear f3 f4 f5 f10 f11 f12 f15 f16 f17 hK_0_62 hK_0_63 hK_0_64 hK_0_65 hK_0_66; omega) (by clear f3 f4 f5 f10 f11 f12 f15 f16 f17 hK_0_62 hK_0_63 hK_0_64 hK_0_65 hK_0_66; omega)).1
    | exact (bna_ny ‹BNA _ _ _ _ _ _ _ _ _ _ _ _› (by assumption) (by clear f3 f4 f5 f10 f11 f12 f15 f16 f17 hK_0_62 hK_0_63 hK_0_64 hK_0_65 hK_0_66; omega) (by clear f3 f4 f5 f10 f11 f12 f15 f16 f17 hK_0_62 hK_0_63 hK_0_64 hK_0_65 hK_0_66; omega)).2
    | omega
def o_Mo_dots_18 : or_T := (144, 19, [(0, (2, 0, 0, [165])), (4, (0, 0, 47, [])), (5, (0, 1, 24, [])), (6, (0, 1, 1, [])), (7, (0, 2, 25, [])), (8, (0, 2, 26, [])), (9, (0, -300000011, 221100000, [])), (11, (0, -300000000, 300000000, [])), (13, (0, 1, 1, [])), (14, (0, 2, 25, [])), (15, (0, -300000011, 221100000, [])), (17, (0, 1, 1, [])), (18, (0, 2, 25, []))], [(1, [18, 5, 17], []), (20, [0, 15], [30, 0, 1, 1, 153, -1, 0, 0]), (20, [15, 0], [30, 0, 1, 0, 0, -1, 1, 154]), (20, [14, 15, 0, 4], [50, 2, 2, 2139, 2005, 2062, 2002, 4, 6, 1, 2, 1, 0, 0, 0, 1, 2, 1, 1, 3, 2, 62, 4, 7, 6, 2, 0, 24, 2, 2, 139, 3, 2, 2, 4, 7, 4, 3, 2, 2, 5, 0, 267, 1, 3]), (20, [14, 0, 4, 15], [50, 2, 3, 1139, 1005, 1064, 1062, 1002, 4, 22, 1, 2, 1, 0, 4, 14, 3, 1, 64, 4, 7, 6, 2, 0, 48, 2, 1, 139, 1, 2, 0, 1, 1, 2, 1, 3, 3, 1, 62, 4, 7, 6, 2, 0, 24, 2, 1, 139, 3, 1, 2, 4, 7, 4, 3, 2, 1, 5, 0, 315, 1, 2]), (20, [14, 0, 4, 15], [50, 1, 2, 1139, 1064, 1065, 3, 6, 1, 2, 1, 0, 0, 0, 3, 22, 1, 2, 1, 0, 4, 14, 3, 1, 64, 4, 7, 6, 2, 0, 48, 2, 1, 139, 1, 2, 0, 1, 1, 2, 1, 3, 3, 1, 65, 4, 15, 6, 2, 0, 24, 4, 7, 6, 2, 0, 48, 2, 1, 139, 1, 2, 5, 2, 1, 0, 0, 1]), (20, [14, 0, 4], [50, 1, 1, 1139, 1064, 0, 2, 1, 0, 4, 14, 3, 1, 64, 4, 7, 6, 2, 0, 48, 2, 1, 139, 1, 2, 0, 1]), (1, [14, 5, 13], []), (20, [0, 11], [30, 0, 1, 1, 155, -1, 0, 0]), (20, [11, 0], [30, 0, 1, 0, 0, -1, 1, 156]), (20, [5, 11, 0, 4], [50, 2, 2, 2139, 2005, 2063, 2002, 4, 6, 1, 2, 1, 0, 0, 0, 1, 2, 1, 1, 3, 2, 63, 4, 7, 6, 2, 0, 24, 2, 2, 139, 3, 2, 2, 4, 7, 4, 3, 2, 2, 5, 0, 267, 1, 3]), (20, [5, 0, 4, 11], [50, 2, 3, 1139, 1005, 1064, 1063, 1002, 4, 22, 1, 2, 1, 0, 4, 14, 3, 1, 64, 4, 7, 6, 2, 0, 48, 2, 1, 139, 1, 2, 0, 1, 1, 2, 1, 3, 3, 1, 63, 4, 7, 6, 2, 0, 24, 2, 1, 139, 3, 1, 2, 4, 7, 4, 3, 2, 1, 5, 0, 315, 1, 2]), (20, [5, 0, 4, 11], [50, 1, 2, 1139, 1064, 1066, 3, 6, 1, 2, 1, 0, 0, 0, 3, 22, 1, 2, 1, 0, 4, 14, 3, 1, 64, 4, 7, 6, 2, 0, 48, 2, 1, 139, 1, 2, 0, 1, 1, 2, 1, 3, 3, 1, 66, 4, 15, 6, 2, 0, 24, 4, 7, 6, 2, 0, 48, 2, 1, 139, 1, 2, 5, 2, 1, 0, 0, 1]), (20, [0, 9], [30, 0, 1, 1, 153, -1, 0, 0]), (20, [9, 0], [30, 0, 1, 0, 0, -1, 1, 154]), (20, [5, 9, 0, 4], [50, 2, 2, 2139, 2005, 2062, 2002, 4, 6, 1, 2, 1, 0, 0, 0, 1, 2, 1, 1, 3, 2, 62, 4, 7, 6, 2, 0, 24, 2, 2, 139, 3, 2, 2, 4, 7, 4, 3, 2, 2, 5, 0, 267, 1, 3]), (20, [5, 0, 4, 9], [50, 2, 3, 1139, 1005, 1064, 1062, 1002, 4, 22, 1, 2, 1, 0, 4, 14, 3, 1, 64, 4, 7, 6, 2, 0, 48, 2, 1, 139, 1, 2, 0, 1, 1, 2, 1, 3, 3, 1, 62, 4, 7, 6, 2, 0, 24, 2, 1, 139, 3, 1, 2, 4, 7, 4, 3, 2, 1, 5, 0, 315, 1, 2]), (20, [5, 0, 4, 9], [50, 1, 2, 1139, 1064, 1065, 3, 6, 1, 2, 1, 0, 0, 0, 3, 22, 1, 2, 1, 0, 4, 14, 3, 1, 64, 4, 7, 6, 2, 0, 48, 2, 1, 139, 1, 2, 0, 1, 1, 2, 1, 3, 3, 1, 65, 4, 15, 6, 2, 0, 24, 4, 7, 6, 2, 0, 48, 2, 1, 139, 1, 2, 5, 2, 1, 0, 0, 1]), (20, [5, 0, 4], [50, 1, 1, 1139, 1064, 0, 2, 1, 0, 4, 14, 3, 1, 64, 4, 7, 6, 2, 0, 48, 2, 1, 139, 1, 2, 0, 1]), (7, [7, 8], [2]), (20, [8, 0, 4], [50, 1, 1, 1139, 1064, 1, 2, 1, 0, 4, 14, 3, 1, 64, 4, 7, 6, 2, 0, 48, 2, 1, 139, 1, 2, 0, 2]), (1, [7, 5, 6], []), (20, [0], [60, 6, 6, 945, 153, 154, 155, 156, 139, 5, 62, 63, 2, 64, 65, 66]), (20, [0], [30, -1, -1, 1, 173]), (20, [0], [30, 64, 1, 1, 173]), (20, [0], [30, -1, -1, 1, 174]), (20, [0], [30, 64, 1, 1, 174]), (20, [4, 0], [30, -1, 1, 0, 0, -1, 3, 2005001])], [], [], [(20, [18, 0, 4], [50, 1, 1, 1139, 1064, 0, 2, 1, 0, 4, 14, 3, 1, 64, 4, 7, 6, 2, 0, 48, 2, 1, 139, 1, 2, 0, 1])], [], [(18, 5, 1, 1), (14, 5, 1, 1), (7, 8, -4294967296, -1), (7, 5, 1, 1)])
theorem oo_Mo_dots_18 {kA : Nat → ClassId} : or_ok PRD kA GG o_Mo_dots_18 := by
  refine or_mk fun A ta ws vs hD hth hl => ?_
  intro t0 r0 t4 k4 t5 k5 t6 k6 t7 k7 t8 k8 t9 k9 t11 k11 t13 k13 t14 k14 t15 k15 t17 k17 t18 k18 d0 d1 d2 d3 f0 f1 f2 f3 f4 f5 f6 f7 f8 f9 f10 f11 f12 f13 f14 f15 f16 f17 f18 f19 f20 f21 f22 f23 f24 f25 f26 f27
  have cr_0_62 := fdq_173 hD hth r0
  have cr_0_63 := fdq_174 hD hth r0
  have cr_0_64 := fdq_171 hD hth r0
  have cr_0_65 := fdq_292 hD hth r0
  have cr_0_66 := fdq_293 hD hth r0
  have hK_0_62 := elq_102 hD hth cr_0_62
  have hK_0_63 := elq_103 hD hth cr_0_63
  have hK_0_64 := elq_101 hD hth cr_0_64
  have hK_0_65 := elq_184 hD hth cr_0_65
  have hK_0_66 := elq_185 hD hth cr_0_66
  have kz_0_139 := fdq_172 hD hth r0
  have kz_0_153 := fdq_14 hD hth r0
  have kz_0_154 := fdq_15 hD hth r0
  have kz_0_155 := fdq_17 hD hth r0
  have kz_0_156 := fdq_18 hD hth r0
  have kz_0_173 := fdq_16 hD hth r0
  have kz_0_174 := fdq_19 hD hth r0
  have nf0 : fc_1 PRD (20, [18, 0, 4], [50, 1, 1, 1139, 1064, 0, 2, 1, 0, 4, 14, 3, 1, 64, 4, 7, 6, 2, 0, 48, 2, 1, 139, 1, 2, 0, 1]) ws (vs) := ⟨nf_in hl rfl, sgq_1421 (vc_Mo_dots_18_0 (v_iv (n_v vs 4)) (v_iv (n_v vs 5)) (v_iv (n_v vs 6)) (v_iv (n_v vs 7)) (v_iv (n_v vs 8)) (v_iv (n_v vs 9)) (v_iv (n_v vs 11)) (v_iv (n_v vs 13)) (v_iv (n_v vs 14)) (v_iv (n_v vs 15)) (v_iv (n_v vs 17)) (v_iv (n_v vs 18)) (w_fi ws (n_v vs 0) 153) (w_fi ws (n_v vs 0) 154) (w_ei ws (w_ar ws (n_v vs 0) 62)) (w_ei ws (w_ar ws (n_v vs 0) 2)) (w_fi ws (n_v vs 0) 139) (w_fi ws (n_v vs 0) 5) (w_ei ws (w_ar ws (n_v vs 0) 64)) (w_ei ws (w_ar ws (n_v vs 0) 65)) (w_fi ws (n_v vs 0) 155) (w_fi ws (n_v vs 0) 156) (w_ei ws (w_ar ws (n_v vs 0) 63)) (w_ei ws (w_ar ws (n_v vs 0) 66)) (w_fi ws (n_v vs 0) 173) (w_fi ws (n_v vs 0) 174) k4 k5 k6 k7 k8 k9 k11 k13 k14 k15 k17 k18 d0 d1 d2 d3 (shm_12 f0) (shm_146 f1) (shm_147 f2) (shm_1423 f3) (shm_1424 f4) (shm_1425 f5) (shm_1421 f6) (shm_12 f7) (shm_153 f8) (shm_154 f9) (shm_1427 f10) (shm_1428 f11) (shm_1429 f12) (shm_146 f13) (shm_147 f14) (shm_1423 f15) (shm_1424 f16) (shm_1425 f17) (shm_1421 f18) (shm_6 f19) (shm_683 f20) (shm_12 f21) (shm_1845 f22) (shm_148 f23) (shm_149 f24) (shm_155 f25) (shm_156 f26) (shm_979 f27) hK_0_62 hK_0_63 hK_0_64 hK_0_65 hK_0_66 kz_0_139 kz_0_153 kz_0_154 kz_0_155 kz_0_156 kz_0_173 kz_0_174)⟩
  refine ⟨(fun _ h => (by cases h)), [], trivial, ?_, (fun _ h => (by cases h))⟩
  rw [List.append_nil]
  exact List.forall_mem_cons.mpr ⟨⟨show (20 : Nat) < 100 from by decide, nf0⟩, (fun _ h => (by cases h))⟩
set_option maxHeartbeats 4000000 in
theorem vc_Mo_dots_19_0 (x4 : Int) (x5 : Int) (x6 : Int) (x7 : Int) (x8 : Int) (x9 : Int) (x11 : Int) (x13 : Int) (x14 : Int) (x15 : Int) (x17 : Int) (x18 : Int) (x19 : Int) (nodeY_0 : Int → Int) (all_0 : Int → Int) (g0_0 : Int) (r_0 : Int) (bendMany_0 : Int → Int) (bendY_0 : Int → Int) (leastX_0 : Int) (mostX_0 : Int) (nodeX_0 : Int → Int) (bendX_0 : Int → Int) (leastY_0 : Int) (mostY_0 : Int) (dotWide_0 : Int) (dotTall_0 : Int) (k4 : 0 ≤ x4 ∧ x4 ≤ 47) (k5 : 1 ≤ x5 ∧ x5 ≤ 24) (k6 : 1 ≤ x6 ∧ x6 ≤ 1) (k7 : 2 ≤ x7 ∧ x7 ≤ 25) (k8 : 2 ≤ x8 ∧ x8 ≤ 26) (k9 : (-300000011) ≤ x9 ∧ x9 ≤ 221100000) (k11 : (-300000000) ≤ x11 ∧ x11 ≤ 300000000) (k13 : 1 ≤ x13 ∧ x13 ≤ 1) (k14 : 2 ≤ x14 ∧ x14 ≤ 25) (k15 : (-300000011) ≤ x15 ∧ x15 ≤ 221100000) (k17 : 1 ≤ x17 ∧ x17 ≤ 1) (k18 : 2 ≤ x18 ∧ x18 ≤ 25) (k19 : (-900000000) ≤ x19 ∧ x19 ≤ 900000000) (d0 : x5 + 1 ≤ x18 ∧ x18 ≤ x5 + 1) (d1 : x5 + 1 ≤ x14 ∧ x14 ≤ x5 + 1) (d2 : x8 + (-4294967296) ≤ x7 ∧ x7 ≤ x8 + (-1)) (d3 : x5 + 1 ≤ x7 ∧ x7 ≤ x5 + 1) (f0 : (x18 = 0) → (x19 = nodeY_0 (((24 * g0_0) + all_0 (((r_0 + 267) + x4)))))) (f1 : (x18 = (bendMany_0 (((48 * g0_0) + x4)) + 1)) → (x19 = nodeY_0 (((24 * g0_0) + all_0 (((r_0 + 315) + x4)))))) (f2 : (x18 = 0) ∨ ((x18 = (bendMany_0 (((48 * g0_0) + x4)) + 1)) ∨ (x19 = bendY_0 (((24 * ((48 * g0_0) + x4)) + (x18 - 1)))))) (f3 : x18 ≤ (bendMany_0 (((48 * g0_0) + x4)) + 1)) (f4 : x18 = x5 + x17) (f5 : 1 * leastX_0 + ((-1) * x15 + 0) ≤ 0) (f6 : 1 * x15 + ((-1) * mostX_0 + 0) ≤ 0) (f7 : (x14 = 0) → (x15 = nodeX_0 (((24 * g0_0) + all_0 (((r_0 + 267) + x4)))))) (f8 : (x14 = (bendMany_0 (((48 * g0_0) + x4)) + 1)) → (x15 = nodeX_0 (((24 * g0_0) + all_0 (((r_0 + 315) + x4)))))) (f9 : (x14 = 0) ∨ ((x14 = (bendMany_0 (((48 * g0_0) + x4)) + 1)) ∨ (x15 = bendX_0 (((24 * ((48 * g0_0) + x4)) + (x14 - 1)))))) (f10 : x14 ≤ (bendMany_0 (((48 * g0_0) + x4)) + 1)) (f11 : x14 = x5 + x13) (f12 : 1 * leastY_0 + ((-1) * x11 + 0) ≤ 0) (f13 : 1 * x11 + ((-1) * mostY_0 + 0) ≤ 0) (f14 : (x5 = 0) → (x11 = nodeY_0 (((24 * g0_0) + all_0 (((r_0 + 267) + x4)))))) (f15 : (x5 = (bendMany_0 (((48 * g0_0) + x4)) + 1)) → (x11 = nodeY_0 (((24 * g0_0) + all_0 (((r_0 + 315) + x4)))))) (f16 : (x5 = 0) ∨ ((x5 = (bendMany_0 (((48 * g0_0) + x4)) + 1)) ∨ (x11 = bendY_0 (((24 * ((48 * g0_0) + x4)) + (x5 - 1)))))) (f17 : 1 * leastX_0 + ((-1) * x9 + 0) ≤ 0) (f18 : 1 * x9 + ((-1) * mostX_0 + 0) ≤ 0) (f19 : (x5 = 0) → (x9 = nodeX_0 (((24 * g0_0) + all_0 (((r_0 + 267) + x4)))))) (f20 : (x5 = (bendMany_0 (((48 * g0_0) + x4)) + 1)) → (x9 = nodeX_0 (((24 * g0_0) + all_0 (((r_0 + 315) + x4)))))) (f21 : (x5 = 0) ∨ ((x5 = (bendMany_0 (((48 * g0_0) + x4)) + 1)) ∨ (x9 = bendX_0 (((24 * ((48 * g0_0) + x4)) + (x5 - 1)))))) (f22 : x5 ≤ (bendMany_0 (((48 * g0_0) + x4)) + 1)) (f23 : x7 < x8) (f24 : x8 = (bendMany_0 (((48 * g0_0) + x4)) + 2)) (f25 : x7 = x5 + x6) (f26 : BNA (leastX_0) (mostX_0) (leastY_0) (mostY_0) (g0_0) (r_0) (nodeX_0) (nodeY_0) (all_0) (bendMany_0) (bendX_0) (bendY_0)) (f27 : (-1) * dotWide_0 + 0 ≤ (-1)) (f28 : 1 * dotWide_0 + 0 ≤ 64) (f29 : (-1) * dotTall_0 + 0 ≤ (-1)) (f30 : 1 * dotTall_0 + 0 ≤ 64) (f31 : 1 * x4 + ((-1) * all_0 (r_0 + 1) + 0) ≤ (-1)) (hK_0_62 : ∀ j : Int, 0 ≤ j → j < 96 → (-300000000) ≤ nodeX_0 j ∧ nodeX_0 j ≤ 300000000) (hK_0_63 : ∀ j : Int, 0 ≤ j → j < 96 → (-300000000) ≤ nodeY_0 j ∧ nodeY_0 j ≤ 300000000) (hK_0_64 : ∀ j : Int, 0 ≤ j → j < 192 → 0 ≤ bendMany_0 j ∧ bendMany_0 j ≤ 24) (hK_0_65 : ∀ j : Int, 0 ≤ j → j < 4608 → (-300000011) ≤ bendX_0 j ∧ bendX_0 j ≤ 221100000) (hK_0_66 : ∀ j : Int, 0 ≤ j → j < 4608 → (-900000000) ≤ bendY_0 j ∧ bendY_0 j ≤ 900000000) (kz_0_139 : 0 ≤ g0_0 ∧ g0_0 ≤ 3) (kz_0_153 : (-2147483648) ≤ leastX_0 ∧ leastX_0 ≤ 300000000) (kz_0_154 : (-900000000) ≤ mostX_0 ∧ mostX_0 ≤ 2147483647) (kz_0_155 : (-2147483648) ≤ leastY_0 ∧ leastY_0 ≤ 300000000) (kz_0_156 : (-900000000) ≤ mostY_0 ∧ mostY_0 ≤ 2147483647) (kz_0_173 : 0 ≤ dotWide_0 ∧ dotWide_0 ≤ 64) (kz_0_174 : 0 ≤ dotTall_0 ∧ dotTall_0 ≤ 64) : 1 * leastY_0 + ((-1) * x19 + 0) ≤ 0 := by
  first
    | assumption
    | (clear f0 f1 f2 f7 f8 f9 f14 f15 f16 f19 f20 f21 hK_0_62 hK_0_63 hK_0_64 hK_0_65 hK_0_66; omega)
    | exact (bna_x ‹BNA _ _ _ _ _ _ _ _ _ _ _ _› (by assumption) (by assumption) (by assumption) (by assumption) (by assumption) (by assumption) (by assumption) (by omega) (by omega)).1
    | exact (bna_x ‹BNA _ _ _ _ _ _ _ _ _ _ _ _› (by assumption) (by assumption) (by assumption) (by assumption) (by assumption) (by assumption) (by assumption) (by omega) (by omega)).2
    | exact (bna_y ‹BNA _ _ _ _ _ _ _ _ _ _ _ _› (by assumption) (by assumption) (by assumption) (by assumption) (by assumption) (by assumption) (by assumption) (by omega) (by omega)).1
    | exact (bna_y ‹BNA _ _ _ _ _ _ _ _ _ _ _ _› (by assumption) (by assumption) (by assumption) (by assumption) (by assumption) (by assumption) (by assumption) (by omega) (by omega)).2
    | exact (bna_nx ‹BNA _ _ _ _ _ _ _ _ _ _ _ _› (by assumption) (by clear f0 f1 f2 f7 f8 f9 f14 f15 f16 f19 f20 f21 hK_0_62 hK_0_63 hK_0_64 hK_0_65 hK_0_66; omega) (by clear f0 f1 f2 f7 f8 f9 f14 f15 f16 f19 f20 f21 hK_0_62 hK_0_63 hK_0_64 hK_0_65 hK_0_66; omega)).1
    | exact (bna_nx ‹BNA _ _ _ _ _ _ _ _ _ _ _ _› (by assumption) (by clear f0 f1 f2 f7 f8 f9 f14 f15 f16 f19 f20 f21 hK_0_62 hK_0_63 hK_0_64 hK_0_65 hK_0_66; omega) (by clear f0 f1 f2 f7 f8 f9 f14 f15 f16 f19 f20 f21 hK_0_62 hK_0_63 hK_0_64 hK_0_65 hK_0_66; omega)).2
    | exact (bna_ny ‹BNA _ _ _ _ _ _ _ _ _ _ _ _› (by assumption) (by clear f0 f1 f2 f7 f8 f9 f14 f15 f16 f19 f20 f21 hK_0_62 hK_0_63 hK_0_64 hK_0_65 hK_0_66; omega) (by clear f0 f1 f2 f7 f8 f9 f14 f15 f16 f19 f20 f21 hK_0_62 hK_0_63 hK_0_64 hK_0_65 hK_0_66; omega)).1
    | exact (bna_ny ‹BNA _ _ _ _ _ _ _ _ _ _ _ _› (by assumption) (by clear f0 f1 f2 f7 f8 f9 f14 f15 f16 f19 f20 f21 hK_0_62 hK_0_63 hK_0_64 hK_0_65 hK_0_66; omega) (by clear f0 f1 f2 f7 f8 f9 f14 f15 f16 f19 f20 f21 hK_0_62 hK_0_63 hK_0_64 hK_0_65 hK_0_66; omega)).2
    | omega
set_option maxHeartbeats 4000000 in
theorem vc_Mo_dots_19_1 (x4 : Int) (x5 : Int) (x6 : Int) (x7 : Int) (x8 : Int) (x9 : Int) (x11 : Int) (x13 : Int) (x14 : Int) (x15 : Int) (x17 : Int) (x18 : Int) (x19 : Int) (nodeY_0 : Int → Int) (all_0 : Int → Int) (g0_0 : Int) (r_0 : Int) (bendMany_0 : Int → Int) (bendY_0 : Int → Int) (leastX_0 : Int) (mostX_0 : Int) (nodeX_0 : Int → Int) (bendX_0 : Int → Int) (leastY_0 : Int) (mostY_0 : Int) (dotWide_0 : Int) (dotTall_0 : Int) (k4 : 0 ≤ x4 ∧ x4 ≤ 47) (k5 : 1 ≤ x5 ∧ x5 ≤ 24) (k6 : 1 ≤ x6 ∧ x6 ≤ 1) (k7 : 2 ≤ x7 ∧ x7 ≤ 25) (k8 : 2 ≤ x8 ∧ x8 ≤ 26) (k9 : (-300000011) ≤ x9 ∧ x9 ≤ 221100000) (k11 : (-300000000) ≤ x11 ∧ x11 ≤ 300000000) (k13 : 1 ≤ x13 ∧ x13 ≤ 1) (k14 : 2 ≤ x14 ∧ x14 ≤ 25) (k15 : (-300000011) ≤ x15 ∧ x15 ≤ 221100000) (k17 : 1 ≤ x17 ∧ x17 ≤ 1) (k18 : 2 ≤ x18 ∧ x18 ≤ 25) (k19 : (-900000000) ≤ x19 ∧ x19 ≤ 900000000) (d0 : x5 + 1 ≤ x18 ∧ x18 ≤ x5 + 1) (d1 : x5 + 1 ≤ x14 ∧ x14 ≤ x5 + 1) (d2 : x8 + (-4294967296) ≤ x7 ∧ x7 ≤ x8 + (-1)) (d3 : x5 + 1 ≤ x7 ∧ x7 ≤ x5 + 1) (f0 : (x18 = 0) → (x19 = nodeY_0 (((24 * g0_0) + all_0 (((r_0 + 267) + x4)))))) (f1 : (x18 = (bendMany_0 (((48 * g0_0) + x4)) + 1)) → (x19 = nodeY_0 (((24 * g0_0) + all_0 (((r_0 + 315) + x4)))))) (f2 : (x18 = 0) ∨ ((x18 = (bendMany_0 (((48 * g0_0) + x4)) + 1)) ∨ (x19 = bendY_0 (((24 * ((48 * g0_0) + x4)) + (x18 - 1)))))) (f3 : x18 ≤ (bendMany_0 (((48 * g0_0) + x4)) + 1)) (f4 : x18 = x5 + x17) (f5 : 1 * leastX_0 + ((-1) * x15 + 0) ≤ 0) (f6 : 1 * x15 + ((-1) * mostX_0 + 0) ≤ 0) (f7 : (x14 = 0) → (x15 = nodeX_0 (((24 * g0_0) + all_0 (((r_0 + 267) + x4)))))) (f8 : (x14 = (bendMany_0 (((48 * g0_0) + x4)) + 1)) → (x15 = nodeX_0 (((24 * g0_0) + all_0 (((r_0 + 315) + x4)))))) (f9 : (x14 = 0) ∨ ((x14 = (bendMany_0 (((48 * g0_0) + x4)) + 1)) ∨ (x15 = bendX_0 (((24 * ((48 * g0_0) + x4)) + (x14 - 1)))))) (f10 : x14 ≤ (bendMany_0 (((48 * g0_0) + x4)) + 1)) (f11 : x14 = x5 + x13) (f12 : 1 * leastY_0 + ((-1) * x11 + 0) ≤ 0) (f13 : 1 * x11 + ((-1) * mostY_0 + 0) ≤ 0) (f14 : (x5 = 0) → (x11 = nodeY_0 (((24 * g0_0) + all_0 (((r_0 + 267) + x4)))))) (f15 : (x5 = (bendMany_0 (((48 * g0_0) + x4)) + 1)) → (x11 = nodeY_0 (((24 * g0_0) + all_0 (((r_0 + 315) + x4)))))) (f16 : (x5 = 0) ∨ ((x5 = (bendMany_0 (((48 * g0_0) + x4)) + 1)) ∨ (x11 = bendY_0 (((24 * ((48 * g0_0) + x4)) + (x5 - 1)))))) (f17 : 1 * leastX_0 + ((-1) * x9 + 0) ≤ 0) (f18 : 1 * x9 + ((-1) * mostX_0 + 0) ≤ 0) (f19 : (x5 = 0) → (x9 = nodeX_0 (((24 * g0_0) + all_0 (((r_0 + 267) + x4)))))) (f20 : (x5 = (bendMany_0 (((48 * g0_0) + x4)) + 1)) → (x9 = nodeX_0 (((24 * g0_0) + all_0 (((r_0 + 315) + x4)))))) (f21 : (x5 = 0) ∨ ((x5 = (bendMany_0 (((48 * g0_0) + x4)) + 1)) ∨ (x9 = bendX_0 (((24 * ((48 * g0_0) + x4)) + (x5 - 1)))))) (f22 : x5 ≤ (bendMany_0 (((48 * g0_0) + x4)) + 1)) (f23 : x7 < x8) (f24 : x8 = (bendMany_0 (((48 * g0_0) + x4)) + 2)) (f25 : x7 = x5 + x6) (f26 : BNA (leastX_0) (mostX_0) (leastY_0) (mostY_0) (g0_0) (r_0) (nodeX_0) (nodeY_0) (all_0) (bendMany_0) (bendX_0) (bendY_0)) (f27 : (-1) * dotWide_0 + 0 ≤ (-1)) (f28 : 1 * dotWide_0 + 0 ≤ 64) (f29 : (-1) * dotTall_0 + 0 ≤ (-1)) (f30 : 1 * dotTall_0 + 0 ≤ 64) (f31 : 1 * x4 + ((-1) * all_0 (r_0 + 1) + 0) ≤ (-1)) (hK_0_62 : ∀ j : Int, 0 ≤ j → j < 96 → (-300000000) ≤ nodeX_0 j ∧ nodeX_0 j ≤ 300000000) (hK_0_63 : ∀ j : Int, 0 ≤ j → j < 96 → (-300000000) ≤ nodeY_0 j ∧ nodeY_0 j ≤ 300000000) (hK_0_64 : ∀ j : Int, 0 ≤ j → j < 192 → 0 ≤ bendMany_0 j ∧ bendMany_0 j ≤ 24) (hK_0_65 : ∀ j : Int, 0 ≤ j → j < 4608 → (-300000011) ≤ bendX_0 j ∧ bendX_0 j ≤ 221100000) (hK_0_66 : ∀ j : Int, 0 ≤ j → j < 4608 → (-900000000) ≤ bendY_0 j ∧ bendY_0 j ≤ 900000000) (kz_0_139 : 0 ≤ g0_0 ∧ g0_0 ≤ 3) (kz_0_153 : (-2147483648) ≤ leastX_0 ∧ leastX_0 ≤ 300000000) (kz_0_154 : (-900000000) ≤ mostX_0 ∧ mostX_0 ≤ 2147483647) (kz_0_155 : (-2147483648) ≤ leastY_0 ∧ leastY_0 ≤ 300000000) (kz_0_156 : (-900000000) ≤ mostY_0 ∧ mostY_0 ≤ 2147483647) (kz_0_173 : 0 ≤ dotWide_0 ∧ dotWide_0 ≤ 64) (kz_0_174 : 0 ≤ dotTall_0 ∧ dotTall_0 ≤ 64) : 1 * x19 + ((-1) * mostY_0 + 0) ≤ 0 := by
  first
    | assumption
    | (clear f0 f1 f2 f7 f8 f9 f14 f15 f16 f19 f20 f21 hK_0_62 hK_0_63 hK_0_64 hK_0_65 hK_0_66; omega)
    | exact (bna_x ‹BNA _ _ _ _ _ _ _ _ _ _ _ _› (by assumption) (by assumption) (by assumption) (by assumption) (by assumption) (by assumption) (by assumption) (by omega) (by omega)).1
    | exact (bna_x ‹BNA _ _ _ _ _ _ _ _ _ _ _ _› (by assumption) (by assumption) (by assumption) (by assumption) (by assumption) (by assumption) (by assumption) (by omega) (by omega)).2
    | exact (bna_y ‹BNA _ _ _ _ _ _ _ _ _ _ _ _› (by assumption) (by assumption) (by assumption) (by assumption) (by assumption) (by assumption) (by assumption) (by omega) (by omega)).1
    | exact (bna_y ‹BNA _ _ _ _ _ _ _ _ _ _ _ _› (by assumption) (by assumption) (by assumption) (by assumption) (by assumption) (by assumption) (by assumption) (by omega) (by omega)).2
    | exact (bna_nx ‹BNA _ _ _ _ _ _ _ _ _ _ _ _› (by assumption) (by clear f0 f1 f2 f7 f8 f9 f14 f15 f16 f19 f20 f21 hK_0_62 hK_0_63 hK_0_64 hK_0_65 hK_0_66; omega) (by clear f0 f1 f2 f7 f8 f9 f14 f15 f16 f19 f20 f21 hK_0_62 hK_0_63 hK_0_64 hK_0_65 hK_0_66; omega)).1
    | exact (bna_nx ‹BNA _ _ _ _ _ _ _ _ _ _ _ _› (by assumption) (by clear f0 f1 f2 f7 f8 f9 f14 f15 f16 f19 f20 f21 hK_0_62 hK_0_63 hK_0_64 hK_0_65 hK_0_66; omega) (by clear f0 f1 f2 f7 f8 f9 f14 f15 f16 f19 f20 f21 hK_0_62 hK_0_63 hK_0_64 hK_0_65 hK_0_66; omega)).2
    | exact (bna_ny ‹BNA _ _ _ _ _ _ _ _ _ _ _ _› (by assumption) (by clear f0 f1 f2 f7 f8 f9 f14 f15 f16 f19 f20 f21 hK_0_62 hK_0_63 hK_0_64 hK_0_65 hK_0_66; omega) (by clear f0 f1 f2 f7 f8 f9 f14 f15 f16 f19 f20 f21 hK_0_62 hK_0_63 hK_0_64 hK_0_65 hK_0_66; omega)).1
    | exact (bna_ny ‹BNA _ _ _ _ _ _ _ _ _ _ _ _› (by assumption) (by clear f0 f1 f2 f7 f8 f9 f14 f15 f16 f19 f20 f21 hK_0_62 hK_0_63 hK_0_64 hK_0_65 hK_0_66; omega) (by clear f0 f1 f2 f7 f8 f9 f14 f15 f16 f19 f20 f21 hK_0_62 hK_0_63 hK_0_64 hK_0_65 hK_0_66; omega)).2
    | omega
def o_Mo_dots_19 : or_T := (147, 20, [(0, (2, 0, 0, [165])), (4, (0, 0, 47, [])), (5, (0, 1, 24, [])), (6, (0, 1, 1, [])), (7, (0, 2, 25, [])), (8, (0, 2, 26, [])), (9, (0, -300000011, 221100000, [])), (11, (0, -300000000, 300000000, [])), (13, (0, 1, 1, [])), (14, (0, 2, 25, [])), (15, (0, -300000011, 221100000, [])), (17, (0, 1, 1, [])), (18, (0, 2, 25, [])), (19, (0, -900000000, 900000000, []))], [(20, [18, 19, 0, 4], [50, 2, 2, 2139, 2005, 2063, 2002, 4, 6, 1, 2, 1, 0, 0, 0, 1, 2, 1, 1, 3, 2, 63, 4, 7, 6, 2, 0, 24, 2, 2, 139, 3, 2, 2, 4, 7, 4, 3, 2, 2, 5, 0, 267, 1, 3]), (20, [18, 0, 4, 19], [50, 2, 3, 1139, 1005, 1064, 1063, 1002, 4, 22, 1, 2, 1, 0, 4, 14, 3, 1, 64, 4, 7, 6, 2, 0, 48, 2, 1, 139, 1, 2, 0, 1, 1, 2, 1, 3, 3, 1, 63, 4, 7, 6, 2, 0, 24, 2, 1, 139, 3, 1, 2, 4, 7, 4, 3, 2, 1, 5, 0, 315, 1, 2]), (20, [18, 0, 4, 19], [50, 1, 2, 1139, 1064, 1066, 3, 6, 1, 2, 1, 0, 0, 0, 3, 22, 1, 2, 1, 0, 4, 14, 3, 1, 64, 4, 7, 6, 2, 0, 48, 2, 1, 139, 1, 2, 0, 1, 1, 2, 1, 3, 3, 1, 66, 4, 15, 6, 2, 0, 24, 4, 7, 6, 2, 0, 48, 2, 1, 139, 1, 2, 5, 2, 1, 0, 0, 1]), (20, [18, 0, 4], [50, 1, 1, 1139, 1064, 0, 2, 1, 0, 4, 14, 3, 1, 64, 4, 7, 6, 2, 0, 48, 2, 1, 139, 1, 2, 0, 1]), (1, [18, 5, 17], []), (20, [0, 15], [30, 0, 1, 1, 153, -1, 0, 0]), (20, [15, 0], [30, 0, 1, 0, 0, -1, 1, 154]), (20, [14, 15, 0, 4], [50, 2, 2, 2139, 2005, 2062, 2002, 4, 6, 1, 2, 1, 0, 0, 0, 1, 2, 1, 1, 3, 2, 62, 4, 7, 6, 2, 0, 24, 2, 2, 139, 3, 2, 2, 4, 7, 4, 3, 2, 2, 5, 0, 267, 1, 3]), (20, [14, 0, 4, 15], [50, 2, 3, 1139, 1005, 1064, 1062, 1002, 4, 22, 1, 2, 1, 0, 4, 14, 3, 1, 64, 4, 7, 6, 2, 0, 48, 2, 1, 139, 1, 2, 0, 1, 1, 2, 1, 3, 3, 1, 62, 4, 7, 6, 2, 0, 24, 2, 1, 139, 3, 1, 2, 4, 7, 4, 3, 2, 1, 5, 0, 315, 1, 2]), (20, [14, 0, 4, 15], [50, 1, 2, 1139, 1064, 1065, 3, 6, 1, 2, 1, 0, 0, 0, 3, 22, 1, 2, 1, 0, 4, 14, 3, 1, 64, 4, 7, 6, 2, 0, 48, 2, 1, 139, 1, 2, 0, 1, 1, 2, 1, 3, 3, 1, 65, 4, 15, 6, 2, 0, 24, 4, 7, 6, 2, 0, 48, 2, 1, 139, 1, 2, 5, 2, 1, 0, 0, 1]), (20, [14, 0, 4], [50, 1, 1, 1139, 1064, 0, 2, 1, 0, 4, 14, 3, 1, 64, 4, 7, 6, 2, 0, 48, 2, 1, 139, 1, 2, 0, 1]), (1, [14, 5, 13], []), (20, [0, 11], [30, 0, 1, 1, 155, -1, 0, 0]), (20, [11, 0], [30, 0, 1, 0, 0, -1, 1, 156]), (20, [5, 11, 0, 4], [50, 2, 2, 2139, 2005, 2063, 2002, 4, 6, 1, 2, 1, 0, 0, 0, 1, 2, 1, 1, 3, 2, 63, 4, 7, 6, 2, 0, 24, 2, 2, 139, 3, 2, 2, 4, 7, 4, 3, 2, 2, 5, 0, 267, 1, 3]), (20, [5, 0, 4, 11], [50, 2, 3, 1139, 1005, 1064, 1063, 1002, 4, 22, 1, 2, 1, 0, 4, 14, 3, 1, 64, 4, 7, 6, 2, 0, 48, 2, 1, 139, 1, 2, 0, 1, 1, 2, 1, 3, 3, 1, 63, 4, 7, 6, 2, 0, 24, 2, 1, 139, 3, 1, 2, 4, 7, 4, 3, 2, 1, 5, 0, 315, 1, 2]), (20, [5, 0, 4, 11], [50, 1, 2, 1139, 1064, 1066, 3, 6, 1, 2, 1, 0, 0, 0, 3, 22, 1, 2, 1, 0, 4, 14, 3, 1, 64, 4, 7, 6, 2, 0, 48, 2, 1, 139, 1, 2, 0, 1, 1, 2, 1, 3, 3, 1, 66, 4, 15, 6, 2, 0, 24, 4, 7, 6, 2, 0, 48, 2, 1, 139, 1, 2, 5, 2, 1, 0, 0, 1]), (20, [0, 9], [30, 0, 1, 1, 153, -1, 0, 0]), (20, [9, 0], [30, 0, 1, 0, 0, -1, 1, 154]), (20, [5, 9, 0, 4], [50, 2, 2, 2139, 2005, 2062, 2002, 4, 6, 1, 2, 1, 0, 0, 0, 1, 2, 1, 1, 3, 2, 62, 4, 7, 6, 2, 0, 24, 2, 2, 139, 3, 2, 2, 4, 7, 4, 3, 2, 2, 5, 0, 267, 1, 3]), (20, [5, 0, 4, 9], [50, 2, 3, 1139, 1005, 1064, 1062, 1002, 4, 22, 1, 2, 1, 0, 4, 14, 3, 1, 64, 4, 7, 6, 2, 0, 48, 2, 1, 139, 1, 2, 0, 1, 1, 2, 1, 3, 3, 1, 62, 4, 7, 6, 2, 0, 24, 2, 1, 139, 3, 1, 2, 4, 7, 4, 3, 2, 1, 5, 0, 315, 1, 2]), (20, [5, 0, 4, 9], [50, 1, 2, 1139, 1064, 1065, 3, 6, 1, 2, 1, 0, 0, 0, 3, 22, 1, 2, 1, 0, 4, 14, 3, 1, 64, 4, 7, 6, 2, 0, 48, 2, 1, 139, 1, 2, 0, 1, 1, 2, 1, 3, 3, 1, 65, 4, 15, 6, 2, 0, 24, 4, 7, 6, 2, 0, 48, 2, 1, 139, 1, 2, 5, 2, 1, 0, 0, 1]), (20, [5, 0, 4], [50, 1, 1, 1139, 1064, 0, 2, 1, 0, 4, 14, 3, 1, 64, 4, 7, 6, 2, 0, 48, 2, 1, 139, 1, 2, 0, 1]), (7, [7, 8], [2]), (20, [8, 0, 4], [50, 1, 1, 1139, 1064, 1, 2, 1, 0, 4, 14, 3, 1, 64, 4, 7, 6, 2, 0, 48, 2, 1, 139, 1, 2, 0, 2]), (1, [7, 5, 6], []), (20, [0], [60, 6, 6, 945, 153, 154, 155, 156, 139, 5, 62, 63, 2, 64, 65, 66]), (20, [0], [30, -1, -1, 1, 173]), (20, [0], [30, 64, 1, 1, 173]), (20, [0], [30, -1, -1, 1, 174]), (20, [0], [30, 64, 1, 1, 174]), (20, [4, 0], [30, -1, 1, 0, 0, -1, 3, 2005001])], [], [], [(20, [0, 19], [30, 0, 1, 1, 155, -1, 0, 0]), (20, [19, 0], [30, 0, 1, 0, 0, -1, 1, 156])], [], [(18, 5, 1, 1), (14, 5, 1, 1), (7, 8, -4294967296, -1), (7, 5, 1, 1)])
theorem oo_Mo_dots_19 {kA : Nat → ClassId} : or_ok PRD kA GG o_Mo_dots_19 := by
  refine or_mk fun A ta ws vs hD hth hl => ?_
  intro t0 r0 t4 k4 t5 k5 t6 k6 t7 k7 t8 k8 t9 k9 t11 k11 t13 k13 t14 k14 t15 k15 t17 k17 t18 k18 t19 k19 d0 d1 d2 d3 f0 f1 f2 f3 f4 f5 f6 f7 f8 f9 f10 f11 f12 f13 f14 f15 f16 f17 f18 f19 f20 f21 f22 f23 f24 f25 f26 f27 f28 f29 f30 f31
  have cr_0_62 := fdq_173 hD hth r0
  have cr_0_63 := fdq_174 hD hth r0
  have cr_0_64 := fdq_171 hD hth r0
  have cr_0_65 := fdq_292 hD hth r0
  have cr_0_66 := fdq_293 hD hth r0
  have hK_0_62 := elq_102 hD hth cr_0_62
  have hK_0_63 := elq_103 hD hth cr_0_63
  have hK_0_64 := elq_101 hD hth cr_0_64
  have hK_0_65 := elq_184 hD hth cr_0_65
  have hK_0_66 := elq_185 hD hth cr_0_66
  have kz_0_139 := fdq_172 hD hth r0
  have kz_0_153 := fdq_14 hD hth r0
  have kz_0_154 := fdq_15 hD hth r0
  have kz_0_155 := fdq_17 hD hth r0
  have kz_0_156 := fdq_18 hD hth r0
  have kz_0_173 := fdq_16 hD hth r0
  have kz_0_174 := fdq_19 hD hth r0
  have nf0 : fc_1 PRD (20, [0, 19], [30, 0, 1, 1, 155, -1, 0, 0]) ws (vs) := ⟨nf_in hl rfl, sgq_153 (vc_Mo_dots_19_0 (v_iv (n_v vs 4)) (v_iv (n_v vs 5)) (v_iv (n_v vs 6)) (v_iv (n_v vs 7)) (v_iv (n_v vs 8)) (v_iv (n_v vs 9)) (v_iv (n_v vs 11)) (v_iv (n_v vs 13)) (v_iv (n_v vs 14)) (v_iv (n_v vs 15)) (v_iv (n_v vs 17)) (v_iv (n_v vs 18)) (v_iv (n_v vs 19)) (w_ei ws (w_ar ws (n_v vs 0) 63)) (w_ei ws (w_ar ws (n_v vs 0) 2)) (w_fi ws (n_v vs 0) 139) (w_fi ws (n_v vs 0) 5) (w_ei ws (w_ar ws (n_v vs 0) 64)) (w_ei ws (w_ar ws (n_v vs 0) 66)) (w_fi ws (n_v vs 0) 153) (w_fi ws (n_v vs 0) 154) (w_ei ws (w_ar ws (n_v vs 0) 62)) (w_ei ws (w_ar ws (n_v vs 0) 65)) (w_fi ws (n_v vs 0) 155) (w_fi ws (n_v vs 0) 156) (w_fi ws (n_v vs 0) 173) (w_fi ws (n_v vs 0) 174) k4 k5 k6 k7 k8 k9 k11 k13 k14 k15 k17 k18 k19 d0 d1 d2 d3 (shm_1427 f0) (shm_1428 f1) (shm_1429 f2) (shm_1421 f3) (shm_12 f4) (shm_146 f5) (shm_147 f6) (shm_1423 f7) (shm_1424 f8) (shm_1425 f9) (shm_1421 f10) (shm_12 f11) (shm_153 f12) (shm_154 f13) (shm_1427 f14) (shm_1428 f15) (shm_1429 f16) (shm_146 f17) (shm_147 f18) (shm_1423 f19) (shm_1424 f20) (shm_1425 f21) (shm_1421 f22) (shm_6 f23) (shm_683 f24) (shm_12 f25) (shm_1845 f26) (shm_148 f27) (shm_149 f28) (shm_155 f29) (shm_156 f30) (shm_979 f31) hK_0_62 hK_0_63 hK_0_64 hK_0_65 hK_0_66 kz_0_139 kz_0_153 kz_0_154 kz_0_155 kz_0_156 kz_0_173 kz_0_174)⟩
  have nf1 : fc_1 PRD (20, [19, 0], [30, 0, 1, 0, 0, -1, 1, 156]) ws (vs) := ⟨nf_in hl rfl, sgq_154 (vc_Mo_dots_19_1 (v_iv (n_v vs 4)) (v_iv (n_v vs 5)) (v_iv (n_v vs 6)) (v_iv (n_v vs 7)) (v_iv (n_v vs 8)) (v_iv (n_v vs 9)) (v_iv (n_v vs 11)) (v_iv (n_v vs 13)) (v_iv (n_v vs 14)) (v_iv (n_v vs 15)) (v_iv (n_v vs 17)) (v_iv (n_v vs 18)) (v_iv (n_v vs 19)) (w_ei ws (w_ar ws (n_v vs 0) 63)) (w_ei ws (w_ar ws (n_v vs 0) 2)) (w_fi ws (n_v vs 0) 139) (w_fi ws (n_v vs 0) 5) (w_ei ws (w_ar ws (n_v vs 0) 64)) (w_ei ws (w_ar ws (n_v vs 0) 66)) (w_fi ws (n_v vs 0) 153) (w_fi ws (n_v vs 0) 154) (w_ei ws (w_ar ws (n_v vs 0) 62)) (w_ei ws (w_ar ws (n_v vs 0) 65)) (w_fi ws (n_v vs 0) 155) (w_fi ws (n_v vs 0) 156) (w_fi ws (n_v vs 0) 173) (w_fi ws (n_v vs 0) 174) k4 k5 k6 k7 k8 k9 k11 k13 k14 k15 k17 k18 k19 d0 d1 d2 d3 (shm_1427 f0) (shm_1428 f1) (shm_1429 f2) (shm_1421 f3) (shm_12 f4) (shm_146 f5) (shm_147 f6) (shm_1423 f7) (shm_1424 f8) (shm_1425 f9) (shm_1421 f10) (shm_12 f11) (shm_153 f12) (shm_154 f13) (shm_1427 f14) (shm_1428 f15) (shm_1429 f16) (shm_146 f17) (shm_147 f18) (shm_1423 f19) (shm_1424 f20) (shm_1425 f21) (shm_1421 f22) (shm_6 f23) (shm_683 f24) (shm_12 f25) (shm_1845 f26) (shm_148 f27) (shm_149 f28) (shm_155 f29) (shm_156 f30) (shm_979 f31) hK_0_62 hK_0_63 hK_0_64 hK_0_65 hK_0_66 kz_0_139 kz_0_153 kz_0_154 kz_0_155 kz_0_156 kz_0_173 kz_0_174)⟩
  refine ⟨(fun _ h => (by cases h)), [], trivial, ?_, (fun _ h => (by cases h))⟩
  rw [List.append_nil]
  exact List.forall_mem_cons.mpr ⟨⟨show (20 : Nat) < 100 from by decide, nf0⟩, List.forall_mem_cons.mpr ⟨⟨show (20 : Nat) < 100 from by decide, nf1⟩, (fun _ h => (by cases h))⟩⟩
set_option maxHeartbeats 4000000 in
theorem vc_Mo_dots_20_0 (x4 : Int) (x5 : Int) (x6 : Int) (x7 : Int) (x8 : Int) (x9 : Int) (x11 : Int) (x13 : Int) (x14 : Int) (x15 : Int) (x17 : Int) (x18 : Int) (x19 : Int) (nodeY_0 : Int → Int) (all_0 : Int → Int) (g0_0 : Int) (r_0 : Int) (bendMany_0 : Int → Int) (bendY_0 : Int → Int) (leastX_0 : Int) (mostX_0 : Int) (nodeX_0 : Int → Int) (bendX_0 : Int → Int) (leastY_0 : Int) (mostY_0 : Int) (dotWide_0 : Int) (dotTall_0 : Int) (k4 : 0 ≤ x4 ∧ x4 ≤ 47) (k5 : 1 ≤ x5 ∧ x5 ≤ 24) (k6 : 1 ≤ x6 ∧ x6 ≤ 1) (k7 : 2 ≤ x7 ∧ x7 ≤ 25) (k8 : 2 ≤ x8 ∧ x8 ≤ 26) (k9 : (-300000011) ≤ x9 ∧ x9 ≤ 221100000) (k11 : (-300000000) ≤ x11 ∧ x11 ≤ 300000000) (k13 : 1 ≤ x13 ∧ x13 ≤ 1) (k14 : 2 ≤ x14 ∧ x14 ≤ 25) (k15 : (-300000011) ≤ x15 ∧ x15 ≤ 221100000) (k17 : 1 ≤ x17 ∧ x17 ≤ 1) (k18 : 2 ≤ x18 ∧ x18 ≤ 25) (k19 : (-300000000) ≤ x19 ∧ x19 ≤ 300000000) (d0 : x5 + 1 ≤ x18 ∧ x18 ≤ x5 + 1) (d1 : x5 + 1 ≤ x14 ∧ x14 ≤ x5 + 1) (d2 : x8 + (-4294967296) ≤ x7 ∧ x7 ≤ x8 + (-1)) (d3 : x5 + 1 ≤ x7 ∧ x7 ≤ x5 + 1) (f0 : (x18 = 0) → (x19 = nodeY_0 (((24 * g0_0) + all_0 (((r_0 + 267) + x4)))))) (f1 : (x18 = (bendMany_0 (((48 * g0_0) + x4)) + 1)) → (x19 = nodeY_0 (((24 * g0_0) + all_0 (((r_0 + 315) + x4)))))) (f2 : (x18 = 0) ∨ ((x18 = (bendMany_0 (((48 * g0_0) + x4)) + 1)) ∨ (x19 = bendY_0 (((24 * ((48 * g0_0) + x4)) + (x18 - 1)))))) (f3 : x18 ≤ (bendMany_0 (((48 * g0_0) + x4)) + 1)) (f4 : x18 = x5 + x17) (f5 : 1 * leastX_0 + ((-1) * x15 + 0) ≤ 0) (f6 : 1 * x15 + ((-1) * mostX_0 + 0) ≤ 0) (f7 : (x14 = 0) → (x15 = nodeX_0 (((24 * g0_0) + all_0 (((r_0 + 267) + x4)))))) (f8 : (x14 = (bendMany_0 (((48 * g0_0) + x4)) + 1)) → (x15 = nodeX_0 (((24 * g0_0) + all_0 (((r_0 + 315) + x4)))))) (f9 : (x14 = 0) ∨ ((x14 = (bendMany_0 (((48 * g0_0) + x4)) + 1)) ∨ (x15 = bendX_0 (((24 * ((48 * g0_0) + x4)) + (x14 - 1)))))) (f10 : x14 ≤ (bendMany_0 (((48 * g0_0) + x4)) + 1)) (f11 : x14 = x5 + x13) (f12 : 1 * leastY_0 + ((-1) * x11 + 0) ≤ 0) (f13 : 1 * x11 + ((-1) * mostY_0 + 0) ≤ 0) (f14 : (x5 = 0) → (x11 = nodeY_0 (((24 * g0_0) + all_0 (((r_0 + 267) + x4)))))) (f15 : (x5 = (bendMany_0 (((48 * g0_0) + x4)) + 1)) → (x11 = nodeY_0 (((24 * g0_0) + all_0 (((r_0 + 315) + x4)))))) (f16 : (x5 = 0) ∨ ((x5 = (bendMany_0 (((48 * g0_0) + x4)) + 1)) ∨ (x11 = bendY_0 (((24 * ((48 * g0_0) + x4)) + (x5 - 1)))))) (f17 : 1 * leastX_0 + ((-1) * x9 + 0) ≤ 0) (f18 : 1 * x9 + ((-1) * mostX_0 + 0) ≤ 0) (f19 : (x5 = 0) → (x9 = nodeX_0 (((24 * g0_0) + all_0 (((r_0 + 267) + x4)))))) (f20 : (x5 = (bendMany_0 (((48 * g0_0) + x4)) + 1)) → (x9 = nodeX_0 (((24 * g0_0) + all_0 (((r_0 + 315) + x4)))))) (f21 : (x5 = 0) ∨ ((x5 = (bendMany_0 (((48 * g0_0) + x4)) + 1)) ∨ (x9 = bendX_0 (((24 * ((48 * g0_0) + x4)) + (x5 - 1)))))) (f22 : x5 ≤ (bendMany_0 (((48 * g0_0) + x4)) + 1)) (f23 : x7 < x8) (f24 : x8 = (bendMany_0 (((48 * g0_0) + x4)) + 2)) (f25 : x7 = x5 + x6) (f26 : BNA (leastX_0) (mostX_0) (leastY_0) (mostY_0) (g0_0) (r_0) (nodeX_0) (nodeY_0) (all_0) (bendMany_0) (bendX_0) (bendY_0)) (f27 : (-1) * dotWide_0 + 0 ≤ (-1)) (f28 : 1 * dotWide_0 + 0 ≤ 64) (f29 : (-1) * dotTall_0 + 0 ≤ (-1)) (f30 : 1 * dotTall_0 + 0 ≤ 64) (f31 : 1 * x4 + ((-1) * all_0 (r_0 + 1) + 0) ≤ (-1)) (hK_0_62 : ∀ j : Int, 0 ≤ j → j < 96 → (-300000000) ≤ nodeX_0 j ∧ nodeX_0 j ≤ 300000000) (hK_0_63 : ∀ j : Int, 0 ≤ j → j < 96 → (-300000000) ≤ nodeY_0 j ∧ nodeY_0 j ≤ 300000000) (hK_0_64 : ∀ j : Int, 0 ≤ j → j < 192 → 0 ≤ bendMany_0 j ∧ bendMany_0 j ≤ 24) (hK_0_65 : ∀ j : Int, 0 ≤ j → j < 4608 → (-300000011) ≤ bendX_0 j ∧ bendX_0 j ≤ 221100000) (hK_0_66 : ∀ j : Int, 0 ≤ j → j < 4608 → (-900000000) ≤ bendY_0 j ∧ bendY_0 j ≤ 900000000) (kz_0_139 : 0 ≤ g0_0 ∧ g0_0 ≤ 3) (kz_0_153 : (-2147483648) ≤ leastX_0 ∧ leastX_0 ≤ 300000000) (kz_0_154 : (-900000000) ≤ mostX_0 ∧ mostX_0 ≤ 2147483647) (kz_0_155 : (-2147483648) ≤ leastY_0 ∧ leastY_0 ≤ 300000000) (kz_0_156 : (-900000000) ≤ mostY_0 ∧ mostY_0 ≤ 2147483647) (kz_0_173 : 0 ≤ dotWide_0 ∧ dotWide_0 ≤ 64) (kz_0_174 : 0 ≤ dotTall_0 ∧ dotTall_0 ≤ 64) : 1 * leastY_0 + ((-1) * x19 + 0) ≤ 0 := by
  first
    | assumption
    | (clear f0 f1 f2 f7 f8 f9 f14 f15 f16 f19 f20 f21 hK_0_62 hK_0_63 hK_0_64 hK_0_65 hK_0_66; omega)
    | exact (bna_x ‹BNA _ _ _ _ _ _ _ _ _ _ _ _› (by assumption) (by assumption) (by assumption) (by assumption) (by assumption) (by assumption) (by assumption) (by omega) (by omega)).1
    | exact (bna_x ‹BNA _ _ _ _ _ _ _ _ _ _ _ _› (by assumption) (by assumption) (by assumption) (by assumption) (by assumption) (by assumption) (by assumption) (by omega) (by omega)).2
    | exact (bna_y ‹BNA _ _ _ _ _ _ _ _ _ _ _ _› (by assumption) (by assumption) (by assumption) (by assumption) (by assumption) (by assumption) (by assumption) (by omega) (by omega)).1
    | exact (bna_y ‹BNA _ _ _ _ _ _ _ _ _ _ _ _› (by assumption) (by assumption) (by assumption) (by assumption) (by assumption) (by assumption) (by assumption) (by omega) (by omega)).2
    | exact (bna_nx ‹BNA _ _ _ _ _ _ _ _ _ _ _ _› (by assumption) (by clear f0 f1 f2 f7 f8 f9 f14 f15 f16 f19 f20 f21 hK_0_62 hK_0_63 hK_0_64 hK_0_65 hK_0_66; omega) (by clear f0 f1 f2 f7 f8 f9 f14 f15 f16 f19 f20 f21 hK_0_62 hK_0_63 hK_0_64 hK_0_65 hK_0_66; omega)).1
    | exact (bna_nx ‹BNA _ _ _ _ _ _ _ _ _ _ _ _› (by assumption) (by clear f0 f1 f2 f7 f8 f9 f14 f15 f16 f19 f20 f21 hK_0_62 hK_0_63 hK_0_64 hK_0_65 hK_0_66; omega) (by clear f0 f1 f2 f7 f8 f9 f14 f15 f16 f19 f20 f21 hK_0_62 hK_0_63 hK_0_64 hK_0_65 hK_0_66; omega)).2
    | exact (bna_ny ‹BNA _ _ _ _ _ _ _ _ _ _ _ _› (by assumption) (by clear f0 f1 f2 f7 f8 f9 f14 f15 f16 f19 f20 f21 hK_0_62 hK_0_63 hK_0_64 hK_0_65 hK_0_66; omega) (by clear f0 f1 f2 f7 f8 f9 f14 f15 f16 f19 f20 f21 hK_0_62 hK_0_63 hK_0_64 hK_0_65 hK_0_66; omega)).1
    | exact (bna_ny ‹BNA _ _ _ _ _ _ _ _ _ _ _ _› (by assumption) (by clear f0 f1 f2 f7 f8 f9 f14 f15 f16 f19 f20 f21 hK_0_62 hK_0_63 hK_0_64 hK_0_65 hK_0_66; omega) (by clear f0 f1 f2 f7 f8 f9 f14 f15 f16 f19 f20 f21 hK_0_62 hK_0_63 hK_0_64 hK_0_65 hK_0_66; omega)).2
    | omega
set_option maxHeartbeats 4000000 in
theorem vc_Mo_dots_20_1 (x4 : Int) (x5 : Int) (x6 : Int) (x7 : Int) (x8 : Int) (x9 : Int) (x11 : Int) (x13 : Int) (x14 : Int) (x15 : Int) (x17 : Int) (x18 : Int) (x19 : Int) (nodeY_0 : Int → Int) (all_0 : Int → Int) (g0_0 : Int) (r_0 : Int) (bendMany_0 : Int → Int) (bendY_0 : Int → Int) (leastX_0 : Int) (mostX_0 : Int) (nodeX_0 : Int → Int) (bendX_0 : Int → Int) (leastY_0 : Int) (mostY_0 : Int) (dotWide_0 : Int) (dotTall_0 : Int) (k4 : 0 ≤ x4 ∧ x4 ≤ 47) (k5 : 1 ≤ x5 ∧ x5 ≤ 24) (k6 : 1 ≤ x6 ∧ x6 ≤ 1) (k7 : 2 ≤ x7 ∧ x7 ≤ 25) (k8 : 2 ≤ x8 ∧ x8 ≤ 26) (k9 : (-300000011) ≤ x9 ∧ x9 ≤ 221100000) (k11 : (-300000000) ≤ x11 ∧ x11 ≤ 300000000) (k13 : 1 ≤ x13 ∧ x13 ≤ 1) (k14 : 2 ≤ x14 ∧ x14 ≤ 25) (k15 : (-300000011) ≤ x15 ∧ x15 ≤ 221100000) (k17 : 1 ≤ x17 ∧ x17 ≤ 1) (k18 : 2 ≤ x18 ∧ x18 ≤ 25) (k19 : (-300000000) ≤ x19 ∧ x19 ≤ 300000000) (d0 : x5 + 1 ≤ x18 ∧ x18 ≤ x5 + 1) (d1 : x5 + 1 ≤ x14 ∧ x14 ≤ x5 + 1) (d2 : x8 + (-4294967296) ≤ x7 ∧ x7 ≤ x8 + (-1)) (d3 : x5 + 1 ≤ x7 ∧ x7 ≤ x5 + 1) (f0 : (x18 = 0) → (x19 = nodeY_0 (((24 * g0_0) + all_0 (((r_0 + 267) + x4)))))) (f1 : (x18 = (bendMany_0 (((48 * g0_0) + x4)) + 1)) → (x19 = nodeY_0 (((24 * g0_0) + all_0 (((r_0 + 315) + x4)))))) (f2 : (x18 = 0) ∨ ((x18 = (bendMany_0 (((48 * g0_0) + x4)) + 1)) ∨ (x19 = bendY_0 (((24 * ((48 * g0_0) + x4)) + (x18 - 1)))))) (f3 : x18 ≤ (bendMany_0 (((48 * g0_0) + x4)) + 1)) (f4 : x18 = x5 + x17) (f5 : 1 * leastX_0 + ((-1) * x15 + 0) ≤ 0) (f6 : 1 * x15 + ((-1) * mostX_0 + 0) ≤ 0) (f7 : (x14 = 0) → (x15 = nodeX_0 (((24 * g0_0) + all_0 (((r_0 + 267) + x4)))))) (f8 : (x14 = (bendMany_0 (((48 * g0_0) + x4)) + 1)) → (x15 = nodeX_0 (((24 * g0_0) + all_0 (((r_0 + 315) + x4)))))) (f9 : (x14 = 0) ∨ ((x14 = (bendMany_0 (((48 * g0_0) + x4)) + 1)) ∨ (x15 = bendX_0 (((24 * ((48 * g0_0) + x4)) + (x14 - 1)))))) (f10 : x14 ≤ (bendMany_0 (((48 * g0_0) + x4)) + 1)) (f11 : x14 = x5 + x13) (f12 : 1 * leastY_0 + ((-1) * x11 + 0) ≤ 0) (f13 : 1 * x11 + ((-1) * mostY_0 + 0) ≤ 0) (f14 : (x5 = 0) → (x11 = nodeY_0 (((24 * g0_0) + all_0 (((r_0 + 267) + x4)))))) (f15 : (x5 = (bendMany_0 (((48 * g0_0) + x4)) + 1)) → (x11 = nodeY_0 (((24 * g0_0) + all_0 (((r_0 + 315) + x4)))))) (f16 : (x5 = 0) ∨ ((x5 = (bendMany_0 (((48 * g0_0) + x4)) + 1)) ∨ (x11 = bendY_0 (((24 * ((48 * g0_0) + x4)) + (x5 - 1)))))) (f17 : 1 * leastX_0 + ((-1) * x9 + 0) ≤ 0) (f18 : 1 * x9 + ((-1) * mostX_0 + 0) ≤ 0) (f19 : (x5 = 0) → (x9 = nodeX_0 (((24 * g0_0) + all_0 (((r_0 + 267) + x4)))))) (f20 : (x5 = (bendMany_0 (((48 * g0_0) + x4)) + 1)) → (x9 = nodeX_0 (((24 * g0_0) + all_0 (((r_0 + 315) + x4)))))) (f21 : (x5 = 0) ∨ ((x5 = (bendMany_0 (((48 * g0_0) + x4)) + 1)) ∨ (x9 = bendX_0 (((24 * ((48 * g0_0) + x4)) + (x5 - 1)))))) (f22 : x5 ≤ (bendMany_0 (((48 * g0_0) + x4)) + 1)) (f23 : x7 < x8) (f24 : x8 = (bendMany_0 (((48 * g0_0) + x4)) + 2)) (f25 : x7 = x5 + x6) (f26 : BNA (leastX_0) (mostX_0) (leastY_0) (mostY_0) (g0_0) (r_0) (nodeX_0) (nodeY_0) (all_0) (bendMany_0) (bendX_0) (bendY_0)) (f27 : (-1) * dotWide_0 + 0 ≤ (-1)) (f28 : 1 * dotWide_0 + 0 ≤ 64) (f29 : (-1) * dotTall_0 + 0 ≤ (-1)) (f30 : 1 * dotTall_0 + 0 ≤ 64) (f31 : 1 * x4 + ((-1) * all_0 (r_0 + 1) + 0) ≤ (-1)) (hK_0_62 : ∀ j : Int, 0 ≤ j → j < 96 → (-300000000) ≤ nodeX_0 j ∧ nodeX_0 j ≤ 300000000) (hK_0_63 : ∀ j : Int, 0 ≤ j → j < 96 → (-300000000) ≤ nodeY_0 j ∧ nodeY_0 j ≤ 300000000) (hK_0_64 : ∀ j : Int, 0 ≤ j → j < 192 → 0 ≤ bendMany_0 j ∧ bendMany_0 j ≤ 24) (hK_0_65 : ∀ j : Int, 0 ≤ j → j < 4608 → (-300000011) ≤ bendX_0 j ∧ bendX_0 j ≤ 221100000) (hK_0_66 : ∀ j : Int, 0 ≤ j → j < 4608 → (-900000000) ≤ bendY_0 j ∧ bendY_0 j ≤ 900000000) (kz_0_139 : 0 ≤ g0_0 ∧ g0_0 ≤ 3) (kz_0_153 : (-2147483648) ≤ leastX_0 ∧ leastX_0 ≤ 300000000) (kz_0_154 : (-900000000) ≤ mostX_0 ∧ mostX_0 ≤ 2147483647) (kz_0_155 : (-2147483648) ≤ leastY_0 ∧ leastY_0 ≤ 300000000) (kz_0_156 : (-900000000) ≤ mostY_0 ∧ mostY_0 ≤ 2147483647) (kz_0_173 : 0 ≤ dotWide_0 ∧ dotWide_0 ≤ 64) (kz_0_174 : 0 ≤ dotTall_0 ∧ dotTall_0 ≤ 64) : 1 * x19 + ((-1) * mostY_0 + 0) ≤ 0 := by
  first
    | assumption
    | (clear f0 f1 f2 f7 f8 f9 f14 f15 f16 f19 f20 f21 hK_0_62 hK_0_63 hK_0_64 hK_0_65 hK_0_66; omega)
    | exact (bna_x ‹BNA _ _ _ _ _ _ _ _ _ _ _ _› (by assumption) (by assumption) (by assumption) (by assumption) (by assumption) (by assumption) (by assumption) (by omega) (by omega)).1
    | exact (bna_x ‹BNA _ _ _ _ _ _ _ _ _ _ _ _› (by assumption) (by assumption) (by assumption) (by assumption) (by assumption) (by assumption) (by assumption) (by omega) (by omega)).2
    | exact (bna_y ‹BNA _ _ _ _ _ _ _ _ _ _ _ _› (by assumption) (by assumption) (by assumption) (by assumption) (by assumption) (by assumption) (by assumption) (by omega) (by omega)).1
    | exact (bna_y ‹BNA _ _ _ _ _ _ _ _ _ _ _ _› (by assumption) (by assumption) (by assumption) (by assumption) (by assumption) (by assumption) (by assumption) (by omega) (by omega)).2
    | exact (bna_nx ‹BNA _ _ _ _ _ _ _ _ _ _ _ _› (by assumption) (by clear f0 f1 f2 f7 f8 f9 f14 f15 f16 f19 f20 f21 hK_0_62 hK_0_63 hK_0_64 hK_0_65 hK_0_66; omega) (by clear f0 f1 f2 f7 f8 f9 f14 f15 f16 f19 f20 f21 hK_0_62 hK_0_63 hK_0_64 hK_0_65 hK_0_66; omega)).1
    | exact (bna_nx ‹BNA _ _ _ _ _ _ _ _ _ _ _ _› (by assumption) (by clear f0 f1 f2 f7 f8 f9 f14 f15 f16 f19 f20 f21 hK_0_62 hK_0_63 hK_0_64 hK_0_65 hK_0_66; omega) (by clear f0 f1 f2 f7 f8 f9 f14 f15 f16 f19 f20 f21 hK_0_62 hK_0_63 hK_0_64 hK_0_65 hK_0_66; omega)).2
    | exact (bna_ny ‹BNA _ _ _ _ _ _ _ _ _ _ _ _› (by assumption) (by clear f0 f1 f2 f7 f8 f9 f14 f15 f16 f19 f20 f21 hK_0_62 hK_0_63 hK_0_64 hK_0_65 hK_0_66; omega) (by clear f0 f1 f2 f7 f8 f9 f14 f15 f16 f19 f20 f21 hK_0_62 hK_0_63 hK_0_64 hK_0_65 hK_0_66; omega)).1
    | exact (bna_ny ‹BNA _ _ _ _ _ _ _ _ _ _ _ _› (by assumption) (by clear f0 f1 f2 f7 f8 f9 f14 f15 f16 f19 f20 f21 hK_0_62 hK_0_63 hK_0_64 hK_0_65 hK_0_66; omega) (by clear f0 f1 f2 f7 f8 f9 f14 f15 f16 f19 f20 f21 hK_0_62 hK_0_63 hK_0_64 hK_0_65 hK_0_66; omega)).2
    | omega
def o_Mo_dots_20 : or_T := (147, 20, [(0, (2, 0, 0, [165])), (4, (0, 0, 47, [])), (5, (0, 1, 24, [])), (6, (0, 1, 1, [])), (7, (0, 2, 25, [])), (8, (0, 2, 26, [])), (9, (0, -300000011, 221100000, [])), (11, (0, -300000000, 300000000, [])), (13, (0, 1, 1, [])), (14, (0, 2, 25, [])), (15, (0, -300000011, 221100000, [])), (17, (0, 1, 1, [])), (18, (0, 2, 25, [])), (19, (0, -300000000, 300000000, []))], [(20, [18, 19, 0, 4], [50, 2, 2, 2139, 2005, 2063, 2002, 4, 6, 1, 2, 1, 0, 0, 0, 1, 2, 1, 1, 3, 2, 63, 4, 7, 6, 2, 0, 24, 2, 2, 139, 3, 2, 2, 4, 7, 4, 3, 2, 2, 5, 0, 267, 1, 3]), (20, [18, 0, 4, 19], [50, 2, 3, 1139, 1005, 1064, 1063, 1002, 4, 22, 1, 2, 1, 0, 4, 14, 3, 1, 64, 4, 7, 6, 2, 0, 48, 2, 1, 139, 1, 2, 0, 1, 1, 2, 1, 3, 3, 1, 63, 4, 7, 6, 2, 0, 24, 2, 1, 139, 3, 1, 2, 4, 7, 4, 3, 2, 1, 5, 0, 315, 1, 2]), (20, [18, 0, 4, 19], [50, 1, 2, 1139, 1064, 1066, 3, 6, 1, 2, 1, 0, 0, 0, 3, 22, 1, 2, 1, 0, 4, 14, 3, 1, 64, 4, 7, 6, 2, 0, 48, 2, 1, 139, 1, 2, 0, 1, 1, 2, 1, 3, 3, 1, 66, 4, 15, 6, 2, 0, 24, 4, 7, 6, 2, 0, 48, 2, 1, 139, 1, 2, 5, 2, 1, 0, 0, 1]), (20, [18, 0, 4], [50, 1, 1, 1139, 1064, 0, 2, 1, 0, 4, 14, 3, 1, 64, 4, 7, 6, 2, 0, 48, 2, 1, 139, 1, 2, 0, 1]), (1, [18, 5, 17], []), (20, [0, 15], [30, 0, 1, 1, 153, -1, 0, 0]), (20, [15, 0], [30, 0, 1, 0, 0, -1, 1, 154]), (20, [14, 15, 0, 4], [50, 2, 2, 2139, 2005, 2062, 2002, 4, 6, 1, 2, 1, 0, 0, 0, 1, 2, 1, 1, 3, 2, 62, 4, 7, 6, 2, 0, 24, 2, 2, 139, 3, 2, 2, 4, 7, 4, 3, 2, 2, 5, 0, 267, 1, 3]), (20, [14, 0, 4, 15], [50, 2, 3, 1139, 1005, 1064, 1062, 1002, 4, 22, 1, 2, 1, 0, 4, 14, 3, 1, 64, 4, 7, 6, 2, 0, 48, 2, 1, 139, 1, 2, 0, 1, 1, 2, 1, 3, 3, 1, 62, 4, 7, 6, 2, 0, 24, 2, 1, 139, 3, 1, 2, 4, 7, 4, 3, 2, 1, 5, 0, 315, 1, 2]), (20, [14, 0, 4, 15], [50, 1, 2, 1139, 1064, 1065, 3, 6, 1, 2, 1, 0, 0, 0, 3, 22, 1, 2, 1, 0, 4, 14, 3, 1, 64, 4, 7, 6, 2, 0, 48, 2, 1, 139, 1, 2, 0, 1, 1, 2, 1, 3, 3, 1, 65, 4, 15, 6, 2, 0, 24, 4, 7, 6, 2, 0, 48, 2, 1, 139, 1, 2, 5, 2, 1, 0, 0, 1]), (20, [14, 0, 4], [50, 1, 1, 1139, 1064, 0, 2, 1, 0, 4, 14, 3, 1, 64, 4, 7, 6, 2, 0, 48, 2, 1, 139, 1, 2, 0, 1]), (1, [14, 5, 13], []), (20, [0, 11], [30, 0, 1, 1, 155, -1, 0, 0]), (20, [11, 0], [30, 0, 1, 0, 0, -1, 1, 156]), (20, [5, 11, 0, 4], [50, 2, 2, 2139, 2005, 2063, 2002, 4, 6, 1, 2, 1, 0, 0, 0, 1, 2, 1, 1, 3, 2, 63, 4, 7, 6, 2, 0, 24, 2, 2, 139, 3, 2, 2, 4, 7, 4, 3, 2, 2, 5, 0, 267, 1, 3]), (20, [5, 0, 4, 11], [50, 2, 3, 1139, 1005, 1064, 1063, 1002, 4, 22, 1, 2, 1, 0, 4, 14, 3, 1, 64, 4, 7, 6, 2, 0, 48, 2, 1, 139, 1, 2, 0, 1, 1, 2, 1, 3, 3, 1, 63, 4, 7, 6, 2, 0, 24, 2, 1, 139, 3, 1, 2, 4, 7, 4, 3, 2, 1, 5, 0, 315, 1, 2]), (20, [5, 0, 4, 11], [50, 1, 2, 1139, 1064, 1066, 3, 6, 1, 2, 1, 0, 0, 0, 3, 22, 1, 2, 1, 0, 4, 14, 3, 1, 64, 4, 7, 6, 2, 0, 48, 2, 1, 139, 1, 2, 0, 1, 1, 2, 1, 3, 3, 1, 66, 4, 15, 6, 2, 0, 24, 4, 7, 6, 2, 0, 48, 2, 1, 139, 1, 2, 5, 2, 1, 0, 0, 1]), (20, [0, 9], [30, 0, 1, 1, 153, -1, 0, 0]), (20, [9, 0], [30, 0, 1, 0, 0, -1, 1, 154]), (20, [5, 9, 0, 4], [50, 2, 2, 2139, 2005, 2062, 2002, 4, 6, 1, 2, 1, 0, 0, 0, 1, 2, 1, 1, 3, 2, 62, 4, 7, 6, 2, 0, 24, 2, 2, 139, 3, 2, 2, 4, 7, 4, 3, 2, 2, 5, 0, 267, 1, 3]), (20, [5, 0, 4, 9], [50, 2, 3, 1139, 1005, 1064, 1062, 1002, 4, 22, 1, 2, 1, 0, 4, 14, 3, 1, 64, 4, 7, 6, 2, 0, 48, 2, 1, 139, 1, 2, 0, 1, 1, 2, 1, 3, 3, 1, 62, 4, 7, 6, 2, 0, 24, 2, 1, 139, 3, 1, 2, 4, 7, 4, 3, 2, 1, 5, 0, 315, 1, 2]), (20, [5, 0, 4, 9], [50, 1, 2, 1139, 1064, 1065, 3, 6, 1, 2, 1, 0, 0, 0, 3, 22, 1, 2, 1, 0, 4, 14, 3, 1, 64, 4, 7, 6, 2, 0, 48, 2, 1, 139, 1, 2, 0, 1, 1, 2, 1, 3, 3, 1, 65, 4, 15, 6, 2, 0, 24, 4, 7, 6, 2, 0, 48, 2, 1, 139, 1, 2, 5, 2, 1, 0, 0, 1]), (20, [5, 0, 4], [50, 1, 1, 1139, 1064, 0, 2, 1, 0, 4, 14, 3, 1, 64, 4, 7, 6, 2, 0, 48, 2, 1, 139, 1, 2, 0, 1]), (7, [7, 8], [2]), (20, [8, 0, 4], [50, 1, 1, 1139, 1064, 1, 2, 1, 0, 4, 14, 3, 1, 64, 4, 7, 6, 2, 0, 48, 2, 1, 139, 1, 2, 0, 2]), (1, [7, 5, 6], []), (20, [0], [60, 6, 6, 945, 153, 154, 155, 156, 139, 5, 62, 63, 2, 64, 65, 66]), (20, [0], [30, -1, -1, 1, 173]), (20, [0], [30, 64, 1, 1, 173]), (20, [0], [30, -1, -1, 1, 174]), (20, [0], [30, 64, 1, 1, 174]), (20, [4, 0], [30, -1, 1, 0, 0, -1, 3, 2005001])], [], [], [(20, [0, 19], [30, 0, 1, 1, 155, -1, 0, 0]), (20, [19, 0], [30, 0, 1, 0, 0, -1, 1, 156])], [], [(18, 5, 1, 1), (14, 5, 1, 1), (7, 8, -4294967296, -1), (7, 5, 1, 1)])
theorem oo_Mo_dots_20 {kA : Nat → ClassId} : or_ok PRD kA GG o_Mo_dots_20 := by
  refine or_mk fun A ta ws vs hD hth hl => ?_
  intro t0 r0 t4 k4 t5 k5 t6 k6 t7 k7 t8 k8 t9 k9 t11 k11 t13 k13 t14 k14 t15 k15 t17 k17 t18 k18 t19 k19 d0 d1 d2 d3 f0 f1 f2 f3 f4 f5 f6 f7 f8 f9 f10 f11 f12 f13 f14 f15 f16 f17 f18 f19 f20 f21 f22 f23 f24 f25 f26 f27 f28 f29 f30 f31
  have cr_0_62 := fdq_173 hD hth r0
  have cr_0_63 := fdq_174 hD hth r0
  have cr_0_64 := fdq_171 hD hth r0
  have cr_0_65 := fdq_292 hD hth r0
  have cr_0_66 := fdq_293 hD hth r0
  have hK_0_62 := elq_102 hD hth cr_0_62
  have hK_0_63 := elq_103 hD hth cr_0_63
  have hK_0_64 := elq_101 hD hth cr_0_64
  have hK_0_65 := elq_184 hD hth cr_0_65
  have hK_0_66 := elq_185 hD hth cr_0_66
  have kz_0_139 := fdq_172 hD hth r0
  have kz_0_153 := fdq_14 hD hth r0
  have kz_0_154 := fdq_15 hD hth r0
  have kz_0_155 := fdq_17 hD hth r0
  have kz_0_156 := fdq_18 hD hth r0
  have kz_0_173 := fdq_16 hD hth r0
  have kz_0_174 := fdq_19 hD hth r0
  have nf0 : fc_1 PRD (20, [0, 19], [30, 0, 1, 1, 155, -1, 0, 0]) ws (vs) := ⟨nf_in hl rfl, sgq_153 (vc_Mo_dots_20_0 (v_iv (n_v vs 4)) (v_iv (n_v vs 5)) (v_iv (n_v vs 6)) (v_iv (n_v vs 7)) (v_iv (n_v vs 8)) (v_iv (n_v vs 9)) (v_iv (n_v vs 11)) (v_iv (n_v vs 13)) (v_iv (n_v vs 14)) (v_iv (n_v vs 15)) (v_iv (n_v vs 17)) (v_iv (n_v vs 18)) (v_iv (n_v vs 19)) (w_ei ws (w_ar ws (n_v vs 0) 63)) (w_ei ws (w_ar ws (n_v vs 0) 2)) (w_fi ws (n_v vs 0) 139) (w_fi ws (n_v vs 0) 5) (w_ei ws (w_ar ws (n_v vs 0) 64)) (w_ei ws (w_ar ws (n_v vs 0) 66)) (w_fi ws (n_v vs 0) 153) (w_fi ws (n_v vs 0) 154) (w_ei ws (w_ar ws (n_v vs 0) 62)) (w_ei ws (w_ar ws (n_v vs 0) 65)) (w_fi ws (n_v vs 0) 155) (w_fi ws (n_v vs 0) 156) (w_fi ws (n_v vs 0) 173) (w_fi ws (n_v vs 0) 174) k4 k5 k6 k7 k8 k9 k11 k13 k14 k15 k17 k18 k19 d0 d1 d2 d3 (shm_1427 f0) (shm_1428 f1) (shm_1429 f2) (shm_1421 f3) (shm_12 f4) (shm_146 f5) (shm_147 f6) (shm_1423 f7) (shm_1424 f8) (shm_1425 f9) (shm_1421 f10) (shm_12 f11) (shm_153 f12) (shm_154 f13) (shm_1427 f14) (shm_1428 f15) (shm_1429 f16) (shm_146 f17) (shm_147 f18) (shm_1423 f19) (shm_1424 f20) (shm_1425 f21) (shm_1421 f22) (shm_6 f23) (shm_683 f24) (shm_12 f25) (shm_1845 f26) (shm_148 f27) (shm_149 f28) (shm_155 f29) (shm_156 f30) (shm_979 f31) hK_0_62 hK_0_63 hK_0_64 hK_0_65 hK_0_66 kz_0_139 kz_0_153 kz_0_154 kz_0_155 kz_0_156 kz_0_173 kz_0_174)⟩
  have nf1 : fc_1 PRD (20, [19, 0], [30, 0, 1, 0, 0, -1, 1, 156]) ws (vs) := ⟨nf_in hl rfl, sgq_154 (vc_Mo_dots_20_1 (v_iv (n_v vs 4)) (v_iv (n_v vs 5)) (v_iv (n_v vs 6)) (v_iv (n_v vs 7)) (v_iv (n_v vs 8)) (v_iv (n_v vs 9)) (v_iv (n_v vs 11)) (v_iv (n_v vs 13)) (v_iv (n_v vs 14)) (v_iv (n_v vs 15)) (v_iv (n_v vs 17)) (v_iv (n_v vs 18)) (v_iv (n_v vs 19)) (w_ei ws (w_ar ws (n_v vs 0) 63)) (w_ei ws (w_ar ws (n_v vs 0) 2)) (w_fi ws (n_v vs 0) 139) (w_fi ws (n_v vs 0) 5) (w_ei ws (w_ar ws (n_v vs 0) 64)) (w_ei ws (w_ar ws (n_v vs 0) 66)) (w_fi ws (n_v vs 0) 153) (w_fi ws (n_v vs 0) 154) (w_ei ws (w_ar ws (n_v vs 0) 62)) (w_ei ws (w_ar ws (n_v vs 0) 65)) (w_fi ws (n_v vs 0) 155) (w_fi ws (n_v vs 0) 156) (w_fi ws (n_v vs 0) 173) (w_fi ws (n_v vs 0) 174) k4 k5 k6 k7 k8 k9 k11 k13 k14 k15 k17 k18 k19 d0 d1 d2 d3 (shm_1427 f0) (shm_1428 f1) (shm_1429 f2) (shm_1421 f3) (shm_12 f4) (shm_146 f5) (shm_147 f6) (shm_1423 f7) (shm_1424 f8) (shm_1425 f9) (shm_1421 f10) (shm_12 f11) (shm_153 f12) (shm_154 f13) (shm_1427 f14) (shm_1428 f15) (shm_1429 f16) (shm_146 f17) (shm_147 f18) (shm_1423 f19) (shm_1424 f20) (shm_1425 f21) (shm_1421 f22) (shm_6 f23) (shm_683 f24) (shm_12 f25) (shm_1845 f26) (shm_148 f27) (shm_149 f28) (shm_155 f29) (shm_156 f30) (shm_979 f31) hK_0_62 hK_0_63 hK_0_64 hK_0_65 hK_0_66 kz_0_139 kz_0_153 kz_0_154 kz_0_155 kz_0_156 kz_0_173 kz_0_174)⟩
  refine ⟨(fun _ h => (by cases h)), [], trivial, ?_, (fun _ h => (by cases h))⟩
  rw [List.append_nil]
  exact List.forall_mem_cons.mpr ⟨⟨show (20 : Nat) < 100 from by decide, nf0⟩, List.forall_mem_cons.mpr ⟨⟨show (20 : Nat) < 100 from by decide, nf1⟩, (fun _ h => (by cases h))⟩⟩
set_option maxHeartbeats 4000000 in
theorem vc_Mo_dots_21_0 (x4 : Int) (x5 : Int) (x6 : Int) (x7 : Int) (x8 : Int) (x9 : Int) (x11 : Int) (x13 : Int) (x14 : Int) (x15 : Int) (nodeX_0 : Int → Int) (all_0 : Int → Int) (g0_0 : Int) (r_0 : Int) (bendMany_0 : Int → Int) (bendX_0 : Int → Int) (leastY_0 : Int) (mostY_0 : Int) (nodeY_0 : Int → Int) (bendY_0 : Int → Int) (leastX_0 : Int) (mostX_0 : Int) (dotWide_0 : Int) (dotTall_0 : Int) (k4 : 0 ≤ x4 ∧ x4 ≤ 47) (k5 : 1 ≤ x5 ∧ x5 ≤ 24) (k6 : 1 ≤ x6 ∧ x6 ≤ 1) (k7 : 2 ≤ x7 ∧ x7 ≤ 25) (k8 : 2 ≤ x8 ∧ x8 ≤ 26) (k9 : (-300000011) ≤ x9 ∧ x9 ≤ 221100000) (k11 : (-300000000) ≤ x11 ∧ x11 ≤ 300000000) (k13 : 1 ≤ x13 ∧ x13 ≤ 1) (k14 : 2 ≤ x14 ∧ x14 ≤ 25) (k15 : (-300000000) ≤ x15 ∧ x15 ≤ 300000000) (d0 : x5 + 1 ≤ x14 ∧ x14 ≤ x5 + 1) (d1 : x8 + (-4294967296) ≤ x7 ∧ x7 ≤ x8 + (-1)) (d2 : x5 + 1 ≤ x7 ∧ x7 ≤ x5 + 1) (f0 : (x14 = 0) → (x15 = nodeX_0 (((24 * g0_0) + all_0 (((r_0 + 267) + x4)))))) (f1 : (x14 = (bendMany_0 (((48 * g0_0) + x4)) + 1)) → (x15 = nodeX_0 (((24 * g0_0) + all_0 (((r_0 + 315) + x4)))))) (f2 : (x14 = 0) ∨ ((x14 = (bendMany_0 (((48 * g0_0) + x4)) + 1)) ∨ (x15 = bendX_0 (((24 * ((48 * g0_0) + x4)) + (x14 - 1)))))) (f3 : x14 ≤ (bendMany_0 (((48 * g0_0) + x4)) + 1)) (f4 : x14 = x5 + x13) (f5 : 1 * leastY_0 + ((-1) * x11 + 0) ≤ 0) (f6 : 1 * x11 + ((-1) * mostY_0 + 0) ≤ 0) (f7 : (x5 = 0) → (x11 = nodeY_0 (((24 * g0_0) + all_0 (((r_0 + 267) + x4)))))) (f8 : (x5 = (bendMany_0 (((48 * g0_0) + x4)) + 1)) → (x11 = nodeY_0 (((24 * g0_0) + all_0 (((r_0 + 315) + x4)))))) (f9 : (x5 = 0) ∨ ((x5 = (bendMany_0 (((48 * g0_0) + x4)) + 1)) ∨ (x11 = bendY_0 (((24 * ((48 * g0_0) + x4)) + (x5 - 1)))))) (f10 : 1 * leastX_0 + ((-1) * x9 + 0) ≤ 0) (f11 : 1 * x9 + ((-1) * mostX_0 + 0) ≤ 0) (f12 : (x5 = 0) → (x9 = nodeX_0 (((24 * g0_0) + all_0 (((r_0 + 267) + x4)))))) (f13 : (x5 = (bendMany_0 (((48 * g0_0) + x4)) + 1)) → (x9 = nodeX_0 (((24 * g0_0) + all_0 (((r_0 + 315) + x4)))))) (f14 : (x5 = 0) ∨ ((x5 = (bendMany_0 (((48 * g0_0) + x4)) + 1)) ∨ (x9 = bendX_0 (((24 * ((48 * g0_0) + x4)) + (x5 - 1)))))) (f15 : x5 ≤ (bendMany_0 (((48 * g0_0) + x4)) + 1)) (f16 : x7 < x8) (f17 : x8 = (bendMany_0 (((48 * g0_0) + x4)) + 2)) (f18 : x7 = x5 + x6) (f19 : BNA (leastX_0) (mostX_0) (leastY_0) (mostY_0) (g0_0) (r_0) (nodeX_0) (nodeY_0) (all_0) (bendMany_0) (bendX_0) (bendY_0)) (f20 : (-1) * dotWide_0 + 0 ≤ (-1)) (f21 : 1 * dotWide_0 + 0 ≤ 64) (f22 : (-1) * dotTall_0 + 0 ≤ (-1)) (f23 : 1 * dotTall_0 + 0 ≤ 64) (f24 : 1 * x4 + ((-1) * all_0 (r_0 + 1) + 0) ≤ (-1)) (hK_0_62 : ∀ j : Int, 0 ≤ j → j < 96 → (-300000000) ≤ nodeX_0 j ∧ nodeX_0 j ≤ 300000000) (hK_0_63 : ∀ j : Int, 0 ≤ j → j < 96 → (-300000000) ≤ nodeY_0 j ∧ nodeY_0 j ≤ 300000000) (hK_0_64 : ∀ j : Int, 0 ≤ j → j < 192 → 0 ≤ bendMany_0 j ∧ bendMany_0 j ≤ 24) (hK_0_65 : ∀ j : Int, 0 ≤ j → j < 4608 → (-300000011) ≤ bendX_0 j ∧ bendX_0 j ≤ 221100000) (hK_0_66 : ∀ j : Int, 0 ≤ j → j < 4608 → (-900000000) ≤ bendY_0 j ∧ bendY_0 j ≤ 900000000) (kz_0_139 : 0 ≤ g0_0 ∧ g0_0 ≤ 3) (kz_0_153 : (-2147483648) ≤ leastX_0 ∧ leastX_0 ≤ 300000000) (kz_0_154 : (-900000000) ≤ mostX_0 ∧ mostX_0 ≤ 2147483647) (kz_0_155 : (-2147483648) ≤ leastY_0 ∧ leastY_0 ≤ 300000000) (kz_0_156 : (-900000000) ≤ mostY_0 ∧ mostY_0 ≤ 2147483647) (kz_0_173 : 0 ≤ dotWide_0 ∧ dotWide_0 ≤ 64) (kz_0_174 : 0 ≤ dotTall_0 ∧ dotTall_0 ≤ 64) : 1 * leastX_0 + ((-1) * x15 + 0) ≤ 0 := by
  first
    | assumption
    | (clear f0 f1 f2 f7 f8 f9 f12 f13 f14 hK_0_62 hK_0_63 hK_0_64 hK_0_65 hK_0_66; omega)
    | exact (bna_x ‹BNA _ _ _ _ _ _ _ _ _ _ _ _› (by assumption) (by assumption) (by assumption) (by assumption) (by assumption) (by assumption) (by assumption) (by omega) (by omega)).1
    | exact (bna_x ‹BNA _ _ _ _ _ _ _ _ _ _ _ _› (by assumption) (by assumption) (by assumption) (by assumption) (by assumption) (by assumption) (by assumption) (by omega) (by omega)).2
    | exact (bna_y ‹BNA _ _ _ _ _ _ _ _ _ _ _ _› (by assumption) (by assumption) (by assumption) (by assumption) (by assumption) (by assumption) (by assumption) (by omega) (by omega)).1
    | exact (bna_y ‹BNA _ _ _ _ _ _ _ _ _ _ _ _› (by assumption) (by assumption) (by assumption) (by assumption) (by assumption) (by assumption) (by assumption) (by omega) (by omega)).2
    | exact (bna_nx ‹BNA _ _ _ _ _ _ _ _ _ _ _ _› (by assumption) (by clear f0 f1 f2 f7 f8 f9 f12 f13 f14 hK_0_62 hK_0_63 hK_0_64 hK_0_65 hK_0_66; omega) (by clear f0 f1 f2 f7 f8 f9 f12 f13 f14 hK_0_62 hK_0_63 hK_0_64 hK_0_65 hK_0_66; omega)).1
    | exact (bna_nx ‹BNA _ _ _ _ _ _ _ _ _ _ _ _› (by assumption) (by clear f0 f1 f2 f7 f8 f9 f12 f13 f14 hK_0_62 hK_0_63 hK_0_64 hK_0_65 hK_0_66; omega) (by clear f0 f1 f2 f7 f8 f9 f12 f13 f14 hK_0_62 hK_0_63 hK_0_64 hK_0_65 hK_0_66; omega)).2
    | exact (bna_ny ‹BNA _ _ _ _ _ _ _ _ _ _ _ _› (by assumption) (by clear f0 f1 f2 f7 f8 f9 f12 f13 f14 hK_0_62 hK_0_63 hK_0_64 hK_0_65 hK_0_66; omega) (by clear f0 f1 f2 f7 f8 f9 f12 f13 f14 hK_0_62 hK_0_63 hK_0_64 hK_0_65 hK_0_66; omega)).1
    | exact (bna_ny ‹BNA _ _ _ _ _ _ _ _ _ _ _ _› (by assumption) (by clear f0 f1 f2 f7 f8 f9 f12 f13 f14 hK_0_62 hK_0_63 hK_0_64 hK_0_65 hK_0_66; omega) (by clear f0 f1 f2 f7 f8 f9 f12 f13 f14 hK_0_62 hK_0_63 hK_0_64 hK_0_65 hK_0_66; omega)).2
    | omega
set_option maxHeartbeats 4000000 in
theorem vc_Mo_dots_21_1 (x4 : Int) (x5 : Int) (x6 : Int) (x7 : Int) (x8 : Int) (x9 : Int) (x11 : Int) (x13 : Int) (x14 : Int) (x15 : Int) (nodeX_0 : Int → Int) (all_0 : Int → Int) (g0_0 : Int) (r_0 : Int) (bendMany_0 : Int → Int) (bendX_0 : Int → Int) (leastY_0 : Int) (mostY_0 : Int) (nodeY_0 : Int → Int) (bendY_0 : Int → Int) (leastX_0 : Int) (mostX_0 : Int) (dotWide_0 : Int) (dotTall_0 : Int) (k4 : 0 ≤ x4 ∧ x4 ≤ 47) (k5 : 1 ≤ x5 ∧ x5 ≤ 24) (k6 : 1 ≤ x6 ∧ x6 ≤ 1) (k7 : 2 ≤ x7 ∧ x7 ≤ 25) (k8 : 2 ≤ x8 ∧ x8 ≤ 26) (k9 : (-300000011) ≤ x9 ∧ x9 ≤ 221100000) (k11 : (-300000000) ≤ x11 ∧ x11 ≤ 300000000) (k13 : 1 ≤ x13 ∧ x13 ≤ 1) (k14 : 2 ≤ x14 ∧ x14 ≤ 25) (k15 : (-300000000) ≤ x15 ∧ x15 ≤ 300000000) (d0 : x5 + 1 ≤ x14 ∧ x14 ≤ x5 + 1) (d1 : x8 + (-4294967296) ≤ x7 ∧ x7 ≤ x8 + (-1)) (d2 : x5 + 1 ≤ x7 ∧ x7 ≤ x5 + 1) (f0 : (x14 = 0) → (x15 = nodeX_0 (((24 * g0_0) + all_0 (((r_0 + 267) + x4)))))) (f1 : (x14 = (bendMany_0 (((48 * g0_0) + x4)) + 1)) → (x15 = nodeX_0 (((24 * g0_0) + all_0 (((r_0 + 315) + x4)))))) (f2 : (x14 = 0) ∨ ((x14 = (bendMany_0 (((48 * g0_0) + x4)) + 1)) ∨ (x15 = bendX_0 (((24 * ((48 * g0_0) + x4)) + (x14 - 1)))))) (f3 : x14 ≤ (bendMany_0 (((48 * g0_0) + x4)) + 1)) (f4 : x14 = x5 + x13) (f5 : 1 * leastY_0 + ((-1) * x11 + 0) ≤ 0) (f6 : 1 * x11 + ((-1) * mostY_0 + 0) ≤ 0) (f7 : (x5 = 0) → (x11 = nodeY_0 (((24 * g0_0) + all_0 (((r_0 + 267) + x4)))))) (f8 : (x5 = (bendMany_0 (((48 * g0_0) + x4)) + 1)) → (x11 = nodeY_0 (((24 * g0_0) + all_0 (((r_0 + 315) + x4)))))) (f9 : (x5 = 0) ∨ ((x5 = (bendMany_0 (((48 * g0_0) + x4)) + 1)) ∨ (x11 = bendY_0 (((24 * ((48 * g0_0) + x4)) + (x5 - 1)))))) (f10 : 1 * leastX_0 + ((-1) * x9 + 0) ≤ 0) (f11 : 1 * x9 + ((-1) * mostX_0 + 0) ≤ 0) (f12 : (x5 = 0) → (x9 = nodeX_0 (((24 * g0_0) + all_0 (((r_0 + 267) + x4)))))) (f13 : (x5 = (bendMany_0 (((48 * g0_0) + x4)) + 1)) → (x9 = nodeX_0 (((24 * g0_0) + all_0 (((r_0 + 315) + x4)))))) (f14 : (x5 = 0) ∨ ((x5 = (bendMany_0 (((48 * g0_0) + x4)) + 1)) ∨ (x9 = bendX_0 (((24 * ((48 * g0_0) + x4)) + (x5 - 1)))))) (f15 : x5 ≤ (bendMany_0 (((48 * g0_0) + x4)) + 1)) (f16 : x7 < x8) (f17 : x8 = (bendMany_0 (((48 * g0_0) + x4)) + 2)) (f18 : x7 = x5 + x6) (f19 : BNA (leastX_0) (mostX_0) (leastY_0) (mostY_0) (g0_0) (r_0) (nodeX_0) (nodeY_0) (all_0) (bendMany_0) (bendX_0) (bendY_0)) (f20 : (-1) * dotWide_0 + 0 ≤ (-1)) (f21 : 1 * dotWide_0 + 0 ≤ 64) (f22 : (-1) * dotTall_0 + 0 ≤ (-1)) (f23 : 1 * dotTall_0 + 0 ≤ 64) (f24 : 1 * x4 + ((-1) * all_0 (r_0 + 1) + 0) ≤ (-1)) (hK_0_62 : ∀ j : Int, 0 ≤ j → j < 96 → (-300000000) ≤ nodeX_0 j ∧ nodeX_0 j ≤ 300000000) (hK_0_63 : ∀ j : Int, 0 ≤ j → j < 96 → (-300000000) ≤ nodeY_0 j ∧ nodeY_0 j ≤ 300000000) (hK_0_64 : ∀ j : Int, 0 ≤ j → j < 192 → 0 ≤ bendMany_0 j ∧ bendMany_0 j ≤ 24) (hK_0_65 : ∀ j : Int, 0 ≤ j → j < 4608 → (-300000011) ≤ bendX_0 j ∧ bendX_0 j ≤ 221100000) (hK_0_66 : ∀ j : Int, 0 ≤ j → j < 4608 → (-900000000) ≤ bendY_0 j ∧ bendY_0 j ≤ 900000000) (kz_0_139 : 0 ≤ g0_0 ∧ g0_0 ≤ 3) (kz_0_153 : (-2147483648) ≤ leastX_0 ∧ leastX_0 ≤ 300000000) (kz_0_154 : (-900000000) ≤ mostX_0 ∧ mostX_0 ≤ 2147483647) (kz_0_155 : (-2147483648) ≤ leastY_0 ∧ leastY_0 ≤ 300000000) (kz_0_156 : (-900000000) ≤ mostY_0 ∧ mostY_0 ≤ 2147483647) (kz_0_173 : 0 ≤ dotWide_0 ∧ dotWide_0 ≤ 64) (kz_0_174 : 0 ≤ dotTall_0 ∧ dotTall_0 ≤ 64) : 1 * x15 + ((-1) * mostX_0 + 0) ≤ 0 := by
  first
    | assumption
    | (clear f0 f1 f2 f7 f8 f9 f12 f13 f14 hK_0_62 hK_0_63 hK_0_64 hK_0_65 hK_0_66; omega)
    | exact (bna_x ‹BNA _ _ _ _ _ _ _ _ _ _ _ _› (by assumption) (by assumption) (by assumption) (by assumption) (by assumption) (by assumption) (by assumption) (by omega) (by omega)).1
    | exact (bna_x ‹BNA _ _ _ _ _ _ _ _ _ _ _ _› (by assumption) (by assumption) (by assumption) (by assumption) (by assumption) (by assumption) (by assumption) (by omega) (by omega)).2
    | exact (bna_y ‹BNA _ _ _ _ _ _ _ _ _ _ _ _› (by assumption) (by assumption) (by assumption) (by assumption) (by assumption) (by assumption) (by assumption) (by omega) (by omega)).1
    | exact (bna_y ‹BNA _ _ _ _ _ _ _ _ _ _ _ _› (by assumption) (by assumption) (by assumption) (by assumption) (by assumption) (by assumption) (by assumption) (by omega) (by omega)).2
    | exact (bna_nx ‹BNA _ _ _ _ _ _ _ _ _ _ _ _› (by assumption) (by clear f0 f1 f2 f7 f8 f9 f12 f13 f14 hK_0_62 hK_0_63 hK_0_64 hK_0_65 hK_0_66; omega) (by clear f0 f1 f2 f7 f8 f9 f12 f13 f14 hK_0_62 hK_0_63 hK_0_64 hK_0_65 hK_0_66; omega)).1
    | exact (bna_nx ‹BNA _ _ _ _ _ _ _ _ _ _ _ _› (by assumption) (by clear f0 f1 f2 f7 f8 f9 f12 f13 f14 hK_0_62 hK_0_63 hK_0_64 hK_0_65 hK_0_66; omega) (by clear f0 f1 f2 f7 f8 f9 f12 f13 f14 hK_0_62 hK_0_63 hK_0_64 hK_0_65 hK_0_66; omega)).2
    | exact (bna_ny ‹BNA _ _ _ _ _ _ _ _ _ _ _ _› (by assumption) (by clear f0 f1 f2 f7 f8 f9 f12 f13 f14 hK_0_62 hK_0_63 hK_0_64 hK_0_65 hK_0_66; omega) (by clear f0 f1 f2 f7 f8 f9 f12 f13 f14 hK_0_62 hK_0_63 hK_0_64 hK_0_65 hK_0_66; omega)).1
    | exact (bna_ny ‹BNA _ _ _ _ _ _ _ _ _ _ _ _› (by assumption) (by clear f0 f1 f2 f7 f8 f9 f12 f13 f14 hK_0_62 hK_0_63 hK_0_64 hK_0_65 hK_0_66; omega) (by clear f0 f1 f2 f7 f8 f9 f12 f13 f14 hK_0_62 hK_0_63 hK_0_64 hK_0_65 hK_0_66; omega)).2
    | omega
def o_Mo_dots_21 : or_T := (133, 16, [(0, (2, 0, 0, [165])), (4, (0, 0, 47, [])), (5, (0, 1, 24, [])), (6, (0, 1, 1, [])), (7, (0, 2, 25, [])), (8, (0, 2, 26, [])), (9, (0, -300000011, 221100000, [])), (11, (0, -300000000, 300000000, [])), (13, (0, 1, 1, [])), (14, (0, 2, 25, [])), (15, (0, -300000000, 300000000, []))], [(20, [14, 15, 0, 4], [50, 2, 2, 2139, 2005, 2062, 2002, 4, 6, 1, 2, 1, 0, 0, 0, 1, 2, 1, 1, 3, 2, 62, 4, 7, 6, 2, 0, 24, 2, 2, 139, 3, 2, 2, 4, 7, 4, 3, 2, 2, 5, 0, 267, 1, 3]), (20, [14, 0, 4, 15], [50, 2, 3, 1139, 1005, 1064, 1062, 1002, 4, 22, 1, 2, 1, 0, 4, 14, 3, 1, 64, 4, 7, 6, 2, 0, 48, 2, 1, 139, 1, 2, 0, 1, 1, 2, 1, 3, 3, 1, 62, 4, 7, 6, 2, 0, 24, 2, 1, 139, 3, 1, 2, 4, 7, 4, 3, 2, 1, 5, 0, 315, 1, 2]), (20, [14, 0, 4, 15], [50, 1, 2, 1139, 1064, 1065, 3, 6, 1, 2, 1, 0, 0, 0, 3, 22, 1, 2, 1, 0, 4, 14, 3, 1, 64, 4, 7, 6, 2, 0, 48, 2, 1, 139, 1, 2, 0, 1, 1, 2, 1, 3, 3, 1, 65, 4, 15, 6, 2, 0, 24, 4, 7, 6, 2, 0, 48, 2, 1, 139, 1, 2, 5, 2, 1, 0, 0, 1]), (20, [14, 0, 4], [50, 1, 1, 1139, 1064, 0, 2, 1, 0, 4, 14, 3, 1, 64, 4, 7, 6, 2, 0, 48, 2, 1, 139, 1, 2, 0, 1]), (1, [14, 5, 13], []), (20, [0, 11], [30, 0, 1, 1, 155, -1, 0, 0]), (20, [11, 0], [30, 0, 1, 0, 0, -1, 1, 156]), (20, [5, 11, 0, 4], [50, 2, 2, 2139, 2005, 2063, 2002, 4, 6, 1, 2, 1, 0, 0, 0, 1, 2, 1, 1, 3, 2, 63, 4, 7, 6, 2, 0, 24, 2, 2, 139, 3, 2, 2, 4, 7, 4, 3, 2, 2, 5, 0, 267, 1, 3]), (20, [5, 0, 4, 11], [50, 2, 3, 1139, 1005, 1064, 1063, 1002, 4, 22, 1, 2, 1, 0, 4, 14, 3, 1, 64, 4, 7, 6, 2, 0, 48, 2, 1, 139, 1, 2, 0, 1, 1, 2, 1, 3, 3, 1, 63, 4, 7, 6, 2, 0, 24, 2, 1, 139, 3, 1, 2, 4, 7, 4, 3, 2, 1, 5, 0, 315, 1, 2]), (20, [5, 0, 4, 11], [50, 1, 2, 1139, 1064, 1066, 3, 6, 1, 2, 1, 0, 0, 0, 3, 22, 1, 2, 1, 0, 4, 14, 3, 1, 64, 4, 7, 6, 2, 0, 48, 2, 1, 139, 1, 2, 0, 1, 1, 2, 1, 3, 3, 1, 66, 4, 15, 6, 2, 0, 24, 4, 7, 6, 2, 0, 48, 2, 1, 139, 1, 2, 5, 2, 1, 0, 0, 1]), (20, [0, 9], [30, 0, 1, 1, 153, -1, 0, 0]), (20, [9, 0], [30, 0, 1, 0, 0, -1, 1, 154]), (20, [5, 9, 0, 4], [50, 2, 2, 2139, 2005, 2062, 2002, 4, 6, 1, 2, 1, 0, 0, 0, 1, 2, 1, 1, 3, 2, 62, 4, 7, 6, 2, 0, 24, 2, 2, 139, 3, 2, 2, 4, 7, 4, 3, 2, 2, 5, 0, 267, 1, 3]), (20, [5, 0, 4, 9], [50, 2, 3, 1139, 1005, 1064, 1062, 1002, 4, 22, 1, 2, 1, 0, 4, 14, 3, 1, 64, 4, 7, 6, 2, 0, 48, 2, 1, 139, 1, 2, 0, 1, 1, 2, 1, 3, 3, 1, 62, 4, 7, 6, 2, 0, 24, 2, 1, 139, 3, 1, 2, 4, 7, 4, 3, 2, 1, 5, 0, 315, 1, 2]), (20, [5, 0, 4, 9], [50, 1, 2, 1139, 1064, 1065, 3, 6, 1, 2, 1, 0, 0, 0, 3, 22, 1, 2, 1, 0, 4, 14, 3, 1, 64, 4, 7, 6, 2, 0, 48, 2, 1, 139, 1, 2, 0, 1, 1, 2, 1, 3, 3, 1, 65, 4, 15, 6, 2, 0, 24, 4, 7, 6, 2, 0, 48, 2, 1, 139, 1, 2, 5, 2, 1, 0, 0, 1]), (20, [5, 0, 4], [50, 1, 1, 1139, 1064, 0, 2, 1, 0, 4, 14, 3, 1, 64, 4, 7, 6, 2, 0, 48, 2, 1, 139, 1, 2, 0, 1]), (7, [7, 8], [2]), (20, [8, 0, 4], [50, 1, 1, 1139, 1064, 1, 2, 1, 0, 4, 14, 3, 1, 64, 4, 7, 6, 2, 0, 48, 2, 1, 139, 1, 2, 0, 2]), (1, [7, 5, 6], []), (20, [0], [60, 6, 6, 945, 153, 154, 155, 156, 139, 5, 62, 63, 2, 64, 65, 66]), (20, [0], [30, -1, -1, 1, 173]), (20, [0], [30, 64, 1, 1, 173]), (20, [0], [30, -1, -1, 1, 174]), (20, [0], [30, 64, 1, 1, 174]), (20, [4, 0], [30, -1, 1, 0, 0, -1, 3, 2005001])], [], [], [(20, [0, 15], [30, 0, 1, 1, 153, -1, 0, 0]), (20, [15, 0], [30, 0, 1, 0, 0, -1, 1, 154])], [], [(14, 5, 1, 1), (7, 8, -4294967296, -1), (7, 5, 1, 1)])
theorem oo_Mo_dots_21 {kA : Nat → ClassId} : or_ok PRD kA GG o_Mo_dots_21 := by
  refine or_mk fun A ta ws vs hD hth hl => ?_
  intro t0 r0 t4 k4 t5 k5 t6 k6 t7 k7 t8 k8 t9 k9 t11 k11 t13 k13 t14 k14 t15 k15 d0 d1 d2 f0 f1 f2 f3 f4 f5 f6 f7 f8 f9 f10 f11 f12 f13 f14 f15 f16 f17 f18 f19 f20 f21 f22 f23 f24
  have cr_0_62 := fdq_173 hD hth r0
  have cr_0_63 := fdq_174 hD hth r0
  have cr_0_64 := fdq_171 hD hth r0
  have cr_0_65 := fdq_292 hD hth r0
  have cr_0_66 := fdq_293 hD hth r0
  have hK_0_62 := elq_102 hD hth cr_0_62
  have hK_0_63 := elq_103 hD hth cr_0_63
  have hK_0_64 := elq_101 hD hth cr_0_64
  have hK_0_65 := elq_184 hD hth cr_0_65
  have hK_0_66 := elq_185 hD hth cr_0_66
  have kz_0_139 := fdq_172 hD hth r0
  have kz_0_153 := fdq_14 hD hth r0
  have kz_0_154 := fdq_15 hD hth r0
  have kz_0_155 := fdq_17 hD hth r0
  have kz_0_156 := fdq_18 hD hth r0
  have kz_0_173 := fdq_16 hD hth r0
  have kz_0_174 := fdq_19 hD hth r0
  have nf0 : fc_1 PRD (20, [0, 15], [30, 0, 1, 1, 153, -1, 0, 0]) ws (vs) := ⟨nf_in hl rfl, sgq_146 (vc_Mo_dots_21_0 (v_iv (n_v vs 4)) (v_iv (n_v vs 5)) (v_iv (n_v vs 6)) (v_iv (n_v vs 7)) (v_iv (n_v vs 8)) (v_iv (n_v vs 9)) (v_iv (n_v vs 11)) (v_iv (n_v vs 13)) (v_iv (n_v vs 14)) (v_iv (n_v vs 15)) (w_ei ws (w_ar ws (n_v vs 0) 62)) (w_ei ws (w_ar ws (n_v vs 0) 2)) (w_fi ws (n_v vs 0) 139) (w_fi ws (n_v vs 0) 5) (w_ei ws (w_ar ws (n_v vs 0) 64)) (w_ei ws (w_ar ws (n_v vs 0) 65)) (w_fi ws (n_v vs 0) 155) (w_fi ws (n_v vs 0) 156) (w_ei ws (w_ar ws (n_v vs 0) 63)) (w_ei ws (w_ar ws (n_v vs 0) 66)) (w_fi ws (n_v vs 0) 153) (w_fi ws (n_v vs 0) 154) (w_fi ws (n_v vs 0) 173) (w_fi ws (n_v vs 0) 174) k4 k5 k6 k7 k8 k9 k11 k13 k14 k15 d0 d1 d2 (shm_1423 f0) (shm_1424 f1) (shm_1425 f2) (shm_1421 f3) (shm_12 f4) (shm_153 f5) (shm_154 f6) (shm_1427 f7) (shm_1428 f8) (shm_1429 f9) (shm_146 f10) (shm_147 f11) (shm_1423 f12) (shm_1424 f13) (shm_1425 f14) (shm_1421 f15) (shm_6 f16) (shm_683 f17) (shm_12 f18) (shm_1845 f19) (shm_148 f20) (shm_149 f21) (shm_155 f22) (shm_156 f23) (shm_979 f24) hK_0_62 hK_0_63 hK_0_64 hK_0_65 hK_0_66 kz_0_139 kz_0_153 kz_0_154 kz_0_155 kz_0_156 kz_0_173 kz_0_174)⟩
  have nf1 : fc_1 PRD (20, [15, 0], [30, 0, 1, 0, 0, -1, 1, 154]) ws (vs) := ⟨nf_in hl rfl, sgq_147 (vc_Mo_dots_21_1 (v_iv (n_v vs 4)) (v_iv (n_v vs 5)) (v_iv (n_v vs 6)) (v_iv (n_v vs 7)) (v_iv (n_v vs 8)) (v_iv (n_v vs 9)) (v_iv (n_v vs 11)) (v_iv (n_v vs 13)) (v_iv (n_v vs 14)) (v_iv (n_v vs 15)) (w_ei ws (w_ar ws (n_v vs 0) 62)) (w_ei ws (w_ar ws (n_v vs 0) 2)) (w_fi ws (n_v vs 0) 139) (w_fi ws (n_v vs 0) 5) (w_ei ws (w_ar ws (n_v vs 0) 64)) (w_ei ws (w_ar ws (n_v vs 0) 65)) (w_fi ws (n_v vs 0) 155) (w_fi ws (n_v vs 0) 156) (w_ei ws (w_ar ws (n_v vs 0) 63)) (w_ei ws (w_ar ws (n_v vs 0) 66)) (w_fi ws (n_v vs 0) 153) (w_fi ws (n_v vs 0) 154) (w_fi ws (n_v vs 0) 173) (w_fi ws (n_v vs 0) 174) k4 k5 k6 k7 k8 k9 k11 k13 k14 k15 d0 d1 d2 (shm_1423 f0) (shm_1424 f1) (shm_1425 f2) (shm_1421 f3) (shm_12 f4) (shm_153 f5) (shm_154 f6) (shm_1427 f7) (shm_1428 f8) (shm_1429 f9) (shm_146 f10) (shm_147 f11) (shm_1423 f12) (shm_1424 f13) (shm_1425 f14) (shm_1421 f15) (shm_6 f16) (shm_683 f17) (shm_12 f18) (shm_1845 f19) (shm_148 f20) (shm_149 f21) (shm_155 f22) (shm_156 f23) (shm_979 f24) hK_0_62 hK_0_63 hK_0_64 hK_0_65 hK_0_66 kz_0_139 kz_0_153 kz_0_154 kz_0_155 kz_0_156 kz_0_173 kz_0_174)⟩
  refine ⟨(fun _ h => (by cases h)), [], trivial, ?_, (fun _ h => (by cases h))⟩
  rw [List.append_nil]
  exact List.forall_mem_cons.mpr ⟨⟨show (20 : Nat) < 100 from by decide, nf0⟩, List.forall_mem_cons.mpr ⟨⟨show (20 : Nat) < 100 from by decide, nf1⟩, (fun _ h => (by cases h))⟩⟩
set_option maxHeartbeats 4000000 in
theorem vc_Mo_dots_22_0 (x4 : Int) (x5 : Int) (x6 : Int) (x7 : Int) (x8 : Int) (x9 : Int) (x11 : Int) (x13 : Int) (x14 : Int) (x15 : Int) (x17 : Int) (x18 : Int) (leastX_0 : Int) (mostX_0 : Int) (nodeX_0 : Int → Int) (all_0 : Int → Int) (g0_0 : Int) (r_0 : Int) (bendMany_0 : Int → Int) (bendX_0 : Int → Int) (leastY_0 : Int) (mostY_0 : Int) (nodeY_0 : Int → Int) (bendY_0 : Int → Int) (dotWide_0 : Int) (dotTall_0 : Int) (k4 : 0 ≤ x4 ∧ x4 ≤ 47) (k5 : 1 ≤ x5 ∧ x5 ≤ 24) (k6 : 1 ≤ x6 ∧ x6 ≤ 1) (k7 : 2 ≤ x7 ∧ x7 ≤ 25) (k8 : 2 ≤ x8 ∧ x8 ≤ 26) (k9 : (-300000011) ≤ x9 ∧ x9 ≤ 221100000) (k11 : (-300000000) ≤ x11 ∧ x11 ≤ 300000000) (k13 : 1 ≤ x13 ∧ x13 ≤ 1) (k14 : 2 ≤ x14 ∧ x14 ≤ 25) (k15 : (-300000000) ≤ x15 ∧ x15 ≤ 300000000) (k17 : 1 ≤ x17 ∧ x17 ≤ 1) (k18 : 2 ≤ x18 ∧ x18 ≤ 25) (d0 : x5 + 1 ≤ x18 ∧ x18 ≤ x5 + 1) (d1 : x5 + 1 ≤ x14 ∧ x14 ≤ x5 + 1) (d2 : x8 + (-4294967296) ≤ x7 ∧ x7 ≤ x8 + (-1)) (d3 : x5 + 1 ≤ x7 ∧ x7 ≤ x5 + 1) (f0 : x18 = x5 + x17) (f1 : 1 * leastX_0 + ((-1) * x15 + 0) ≤ 0) (f2 : 1 * x15 + ((-1) * mostX_0 + 0) ≤ 0) (f3 : (x14 = 0) → (x15 = nodeX_0 (((24 * g0_0) + all_0 (((r_0 + 267) + x4)))))) (f4 : (x14 = (bendMany_0 (((48 * g0_0) + x4)) + 1)) → (x15 = nodeX_0 (((24 * g0_0) + all_0 (((r_0 + 315) + x4)))))) (f5 : (x14 = 0) ∨ ((x14 = (bendMany_0 (((48 * g0_0) + x4)) + 1)) ∨ (x15 = bendX_0 (((24 * ((48 * g0_0) + x4)) + (x14 - 1)))))) (f6 : x14 ≤ (bendMany_0 (((48 * g0_0) + x4)) + 1)) (f7 : x14 = x5 + x13) (f8 : 1 * leastY_0 + ((-1) * x11 + 0) ≤ 0) (f9 : 1 * x11 + ((-1) * mostY_0 + 0) ≤ 0) (f10 : (x5 = 0) → (x11 = nodeY_0 (((24 * g0_0) + all_0 (((r_0 + 267) + x4)))))) (f11 : (x5 = (bendMany_0 (((48 * g0_0) + x4)) + 1)) → (x11 = nodeY_0 (((24 * g0_0) + all_0 (((r_0 + 315) + x4)))))) (f12 : (x5 = 0) ∨ ((x5 = (bendMany_0 (((48 * g0_0) + x4)) + 1)) ∨ (x11 = bendY_0 (((24 * ((48 * g0_0) + x4)) + (x5 - 1)))))) (f13 : 1 * leastX_0 + ((-1) * x9 + 0) ≤ 0) (f14 : 1 * x9 + ((-1) * mostX_0 + 0) ≤ 0) (f15 : (x5 = 0) → (x9 = nodeX_0 (((24 * g0_0) + all_0 (((r_0 + 267) + x4)))))) (f16 : (x5 = (bendMany_0 (((48 * g0_0) + x4)) + 1)) → (x9 = nodeX_0 (((24 * g0_0) + all_0 (((r_0 + 315) + x4)))))) (f17 : (x5 = 0) ∨ ((x5 = (bendMany_0 (((48 * g0_0) + x4)) + 1)) ∨ (x9 = bendX_0 (((24 * ((48 * g0_0) + x4)) + (x5 - 1)))))) (f18 : x5 ≤ (bendMany_0 (((48 * g0_0) + x4)) + 1)) (f19 : x7 < x8) (f20 : x8 = (bendMany_0 (((48 * g0_0) + x4)) + 2)) (f21 : x7 = x5 + x6) (f22 : BNA (leastX_0) (mostX_0) (leastY_0) (mostY_0) (g0_0) (r_0) (nodeX_0) (nodeY_0) (all_0) (bendMany_0) (bendX_0) (bendY_0)) (f23 : (-1) * dotWide_0 + 0 ≤ (-1)) (f24 : 1 * dotWide_0 + 0 ≤ 64) (f25 : (-1) * dotTall_0 + 0 ≤ (-1)) (f26 : 1 * dotTall_0 + 0 ≤ 64) (f27 : 1 * x4 + ((-1) * all_0 (r_0 + 1) + 0) ≤ (-1)) (hK_0_62 : ∀ j : Int, 0 ≤ j → j < 96 → (-300000000) ≤ nodeX_0 j ∧ nodeX_0 j ≤ 300000000) (hK_0_63 : ∀ j : Int, 0 ≤ j → j < 96 → (-300000000) ≤ nodeY_0 j ∧ nodeY_0 j ≤ 300000000) (hK_0_64 : ∀ j : Int, 0 ≤ j → j < 192 → 0 ≤ bendMany_0 j ∧ bendMany_0 j ≤ 24) (hK_0_65 : ∀ j : Int, 0 ≤ j → j < 4608 → (-300000011) ≤ bendX_0 j ∧ bendX_0 j ≤ 221100000) (hK_0_66 : ∀ j : Int, 0 ≤ j → j < 4608 → (-900000000) ≤ bendY_0 j ∧ bendY_0 j ≤ 900000000) (kz_0_139 : 0 ≤ g0_0 ∧ g0_0 ≤ 3) (kz_0_153 : (-2147483648) ≤ leastX_0 ∧ leastX_0 ≤ 300000000) (kz_0_154 : (-900000000) ≤ mostX_0 ∧ mostX_0 ≤ 2147483647) (kz_0_155 : (-2147483648) ≤ leastY_0 ∧ leastY_0 ≤ 300000000) (kz_0_156 : (-900000000) ≤ mostY_0 ∧ mostY_0 ≤ 2147483647) (kz_0_173 : 0 ≤ dotWide_0 ∧ dotWide_0 ≤ 64) (kz_0_174 : 0 ≤ dotTall_0 ∧ dotTall_0 ≤ 64) : x18 ≤ (bendMany_0 (((48 * g0_0) + x4)) + 1) := by
  first
    | assumption
    | (clear f3 f4 f5 f10 f11 f12 f15 f16 f17 hK_0_62 hK_0_63 hK_0_64 hK_0_65 hK_0_66; omega)
    | exact (bna_x ‹BNA _ _ _ _ _ _ _ _ _ _ _ _› (by assumption) (by assumption) (by assumption) (by assumption) (by assumption) (by assumption) (by assumption) (by omega) (by omega)).1
    | exact (bna_x ‹BNA _ _ _ _ _ _ _ _ _ _ _ _› (by assumption) (by assumption) (by assumption) (by assumption) (by assumption) (by assumption) (by assumption) (by omega) (by omega)).2
    | exact (bna_y ‹BNA _ _ _ _ _ _ _ _ _ _ _ _› (by assumption) (by assumption) (by assumption) (by assumption) (by assumption) (by assumption) (by assumption) (by omega) (by omega)).1
    | exact (bna_y ‹BNA _ _ _ _ _ _ _ _ _ _ _ _› (by assumption) (by assumption) (by assumption) (by assumption) (by assumption) (by assumption) (by assumption) (by omega) (by omega)).2
    | exact (bna_nx ‹BNA _ _ _ _ _ _ _ _ _ _ _ _› (by assumption) (by clear f3 f4 f5 f10 f11 f12 f15 f16 f17 hK_0_62 hK_0_63 hK_0_64 hK_0_65 hK_0_66; omega) (by clear f3 f4 f5 f10 f11 f12 f15 f16 f17 hK_0_62 hK_0_63 hK_0_64 hK_0_65 hK_0_66; omega)).1
    | exact (bna_nx ‹BNA _ _ _ _ _ _ _ _ _ _ _ _› (by assumption) (by clear f3 f4 f5 f10 f11 f12 f15 f16 f17 hK_0_62 hK_0_63 hK_0_64 hK_0_65 hK_0_66; omega) (by clear f3 f4 f5 f10 f11 f12 f15 f16 f17 hK_0_62 hK_0_63 hK_0_64 hK_0_65 hK_0_66; omega)).2
    | exact (bna_ny ‹BNA _ _ _ _ _ _ _ _ _ _ _ _› (by assumption) (by clear f3 f4 f5 f10 f11 f12 f15 f16 f17 hK_0_62 hK_0_63 hK_0_64 hK_0_65 hK_0_66; omega) (by clear f3 f4 f5 f10 f11 f12 f15 f16 f17 hK_0_62 hK_0_63 hK_0_64 hK_0_65 hK_0_66; omega)).1
    | exact (bna_ny ‹BNA _ _ _ _ _ _ _ _ _ _ _ _› (by assumption) (by clear f3 f4 f5 f10 f11 f12 f15 f16 f17 hK_0_62 hK_0_63 hK_0_64 hK_0_65 hK_0_66; omega) (by clear f3 f4 f5 f10 f11 f12 f15 f16 f17 hK_0_62 hK_0_63 hK_0_64 hK_0_65 hK_0_66; omega)).2
    | omega
def o_Mo_dots_22 : or_T := (144, 19, [(0, (2, 0, 0, [165])), (4, (0, 0, 47, [])), (5, (0, 1, 24, [])), (6, (0, 1, 1, [])), (7, (0, 2, 25, [])), (8, (0, 2, 26, [])), (9, (0, -300000011, 221100000, [])), (11, (0, -300000000, 300000000, [])), (13, (0, 1, 1, [])), (14, (0, 2, 25, [])), (15, (0, -300000000, 300000000, [])), (17, (0, 1, 1, [])), (18, (0, 2, 25, []))], [(1, [18, 5, 17], []), (20, [0, 15], [30, 0, 1, 1, 153, -1, 0, 0]), (20, [15, 0], [30, 0, 1, 0, 0, -1, 1, 154]), (20, [14, 15, 0, 4], [50, 2, 2, 2139, 2005, 2062, 2002, 4, 6, 1, 2, 1, 0, 0, 0, 1, 2, 1, 1, 3, 2, 62, 4, 7, 6, 2, 0, 24, 2, 2, 139, 3, 2, 2, 4, 7, 4, 3, 2, 2, 5, 0, 267, 1, 3]), (20, [14, 0, 4, 15], [50, 2, 3, 1139, 1005, 1064, 1062, 1002, 4, 22, 1, 2, 1, 0, 4, 14, 3, 1, 64, 4, 7, 6, 2, 0, 48, 2, 1, 139, 1, 2, 0, 1, 1, 2, 1, 3, 3, 1, 62, 4, 7, 6, 2, 0, 24, 2, 1, 139, 3, 1, 2, 4, 7, 4, 3, 2, 1, 5, 0, 315, 1, 2]), (20, [14, 0, 4, 15], [50, 1, 2, 1139, 1064, 1065, 3, 6, 1, 2, 1, 0, 0, 0, 3, 22, 1, 2, 1, 0, 4, 14, 3, 1, 64, 4, 7, 6, 2, 0, 48, 2, 1, 139, 1, 2, 0, 1, 1, 2, 1, 3, 3, 1, 65, 4, 15, 6, 2, 0, 24, 4, 7, 6, 2, 0, 48, 2, 1, 139, 1, 2, 5, 2, 1, 0, 0, 1]), (20, [14, 0, 4], [50, 1, 1, 1139, 1064, 0, 2, 1, 0, 4, 14, 3, 1, 64, 4, 7, 6, 2, 0, 48, 2, 1, 139, 1, 2, 0, 1]), (1, [14, 5, 13], []), (20, [0, 11], [30, 0, 1, 1, 155, -1, 0, 0]), (20, [11, 0], [30, 0, 1, 0, 0, -1, 1, 156]), (20, [5, 11, 0, 4], [50, 2, 2, 2139, 2005, 2063, 2002, 4, 6, 1, 2, 1, 0, 0, 0, 1, 2, 1, 1, 3, 2, 63, 4, 7, 6, 2, 0, 24, 2, 2, 139, 3, 2, 2, 4, 7, 4, 3, 2, 2, 5, 0, 267, 1, 3]), (20, [5, 0, 4, 11], [50, 2, 3, 1139, 1005, 1064, 1063, 1002, 4, 22, 1, 2, 1, 0, 4, 14, 3, 1, 64, 4, 7, 6, 2, 0, 48, 2, 1, 139, 1, 2, 0, 1, 1, 2, 1, 3, 3, 1, 63, 4, 7, 6, 2, 0, 24, 2, 1, 139, 3, 1, 2, 4, 7, 4, 3, 2, 1, 5, 0, 315, 1, 2]), (20, [5, 0, 4, 11], [50, 1, 2, 1139, 1064, 1066, 3, 6, 1, 2, 1, 0, 0, 0, 3, 22, 1, 2, 1, 0, 4, 14, 3, 1, 64, 4, 7, 6, 2, 0, 48, 2, 1, 139, 1, 2, 0, 1, 1, 2, 1, 3, 3, 1, 66, 4, 15, 6, 2, 0, 24, 4, 7, 6, 2, 0, 48, 2, 1, 139, 1, 2, 5, 2, 1, 0, 0, 1]), (20, [0, 9], [30, 0, 1, 1, 153, -1, 0, 0]), (20, [9, 0], [30, 0, 1, 0, 0, -1, 1, 154]), (20, [5, 9, 0, 4], [50, 2, 2, 2139, 2005, 2062, 2002, 4, 6, 1, 2, 1, 0, 0, 0, 1, 2, 1, 1, 3, 2, 62, 4, 7, 6, 2, 0, 24, 2, 2, 139, 3, 2, 2, 4, 7, 4, 3, 2, 2, 5, 0, 267, 1, 3]), (20, [5, 0, 4, 9], [50, 2, 3, 1139, 1005, 1064, 1062, 1002, 4, 22, 1, 2, 1, 0, 4, 14, 3, 1, 64, 4, 7, 6, 2, 0, 48, 2, 1, 139, 1, 2, 0, 1, 1, 2, 1, 3, 3, 1, 62, 4, 7, 6, 2, 0, 24, 2, 1, 139, 3, 1, 2, 4, 7, 4, 3, 2, 1, 5, 0, 315, 1, 2]), (20, [5, 0, 4, 9], [50, 1, 2, 1139, 1064, 1065, 3, 6, 1, 2, 1, 0, 0, 0, 3, 22, 1, 2, 1, 0, 4, 14, 3, 1, 64, 4, 7, 6, 2, 0, 48, 2, 1, 139, 1, 2, 0, 1, 1, 2, 1, 3, 3, 1, 65, 4, 15, 6, 2, 0, 24, 4, 7, 6, 2, 0, 48, 2, 1, 139, 1, 2, 5, 2, 1, 0, 0, 1]), (20, [5, 0, 4], [50, 1, 1, 1139, 1064, 0, 2, 1, 0, 4, 14, 3, 1, 64, 4, 7, 6, 2, 0, 48, 2, 1, 139, 1, 2, 0, 1]), (7, [7, 8], [2]), (20, [8, 0, 4], [50, 1, 1, 1139, 1064, 1, 2, 1, 0, 4, 14, 3, 1, 64, 4, 7, 6, 2, 0, 48, 2, 1, 139, 1, 2, 0, 2]), (1, [7, 5, 6], []), (20, [0], [60, 6, 6, 945, 153, 154, 155, 156, 139, 5, 62, 63, 2, 64, 65, 66]), (20, [0], [30, -1, -1, 1, 173]), (20, [0], [30, 64, 1, 1, 173]), (20, [0], [30, -1, -1, 1, 174]), (20, [0], [30, 64, 1, 1, 174]), (20, [4, 0], [30, -1, 1, 0, 0, -1, 3, 2005001])], [], [], [(20, [18, 0, 4], [50, 1, 1, 1139, 1064, 0, 2, 1, 0, 4, 14, 3, 1, 64, 4, 7, 6, 2, 0, 48, 2, 1, 139, 1, 2, 0, 1])], [], [(18, 5, 1, 1), (14, 5, 1, 1), (7, 8, -4294967296, -1), (7, 5, 1, 1)])
theorem oo_Mo_dots_22 {kA : Nat → ClassId} : or_ok PRD kA GG o_Mo_dots_22 := by
  refine or_mk fun A ta ws vs hD hth hl => ?_
  intro t0 r0 t4 k4 t5 k5 t6 k6 t7 k7 t8 k8 t9 k9 t11 k11 t13 k13 t14 k14 t15 k15 t17 k17 t18 k18 d0 d1 d2 d3 f0 f1 f2 f3 f4 f5 f6 f7 f8 f9 f10 f11 f12 f13 f14 f15 f16 f17 f18 f19 f20 f21 f22 f23 f24 f25 f26 f27
  have cr_0_62 := fdq_173 hD hth r0
  have cr_0_63 := fdq_174 hD hth r0
  have cr_0_64 := fdq_171 hD hth r0
  have cr_0_65 := fdq_292 hD hth r0
  have cr_0_66 := fdq_293 hD hth r0
  have hK_0_62 := elq_102 hD hth cr_0_62
  have hK_0_63 := elq_103 hD hth cr_0_63
  have hK_0_64 := elq_101 hD hth cr_0_64
  have hK_0_65 := elq_184 hD hth cr_0_65
  have hK_0_66 := elq_185 hD hth cr_0_66
  have kz_0_139 := fdq_172 hD hth r0
  have kz_0_153 := fdq_14 hD hth r0
  have kz_0_154 := fdq_15 hD hth r0
  have kz_0_155 := fdq_17 hD hth r0
  have kz_0_156 := fdq_18 hD hth r0
  have kz_0_173 := fdq_16 hD hth r0
  have kz_0_174 := fdq_19 hD hth r0
  have nf0 : fc_1 PRD (20, [18, 0, 4], [50, 1, 1, 1139, 1064, 0, 2, 1, 0, 4, 14, 3, 1, 64, 4, 7, 6, 2, 0, 48, 2, 1, 139, 1, 2, 0, 1]) ws (vs) := ⟨nf_in hl rfl, sgq_1421 (vc_Mo_dots_22_0 (v_iv (n_v vs 4)) (v_iv (n_v vs 5)) (v_iv (n_v vs 6)) (v_iv (n_v vs 7)) (v_iv (n_v vs 8)) (v_iv (n_v vs 9)) (v_iv (n_v vs 11)) (v_iv (n_v vs 13)) (v_iv (n_v vs 14)) (v_iv (n_v vs 15)) (v_iv (n_v vs 17)) (v_iv (n_v vs 18)) (w_fi ws (n_v vs 0) 153) (w_fi ws (n_v vs 0) 154) (w_ei ws (w_ar ws (n_v vs 0) 62)) (w_ei ws (w_ar ws (n_v vs 0) 2)) (w_fi ws (n_v vs 0) 139) (w_fi ws (n_v vs 0) 5) (w_ei ws (w_ar ws (n_v vs 0) 64)) (w_ei ws (w_ar ws (n_v vs 0) 65)) (w_fi ws (n_v vs 0) 155) (w_fi ws (n_v vs 0) 156) (w_ei ws (w_ar ws (n_v vs 0) 63)) (w_ei ws (w_ar ws (n_v vs 0) 66)) (w_fi ws (n_v vs 0) 173) (w_fi ws (n_v vs 0) 174) k4 k5 k6 k7 k8 k9 k11 k13 k14 k15 k17 k18 d0 d1 d2 d3 (shm_12 f0) (shm_146 f1) (shm_147 f2) (shm_1423 f3) (shm_1424 f4) (shm_1425 f5) (shm_1421 f6) (shm_12 f7) (shm_153 f8) (shm_154 f9) (shm_1427 f10) (shm_1428 f11) (shm_1429 f12) (shm_146 f13) (shm_147 f14) (shm_1423 f15) (shm_1424 f16) (shm_1425 f17) (shm_1421 f18) (shm_6 f19) (shm_683 f20) (shm_12 f21) (shm_1845 f22) (shm_148 f23) (shm_149 f24) (shm_155 f25) (shm_156 f26) (shm_979 f27) hK_0_62 hK_0_63 hK_0_64 hK_0_65 hK_0_66 kz_0_139 kz_0_153 kz_0_154 kz_0_155 kz_0_156 kz_0_173 kz_0_174)⟩
  refine ⟨(fun _ h => (by cases h)), [], trivial, ?_, (fun _ h => (by cases h))⟩
  rw [List.append_nil]
  exact List.forall_mem_cons.mpr ⟨⟨show (20 : Nat) < 100 from by decide, nf0⟩, (fun _ h => (by cases h))⟩
set_option maxHeartbeats 4000000 in
theorem vc_Mo_dots_23_0 (x4 : Int) (x5 : Int) (x6 : Int) (x7 : Int) (x8 : Int) (x9 : Int) (x11 : Int) (x13 : Int) (x14 : Int) (x15 : Int) (x17 : Int) (x18 : Int) (x19 : Int) (nodeY_0 : Int → Int) (all_0 : Int → Int) (g0_0 : Int) (r_0 : Int) (bendMany_0 : Int → Int) (bendY_0 : Int → Int) (leastX_0 : Int) (mostX_0 : Int) (nodeX_0 : Int → Int) (bendX_0 : Int → Int) (leastY_0 : Int) (mostY_0 : Int) (dotWide_0 : Int) (dotTall_0 : Int) (k4 : 0 ≤ x4 ∧ x4 ≤ 47) (k5 : 1 ≤ x5 ∧ x5 ≤ 24) (k6 : 1 ≤ x6 ∧ x6 ≤ 1) (k7 : 2 ≤ x7 ∧ x7 ≤ 25) (k8 : 2 ≤ x8 ∧ x8 ≤ 26) (k9 : (-300000011) ≤ x9 ∧ x9 ≤ 221100000) (k11 : (-300000000) ≤ x11 ∧ x11 ≤ 300000000) (k13 : 1 ≤ x13 ∧ x13 ≤ 1) (k14 : 2 ≤ x14 ∧ x14 ≤ 25) (k15 : (-300000000) ≤ x15 ∧ x15 ≤ 300000000) (k17 : 1 ≤ x17 ∧ x17 ≤ 1) (k18 : 2 ≤ x18 ∧ x18 ≤ 25) (k19 : (-900000000) ≤ x19 ∧ x19 ≤ 900000000) (d0 : x5 + 1 ≤ x18 ∧ x18 ≤ x5 + 1) (d1 : x5 + 1 ≤ x14 ∧ x14 ≤ x5 + 1) (d2 : x8 + (-4294967296) ≤ x7 ∧ x7 ≤ x8 + (-1)) (d3 : x5 + 1 ≤ x7 ∧ x7 ≤ x5 + 1) (f0 : (x18 = 0) → (x19 = nodeY_0 (((24 * g0_0) + all_0 (((r_0 + 267) + x4)))))) (f1 : (x18 = (bendMany_0 (((48 * g0_0) + x4)) + 1)) → (x19 = nodeY_0 (((24 * g0_0) + all_0 (((r_0 + 315) + x4)))))) (f2 : (x18 = 0) ∨ ((x18 = (bendMany_0 (((48 * g0_0) + x4)) + 1)) ∨ (x19 = bendY_0 (((24 * ((48 * g0_0) + x4)) + (x18 - 1)))))) (f3 : x18 ≤ (bendMany_0 (((48 * g0_0) + x4)) + 1)) (f4 : x18 = x5 + x17) (f5 : 1 * leastX_0 + ((-1) * x15 + 0) ≤ 0) (f6 : 1 * x15 + ((-1) * mostX_0 + 0) ≤ 0) (f7 : (x14 = 0) → (x15 = nodeX_0 (((24 * g0_0) + all_0 (((r_0 + 267) + x4)))))) (f8 : (x14 = (bendMany_0 (((48 * g0_0) + x4)) + 1)) → (x15 = nodeX_0 (((24 * g0_0) + all_0 (((r_0 + 315) + x4)))))) (f9 : (x14 = 0) ∨ ((x14 = (bendMany_0 (((48 * g0_0) + x4)) + 1)) ∨ (x15 = bendX_0 (((24 * ((48 * g0_0) + x4)) + (x14 - 1)))))) (f10 : x14 ≤ (bendMany_0 (((48 * g0_0) + x4)) + 1)) (f11 : x14 = x5 + x13) (f12 : 1 * leastY_0 + ((-1) * x11 + 0) ≤ 0) (f13 : 1 * x11 + ((-1) * mostY_0 + 0) ≤ 0) (f14 : (x5 = 0) → (x11 = nodeY_0 (((24 * g0_0) + all_0 (((r_0 + 267) + x4)))))) (f15 : (x5 = (bendMany_0 (((48 * g0_0) + x4)) + 1)) → (x11 = nodeY_0 (((24 * g0_0) + all_0 (((r_0 + 315) + x4)))))) (f16 : (x5 = 0) ∨ ((x5 = (bendMany_0 (((48 * g0_0) + x4)) + 1)) ∨ (x11 = bendY_0 (((24 * ((48 * g0_0) + x4)) + (x5 - 1)))))) (f17 : 1 * leastX_0 + ((-1) * x9 + 0) ≤ 0) (f18 : 1 * x9 + ((-1) * mostX_0 + 0) ≤ 0) (f19 : (x5 = 0) → (x9 = nodeX_0 (((24 * g0_0) + all_0 (((r_0 + 267) + x4)))))) (f20 : (x5 = (bendMany_0 (((48 * g0_0) + x4)) + 1)) → (x9 = nodeX_0 (((24 * g0_0) + all_0 (((r_0 + 315) + x4)))))) (f21 : (x5 = 0) ∨ ((x5 = (bendMany_0 (((48 * g0_0) + x4)) + 1)) ∨ (x9 = bendX_0 (((24 * ((48 * g0_0) + x4)) + (x5 - 1)))))) (f22 : x5 ≤ (bendMany_0 (((48 * g0_0) + x4)) + 1)) (f23 : x7 < x8) (f24 : x8 = (bendMany_0 (((48 * g0_0) + x4)) + 2)) (f25 : x7 = x5 + x6) (f26 : BNA (leastX_0) (mostX_0) (leastY_0) (mostY_0) (g0_0) (r_0) (nodeX_0) (nodeY_0) (all_0) (bendMany_0) (bendX_0) (bendY_0)) (f27 : (-1) * dotWide_0 + 0 ≤ (-1)) (f28 : 1 * dotWide_0 + 0 ≤ 64) (f29 : (-1) * dotTall_0 + 0 ≤ (-1)) (f30 : 1 * dotTall_0 + 0 ≤ 64) (f31 : 1 * x4 + ((-1) * all_0 (r_0 + 1) + 0) ≤ (-1)) (hK_0_62 : ∀ j : Int, 0 ≤ j → j < 96 → (-300000000) ≤ nodeX_0 j ∧ nodeX_0 j ≤ 300000000) (hK_0_63 : ∀ j : Int, 0 ≤ j → j < 96 → (-300000000) ≤ nodeY_0 j ∧ nodeY_0 j ≤ 300000000) (hK_0_64 : ∀ j : Int, 0 ≤ j → j < 192 → 0 ≤ bendMany_0 j ∧ bendMany_0 j ≤ 24) (hK_0_65 : ∀ j : Int, 0 ≤ j → j < 4608 → (-300000011) ≤ bendX_0 j ∧ bendX_0 j ≤ 221100000) (hK_0_66 : ∀ j : Int, 0 ≤ j → j < 4608 → (-900000000) ≤ bendY_0 j ∧ bendY_0 j ≤ 900000000) (kz_0_139 : 0 ≤ g0_0 ∧ g0_0 ≤ 3) (kz_0_153 : (-2147483648) ≤ leastX_0 ∧ leastX_0 ≤ 300000000) (kz_0_154 : (-900000000) ≤ mostX_0 ∧ mostX_0 ≤ 2147483647) (kz_0_155 : (-2147483648) ≤ leastY_0 ∧ leastY_0 ≤ 300000000) (kz_0_156 : (-900000000) ≤ mostY_0 ∧ mostY_0 ≤ 2147483647) (kz_0_173 : 0 ≤ dotWide_0 ∧ dotWide_0 ≤ 64) (kz_0_174 : 0 ≤ dotTall_0 ∧ dotTall_0 ≤ 64) : 1 * leastY_0 + ((-1) * x19 + 0) ≤ 0 := by
  first
    | assumption
    | (clear f0 f1 f2 f7 f8 f9 f14 f15 f16 f19 f20 f21 hK_0_62 hK_0_63 hK_0_64 hK_0_65 hK_0_66; omega)
    | exact (bna_x ‹BNA _ _ _ _ _ _ _ _ _ _ _ _› (by assumption) (by assumption) (by assumption) (by assumption) (by assumption) (by assumption) (by assumption) (by omega) (by omega)).1
    | exact (bna_x ‹BNA _ _ _ _ _ _ _ _ _ _ _ _› (by assumption) (by assumption) (by assumption) (by assumption) (by assumption) (by assumption) (by assumption) (by omega) (by omega)).2
    | exact (bna_y ‹BNA _ _ _ _ _ _ _ _ _ _ _ _› (by assumption) (by assumption) (by assumption) (by assumption) (by assumption) (by assumption) (by assumption) (by omega) (by omega)).1
    | exact (bna_y ‹BNA _ _ _ _ _ _ _ _ _ _ _ _› (by assumption) (by assumption) (by assumption) (by assumption) (by assumption) (by assumption) (by assumption) (by omega) (by omega)).2
    | exact (bna_nx ‹BNA _ _ _ _ _ _ _ _ _ _ _ _› (by assumption) (by clear f0 f1 f2 f7 f8 f9 f14 f15 f16 f19 f20 f21 hK_0_62 hK_0_63 hK_0_64 hK_0_65 hK_0_66; omega) (by clear f0 f1 f2 f7 f8 f9 f14 f15 f16 f19 f20 f21 hK_0_62 hK_0_63 hK_0_64 hK_0_65 hK_0_66; omega)).1
    | exact (bna_nx ‹BNA _ _ _ _ _ _ _ _ _ _ _ _› (by assumption) (by clear f0 f1 f2 f7 f8 f9 f14 f15 f16 f19 f20 f21 hK_0_62 hK_0_63 hK_0_64 hK_0_65 hK_0_66; omega) (by clear f0 f1 f2 f7 f8 f9 f14 f15 f16 f19 f20 f21 hK_0_62 hK_0_63 hK_0_64 hK_0_65 hK_0_66; omega)).2
    | exact (bna_ny ‹BNA _ _ _ _ _ _ _ _ _ _ _ _› (by assumption) (by clear f0 f1 f2 f7 f8 f9 f14 f15 f16 f19 f20 f21 hK_0_62 hK_0_63 hK_0_64 hK_0_65 hK_0_66; omega) (by clear f0 f1 f2 f7 f8 f9 f14 f15 f16 f19 f20 f21 hK_0_62 hK_0_63 hK_0_64 hK_0_65 hK_0_66; omega)).1
    | exact (bna_ny ‹BNA _ _ _ _ _ _ _ _ _ _ _ _› (by assumption) (by clear f0 f1 f2 f7 f8 f9 f14 f15 f16 f19 f20 f21 hK_0_62 hK_0_63 hK_0_64 hK_0_65 hK_0_66; omega) (by clear f0 f1 f2 f7 f8 f9 f14 f15 f16 f19 f20 f21 hK_0_62 hK_0_63 hK_0_64 hK_0_65 hK_0_66; omega)).2
    | omega
set_option maxHeartbeats 4000000 in
theorem vc_Mo_dots_23_1 (x4 : Int) (x5 : Int) (x6 : Int) (x7 : Int) (x8 : Int) (x9 : Int) (x11 : Int) (x13 : Int) (x14 : Int) (x15 : Int) (x17 : Int) (x18 : Int) (x19 : Int) (nodeY_0 : Int → Int) (all_0 : Int → Int) (g0_0 : Int) (r_0 : Int) (bendMany_0 : Int → Int) (bendY_0 : Int → Int) (leastX_0 : Int) (mostX_0 : Int) (nodeX_0 : Int → Int) (bendX_0 : Int → Int) (leastY_0 : Int) (mostY_0 : Int) (dotWide_0 : Int) (dotTall_0 : Int) (k4 : 0 ≤ x4 ∧ x4 ≤ 47) (k5 : 1 ≤ x5 ∧ x5 ≤ 24) (k6 : 1 ≤ x6 ∧ x6 ≤ 1) (k7 : 2 ≤ x7 ∧ x7 ≤ 25) (k8 : 2 ≤ x8 ∧ x8 ≤ 26) (k9 : (-300000011) ≤ x9 ∧ x9 ≤ 221100000) (k11 : (-300000000) ≤ x11 ∧ x11 ≤ 300000000) (k13 : 1 ≤ x13 ∧ x13 ≤ 1) (k14 : 2 ≤ x14 ∧ x14 ≤ 25) (k15 : (-300000000) ≤ x15 ∧ x15 ≤ 300000000) (k17 : 1 ≤ x17 ∧ x17 ≤ 1) (k18 : 2 ≤ x18 ∧ x18 ≤ 25) (k19 : (-900000000) ≤ x19 ∧ x19 ≤ 900000000) (d0 : x5 + 1 ≤ x18 ∧ x18 ≤ x5 + 1) (d1 : x5 + 1 ≤ x14 ∧ x14 ≤ x5 + 1) (d2 : x8 + (-4294967296) ≤ x7 ∧ x7 ≤ x8 + (-1)) (d3 : x5 + 1 ≤ x7 ∧ x7 ≤ x5 + 1) (f0 : (x18 = 0) → (x19 = nodeY_0 (((24 * g0_0) + all_0 (((r_0 + 267) + x4)))))) (f1 : (x18 = (bendMany_0 (((48 * g0_0) + x4)) + 1)) → (x19 = nodeY_0 (((24 * g0_0) + all_0 (((r_0 + 315) + x4)))))) (f2 : (x18 = 0) ∨ ((x18 = (bendMany_0 (((48 * g0_0) + x4)) + 1)) ∨ (x19 = bendY_0 (((24 * ((48 * g0_0) + x4)) + (x18 - 1)))))) (f3 : x18 ≤ (bendMany_0 (((48 * g0_0) + x4)) + 1)) (f4 : x18 = x5 + x17) (f5 : 1 * leastX_0 + ((-1) * x15 + 0) ≤ 0) (f6 : 1 * x15 + ((-1) * mostX_0 + 0) ≤ 0) (f7 : (x14 = 0) → (x15 = nodeX_0 (((24 * g0_0) + all_0 (((r_0 + 267) + x4)))))) (f8 : (x14 = (bendMany_0 (((48 * g0_0) + x4)) + 1)) → (x15 = nodeX_0 (((24 * g0_0) + all_0 (((r_0 + 315) + x4)))))) (f9 : (x14 = 0) ∨ ((x14 = (bendMany_0 (((48 * g0_0) + x4)) + 1)) ∨ (x15 = bendX_0 (((24 * ((48 * g0_0) + x4)) + (x14 - 1)))))) (f10 : x14 ≤ (bendMany_0 (((48 * g0_0) + x4)) + 1)) (f11 : x14 = x5 + x13) (f12 : 1 * leastY_0 + ((-1) * x11 + 0) ≤ 0) (f13 : 1 * x11 + ((-1) * mostY_0 + 0) ≤ 0) (f14 : (x5 = 0) → (x11 = nodeY_0 (((24 * g0_0) + all_0 (((r_0 + 267) + x4)))))) (f15 : (x5 = (bendMany_0 (((48 * g0_0) + x4)) + 1)) → (x11 = nodeY_0 (((24 * g0_0) + all_0 (((r_0 + 315) + x4)))))) (f16 : (x5 = 0) ∨ ((x5 = (bendMany_0 (((48 * g0_0) + x4)) + 1)) ∨ (x11 = bendY_0 (((24 * ((48 * g0_0) + x4)) + (x5 - 1)))))) (f17 : 1 * leastX_0 + ((-1) * x9 + 0) ≤ 0) (f18 : 1 * x9 + ((-1) * mostX_0 + 0) ≤ 0) (f19 : (x5 = 0) → (x9 = nodeX_0 (((24 * g0_0) + all_0 (((r_0 + 267) + x4)))))) (f20 : (x5 = (bendMany_0 (((48 * g0_0) + x4)) + 1)) → (x9 = nodeX_0 (((24 * g0_0) + all_0 (((r_0 + 315) + x4)))))) (f21 : (x5 = 0) ∨ ((x5 = (bendMany_0 (((48 * g0_0) + x4)) + 1)) ∨ (x9 = bendX_0 (((24 * ((48 * g0_0) + x4)) + (x5 - 1)))))) (f22 : x5 ≤ (bendMany_0 (((48 * g0_0) + x4)) + 1)) (f23 : x7 < x8) (f24 : x8 = (bendMany_0 (((48 * g0_0) + x4)) + 2)) (f25 : x7 = x5 + x6) (f26 : BNA (leastX_0) (mostX_0) (leastY_0) (mostY_0) (g0_0) (r_0) (nodeX_0) (nodeY_0) (all_0) (bendMany_0) (bendX_0) (bendY_0)) (f27 : (-1) * dotWide_0 + 0 ≤ (-1)) (f28 : 1 * dotWide_0 + 0 ≤ 64) (f29 : (-1) * dotTall_0 + 0 ≤ (-1)) (f30 : 1 * dotTall_0 + 0 ≤ 64) (f31 : 1 * x4 + ((-1) * all_0 (r_0 + 1) + 0) ≤ (-1)) (hK_0_62 : ∀ j : Int, 0 ≤ j → j < 96 → (-300000000) ≤ nodeX_0 j ∧ nodeX_0 j ≤ 300000000) (hK_0_63 : ∀ j : Int, 0 ≤ j → j < 96 → (-300000000) ≤ nodeY_0 j ∧ nodeY_0 j ≤ 300000000) (hK_0_64 : ∀ j : Int, 0 ≤ j → j < 192 → 0 ≤ bendMany_0 j ∧ bendMany_0 j ≤ 24) (hK_0_65 : ∀ j : Int, 0 ≤ j → j < 4608 → (-300000011) ≤ bendX_0 j ∧ bendX_0 j ≤ 221100000) (hK_0_66 : ∀ j : Int, 0 ≤ j → j < 4608 → (-900000000) ≤ bendY_0 j ∧ bendY_0 j ≤ 900000000) (kz_0_139 : 0 ≤ g0_0 ∧ g0_0 ≤ 3) (kz_0_153 : (-2147483648) ≤ leastX_0 ∧ leastX_0 ≤ 300000000) (kz_0_154 : (-900000000) ≤ mostX_0 ∧ mostX_0 ≤ 2147483647) (kz_0_155 : (-2147483648) ≤ leastY_0 ∧ leastY_0 ≤ 300000000) (kz_0_156 : (-900000000) ≤ mostY_0 ∧ mostY_0 ≤ 2147483647) (kz_0_173 : 0 ≤ dotWide_0 ∧ dotWide_0 ≤ 64) (kz_0_174 : 0 ≤ dotTall_0 ∧ dotTall_0 ≤ 64) : 1 * x19 + ((-1) * mostY_0 + 0) ≤ 0 := by
  first
    | assumption
    | (clear f0 f1 f2 f7 f8 f9 f14 f15 f16 f19 f20 f21 hK_0_62 hK_0_63 hK_0_64 hK_0_65 hK_0_66; omega)
    | exact (bna_x ‹BNA _ _ _ _ _ _ _ _ _ _ _ _› (by assumption) (by assumption) (by assumption) (by assumption) (by assumption) (by assumption) (by assumption) (by omega) (by omega)).1
    | exact (bna_x ‹BNA _ _ _ _ _ _ _ _ _ _ _ _› (by assumption) (by assumption) (by assumption) (by assumption) (by assumption) (by assumption) (by assumption) (by omega) (by omega)).2
    | exact (bna_y ‹BNA _ _ _ _ _ _ _ _ _ _ _ _› (by assumption) (by assumption) (by assumption) (by assumption) (by assumption) (by assumption) (by assumption) (by omega) (by omega)).1
    | exact (bna_y ‹BNA _ _ _ _ _ _ _ _ _ _ _ _› (by assumption) (by assumption) (by assumption) (by assumption) (by assumption) (by assumption) (by assumption) (by omega) (by omega)).2
    | exact (bna_nx ‹BNA _ _ _ _ _ _ _ _ _ _ _ _› (by assumption) (by clear f0 f1 f2 f7 f8 f9 f14 f15 f16 f19 f20 f21 hK_0_62 hK_0_63 hK_0_64 hK_0_65 hK_0_66; omega) (by clear f0 f1 f2 f7 f8 f9 f14 f15 f16 f19 f20 f21 hK_0_62 hK_0_63 hK_0_64 hK_0_65 hK_0_66; omega)).1
    | exact (bna_nx ‹BNA _ _ _ _ _ _ _ _ _ _ _ _› (by assumption) (by clear f0 f1 f2 f7 f8 f9 f14 f15 f16 f19 f20 f21 hK_0_62 hK_0_63 hK_0_64 hK_0_65 hK_0_66; omega) (by clear f0 f1 f2 f7 f8 f9 f14 f15 f16 f19 f20 f21 hK_0_62 hK_0_63 hK_0_64 hK_0_65 hK_0_66; omega)).2
    | exact (bna_ny ‹BNA _ _ _ _ _ _ _ _ _ _ _ _› (by assumption) (by clear f0 f1 f2 f7 f8 f9 f14 f15 f16 f19 f20 f21 hK_0_62 hK_0_63 hK_0_64 hK_0_65 hK_0_66; omega) (by clear f0 f1 f2 f7 f8 f9 f14 f15 f16 f19 f20 f21 hK_0_62 hK_0_63 hK_0_64 hK_0_65 hK_0_66; omega)).1
    | exact (bna_ny ‹BNA _ _ _ _ _ _ _ _ _ _ _ _› (by assumption) (by clear f0 f1 f2 f7 f8 f9 f14 f15 f16 f19 f20 f21 hK_0_62 hK_0_63 hK_0_64 hK_0_65 hK_0_66; omega) (by clear f0 f1 f2 f7 f8 f9 f14 f15 f16 f19 f20 f21 hK_0_62 hK_0_63 hK_0_64 hK_0_65 hK_0_66; omega)).2
    | omega
def o_Mo_dots_23 : or_T := (147, 20, [(0, (2, 0, 0, [165])), (4, (0, 0, 47, [])), (5, (0, 1, 24, [])), (6, (0, 1, 1, [])), (7, (0, 2, 25, [])), (8, (0, 2, 26, [])), (9, (0, -300000011, 221100000, [])), (11, (0, -300000000, 300000000, [])), (13, (0, 1, 1, [])), (14, (0, 2, 25, [])), (15, (0, -300000000, 300000000, [])), (17, (0, 1, 1, [])), (18, (0, 2, 25, [])), (19, (0, -900000000, 900000000, []))], [(20, [18, 19, 0, 4], [50, 2, 2, 2139, 2005, 2063, 2002, 4, 6, 1, 2, 1, 0, 0, 0, 1, 2, 1, 1, 3, 2, 63, 4, 7, 6, 2, 0, 24, 2, 2, 139, 3, 2, 2, 4, 7, 4, 3, 2, 2, 5, 0, 267, 1, 3]), (20, [18, 0, 4, 19], [50, 2, 3, 1139, 1005, 1064, 1063, 1002, 4, 22, 1, 2, 1, 0, 4, 14, 3, 1, 64, 4, 7, 6, 2, 0, 48, 2, 1, 139, 1, 2, 0, 1, 1, 2, 1, 3, 3, 1, 63, 4, 7, 6, 2, 0, 24, 2, 1, 139, 3, 1, 2, 4, 7, 4, 3, 2, 1, 5, 0, 315, 1, 2]), (20, [18, 0, 4, 19], [50, 1, 2, 1139, 1064, 1066, 3, 6, 1, 2, 1, 0, 0, 0, 3, 22, 1, 2, 1, 0, 4, 14, 3, 1, 64, 4, 7, 6, 2, 0, 48, 2, 1, 139, 1, 2, 0, 1, 1, 2, 1, 3, 3, 1, 66, 4, 15, 6, 2, 0, 24, 4, 7, 6, 2, 0, 48, 2, 1, 139, 1, 2, 5, 2, 1, 0, 0, 1]), (20, [18, 0, 4], [50, 1, 1, 1139, 1064, 0, 2, 1, 0, 4, 14, 3, 1, 64, 4, 7, 6, 2, 0, 48, 2, 1, 139, 1, 2, 0, 1]), (1, [18, 5, 17], []), (20, [0, 15], [30, 0, 1, 1, 153, -1, 0, 0]), (20, [15, 0], [30, 0, 1, 0, 0, -1, 1, 154]), (20, [14, 15, 0, 4], [50, 2, 2, 2139, 2005, 2062, 2002, 4, 6, 1, 2, 1, 0, 0, 0, 1, 2, 1, 1, 3, 2, 62, 4, 7, 6, 2, 0, 24, 2, 2, 139, 3, 2, 2, 4, 7, 4, 3, 2, 2, 5, 0, 267, 1, 3]), (20, [14, 0, 4, 15], [50, 2, 3, 1139, 1005, 1064, 1062, 1002, 4, 22, 1, 2, 1, 0, 4, 14, 3, 1, 64, 4, 7, 6, 2, 0, 48, 2, 1, 139, 1, 2, 0, 1, 1, 2, 1, 3, 3, 1, 62, 4, 7, 6, 2, 0, 24, 2, 1, 139, 3, 1, 2, 4, 7, 4, 3, 2, 1, 5, 0, 315, 1, 2]), (20, [14, 0, 4, 15], [50, 1, 2, 1139, 1064, 1065, 3, 6, 1, 2, 1, 0, 0, 0, 3, 22, 1, 2, 1, 0, 4, 14, 3, 1, 64, 4, 7, 6, 2, 0, 48, 2, 1, 139, 1, 2, 0, 1, 1, 2, 1, 3, 3, 1, 65, 4, 15, 6, 2, 0, 24, 4, 7, 6, 2, 0, 48, 2, 1, 139, 1, 2, 5, 2, 1, 0, 0, 1]), (20, [14, 0, 4], [50, 1, 1, 1139, 1064, 0, 2, 1, 0, 4, 14, 3, 1, 64, 4, 7, 6, 2, 0, 48, 2, 1, 139, 1, 2, 0, 1]), (1, [14, 5, 13], []), (20, [0, 11], [30, 0, 1, 1, 155, -1, 0, 0]), (20, [11, 0], [30, 0, 1, 0, 0, -1, 1, 156]), (20, [5, 11, 0, 4], [50, 2, 2, 2139, 2005, 2063, 2002, 4, 6, 1, 2, 1, 0, 0, 0, 1, 2, 1, 1, 3, 2, 63, 4, 7, 6, 2, 0, 24, 2, 2, 139, 3, 2, 2, 4, 7, 4, 3, 2, 2, 5, 0, 267, 1, 3]), (20, [5, 0, 4, 11], [50, 2, 3, 1139, 1005, 1064, 1063, 1002, 4, 22, 1, 2, 1, 0, 4, 14, 3, 1, 64, 4, 7, 6, 2, 0, 48, 2, 1, 139, 1, 2, 0, 1, 1, 2, 1, 3, 3, 1, 63, 4, 7, 6, 2, 0, 24, 2, 1, 139, 3, 1, 2, 4, 7, 4, 3, 2, 1, 5, 0, 315, 1, 2]), (20, [5, 0, 4, 11], [50, 1, 2, 1139, 1064, 1066, 3, 6, 1, 2, 1, 0, 0, 0, 3, 22, 1, 2, 1, 0, 4, 14, 3, 1, 64, 4, 7, 6, 2, 0, 48, 2, 1, 139, 1, 2, 0, 1, 1, 2, 1, 3, 3, 1, 66, 4, 15, 6, 2, 0, 24, 4, 7, 6, 2, 0, 48, 2, 1, 139, 1, 2, 5, 2, 1, 0, 0, 1]), (20, [0, 9], [30, 0, 1, 1, 153, -1, 0, 0]), (20, [9, 0], [30, 0, 1, 0, 0, -1, 1, 154]), (20, [5, 9, 0, 4], [50, 2, 2, 2139, 2005, 2062, 2002, 4, 6, 1, 2, 1, 0, 0, 0, 1, 2, 1, 1, 3, 2, 62, 4, 7, 6, 2, 0, 24, 2, 2, 139, 3, 2, 2, 4, 7, 4, 3, 2, 2, 5, 0, 267, 1, 3]), (20, [5, 0, 4, 9], [50, 2, 3, 1139, 1005, 1064, 1062, 1002, 4, 22, 1, 2, 1, 0, 4, 14, 3, 1, 64, 4, 7, 6, 2, 0, 48, 2, 1, 139, 1, 2, 0, 1, 1, 2, 1, 3, 3, 1, 62, 4, 7, 6, 2, 0, 24, 2, 1, 139, 3, 1, 2, 4, 7, 4, 3, 2, 1, 5, 0, 315, 1, 2]), (20, [5, 0, 4, 9], [50, 1, 2, 1139, 1064, 1065, 3, 6, 1, 2, 1, 0, 0, 0, 3, 22, 1, 2, 1, 0, 4, 14, 3, 1, 64, 4, 7, 6, 2, 0, 48, 2, 1, 139, 1, 2, 0, 1, 1, 2, 1, 3, 3, 1, 65, 4, 15, 6, 2, 0, 24, 4, 7, 6, 2, 0, 48, 2, 1, 139, 1, 2, 5, 2, 1, 0, 0, 1]), (20, [5, 0, 4], [50, 1, 1, 1139, 1064, 0, 2, 1, 0, 4, 14, 3, 1, 64, 4, 7, 6, 2, 0, 48, 2, 1, 139, 1, 2, 0, 1]), (7, [7, 8], [2]), (20, [8, 0, 4], [50, 1, 1, 1139, 1064, 1, 2, 1, 0, 4, 14, 3, 1, 64, 4, 7, 6, 2, 0, 48, 2, 1, 139, 1, 2, 0, 2]), (1, [7, 5, 6], []), (20, [0], [60, 6, 6, 945, 153, 154, 155, 156, 139, 5, 62, 63, 2, 64, 65, 66]), (20, [0], [30, -1, -1, 1, 173]), (20, [0], [30, 64, 1, 1, 173]), (20, [0], [30, -1, -1, 1, 174]), (20, [0], [30, 64, 1, 1, 174]), (20, [4, 0], [30, -1, 1, 0, 0, -1, 3, 2005001])], [], [], [(20, [0, 19], [30, 0, 1, 1, 155, -1, 0, 0]), (20, [19, 0], [30, 0, 1, 0, 0, -1, 1, 156])], [], [(18, 5, 1, 1), (14, 5, 1, 1), (7, 8, -4294967296, -1), (7, 5, 1, 1)])
theorem oo_Mo_dots_23 {kA : Nat → ClassId} : or_ok PRD kA GG o_Mo_dots_23 := by
  refine or_mk fun A ta ws vs hD hth hl => ?_
  intro t0 r0 t4 k4 t5 k5 t6 k6 t7 k7 t8 k8 t9 k9 t11 k11 t13 k13 t14 k14 t15 k15 t17 k17 t18 k18 t19 k19 d0 d1 d2 d3 f0 f1 f2 f3 f4 f5 f6 f7 f8 f9 f10 f11 f12 f13 f14 f15 f16 f17 f18 f19 f20 f21 f22 f23 f24 f25 f26 f27 f28 f29 f30 f31
  have cr_0_62 := fdq_173 hD hth r0
  have cr_0_63 := fdq_174 hD hth r0
  have cr_0_64 := fdq_171 hD hth r0
  have cr_0_65 := fdq_292 hD hth r0
  have cr_0_66 := fdq_293 hD hth r0
  have hK_0_62 := elq_102 hD hth cr_0_62
  have hK_0_63 := elq_103 hD hth cr_0_63
  have hK_0_64 := elq_101 hD hth cr_0_64
  have hK_0_65 := elq_184 hD hth cr_0_65
  have hK_0_66 := elq_185 hD hth cr_0_66
  have kz_0_139 := fdq_172 hD hth r0
  have kz_0_153 := fdq_14 hD hth r0
  have kz_0_154 := fdq_15 hD hth r0
  have kz_0_155 := fdq_17 hD hth r0
  have kz_0_156 := fdq_18 hD hth r0
  have kz_0_173 := fdq_16 hD hth r0
  have kz_0_174 := fdq_19 hD hth r0
  have nf0 : fc_1 PRD (20, [0, 19], [30, 0, 1, 1, 155, -1, 0, 0]) ws (vs) := ⟨nf_in hl rfl, sgq_153 (vc_Mo_dots_23_0 (v_iv (n_v vs 4)) (v_iv (n_v vs 5)) (v_iv (n_v vs 6)) (v_iv (n_v vs 7)) (v_iv (n_v vs 8)) (v_iv (n_v vs 9)) (v_iv (n_v vs 11)) (v_iv (n_v vs 13)) (v_iv (n_v vs 14)) (v_iv (n_v vs 15)) (v_iv (n_v vs 17)) (v_iv (n_v vs 18)) (v_iv (n_v vs 19)) (w_ei ws (w_ar ws (n_v vs 0) 63)) (w_ei ws (w_ar ws (n_v vs 0) 2)) (w_fi ws (n_v vs 0) 139) (w_fi ws (n_v vs 0) 5) (w_ei ws (w_ar ws (n_v vs 0) 64)) (w_ei ws (w_ar ws (n_v vs 0) 66)) (w_fi ws (n_v vs 0) 153) (w_fi ws (n_v vs 0) 154) (w_ei ws (w_ar ws (n_v vs 0) 62)) (w_ei ws (w_ar ws (n_v vs 0) 65)) (w_fi ws (n_v vs 0) 155) (w_fi ws (n_v vs 0) 156) (w_fi ws (n_v vs 0) 173) (w_fi ws (n_v vs 0) 174) k4 k5 k6 k7 k8 k9 k11 k13 k14 k15 k17 k18 k19 d0 d1 d2 d3 (shm_1427 f0) (shm_1428 f1) (shm_1429 f2) (shm_1421 f3) (shm_12 f4) (shm_146 f5) (shm_147 f6) (shm_1423 f7) (shm_1424 f8) (shm_1425 f9) (shm_1421 f10) (shm_12 f11) (shm_153 f12) (shm_154 f13) (shm_1427 f14) (shm_1428 f15) (shm_1429 f16) (shm_146 f17) (shm_147 f18) (shm_1423 f19) (shm_1424 f20) (shm_1425 f21) (shm_1421 f22) (shm_6 f23) (shm_683 f24) (shm_12 f25) (shm_1845 f26) (shm_148 f27) (shm_149 f28) (shm_155 f29) (shm_156 f30) (shm_979 f31) hK_0_62 hK_0_63 hK_0_64 hK_0_65 hK_0_66 kz_0_139 kz_0_153 kz_0_154 kz_0_155 kz_0_156 kz_0_173 kz_0_174)⟩
  have nf1 : fc_1 PRD (20, [19, 0], [30, 0, 1, 0, 0, -1, 1, 156]) ws (vs) := ⟨nf_in hl rfl, sgq_154 (vc_Mo_dots_23_1 (v_iv (n_v vs 4)) (v_iv (n_v vs 5)) (v_iv (n_v vs 6)) (v_iv (n_v vs 7)) (v_iv (n_v vs 8)) (v_iv (n_v vs 9)) (v_iv (n_v vs 11)) (v_iv (n_v vs 13)) (v_iv (n_v vs 14)) (v_iv (n_v vs 15)) (v_iv (n_v vs 17)) (v_iv (n_v vs 18)) (v_iv (n_v vs 19)) (w_ei ws (w_ar ws (n_v vs 0) 63)) (w_ei ws (w_ar ws (n_v vs 0) 2)) (w_fi ws (n_v vs 0) 139) (w_fi ws (n_v vs 0) 5) (w_ei ws (w_ar ws (n_v vs 0) 64)) (w_ei ws (w_ar ws (n_v vs 0) 66)) (w_fi ws (n_v vs 0) 153) (w_fi ws (n_v vs 0) 154) (w_ei ws (w_ar ws (n_v vs 0) 62)) (w_ei ws (w_ar ws (n_v vs 0) 65)) (w_fi ws (n_v vs 0) 155) (w_fi ws (n_v vs 0) 156) (w_fi ws (n_v vs 0) 173) (w_fi ws (n_v vs 0) 174) k4 k5 k6 k7 k8 k9 k11 k13 k14 k15 k17 k18 k19 d0 d1 d2 d3 (shm_1427 f0) (shm_1428 f1) (shm_1429 f2) (shm_1421 f3) (shm_12 f4) (shm_146 f5) (shm_147 f6) (shm_1423 f7) (shm_1424 f8) (shm_1425 f9) (shm_1421 f10) (shm_12 f11) (shm_153 f12) (shm_154 f13) (shm_1427 f14) (shm_1428 f15) (shm_1429 f16) (shm_146 f17) (shm_147 f18) (shm_1423 f19) (shm_1424 f20) (shm_1425 f21) (shm_1421 f22) (shm_6 f23) (shm_683 f24) (shm_12 f25) (shm_1845 f26) (shm_148 f27) (shm_149 f28) (shm_155 f29) (shm_156 f30) (shm_979 f31) hK_0_62 hK_0_63 hK_0_64 hK_0_65 hK_0_66 kz_0_139 kz_0_153 kz_0_154 kz_0_155 kz_0_156 kz_0_173 kz_0_174)⟩
  refine ⟨(fun _ h => (by cases h)), [], trivial, ?_, (fun _ h => (by cases h))⟩
  rw [List.append_nil]
  exact List.forall_mem_cons.mpr ⟨⟨show (20 : Nat) < 100 from by decide, nf0⟩, List.forall_mem_cons.mpr ⟨⟨show (20 : Nat) < 100 from by decide, nf1⟩, (fun _ h => (by cases h))⟩⟩
set_option maxHeartbeats 4000000 in
theorem vc_Mo_dots_24_0 (x4 : Int) (x5 : Int) (x6 : Int) (x7 : Int) (x8 : Int) (x9 : Int) (x11 : Int) (x13 : Int) (x14 : Int) (x15 : Int) (x17 : Int) (x18 : Int) (x19 : Int) (nodeY_0 : Int → Int) (all_0 : Int → Int) (g0_0 : Int) (r_0 : Int) (bendMany_0 : Int → Int) (bendY_0 : Int → Int) (leastX_0 : Int) (mostX_0 : Int) (nodeX_0 : Int → Int) (bendX_0 : Int → Int) (leastY_0 : Int) (mostY_0 : Int) (dotWide_0 : Int) (dotTall_0 : Int) (k4 : 0 ≤ x4 ∧ x4 ≤ 47) (k5 : 1 ≤ x5 ∧ x5 ≤ 24) (k6 : 1 ≤ x6 ∧ x6 ≤ 1) (k7 : 2 ≤ x7 ∧ x7 ≤ 25) (k8 : 2 ≤ x8 ∧ x8 ≤ 26) (k9 : (-300000011) ≤ x9 ∧ x9 ≤ 221100000) (k11 : (-300000000) ≤ x11 ∧ x11 ≤ 300000000) (k13 : 1 ≤ x13 ∧ x13 ≤ 1) (k14 : 2 ≤ x14 ∧ x14 ≤ 25) (k15 : (-300000000) ≤ x15 ∧ x15 ≤ 300000000) (k17 : 1 ≤ x17 ∧ x17 ≤ 1) (k18 : 2 ≤ x18 ∧ x18 ≤ 25) (k19 : (-300000000) ≤ x19 ∧ x19 ≤ 300000000) (d0 : x5 + 1 ≤ x18 ∧ x18 ≤ x5 + 1) (d1 : x5 + 1 ≤ x14 ∧ x14 ≤ x5 + 1) (d2 : x8 + (-4294967296) ≤ x7 ∧ x7 ≤ x8 + (-1)) (d3 : x5 + 1 ≤ x7 ∧ x7 ≤ x5 + 1) (f0 : (x18 = 0) → (x19 = nodeY_0 (((24 * g0_0) + all_0 (((r_0 + 267) + x4)))))) (f1 : (x18 = (bendMany_0 (((48 * g0_0) + x4)) + 1)) → (x19 = nodeY_0 (((24 * g0_0) + all_0 (((r_0 + 315) + x4)))))) (f2 : (x18 = 0) ∨ ((x18 = (bendMany_0 (((48 * g0_0) + x4)) + 1)) ∨ (x19 = bendY_0 (((24 * ((48 * g0_0) + x4)) + (x18 - 1)))))) (f3 : x18 ≤ (bendMany_0 (((48 * g0_0) + x4)) + 1)) (f4 : x18 = x5 + x17) (f5 : 1 * leastX_0 + ((-1) * x15 + 0) ≤ 0) (f6 : 1 * x15 + ((-1) * mostX_0 + 0) ≤ 0) (f7 : (x14 = 0) → (x15 = nodeX_0 (((24 * g0_0) + all_0 (((r_0 + 267) + x4)))))) (f8 : (x14 = (bendMany_0 (((48 * g0_0) + x4)) + 1)) → (x15 = nodeX_0 (((24 * g0_0) + all_0 (((r_0 + 315) + x4)))))) (f9 : (x14 = 0) ∨ ((x14 = (bendMany_0 (((48 * g0_0) + x4)) + 1)) ∨ (x15 = bendX_0 (((24 * ((48 * g0_0) + x4)) + (x14 - 1)))))) (f10 : x14 ≤ (bendMany_0 (((48 * g0_0) + x4)) + 1)) (f11 : x14 = x5 + x13) (f12 : 1 * leastY_0 + ((-1) * x11 + 0) ≤ 0) (f13 : 1 * x11 + ((-1) * mostY_0 + 0) ≤ 0) (f14 : (x5 = 0) → (x11 = nodeY_0 (((24 * g0_0) + all_0 (((r_0 + 267) + x4)))))) (f15 : (x5 = (bendMany_0 (((48 * g0_0) + x4)) + 1)) → (x11 = nodeY_0 (((24 * g0_0) + all_0 (((r_0 + 315) + x4)))))) (f16 : (x5 = 0) ∨ ((x5 = (bendMany_0 (((48 * g0_0) + x4)) + 1)) ∨ (x11 = bendY_0 (((24 * ((48 * g0_0) + x4)) + (x5 - 1)))))) (f17 : 1 * leastX_0 + ((-1) * x9 + 0) ≤ 0) (f18 : 1 * x9 + ((-1) * mostX_0 + 0) ≤ 0) (f19 : (x5 = 0) → (x9 = nodeX_0 (((24 * g0_0) + all_0 (((r_0 + 267) + x4)))))) (f20 : (x5 = (bendMany_0 (((48 * g0_0) + x4)) + 1)) → (x9 = nodeX_0 (((24 * g0_0) + all_0 (((r_0 + 315) + x4)))))) (f21 : (x5 = 0) ∨ ((x5 = (bendMany_0 (((48 * g0_0) + x4)) + 1)) ∨ (x9 = bendX_0 (((24 * ((48 * g0_0) + x4)) + (x5 - 1)))))) (f22 : x5 ≤ (bendMany_0 (((48 * g0_0) + x4)) + 1)) (f23 : x7 < x8) (f24 : x8 = (bendMany_0 (((48 * g0_0) + x4)) + 2)) (f25 : x7 = x5 + x6) (f26 : BNA (leastX_0) (mostX_0) (leastY_0) (mostY_0) (g0_0) (r_0) (nodeX_0) (nodeY_0) (all_0) (bendMany_0) (bendX_0) (bendY_0)) (f27 : (-1) * dotWide_0 + 0 ≤ (-1)) (f28 : 1 * dotWide_0 + 0 ≤ 64) (f29 : (-1) * dotTall_0 + 0 ≤ (-1)) (f30 : 1 * dotTall_0 + 0 ≤ 64) (f31 : 1 * x4 + ((-1) * all_0 (r_0 + 1) + 0) ≤ (-1)) (hK_0_62 : ∀ j : Int, 0 ≤ j → j < 96 → (-300000000) ≤ nodeX_0 j ∧ nodeX_0 j ≤ 300000000) (hK_0_63 : ∀ j : Int, 0 ≤ j → j < 96 → (-300000000) ≤ nodeY_0 j ∧ nodeY_0 j ≤ 300000000) (hK_0_64 : ∀ j : Int, 0 ≤ j → j < 192 → 0 ≤ bendMany_0 j ∧ bendMany_0 j ≤ 24) (hK_0_65 : ∀ j : Int, 0 ≤ j → j < 4608 → (-300000011) ≤ bendX_0 j ∧ bendX_0 j ≤ 221100000) (hK_0_66 : ∀ j : Int, 0 ≤ j → j < 4608 → (-900000000) ≤ bendY_0 j ∧ bendY_0 j ≤ 900000000) (kz_0_139 : 0 ≤ g0_0 ∧ g0_0 ≤ 3) (kz_0_153 : (-2147483648) ≤ leastX_0 ∧ leastX_0 ≤ 300000000) (kz_0_154 : (-900000000) ≤ mostX_0 ∧ mostX_0 ≤ 2147483647) (kz_0_155 : (-2147483648) ≤ leastY_0 ∧ leastY_0 ≤ 300000000) (kz_0_156 : (-900000000) ≤ mostY_0 ∧ mostY_0 ≤ 2147483647) (kz_0_173 : 0 ≤ dotWide_0 ∧ dotWide_0 ≤ 64) (kz_0_174 : 0 ≤ dotTall_0 ∧ dotTall_0 ≤ 64) : 1 * leastY_0 + ((-1) * x19 + 0) ≤ 0 := by
  first
    | assumption
    | (clear f0 f1 f2 f7 f8 f9 f14 f15 f16 f19 f20 f21 hK_0_62 hK_0_63 hK_0_64 hK_0_65 hK_0_66; omega)
    | exact (bna_x ‹BNA _ _ _ _ _ _ _ _ _ _ _ _› (by assumption) (by assumption) (by assumption) (by assumption) (by assumption) (by assumption) (by assumption) (by omega) (by omega)).1
    | exact (bna_x ‹BNA _ _ _ _ _ _ _ _ _ _ _ _› (by assumption) (by assumption) (by assumption) (by assumption) (by assumption) (by assumption) (by assumption) (by omega) (by omega)).2
    | exact (bna_y ‹BNA _ _ _ _ _ _ _ _ _ _ _ _› (by assumption) (by assumption) (by assumption) (by assumption) (by assumption) (by assumption) (by assumption) (by omega) (by omega)).1
    | exact (bna_y ‹BNA _ _ _ _ _ _ _ _ _ _ _ _› (by assumption) (by assumption) (by assumption) (by assumption) (by assumption) (by assumption) (by assumption) (by omega) (by omega)).2
    | exact (bna_nx ‹BNA _ _ _ _ _ _ _ _ _ _ _ _› (by assumption) (by clear f0 f1 f2 f7 f8 f9 f14 f15 f16 f19 f20 f21 hK_0_62 hK_0_63 hK_0_64 hK_0_65 hK_0_66; omega) (by clear f0 f1 f2 f7 f8 f9 f14 f15 f16 f19 f20 f21 hK_0_62 hK_0_63 hK_0_64 hK_0_65 hK_0_66; omega)).1
    | exact (bna_nx ‹BNA _ _ _ _ _ _ _ _ _ _ _ _› (by assumption) (by clear f0 f1 f2 f7 f8 f9 f14 f15 f16 f19 f20 f21 hK_0_62 hK_0_63 hK_0_64 hK_0_65 hK_0_66; omega) (by clear f0 f1 f2 f7 f8 f9 f14 f15 f16 f19 f20 f21 hK_0_62 hK_0_63 hK_0_64 hK_0_65 hK_0_66; omega)).2
    | exact (bna_ny ‹BNA _ _ _ _ _ _ _ _ _ _ _ _› (by assumption) (by clear f0 f1 f2 f7 f8 f9 f14 f15 f16 f19 f20 f21 hK_0_62 hK_0_63 hK_0_64 hK_0_65 hK_0_66; omega) (by clear f0 f1 f2 f7 f8 f9 f14 f15 f16 f19 f20 f21 hK_0_62 hK_0_63 hK_0_64 hK_0_65 hK_0_66; omega)).1
    | exact (bna_ny ‹BNA _ _ _ _ _ _ _ _ _ _ _ _› (by assumption) (by clear f0 f1 f2 f7 f8 f9 f14 f15 f16 f19 f20 f21 hK_0_62 hK_0_63 hK_0_64 hK_0_65 hK_0_66; omega) (by clear f0 f1 f2 f7 f8 f9 f14 f15 f16 f19 f20 f21 hK_0_62 hK_0_63 hK_0_64 hK_0_65 hK_0_66; omega)).2
    | omega
set_option maxHeartbeats 4000000 in
theorem vc_Mo_dots_24_1 (x4 : Int) (x5 : Int) (x6 : Int) (x7 : Int) (x8 : Int) (x9 : Int) (x11 : Int) (x13 : Int) (x14 : Int) (x15 : Int) (x17 : Int) (x18 : Int) (x19 : Int) (nodeY_0 : Int → Int) (all_0 : Int → Int) (g0_0 : Int) (r_0 : Int) (bendMany_0 : Int → Int) (bendY_0 : Int → Int) (leastX_0 : Int) (mostX_0 : Int) (nodeX_0 : Int → Int) (bendX_0 : Int → Int) (leastY_0 : Int) (mostY_0 : Int) (dotWide_0 : Int) (dotTall_0 : Int) (k4 : 0 ≤ x4 ∧ x4 ≤ 47) (k5 : 1 ≤ x5 ∧ x5 ≤ 24) (k6 : 1 ≤ x6 ∧ x6 ≤ 1) (k7 : 2 ≤ x7 ∧ x7 ≤ 25) (k8 : 2 ≤ x8 ∧ x8 ≤ 26) (k9 : (-300000011) ≤ x9 ∧ x9 ≤ 221100000) (k11 : (-300000000) ≤ x11 ∧ x11 ≤ 300000000) (k13 : 1 ≤ x13 ∧ x13 ≤ 1) (k14 : 2 ≤ x14 ∧ x14 ≤ 25) (k15 : (-300000000) ≤ x15 ∧ x15 ≤ 300000000) (k17 : 1 ≤ x17 ∧ x17 ≤ 1) (k18 : 2 ≤ x18 ∧ x18 ≤ 25) (k19 : (-300000000) ≤ x19 ∧ x19 ≤ 300000000) (d0 : x5 + 1 ≤ x18 ∧ x18 ≤ x5 + 1) (d1 : x5 + 1 ≤ x14 ∧ x14 ≤ x5 + 1) (d2 : x8 + (-4294967296) ≤ x7 ∧ x7 ≤ x8 + (-1)) (d3 : x5 + 1 ≤ x7 ∧ x7 ≤ x5 + 1) (f0 : (x18 = 0) → (x19 = nodeY_0 (((24 * g0_0) + all_0 (((r_0 + 267) + x4)))))) (f1 : (x18 = (bendMany_0 (((48 * g0_0) + x4)) + 1)) → (x19 = nodeY_0 (((24 * g0_0) + all_0 (((r_0 + 315) + x4)))))) (f2 : (x18 = 0) ∨ ((x18 = (bendMany_0 (((48 * g0_0) + x4)) + 1)) ∨ (x19 = bendY_0 (((24 * ((48 * g0_0) + x4)) + (x18 - 1)))))) (f3 : x18 ≤ (bendMany_0 (((48 * g0_0) + x4)) + 1)) (f4 : x18 = x5 + x17) (f5 : 1 * leastX_0 + ((-1) * x15 + 0) ≤ 0) (f6 : 1 * x15 + ((-1) * mostX_0 + 0) ≤ 0) (f7 : (x14 = 0) → (x15 = nodeX_0 (((24 * g0_0) + all_0 (((r_0 + 267) + x4)))))) (f8 : (x14 = (bendMany_0 (((48 * g0_0) + x4)) + 1)) → (x15 = nodeX_0 (((24 * g0_0) + all_0 (((r_0 + 315) + x4)))))) (f9 : (x14 = 0) ∨ ((x14 = (bendMany_0 (((48 * g0_0) + x4)) + 1)) ∨ (x15 = bendX_0 (((24 * ((48 * g0_0) + x4)) + (x14 - 1)))))) (f10 : x14 ≤ (bendMany_0 (((48 * g0_0) + x4)) + 1)) (f11 : x14 = x5 + x13) (f12 : 1 * leastY_0 + ((-1) * x11 + 0) ≤ 0) (f13 : 1 * x11 + ((-1) * mostY_0 + 0) ≤ 0) (f14 : (x5 = 0) → (x11 = nodeY_0 (((24 * g0_0) + all_0 (((r_0 + 267) + x4)))))) (f15 : (x5 = (bendMany_0 (((48 * g0_0) + x4)) + 1)) → (x11 = nodeY_0 (((24 * g0_0) + all_0 (((r_0 + 315) + x4)))))) (f16 : (x5 = 0) ∨ ((x5 = (bendMany_0 (((48 * g0_0) + x4)) + 1)) ∨ (x11 = bendY_0 (((24 * ((48 * g0_0) + x4)) + (x5 - 1)))))) (f17 : 1 * leastX_0 + ((-1) * x9 + 0) ≤ 0) (f18 : 1 * x9 + ((-1) * mostX_0 + 0) ≤ 0) (f19 : (x5 = 0) → (x9 = nodeX_0 (((24 * g0_0) + all_0 (((r_0 + 267) + x4)))))) (f20 : (x5 = (bendMany_0 (((48 * g0_0) + x4)) + 1)) → (x9 = nodeX_0 (((24 * g0_0) + all_0 (((r_0 + 315) + x4)))))) (f21 : (x5 = 0) ∨ ((x5 = (bendMany_0 (((48 * g0_0) + x4)) + 1)) ∨ (x9 = bendX_0 (((24 * ((48 * g0_0) + x4)) + (x5 - 1)))))) (f22 : x5 ≤ (bendMany_0 (((48 * g0_0) + x4)) + 1)) (f23 : x7 < x8) (f24 : x8 = (bendMany_0 (((48 * g0_0) + x4)) + 2)) (f25 : x7 = x5 + x6) (f26 : BNA (leastX_0) (mostX_0) (leastY_0) (mostY_0) (g0_0) (r_0) (nodeX_0) (nodeY_0) (all_0) (bendMany_0) (bendX_0) (bendY_0)) (f27 : (-1) * dotWide_0 + 0 ≤ (-1)) (f28 : 1 * dotWide_0 + 0 ≤ 64) (f29 : (-1) * dotTall_0 + 0 ≤ (-1)) (f30 : 1 * dotTall_0 + 0 ≤ 64) (f31 : 1 * x4 + ((-1) * all_0 (r_0 + 1) + 0) ≤ (-1)) (hK_0_62 : ∀ j : Int, 0 ≤ j → j < 96 → (-300000000) ≤ nodeX_0 j ∧ nodeX_0 j ≤ 300000000) (hK_0_63 : ∀ j : Int, 0 ≤ j → j < 96 → (-300000000) ≤ nodeY_0 j ∧ nodeY_0 j ≤ 300000000) (hK_0_64 : ∀ j : Int, 0 ≤ j → j < 192 → 0 ≤ bendMany_0 j ∧ bendMany_0 j ≤ 24) (hK_0_65 : ∀ j : Int, 0 ≤ j → j < 4608 → (-300000011) ≤ bendX_0 j ∧ bendX_0 j ≤ 221100000) (hK_0_66 : ∀ j : Int, 0 ≤ j → j < 4608 → (-900000000) ≤ bendY_0 j ∧ bendY_0 j ≤ 900000000) (kz_0_139 : 0 ≤ g0_0 ∧ g0_0 ≤ 3) (kz_0_153 : (-2147483648) ≤ leastX_0 ∧ leastX_0 ≤ 300000000) (kz_0_154 : (-900000000) ≤ mostX_0 ∧ mostX_0 ≤ 2147483647) (kz_0_155 : (-2147483648) ≤ leastY_0 ∧ leastY_0 ≤ 300000000) (kz_0_156 : (-900000000) ≤ mostY_0 ∧ mostY_0 ≤ 2147483647) (kz_0_173 : 0 ≤ dotWide_0 ∧ dotWide_0 ≤ 64) (kz_0_174 : 0 ≤ dotTall_0 ∧ dotTall_0 ≤ 64) : 1 * x19 + ((-1) * mostY_0 + 0) ≤ 0 := by
  first
    | assumption
    | (clear f0 f1 f2 f7 f8 f9 f14 f15 f16 f19 f20 f21 hK_0_62 hK_0_63 hK_0_64 hK_0_65 hK_0_66; omega)
    | exact (bna_x ‹BNA _ _ _ _ _ _ _ _ _ _ _ _› (by assumption) (by assumption) (by assumption) (by assumption) (by assumption) (by assumption) (by assumption) (by omega) (by omega)).1
    | exact (bna_x ‹BNA _ _ _ _ _ _ _ _ _ _ _ _› (by assumption) (by assumption) (by assumption) (by assumption) (by assumption) (by assumption) (by assumption) (by omega) (by omega)).2
    | exact (bna_y ‹BNA _ _ _ _ _ _ _ _ _ _ _ _› (by assumption) (by assumption) (by assumption) (by assumption) (by assumption) (by assumption) (by assumption) (by omega) (by omega)).1
    | exact (bna_y ‹BNA _ _ _ _ _ _ _ _ _ _ _ _› (by assumption) (by assumption) (by assumption) (by assumption) (by assumption) (by assumption) (by assumption) (by omega) (by omega)).2
    | exact (bna_nx ‹BNA _ _ _ _ _ _ _ _ _ _ _ _› (by assumption) (by clear f0 f1 f2 f7 f8 f9 f14 f15 f16 f19 f20 f21 hK_0_62 hK_0_63 hK_0_64 hK_0_65 hK_0_66; omega) (by clear f0 f1 f2 f7 f8 f9 f14 f15 f16 f19 f20 f21 hK_0_62 hK_0_63 hK_0_64 hK_0_65 hK_0_66; omega)).1
    | exact (bna_nx ‹BNA _ _ _ _ _ _ _ _ _ _ _ _› (by assumption) (by clear f0 f1 f2 f7 f8 f9 f14 f15 f16 f19 f20 f21 hK_0_62 hK_0_63 hK_0_64 hK_0_65 hK_0_66; omega) (by clear f0 f1 f2 f7 f8 f9 f14 f15 f16 f19 f20 f21 hK_0_62 hK_0_63 hK_0_64 hK_0_65 hK_0_66; omega)).2
    | exact (bna_ny ‹BNA _ _ _ _ _ _ _ _ _ _ _ _› (by assumption) (by clear f0 f1 f2 f7 f8 f9 f14 f15 f16 f19 f20 f21 hK_0_62 hK_0_63 hK_0_64 hK_0_65 hK_0_66; omega) (by clear f0 f1 f2 f7 f8 f9 f14 f15 f16 f19 f20 f21 hK_0_62 hK_0_63 hK_0_64 hK_0_65 hK_0_66; omega)).1
    | exact (bna_ny ‹BNA _ _ _ _ _ _ _ _ _ _ _ _› (by assumption) (by clear f0 f1 f2 f7 f8 f9 f14 f15 f16 f19 f20 f21 hK_0_62 hK_0_63 hK_0_64 hK_0_65 hK_0_66; omega) (by clear f0 f1 f2 f7 f8 f9 f14 f15 f16 f19 f20 f21 hK_0_62 hK_0_63 hK_0_64 hK_0_65 hK_0_66; omega)).2
    | omega
def o_Mo_dots_24 : or_T := (147, 20, [(0, (2, 0, 0, [165])), (4, (0, 0, 47, [])), (5, (0, 1, 24, [])), (6, (0, 1, 1, [])), (7, (0, 2, 25, [])), (8, (0, 2, 26, [])), (9, (0, -300000011, 221100000, [])), (11, (0, -300000000, 300000000, [])), (13, (0, 1, 1, [])), (14, (0, 2, 25, [])), (15, (0, -300000000, 300000000, [])), (17, (0, 1, 1, [])), (18, (0, 2, 25, [])), (19, (0, -300000000, 300000000, []))], [(20, [18, 19, 0, 4], [50, 2, 2, 2139, 2005, 2063, 2002, 4, 6, 1, 2, 1, 0, 0, 0, 1, 2, 1, 1, 3, 2, 63, 4, 7, 6, 2, 0, 24, 2, 2, 139, 3, 2, 2, 4, 7, 4, 3, 2, 2, 5, 0, 267, 1, 3]), (20, [18, 0, 4, 19], [50, 2, 3, 1139, 1005, 1064, 1063, 1002, 4, 22, 1, 2, 1, 0, 4, 14, 3, 1, 64, 4, 7, 6, 2, 0, 48, 2, 1, 139, 1, 2, 0, 1, 1, 2, 1, 3, 3, 1, 63, 4, 7, 6, 2, 0, 24, 2, 1, 139, 3, 1, 2, 4, 7, 4, 3, 2, 1, 5, 0, 315, 1, 2]), (20, [18, 0, 4, 19], [50, 1, 2, 1139, 1064, 1066, 3, 6, 1, 2, 1, 0, 0, 0, 3, 22, 1, 2, 1, 0, 4, 14, 3, 1, 64, 4, 7, 6, 2, 0, 48, 2, 1, 139, 1, 2, 0, 1, 1, 2, 1, 3, 3, 1, 66, 4, 15, 6, 2, 0, 24, 4, 7, 6, 2, 0, 48, 2, 1, 139, 1, 2, 5, 2, 1, 0, 0, 1]), (20, [18, 0, 4], [50, 1, 1, 1139, 1064, 0, 2, 1, 0, 4, 14, 3, 1, 64, 4, 7, 6, 2, 0, 48, 2, 1, 139, 1, 2, 0, 1]), (1, [18, 5, 17], []), (20, [0, 15], [30, 0, 1, 1, 153, -1, 0, 0]), (20, [15, 0], [30, 0, 1, 0, 0, -1, 1, 154]), (20, [14, 15, 0, 4], [50, 2, 2, 2139, 2005, 2062, 2002, 4, 6, 1, 2, 1, 0, 0, 0, 1, 2, 1, 1, 3, 2, 62, 4, 7, 6, 2, 0, 24, 2, 2, 139, 3, 2, 2, 4, 7, 4, 3, 2, 2, 5, 0, 267, 1, 3]), (20, [14, 0, 4, 15], [50, 2, 3, 1139, 1005, 1064, 1062, 1002, 4, 22, 1, 2, 1, 0, 4, 14, 3, 1, 64, 4, 7, 6, 2, 0, 48, 2, 1, 139, 1, 2, 0, 1, 1, 2, 1, 3, 3, 1, 62, 4, 7, 6, 2, 0, 24, 2, 1, 139, 3, 1, 2, 4, 7, 4, 3, 2, 1, 5, 0, 315, 1, 2]), (20, [14, 0, 4, 15], [50, 1, 2, 1139, 1064, 1065, 3, 6, 1, 2, 1, 0, 0, 0, 3, 22, 1, 2, 1, 0, 4, 14, 3, 1, 64, 4, 7, 6, 2, 0, 48, 2, 1, 139, 1, 2, 0, 1, 1, 2, 1, 3, 3, 1, 65, 4, 15, 6, 2, 0, 24, 4, 7, 6, 2, 0, 48, 2, 1, 139, 1, 2, 5, 2, 1, 0, 0, 1]), (20, [14, 0, 4], [50, 1, 1, 1139, 1064, 0, 2, 1, 0, 4, 14, 3, 1, 64, 4, 7, 6, 2, 0, 48, 2, 1, 139, 1, 2, 0, 1]), (1, [14, 5, 13], []), (20, [0, 11], [30, 0, 1, 1, 155, -1, 0, 0]), (20, [11, 0], [30, 0, 1, 0, 0, -1, 1, 156]), (20, [5, 11, 0, 4], [50, 2, 2, 2139, 2005, 2063, 2002, 4, 6, 1, 2, 1, 0, 0, 0, 1, 2, 1, 1, 3, 2, 63, 4, 7, 6, 2, 0, 24, 2, 2, 139, 3, 2, 2, 4, 7, 4, 3, 2, 2, 5, 0, 267, 1, 3]), (20, [5, 0, 4, 11], [50, 2, 3, 1139, 1005, 1064, 1063, 1002, 4, 22, 1, 2, 1, 0, 4, 14, 3, 1, 64, 4, 7, 6, 2, 0, 48, 2, 1, 139, 1, 2, 0, 1, 1, 2, 1, 3, 3, 1, 63, 4, 7, 6, 2, 0, 24, 2, 1, 139, 3, 1, 2, 4, 7, 4, 3, 2, 1, 5, 0, 315, 1, 2]), (20, [5, 0, 4, 11], [50, 1, 2, 1139, 1064, 1066, 3, 6, 1, 2, 1, 0, 0, 0, 3, 22, 1, 2, 1, 0, 4, 14, 3, 1, 64, 4, 7, 6, 2, 0, 48, 2, 1, 139, 1, 2, 0, 1, 1, 2, 1, 3, 3, 1, 66, 4, 15, 6, 2, 0, 24, 4, 7, 6, 2, 0, 48, 2, 1, 139, 1, 2, 5, 2, 1, 0, 0, 1]), (20, [0, 9], [30, 0, 1, 1, 153, -1, 0, 0]), (20, [9, 0], [30, 0, 1, 0, 0, -1, 1, 154]), (20, [5, 9, 0, 4], [50, 2, 2, 2139, 2005, 2062, 2002, 4, 6, 1, 2, 1, 0, 0, 0, 1, 2, 1, 1, 3, 2, 62, 4, 7, 6, 2, 0, 24, 2, 2, 139, 3, 2, 2, 4, 7, 4, 3, 2, 2, 5, 0, 267, 1, 3]), (20, [5, 0, 4, 9], [50, 2, 3, 1139, 1005, 1064, 1062, 1002, 4, 22, 1, 2, 1, 0, 4, 14, 3, 1, 64, 4, 7, 6, 2, 0, 48, 2, 1, 139, 1, 2, 0, 1, 1, 2, 1, 3, 3, 1, 62, 4, 7, 6, 2, 0, 24, 2, 1, 139, 3, 1, 2, 4, 7, 4, 3, 2, 1, 5, 0, 315, 1, 2]), (20, [5, 0, 4, 9], [50, 1, 2, 1139, 1064, 1065, 3, 6, 1, 2, 1, 0, 0, 0, 3, 22, 1, 2, 1, 0, 4, 14, 3, 1, 64, 4, 7, 6, 2, 0, 48, 2, 1, 139, 1, 2, 0, 1, 1, 2, 1, 3, 3, 1, 65, 4, 15, 6, 2, 0, 24, 4, 7, 6, 2, 0, 48, 2, 1, 139, 1, 2, 5, 2, 1, 0, 0, 1]), (20, [5, 0, 4], [50, 1, 1, 1139, 1064, 0, 2, 1, 0, 4, 14, 3, 1, 64, 4, 7, 6, 2, 0, 48, 2, 1, 139, 1, 2, 0, 1]), (7, [7, 8], [2]), (20, [8, 0, 4], [50, 1, 1, 1139, 1064, 1, 2, 1, 0, 4, 14, 3, 1, 64, 4, 7, 6, 2, 0, 48, 2, 1, 139, 1, 2, 0, 2]), (1, [7, 5, 6], []), (20, [0], [60, 6, 6, 945, 153, 154, 155, 156, 139, 5, 62, 63, 2, 64, 65, 66]), (20, [0], [30, -1, -1, 1, 173]), (20, [0], [30, 64, 1, 1, 173]), (20, [0], [30, -1, -1, 1, 174]), (20, [0], [30, 64, 1, 1, 174]), (20, [4, 0], [30, -1, 1, 0, 0, -1, 3, 2005001])], [], [], [(20, [0, 19], [30, 0, 1, 1, 155, -1, 0, 0]), (20, [19, 0], [30, 0, 1, 0, 0, -1, 1, 156])], [], [(18, 5, 1, 1), (14, 5, 1, 1), (7, 8, -4294967296, -1), (7, 5, 1, 1)])
theorem oo_Mo_dots_24 {kA : Nat → ClassId} : or_ok PRD kA GG o_Mo_dots_24 := by
  refine or_mk fun A ta ws vs hD hth hl => ?_
  intro t0 r0 t4 k4 t5 k5 t6 k6 t7 k7 t8 k8 t9 k9 t11 k11 t13 k13 t14 k14 t15 k15 t17 k17 t18 k18 t19 k19 d0 d1 d2 d3 f0 f1 f2 f3 f4 f5 f6 f7 f8 f9 f10 f11 f12 f13 f14 f15 f16 f17 f18 f19 f20 f21 f22 f23 f24 f25 f26 f27 f28 f29 f30 f31
  have cr_0_62 := fdq_173 hD hth r0
  have cr_0_63 := fdq_174 hD hth r0
  have cr_0_64 := fdq_171 hD hth r0
  have cr_0_65 := fdq_292 hD hth r0
  have cr_0_66 := fdq_293 hD hth r0
  have hK_0_62 := elq_102 hD hth cr_0_62
  have hK_0_63 := elq_103 hD hth cr_0_63
  have hK_0_64 := elq_101 hD hth cr_0_64
  have hK_0_65 := elq_184 hD hth cr_0_65
  have hK_0_66 := elq_185 hD hth cr_0_66
  have kz_0_139 := fdq_172 hD hth r0
  have kz_0_153 := fdq_14 hD hth r0
  have kz_0_154 := fdq_15 hD hth r0
  have kz_0_155 := fdq_17 hD hth r0
  have kz_0_156 := fdq_18 hD hth r0
  have kz_0_173 := fdq_16 hD hth r0
  have kz_0_174 := fdq_19 hD hth r0
  have nf0 : fc_1 PRD (20, [0, 19], [30, 0, 1, 1, 155, -1, 0, 0]) ws (vs) := ⟨nf_in hl rfl, sgq_153 (vc_Mo_dots_24_0 (v_iv (n_v vs 4)) (v_iv (n_v vs 5)) (v_iv (n_v vs 6)) (v_iv (n_v vs 7)) (v_iv (n_v vs 8)) (v_iv (n_v vs 9)) (v_iv (n_v vs 11)) (v_iv (n_v vs 13)) (v_iv (n_v vs 14)) (v_iv (n_v vs 15)) (v_iv (n_v vs 17)) (v_iv (n_v vs 18)) (v_iv (n_v vs 19)) (w_ei ws (w_ar ws (n_v vs 0) 63)) (w_ei ws (w_ar ws (n_v vs 0) 2)) (w_fi ws (n_v vs 0) 139) (w_fi ws (n_v vs 0) 5) (w_ei ws (w_ar ws (n_v vs 0) 64)) (w_ei ws (w_ar ws (n_v vs 0) 66)) (w_fi ws (n_v vs 0) 153) (w_fi ws (n_v vs 0) 154) (w_ei ws (w_ar ws (n_v vs 0) 62)) (w_ei ws (w_ar ws (n_v vs 0) 65)) (w_fi ws (n_v vs 0) 155) (w_fi ws (n_v vs 0) 156) (w_fi ws (n_v vs 0) 173) (w_fi ws (n_v vs 0) 174) k4 k5 k6 k7 k8 k9 k11 k13 k14 k15 k17 k18 k19 d0 d1 d2 d3 (shm_1427 f0) (shm_1428 f1) (shm_1429 f2) (shm_1421 f3) (shm_12 f4) (shm_146 f5) (shm_147 f6) (shm_1423 f7) (shm_1424 f8) (shm_1425 f9) (shm_1421 f10) (shm_12 f11) (shm_153 f12) (shm_154 f13) (shm_1427 f14) (shm_1428 f15) (shm_1429 f16) (shm_146 f17) (shm_147 f18) (shm_1423 f19) (shm_1424 f20) (shm_1425 f21) (shm_1421 f22) (shm_6 f23) (shm_683 f24) (shm_12 f25) (shm_1845 f26) (shm_148 f27) (shm_149 f28) (shm_155 f29) (shm_156 f30) (shm_979 f31) hK_0_62 hK_0_63 hK_0_64 hK_0_65 hK_0_66 kz_0_139 kz_0_153 kz_0_154 kz_0_155 kz_0_156 kz_0_173 kz_0_174)⟩
  have nf1 : fc_1 PRD (20, [19, 0], [30, 0, 1, 0, 0, -1, 1, 156]) ws (vs) := ⟨nf_in hl rfl, sgq_154 (vc_Mo_dots_24_1 (v_iv (n_v vs 4)) (v_iv (n_v vs 5)) (v_iv (n_v vs 6)) (v_iv (n_v vs 7)) (v_iv (n_v vs 8)) (v_iv (n_v vs 9)) (v_iv (n_v vs 11)) (v_iv (n_v vs 13)) (v_iv (n_v vs 14)) (v_iv (n_v vs 15)) (v_iv (n_v vs 17)) (v_iv (n_v vs 18)) (v_iv (n_v vs 19)) (w_ei ws (w_ar ws (n_v vs 0) 63)) (w_ei ws (w_ar ws (n_v vs 0) 2)) (w_fi ws (n_v vs 0) 139) (w_fi ws (n_v vs 0) 5) (w_ei ws (w_ar ws (n_v vs 0) 64)) (w_ei ws (w_ar ws (n_v vs 0) 66)) (w_fi ws (n_v vs 0) 153) (w_fi ws (n_v vs 0) 154) (w_ei ws (w_ar ws (n_v vs 0) 62)) (w_ei ws (w_ar ws (n_v vs 0) 65)) (w_fi ws (n_v vs 0) 155) (w_fi ws (n_v vs 0) 156) (w_fi ws (n_v vs 0) 173) (w_fi ws (n_v vs 0) 174) k4 k5 k6 k7 k8 k9 k11 k13 k14 k15 k17 k18 k19 d0 d1 d2 d3 (shm_1427 f0) (shm_1428 f1) (shm_1429 f2) (shm_1421 f3) (shm_12 f4) (shm_146 f5) (shm_147 f6) (shm_1423 f7) (shm_1424 f8) (shm_1425 f9) (shm_1421 f10) (shm_12 f11) (shm_153 f12) (shm_154 f13) (shm_1427 f14) (shm_1428 f15) (shm_1429 f16) (shm_146 f17) (shm_147 f18) (shm_1423 f19) (shm_1424 f20) (shm_1425 f21) (shm_1421 f22) (shm_6 f23) (shm_683 f24) (shm_12 f25) (shm_1845 f26) (shm_148 f27) (shm_149 f28) (shm_155 f29) (shm_156 f30) (shm_979 f31) hK_0_62 hK_0_63 hK_0_64 hK_0_65 hK_0_66 kz_0_139 kz_0_153 kz_0_154 kz_0_155 kz_0_156 kz_0_173 kz_0_174)⟩
  refine ⟨(fun _ h => (by cases h)), [], trivial, ?_, (fun _ h => (by cases h))⟩
  rw [List.append_nil]
  exact List.forall_mem_cons.mpr ⟨⟨show (20 : Nat) < 100 from by decide, nf0⟩, List.forall_mem_cons.mpr ⟨⟨show (20 : Nat) < 100 from by decide, nf1⟩, (fun _ h => (by cases h))⟩⟩
set_option maxHeartbeats 4000000 in
theorem vc_Mo_dots_25_0 (x4 : Int) (x5 : Int) (x6 : Int) (x7 : Int) (x8 : Int) (x9 : Int) (nodeX_0 : Int → Int) (all_0 : Int → Int) (g0_0 : Int) (r_0 : Int) (bendMany_0 : Int → Int) (bendX_0 : Int → Int) (nodeY_0 : Int → Int) (bendY_0 : Int → Int) (leastX_0 : Int) (mostX_0 : Int) (leastY_0 : Int) (mostY_0 : Int) (dotWide_0 : Int) (dotTall_0 : Int) (k4 : 0 ≤ x4 ∧ x4 ≤ 47) (k5 : 1 ≤ x5 ∧ x5 ≤ 24) (k6 : 1 ≤ x6 ∧ x6 ≤ 1) (k7 : 2 ≤ x7 ∧ x7 ≤ 25) (k8 : 2 ≤ x8 ∧ x8 ≤ 26) (k9 : (-300000000) ≤ x9 ∧ x9 ≤ 300000000) (d0 : x8 + (-4294967296) ≤ x7 ∧ x7 ≤ x8 + (-1)) (d1 : x5 + 1 ≤ x7 ∧ x7 ≤ x5 + 1) (f0 : (x5 = 0) → (x9 = nodeX_0 (((24 * g0_0) + all_0 (((r_0 + 267) + x4)))))) (f1 : (x5 = (bendMany_0 (((48 * g0_0) + x4)) + 1)) → (x9 = nodeX_0 (((24 * g0_0) + all_0 (((r_0 + 315) + x4)))))) (f2 : (x5 = 0) ∨ ((x5 = (bendMany_0 (((48 * g0_0) + x4)) + 1)) ∨ (x9 = bendX_0 (((24 * ((48 * g0_0) + x4)) + (x5 - 1)))))) (f3 : x5 ≤ (bendMany_0 (((48 * g0_0) + x4)) + 1)) (f4 : x7 < x8) (f5 : x8 = (bendMany_0 (((48 * g0_0) + x4)) + 2)) (f6 : x7 = x5 + x6) (f7 : BNA (leastX_0) (mostX_0) (leastY_0) (mostY_0) (g0_0) (r_0) (nodeX_0) (nodeY_0) (all_0) (bendMany_0) (bendX_0) (bendY_0)) (f8 : (-1) * dotWide_0 + 0 ≤ (-1)) (f9 : 1 * dotWide_0 + 0 ≤ 64) (f10 : (-1) * dotTall_0 + 0 ≤ (-1)) (f11 : 1 * dotTall_0 + 0 ≤ 64) (f12 : 1 * x4 + ((-1) * all_0 (r_0 + 1) + 0) ≤ (-1)) (hK_0_62 : ∀ j : Int, 0 ≤ j → j < 96 → (-300000000) ≤ nodeX_0 j ∧ nodeX_0 j ≤ 300000000) (hK_0_63 : ∀ j : Int, 0 ≤ j → j < 96 → (-300000000) ≤ nodeY_0 j ∧ nodeY_0 j ≤ 300000000) (hK_0_64 : ∀ j : Int, 0 ≤ j → j < 192 → 0 ≤ bendMany_0 j ∧ bendMany_0 j ≤ 24) (hK_0_65 : ∀ j : Int, 0 ≤ j → j < 4608 → (-300000011) ≤ bendX_0 j ∧ bendX_0 j ≤ 221100000) (hK_0_66 : ∀ j : Int, 0 ≤ j → j < 4608 → (-900000000) ≤ bendY_0 j ∧ bendY_0 j ≤ 900000000) (kz_0_139 : 0 ≤ g0_0 ∧ g0_0 ≤ 3) (kz_0_153 : (-2147483648) ≤ leastX_0 ∧ leastX_0 ≤ 300000000) (kz_0_154 : (-900000000) ≤ mostX_0 ∧ mostX_0 ≤ 2147483647) (kz_0_155 : (-2147483648) ≤ leastY_0 ∧ leastY_0 ≤ 300000000) (kz_0_156 : (-900000000) ≤ mostY_0 ∧ mostY_0 ≤ 2147483647) (kz_0_173 : 0 ≤ dotWide_0 ∧ dotWide_0 ≤ 64) (kz_0_174 : 0 ≤ dotTall_0 ∧ dotTall_0 ≤ 64) : 1 * leastX_0 + ((-1) * x9 + 0) ≤ 0 := by
  first
    | assumption
    | (clear f0 f1 f2 hK_0_62 hK_0_63 hK_0_64 hK_0_65 hK_0_66; omega)
    | exact (bna_x ‹BNA _ _ _ _ _ _ _ _ _ _ _ _› (by assumption) (by assumption) (by assumption) (by assumption) (by assumption) (by assumption) (by assumption) (by omega) (by omega)).1
    | exact (bna_x ‹BNA _ _ _ _ _ _ _ _ _ _ _ _› (by assumption) (by assumption) (by assumption) (by assumption) (by assumption) (by assumption) (by assumption) (by omega) (by omega)).2
    | exact (bna_y ‹BNA _ _ _ _ _ _ _ _ _ _ _ _› (by assumption) (by assumption) (by assumption) (by assumption) (by assumption) (by assumption) (by assumption) (by omega) (by omega)).1
    | exact (bna_y ‹BNA _ _ _ _ _ _ _ _ _ _ _ _› (by assumption) (by assumption) (by assumption) (by assumption) (by assumption) (by assumption) (by assumption) (by omega) (by omega)).2
    | exact (bna_nx ‹BNA _ _ _ _ _ _ _ _ _ _ _ _› (by assumption) (by clear f0 f1 f2 hK_0_62 hK_0_63 hK_0_64 hK_0_65 hK_0_66; omega) (by clear f0 f1 f2 hK_0_62 hK_0_63 hK_0_64 hK_0_65 hK_0_66; omega)).1
    | exact (bna_nx ‹BNA _ _ _ _ _ _ _ _ _ _ _ _› (by assumption) (by clear f0 f1 f2 hK_0_62 hK_0_63 hK_0_64 hK_0_65 hK_0_66; omega) (by clear f0 f1 f2 hK_0_62 hK_0_63 hK_0_64 hK_0_65 hK_0_66; omega)).2
    | exact (bna_ny ‹BNA _ _ _ _ _ _ _ _ _ _ _ _› (by assumption) (by clear f0 f1 f2 hK_0_62 hK_0_63 hK_0_64 hK_0_65 hK_0_66; omega) (by clear f0 f1 f2 hK_0_62 hK_0_63 hK_0_64 hK_0_65 hK_0_66; omega)).1
    | exact (bna_ny ‹BNA _ _ _ _ _ _ _ _ _ _ _ _› (by assumption) (by clear f0 f1 f2 hK_0_62 hK_0_63 hK_0_64 hK_0_65 hK_0_66; omega) (by clear f0 f1 f2 hK_0_62 hK_0_63 hK_0_64 hK_0_65 hK_0_66; omega)).2
    | omega
set_option maxHeartbeats 4000000 in
theorem vc_Mo_dots_25_1 (x4 : Int) (x5 : Int) (x6 : Int) (x7 : Int) (x8 : Int) (x9 : Int) (nodeX_0 : Int → Int) (all_0 : Int → Int) (g0_0 : Int) (r_0 : Int) (bendMany_0 : Int → Int) (bendX_0 : Int → Int) (nodeY_0 : Int → Int) (bendY_0 : Int → Int) (leastX_0 : Int) (mostX_0 : Int) (leastY_0 : Int) (mostY_0 : Int) (dotWide_0 : Int) (dotTall_0 : Int) (k4 : 0 ≤ x4 ∧ x4 ≤ 47) (k5 : 1 ≤ x5 ∧ x5 ≤ 24) (k6 : 1 ≤ x6 ∧ x6 ≤ 1) (k7 : 2 ≤ x7 ∧ x7 ≤ 25) (k8 : 2 ≤ x8 ∧ x8 ≤ 26) (k9 : (-300000000) ≤ x9 ∧ x9 ≤ 300000000) (d0 : x8 + (-4294967296) ≤ x7 ∧ x7 ≤ x8 + (-1)) (d1 : x5 + 1 ≤ x7 ∧ x7 ≤ x5 + 1) (f0 : (x5 = 0) → (x9 = nodeX_0 (((24 * g0_0) + all_0 (((r_0 + 267) + x4)))))) (f1 : (x5 = (bendMany_0 (((48 * g0_0) + x4)) + 1)) → (x9 = nodeX_0 (((24 * g0_0) + all_0 (((r_0 + 315) + x4)))))) (f2 : (x5 = 0) ∨ ((x5 = (bendMany_0 (((48 * g0_0) + x4)) + 1)) ∨ (x9 = bendX_0 (((24 * ((48 * g0_0) + x4)) + (x5 - 1)))))) (f3 : x5 ≤ (bendMany_0 (((48 * g0_0) + x4)) + 1)) (f4 : x7 < x8) (f5 : x8 = (bendMany_0 (((48 * g0_0) + x4)) + 2)) (f6 : x7 = x5 + x6) (f7 : BNA (leastX_0) (mostX_0) (leastY_0) (mostY_0) (g0_0) (r_0) (nodeX_0) (nodeY_0) (all_0) (bendMany_0) (bendX_0) (bendY_0)) (f8 : (-1) * dotWide_0 + 0 ≤ (-1)) (f9 : 1 * dotWide_0 + 0 ≤ 64) (f10 : (-1) * dotTall_0 + 0 ≤ (-1)) (f11 : 1 * dotTall_0 + 0 ≤ 64) (f12 : 1 * x4 + ((-1) * all_0 (r_0 + 1) + 0) ≤ (-1)) (hK_0_62 : ∀ j : Int, 0 ≤ j → j < 96 → (-300000000) ≤ nodeX_0 j ∧ nodeX_0 j ≤ 300000000) (hK_0_63 : ∀ j : Int, 0 ≤ j → j < 96 → (-300000000) ≤ nodeY_0 j ∧ nodeY_0 j ≤ 300000000) (hK_0_64 : ∀ j : Int, 0 ≤ j → j < 192 → 0 ≤ bendMany_0 j ∧ bendMany_0 j ≤ 24) (hK_0_65 : ∀ j : Int, 0 ≤ j → j < 4608 → (-300000011) ≤ bendX_0 j ∧ bendX_0 j ≤ 221100000) (hK_0_66 : ∀ j : Int, 0 ≤ j → j < 4608 → (-900000000) ≤ bendY_0 j ∧ bendY_0 j ≤ 900000000) (kz_0_139 : 0 ≤ g0_0 ∧ g0_0 ≤ 3) (kz_0_153 : (-2147483648) ≤ leastX_0 ∧ leastX_0 ≤ 300000000) (kz_0_154 : (-900000000) ≤ mostX_0 ∧ mostX_0 ≤ 2147483647) (kz_0_155 : (-2147483648) ≤ leastY_0 ∧ leastY_0 ≤ 300000000) (kz_0_156 : (-900000000) ≤ mostY_0 ∧ mostY_0 ≤ 2147483647) (kz_0_173 : 0 ≤ dotWide_0 ∧ dotWide_0 ≤ 64) (kz_0_174 : 0 ≤ dotTall_0 ∧ dotTall_0 ≤ 64) : 1 * x9 + ((-1) * mostX_0 + 0) ≤ 0 := by
  first
    | assumption
    | (clear f0 f1 f2 hK_0_62 hK_0_63 hK_0_64 hK_0_65 hK_0_66; omega)
    | exact (bna_x ‹BNA _ _ _ _ _ _ _ _ _ _ _ _› (by assumption) (by assumption) (by assumption) (by assumption) (by assumption) (by assumption) (by assumption) (by omega) (by omega)).1
    | exact (bna_x ‹BNA _ _ _ _ _ _ _ _ _ _ _ _› (by assumption) (by assumption) (by assumption) (by assumption) (by assumption) (by assumption) (by assumption) (by omega) (by omega)).2
    | exact (bna_y ‹BNA _ _ _ _ _ _ _ _ _ _ _ _› (by assumption) (by assumption) (by assumption) (by assumption) (by assumption) (by assumption) (by assumption) (by omega) (by omega)).1
    | exact (bna_y ‹BNA _ _ _ _ _ _ _ _ _ _ _ _› (by assumption) (by assumption) (by assumption) (by assumption) (by assumption) (by assumption) (by assumption) (by omega) (by omega)).2
    | exact (bna_nx ‹BNA _ _ _ _ _ _ _ _ _ _ _ _› (by assumption) (by clear f0 f1 f2 hK_0_62 hK_0_63 hK_0_64 hK_0_65 hK_0_66; omega) (by clear f0 f1 f2 hK_0_62 hK_0_63 hK_0_64 hK_0_65 hK_0_66; omega)).1
    | exact (bna_nx ‹BNA _ _ _ _ _ _ _ _ _ _ _ _› (by assumption) (by clear f0 f1 f2 hK_0_62 hK_0_63 hK_0_64 hK_0_65 hK_0_66; omega) (by clear f0 f1 f2 hK_0_62 hK_0_63 hK_0_64 hK_0_65 hK_0_66; omega)).2
    | exact (bna_ny ‹BNA _ _ _ _ _ _ _ _ _ _ _ _› (by assumption) (by clear f0 f1 f2 hK_0_62 hK_0_63 hK_0_64 hK_0_65 hK_0_66; omega) (by clear f0 f1 f2 hK_0_62 hK_0_63 hK_0_64 hK_0_65 hK_0_66; omega)).1
    | exact (bna_ny ‹BNA _ _ _ _ _ _ _ _ _ _ _ _› (by assumption) (by clear f0 f1 f2 hK_0_62 hK_0_63 hK_0_64 hK_0_65 hK_0_66; omega) (by clear f0 f1 f2 hK_0_62 hK_0_63 hK_0_64 hK_0_65 hK_0_66; omega)).2
    | omega
def o_Mo_dots_25 : or_T := (107, 10, [(0, (2, 0, 0, [165])), (4, (0, 0, 47, [])), (5, (0, 1, 24, [])), (6, (0, 1, 1, [])), (7, (0, 2, 25, [])), (8, (0, 2, 26, [])), (9, (0, -300000000, 300000000, []))], [(20, [5, 9, 0, 4], [50, 2, 2, 2139, 2005, 2062, 2002, 4, 6, 1, 2, 1, 0, 0, 0, 1, 2, 1, 1, 3, 2, 62, 4, 7, 6, 2, 0, 24, 2, 2, 139, 3, 2, 2, 4, 7, 4, 3, 2, 2, 5, 0, 267, 1, 3]), (20, [5, 0, 4, 9], [50, 2, 3, 1139, 1005, 1064, 1062, 1002, 4, 22, 1, 2, 1, 0, 4, 14, 3, 1, 64, 4, 7, 6, 2, 0, 48, 2, 1, 139, 1, 2, 0, 1, 1, 2, 1, 3, 3, 1, 62, 4, 7, 6, 2, 0, 24, 2, 1, 139, 3, 1, 2, 4, 7, 4, 3, 2, 1, 5, 0, 315, 1, 2]), (20, [5, 0, 4, 9], [50, 1, 2, 1139, 1064, 1065, 3, 6, 1, 2, 1, 0, 0, 0, 3, 22, 1, 2, 1, 0, 4, 14, 3, 1, 64, 4, 7, 6, 2, 0, 48, 2, 1, 139, 1, 2, 0, 1, 1, 2, 1, 3, 3, 1, 65, 4, 15, 6, 2, 0, 24, 4, 7, 6, 2, 0, 48, 2, 1, 139, 1, 2, 5, 2, 1, 0, 0, 1]), (20, [5, 0, 4], [50, 1, 1, 1139, 1064, 0, 2, 1, 0, 4, 14, 3, 1, 64, 4, 7, 6, 2, 0, 48, 2, 1, 139, 1, 2, 0, 1]), (7, [7, 8], [2]), (20, [8, 0, 4], [50, 1, 1, 1139, 1064, 1, 2, 1, 0, 4, 14, 3, 1, 64, 4, 7, 6, 2, 0, 48, 2, 1, 139, 1, 2, 0, 2]), (1, [7, 5, 6], []), (20, [0], [60, 6, 6, 945, 153, 154, 155, 156, 139, 5, 62, 63, 2, 64, 65, 66]), (20, [0], [30, -1, -1, 1, 173]), (20, [0], [30, 64, 1, 1, 173]), (20, [0], [30, -1, -1, 1, 174]), (20, [0], [30, 64, 1, 1, 174]), (20, [4, 0], [30, -1, 1, 0, 0, -1, 3, 2005001])], [], [], [(20, [0, 9], [30, 0, 1, 1, 153, -1, 0, 0]), (20, [9, 0], [30, 0, 1, 0, 0, -1, 1, 154])], [], [(7, 8, -4294967296, -1), (7, 5, 1, 1)])
theorem oo_Mo_dots_25 {kA : Nat → ClassId} : or_ok PRD kA GG o_Mo_dots_25 := by
  refine or_mk fun A ta ws vs hD hth hl => ?_
  intro t0 r0 t4 k4 t5 k5 t6 k6 t7 k7 t8 k8 t9 k9 d0 d1 f0 f1 f2 f3 f4 f5 f6 f7 f8 f9 f10 f11 f12
  have cr_0_62 := fdq_173 hD hth r0
  have cr_0_63 := fdq_174 hD hth r0
  have cr_0_64 := fdq_171 hD hth r0
  have cr_0_65 := fdq_292 hD hth r0
  have cr_0_66 := fdq_293 hD hth r0
  have hK_0_62 := elq_102 hD hth cr_0_62
  have hK_0_63 := elq_103 hD hth cr_0_63
  have hK_0_64 := elq_101 hD hth cr_0_64
  have hK_0_65 := elq_184 hD hth cr_0_65
  have hK_0_66 := elq_185 hD hth cr_0_66
  have kz_0_139 := fdq_172 hD hth r0
  have kz_0_153 := fdq_14 hD hth r0
  have kz_0_154 := fdq_15 hD hth r0
  have kz_0_155 := fdq_17 hD hth r0
  have kz_0_156 := fdq_18 hD hth r0
  have kz_0_173 := fdq_16 hD hth r0
  have kz_0_174 := fdq_19 hD hth r0
  have nf0 : fc_1 PRD (20, [0, 9], [30, 0, 1, 1, 153, -1, 0, 0]) ws (vs) := ⟨nf_in hl rfl, sgq_146 (vc_Mo_dots_25_0 (v_iv (n_v vs 4)) (v_iv (n_v vs 5)) (v_iv (n_v vs 6)) (v_iv (n_v vs 7)) (v_iv (n_v vs 8)) (v_iv (n_v vs 9)) (w_ei ws (w_ar ws (n_v vs 0) 62)) (w_ei ws (w_ar ws (n_v vs 0) 2)) (w_fi ws (n_v vs 0) 139) (w_fi ws (n_v vs 0) 5) (w_ei ws (w_ar ws (n_v vs 0) 64)) (w_ei ws (w_ar ws (n_v vs 0) 65)) (w_ei ws (w_ar ws (n_v vs 0) 63)) (w_ei ws (w_ar ws (n_v vs 0) 66)) (w_fi ws (n_v vs 0) 153) (w_fi ws (n_v vs 0) 154) (w_fi ws (n_v vs 0) 155) (w_fi ws (n_v vs 0) 156) (w_fi ws (n_v vs 0) 173) (w_fi ws (n_v vs 0) 174) k4 k5 k6 k7 k8 k9 d0 d1 (shm_1423 f0) (shm_1424 f1) (shm_1425 f2) (shm_1421 f3) (shm_6 f4) (shm_683 f5) (shm_12 f6) (shm_1845 f7) (shm_148 f8) (shm_149 f9) (shm_155 f10) (shm_156 f11) (shm_979 f12) hK_0_62 hK_0_63 hK_0_64 hK_0_65 hK_0_66 kz_0_139 kz_0_153 kz_0_154 kz_0_155 kz_0_156 kz_0_173 kz_0_174)⟩
  have nf1 : fc_1 PRD (20, [9, 0], [30, 0, 1, 0, 0, -1, 1, 154]) ws (vs) := ⟨nf_in hl rfl, sgq_147 (vc_Mo_dots_25_1 (v_iv (n_v vs 4)) (v_iv (n_v vs 5)) (v_iv (n_v vs 6)) (v_iv (n_v vs 7)) (v_iv (n_v vs 8)) (v_iv (n_v vs 9)) (w_ei ws (w_ar ws (n_v vs 0) 62)) (w_ei ws (w_ar ws (n_v vs 0) 2)) (w_fi ws (n_v vs 0) 139) (w_fi ws (n_v vs 0) 5) (w_ei ws (w_ar ws (n_v vs 0) 64)) (w_ei ws (w_ar ws (n_v vs 0) 65)) (w_ei ws (w_ar ws (n_v vs 0) 63)) (w_ei ws (w_ar ws (n_v vs 0) 66)) (w_fi ws (n_v vs 0) 153) (w_fi ws (n_v vs 0) 154) (w_fi ws (n_v vs 0) 155) (w_fi ws (n_v vs 0) 156) (w_fi ws (n_v vs 0) 173) (w_fi ws (n_v vs 0) 174) k4 k5 k6 k7 k8 k9 d0 d1 (shm_1423 f0) (shm_1424 f1) (shm_1425 f2) (shm_1421 f3) (shm_6 f4) (shm_683 f5) (shm_12 f6) (shm_1845 f7) (shm_148 f8) (shm_149 f9) (shm_155 f10) (shm_156 f11) (shm_979 f12) hK_0_62 hK_0_63 hK_0_64 hK_0_65 hK_0_66 kz_0_139 kz_0_153 kz_0_154 kz_0_155 kz_0_156 kz_0_173 kz_0_174)⟩
  refine ⟨(fun _ h => (by cases h)), [], trivial, ?_, (fun _ h => (by cases h))⟩
  rw [List.append_nil]
  exact List.forall_mem_cons.mpr ⟨⟨show (20 : Nat) < 100 from by decide, nf0⟩, List.forall_mem_cons.mpr ⟨⟨show (20 : Nat) < 100 from by decide, nf1⟩, (fun _ h => (by cases h))⟩⟩
set_option maxHeartbeats 4000000 in
theorem vc_Mo_dots_26_0 (x4 : Int) (x5 : Int) (x6 : Int) (x7 : Int) (x8 : Int) (x9 : Int) (x11 : Int) (nodeY_0 : Int → Int) (all_0 : Int → Int) (g0_0 : Int) (r_0 : Int) (bendMany_0 : Int → Int) (bendY_0 : Int → Int) (leastX_0 : Int) (mostX_0 : Int) (nodeX_0 : Int → Int) (bendX_0 : Int → Int) (leastY_0 : Int) (mostY_0 : Int) (dotWide_0 : Int) (dotTall_0 : Int) (k4 : 0 ≤ x4 ∧ x4 ≤ 47) (k5 : 1 ≤ x5 ∧ x5 ≤ 24) (k6 : 1 ≤ x6 ∧ x6 ≤ 1) (k7 : 2 ≤ x7 ∧ x7 ≤ 25) (k8 : 2 ≤ x8 ∧ x8 ≤ 26) (k9 : (-300000000) ≤ x9 ∧ x9 ≤ 300000000) (k11 : (-900000000) ≤ x11 ∧ x11 ≤ 900000000) (d0 : x8 + (-4294967296) ≤ x7 ∧ x7 ≤ x8 + (-1)) (d1 : x5 + 1 ≤ x7 ∧ x7 ≤ x5 + 1) (f0 : (x5 = 0) → (x11 = nodeY_0 (((24 * g0_0) + all_0 (((r_0 + 267) + x4)))))) (f1 : (x5 = (bendMany_0 (((48 * g0_0) + x4)) + 1)) → (x11 = nodeY_0 (((24 * g0_0) + all_0 (((r_0 + 315) + x4)))))) (f2 : (x5 = 0) ∨ ((x5 = (bendMany_0 (((48 * g0_0) + x4)) + 1)) ∨ (x11 = bendY_0 (((24 * ((48 * g0_0) + x4)) + (x5 - 1)))))) (f3 : 1 * leastX_0 + ((-1) * x9 + 0) ≤ 0) (f4 : 1 * x9 + ((-1) * mostX_0 + 0) ≤ 0) (f5 : (x5 = 0) → (x9 = nodeX_0 (((24 * g0_0) + all_0 (((r_0 + 267) + x4)))))) (f6 : (x5 = (bendMany_0 (((48 * g0_0) + x4)) + 1)) → (x9 = nodeX_0 (((24 * g0_0) + all_0 (((r_0 + 315) + x4)))))) (f7 : (x5 = 0) ∨ ((x5 = (bendMany_0 (((48 * g0_0) + x4)) + 1)) ∨ (x9 = bendX_0 (((24 * ((48 * g0_0) + x4)) + (x5 - 1)))))) (f8 : x5 ≤ (bendMany_0 (((48 * g0_0) + x4)) + 1)) (f9 : x7 < x8) (f10 : x8 = (bendMany_0 (((48 * g0_0) + x4)) + 2)) (f11 : x7 = x5 + x6) (f12 : BNA (leastX_0) (mostX_0) (leastY_0) (mostY_0) (g0_0) (r_0) (nodeX_0) (nodeY_0) (all_0) (bendMany_0) (bendX_0) (bendY_0)) (f13 : (-1) * dotWide_0 + 0 ≤ (-1)) (f14 : 1 * dotWide_0 + 0 ≤ 64) (f15 : (-1) * dotTall_0 + 0 ≤ (-1)) (f16 : 1 * dotTall_0 + 0 ≤ 64) (f17 : 1 * x4 + ((-1) * all_0 (r_0 + 1) + 0) ≤ (-1)) (hK_0_62 : ∀ j : Int, 0 ≤ j → j < 96 → (-300000000) ≤ nodeX_0 j ∧ nodeX_0 j ≤ 300000000) (hK_0_63 : ∀ j : Int, 0 ≤ j → j < 96 → (-300000000) ≤ nodeY_0 j ∧ nodeY_0 j ≤ 300000000) (hK_0_64 : ∀ j : Int, 0 ≤ j → j < 192 → 0 ≤ bendMany_0 j ∧ bendMany_0 j ≤ 24) (hK_0_65 : ∀ j : Int, 0 ≤ j → j < 4608 → (-300000011) ≤ bendX_0 j ∧ bendX_0 j ≤ 221100000) (hK_0_66 : ∀ j : Int, 0 ≤ j → j < 4608 → (-900000000) ≤ bendY_0 j ∧ bendY_0 j ≤ 900000000) (kz_0_139 : 0 ≤ g0_0 ∧ g0_0 ≤ 3) (kz_0_153 : (-2147483648) ≤ leastX_0 ∧ leastX_0 ≤ 300000000) (kz_0_154 : (-900000000) ≤ mostX_0 ∧ mostX_0 ≤ 2147483647) (kz_0_155 : (-2147483648) ≤ leastY_0 ∧ leastY_0 ≤ 300000000) (kz_0_156 : (-900000000) ≤ mostY_0 ∧ mostY_0 ≤ 2147483647) (kz_0_173 : 0 ≤ dotWide_0 ∧ dotWide_0 ≤ 64) (kz_0_174 : 0 ≤ dotTall_0 ∧ dotTall_0 ≤ 64) : 1 * leastY_0 + ((-1) * x11 + 0) ≤ 0 := by
  first
    | assumption
    | (clear f0 f1 f2 f5 f6 f7 hK_0_62 hK_0_63 hK_0_64 hK_0_65 hK_0_66; omega)
    | exact (bna_x ‹BNA _ _ _ _ _ _ _ _ _ _ _ _› (by assumption) (by assumption) (by assumption) (by assumption) (by assumption) (by assumption) (by assumption) (by omega) (by omega)).1
    | exact (bna_x ‹BNA _ _ _ _ _ _ _ _ _ _ _ _› (by assumption) (by assumption) (by assumption) (by assumption) (by assumption) (by assumption) (by assumption) (by omega) (by omega)).2
    | exact (bna_y ‹BNA _ _ _ _ _ _ _ _ _ _ _ _› (by assumption) (by assumption) (by assumption) (by assumption) (by assumption) (by assumption) (by assumption) (by omega) (by omega)).1
    | exact (bna_y ‹BNA _ _ _ _ _ _ _ _ _ _ _ _› (by assumption) (by assumption) (by assumption) (by assumption) (by assumption) (by assumption) (by assumption) (by omega) (by omega)).2
    | exact (bna_nx ‹BNA _ _ _ _ _ _ _ _ _ _ _ _› (by assumption) (by clear f0 f1 f2 f5 f6 f7 hK_0_62 hK_0_63 hK_0_64 hK_0_65 hK_0_66; omega) (by clear f0 f1 f2 f5 f6 f7 hK_0_62 hK_0_63 hK_0_64 hK_0_65 hK_0_66; omega)).1
    | exact (bna_nx ‹BNA _ _ _ _ _ _ _ _ _ _ _ _› (by assumption) (by clear f0 f1 f2 f5 f6 f7 hK_0_62 hK_0_63 hK_0_64 hK_0_65 hK_0_66; omega) (by clear f0 f1 f2 f5 f6 f7 hK_0_62 hK_0_63 hK_0_64 hK_0_65 hK_0_66; omega)).2
    | exact (bna_ny ‹BNA _ _ _ _ _ _ _ _ _ _ _ _› (by assumption) (by clear f0 f1 f2 f5 f6 f7 hK_0_62 hK_0_63 hK_0_64 hK_0_65 hK_0_66; omega) (by clear f0 f1 f2 f5 f6 f7 hK_0_62 hK_0_63 hK_0_64 hK_0_65 hK_0_66; omega)).1
    | exact (bna_ny ‹BNA _ _ _ _ _ _ _ _ _ _ _ _› (by assumption) (by clear f0 f1 f2 f5 f6 f7 hK_0_62 hK_0_63 hK_0_64 hK_0_65 hK_0_66; omega) (by clear f0 f1 f2 f5 f6 f7 hK_0_62 hK_0_63 hK_0_64 hK_0_65 hK_0_66; omega)).2
    | omega
