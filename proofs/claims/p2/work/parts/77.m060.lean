set_option maxHeartbeats 4000000 in
theorem vc_Mo_item_at_k0_8_5 (x3 : Int) (x13 : Int) (x14 : Int) (x16 : Int) (fault_0 : Int) (r_0 : Int) (pos_0 : Int) (kind_0 : Int) (gx : Int) (k3 : 0 ≤ x3 ∧ x3 ≤ 2000) (k13 : 0 ≤ x13 ∧ x13 ≤ 2000) (k14 : (-1) ≤ x14 ∧ x14 ≤ 48) (k16 : 0 ≤ x16 ∧ x16 ≤ 0) (g2 : x16 = fault_0) (f3 : 1 * x13 + ((-1) * x3 + 0) ≤ 0) (f4 : (-1) * x13 + (1 * x3 + 0) ≤ 0) (f15 : 1 * x13 + ((-1) * pos_0 + 0) ≤ 0) (f16 : (1 ≤ fault_0) ∨ ((kind_0 = 0) ∨ ((x13 + 1) ≤ pos_0))) (f17 : (1 ≤ fault_0) ∨ (0 ≤ x14)) (kz_0_8 : 0 ≤ fault_0 ∧ fault_0 ≤ 5) (kz_0_11 : 0 ≤ pos_0 ∧ pos_0 ≤ 2000) (kz_0_12 : 0 ≤ kind_0 ∧ kind_0 ≤ 4) (ex2 : gx = x3) : (1 ≤ fault_0) ∨ ((kind_0 = 0) ∨ ((gx + 1) ≤ pos_0)) := by
  first
    | omega
    | (have q1 := (hE_0_2_1 (r_0 + 2) (by omega)).2 (by omega)
       have q2 := (hE_0_2_2 (r_0 + 2) (by omega)).2 (by omega)
       omega)
    | (have q1 := (hE_0_2_1 (r_0 + 1) (by omega)).2 (by omega)
       have q2 := (hE_0_2_2 (r_0 + 1) (by omega)).2 (by omega)
       omega)
    | (have q1 := (hE_0_2_1 (r_0 + 2) (by omega)).2 (by omega)
       omega)
    | (have q1 := (hE_0_2_1 (r_0 + 1) (by omega)).2 (by omega)
       omega)
    | (have q1 := (hE_0_2_1 (r_0 + 2) (by omega)).2 (by omega)
       have q2 := (hE_0_2_2 (r_0 + 2) (by omega)).2 (by omega)
       have q3 := (hE_0_2_3 (r_0 + 2) (by omega)).1 (by omega)
       omega)
    | (have q1 := (hE_0_2_1 (r_0 + 2) (by omega)).2 (by omega)
       have q2 := (hE_0_2_2 (r_0 + 2) (by omega)).2 (by omega)
       have q3 := (hE_0_2_3 (r_0 + 2) (by omega)).2 (by omega)
       omega)
def o_Mo_item_at_k0_8 : or_T := (64, 18, [(0, (2, 0, 0, [165])), (1, (0, 0, 0, [])), (3, (0, 0, 2000, [])), (6, (0, 0, 2000, [])), (8, (0, 0, 2000, [])), (10, (0, -1, 23, [])), (12, (0, 99, 99, [])), (13, (0, 0, 2000, [])), (14, (0, -1, 48, [])), (15, (0, -2147483648, 0, [])), (16, (0, 0, 0, []))], [(8, [15], [5]), (8, [16], [0]), (9, [16, 0], [8]), (23, [13, 3], [0, 1, -1]), (23, [13, 3], [0, -1, 1]), (23, [14, 10], [0, 1, -1]), (23, [14, 10], [0, -1, 1]), (23, [8, 3], [0, 1, -1]), (23, [8, 3], [0, -1, 1]), (23, [6, 3], [0, 1, -1]), (23, [6, 3], [0, -1, 1]), (20, [1, 0], [50, 1, 1, 1005, 1002, 0, 6, 4, 2, 1, 0, 0, 1, 3, 1, 2, 4, 3, 2, 1, 5, 0, 2]), (20, [0], [60, 1, 3, 199, 5, 2, 3, 4]), (20, [0, 0], [30, 0, 1, 1, 15, -1, 1, 11]), (20, [0], [50, 3, 0, 12, 11, 15, 2, 21, 4, 7, 1, 3, 2, 0, 12, 0, 1, 0, 3, 2, 0, 11, 4, 3, 2, 0, 15, 0, 8, 3, 7, 1, 3, 2, 0, 12, 0, 0, 0, 7, 4, 3, 2, 0, 15, 0, 1, 2, 0, 11]), (20, [13, 0], [30, 0, 1, 0, 0, -1, 1, 11]), (20, [0, 13], [50, 3, 0, 8, 12, 11, 3, 7, 0, 2, 0, 1, 2, 0, 8, 3, 7, 1, 3, 2, 0, 12, 0, 0, 0, 6, 4, 2, 1, 1, 0, 1, 2, 0, 11]), (20, [0, 14], [50, 1, 0, 8, 3, 7, 0, 2, 0, 1, 2, 0, 8, 0, 2, 0, 0, 1, 1]), (20, [15, 12], [30, 0, 1, 0, 0, -1, 0, 0]), (20, [15], [30, 0, -1, 0, 0]), (102, [14], [0, 165008, 165009, 165011, 165012, 165013, 165014, 165015]), (23, [13, 3], [0, 1, -1]), (23, [13, 3], [0, -1, 1]), (23, [14, 10], [0, 1, -1]), (23, [14, 10], [0, -1, 1]), (23, [8, 3], [0, 1, -1]), (23, [8, 3], [0, -1, 1]), (23, [6, 3], [0, 1, -1]), (23, [6, 3], [0, -1, 1]), (102, [9], [187072209578355573530071658587684226515959365500928, 165008, 165009, 165011, 165012, 165013, 165014, 165015]), (23, [8, 3], [0, 1, -1]), (23, [8, 3], [0, -1, 1]), (23, [6, 3], [0, 1, -1]), (23, [6, 3], [0, -1, 1]), (102, [6], [0, 165011, 165012, 165013, 165014, 165015]), (23, [6, 3], [0, 1, -1]), (23, [6, 3], [0, -1, 1])], [], [(0, 0, 2000, [])], [(23, [18, 3], [0, 1, -1]), (23, [18, 3], [0, -1, 1]), (20, [0, 0], [30, 0, 1, 1, 15, -1, 1, 11]), (20, [0], [50, 3, 0, 12, 11, 15, 2, 21, 4, 7, 1, 3, 2, 0, 12, 0, 1, 0, 3, 2, 0, 11, 4, 3, 2, 0, 15, 0, 8, 3, 7, 1, 3, 2, 0, 12, 0, 0, 0, 7, 4, 3, 2, 0, 15, 0, 1, 2, 0, 11]), (20, [18, 0], [30, 0, 1, 0, 0, -1, 1, 11]), (20, [0, 18], [50, 3, 0, 8, 12, 11, 3, 7, 0, 2, 0, 1, 2, 0, 8, 3, 7, 1, 3, 2, 0, 12, 0, 0, 0, 6, 4, 2, 1, 1, 0, 1, 2, 0, 11])], [], [])
theorem oo_Mo_item_at_k0_8 {kA : Nat → ClassId} : or_ok PRD kA GG o_Mo_item_at_k0_8 := by
  refine or_mk fun A ta ws vs hD hth hl => ?_
  intro t0 r0 t1 k1 t3 k3 t6 k6 t8 k8 t10 k10 t12 k12 t13 k13 t14 k14 t15 k15 t16 k16 f0 f1 f2 f3 f4 f5 f6 f7 f8 f9 f10 f11 f12 f13 f14 f15 f16 f17 f18 f19 ta1 w1 le1 s1 f21 f22 f23 f24 f25 f26 f27 f28 ta2 w2 le2 s2 f30 f31 f32 f33 ta3 w3 le3 s3 f35 f36
  replace f2 := shm_143 f2
  replace f3 := shm_7 f3
  replace f4 := shm_22 f4
  replace f13 := shm_1397 f13
  replace f14 := shm_1398 f14
  replace f15 := shm_1395 f15
  replace f16 := shm_1660 f16
  replace f17 := shm_1889 f17
  have g2 : v_iv (n_v vs 16) = w_fi ws (n_v vs 0) 8 := congrArg v_iv f2
  have kz_0_8 := fdq_14 hD hth r0
  have kz_0_11 := fdq_273 hD hth r0
  have kz_0_12 := fdq_186 hD hth r0
  have kz_0_15 := fdq_274 hD hth r0
  obtain ⟨x, ex, hx⟩ := iv_ex (ta := ta) (lo := 0) (hi := 2000) (z := v_iv (n_v vs 3)) (by omega) (by omega) (by omega) (by omega)
  have ex2 : v_iv (Value.int x) = v_iv (n_v vs 3) := ex
  have ex3 : 0 ≤ v_iv (Value.int x) ∧ v_iv (Value.int x) ≤ 2000 := tv_rng hx
  have e_0 : n_v (vs ++ [Value.int x]) 0 = n_v vs 0 := n_v_old (by rw [hl]; decide)
  have e_3 : n_v (vs ++ [Value.int x]) 3 = n_v vs 3 := n_v_old (by rw [hl]; decide)
  have e_18 : n_v (vs ++ [Value.int x]) 18 = Value.int x := n_v_new hl
  have nf0 : fc_1 PRD (23, [18, 3], [0, 1, -1]) ws (vs ++ [Value.int x]) := by
    refine ⟨nf_inA hl rfl, sgq_7 ?_⟩
    · show 1 * v_iv (n_v (vs ++ [Value.int x]) 18) + ((-1) * v_iv (n_v (vs ++ [Value.int x]) 3) + 0) ≤ 0
      simp only [e_3, e_18]
      exact vc_Mo_item_at_k0_8_0 (v_iv (n_v vs 3)) (v_iv (n_v vs 13)) (w_fi ws (n_v vs 0) 5) (v_iv (Value.int x)) k3 k13 f3 f4 ex2
  have nf1 : fc_1 PRD (23, [18, 3], [0, -1, 1]) ws (vs ++ [Value.int x]) := by
    refine ⟨nf_inA hl rfl, sgq_22 ?_⟩
    · show (-1) * v_iv (n_v (vs ++ [Value.int x]) 18) + (1 * v_iv (n_v (vs ++ [Value.int x]) 3) + 0) ≤ 0
      simp only [e_3, e_18]
      exact vc_Mo_item_at_k0_8_1 (v_iv (n_v vs 3)) (v_iv (n_v vs 13)) (w_fi ws (n_v vs 0) 5) (v_iv (Value.int x)) k3 k13 f3 f4 ex2
  have nf2 : fc_1 PRD (20, [0, 0], [30, 0, 1, 1, 15, -1, 1, 11]) ws (vs ++ [Value.int x]) := by
    refine ⟨nf_inA hl rfl, sgq_1397 ?_⟩
    · show 1 * w_fi ws (n_v (vs ++ [Value.int x]) 0) 15 + ((-1) * w_fi ws (n_v (vs ++ [Value.int x]) 0) 11 + 0) ≤ 0
      rw [e_0]
      exact vc_Mo_item_at_k0_8_2 (w_fi ws (n_v vs 0) 5) (w_fi ws (n_v vs 0) 15) (w_fi ws (n_v vs 0) 11) f13 kz_0_11 kz_0_15
  have nf3 : fc_1 PRD (20, [0], [50, 3, 0, 12, 11, 15, 2, 21, 4, 7, 1, 3, 2, 0, 12, 0, 1, 0, 3, 2, 0, 11, 4, 3, 2, 0, 15, 0, 8, 3, 7, 1, 3, 2, 0, 12, 0, 0, 0, 7, 4, 3, 2, 0, 15, 0, 1, 2, 0, 11]) ws (vs ++ [Value.int x]) := by
    refine ⟨nf_inA hl rfl, sgq_1398 ?_⟩
    · show ((w_fi ws (n_v (vs ++ [Value.int x]) 0) 12 = 1) → (w_fi ws (n_v (vs ++ [Value.int x]) 0) 11 ≤ (w_fi ws (n_v (vs ++ [Value.int x]) 0) 15 + 8))) ∧ ((w_fi ws (n_v (vs ++ [Value.int x]) 0) 12 = 0) ∨ ((w_fi ws (n_v (vs ++ [Value.int x]) 0) 15 + 1) ≤ w_fi ws (n_v (vs ++ [Value.int x]) 0) 11))
      rw [e_0]
      exact vc_Mo_item_at_k0_8_3 (w_fi ws (n_v vs 0) 5) (w_fi ws (n_v vs 0) 15) (w_fi ws (n_v vs 0) 11) (w_fi ws (n_v vs 0) 12) f14 kz_0_11 kz_0_12 kz_0_15
  have nf4 : fc_1 PRD (20, [18, 0], [30, 0, 1, 0, 0, -1, 1, 11]) ws (vs ++ [Value.int x]) := by
    refine ⟨nf_inA hl rfl, sgq_1395 ?_⟩
    · show 1 * v_iv (n_v (vs ++ [Value.int x]) 18) + ((-1) * w_fi ws (n_v (vs ++ [Value.int x]) 0) 11 + 0) ≤ 0
      simp only [e_0, e_18]
      exact vc_Mo_item_at_k0_8_4 (v_iv (n_v vs 3)) (v_iv (n_v vs 13)) (w_fi ws (n_v vs 0) 5) (w_fi ws (n_v vs 0) 11) (v_iv (Value.int x)) k3 k13 f3 f4 f15 kz_0_11 ex2
  have nf5 : fc_1 PRD (20, [0, 18], [50, 3, 0, 8, 12, 11, 3, 7, 0, 2, 0, 1, 2, 0, 8, 3, 7, 1, 3, 2, 0, 12, 0, 0, 0, 6, 4, 2, 1, 1, 0, 1, 2, 0, 11]) ws (vs ++ [Value.int x]) := by
    refine ⟨nf_inA hl rfl, sgq_1660 ?_⟩
    · show (1 ≤ w_fi ws (n_v (vs ++ [Value.int x]) 0) 8) ∨ ((w_fi ws (n_v (vs ++ [Value.int x]) 0) 12 = 0) ∨ ((v_iv (n_v (vs ++ [Value.int x]) 18) + 1) ≤ w_fi ws (n_v (vs ++ [Value.int x]) 0) 11))
      simp only [e_0, e_18]
      exact vc_Mo_item_at_k0_8_5 (v_iv (n_v vs 3)) (v_iv (n_v vs 13)) (v_iv (n_v vs 14)) (v_iv (n_v vs 16)) (w_fi ws (n_v vs 0) 8) (w_fi ws (n_v vs 0) 5) (w_fi ws (n_v vs 0) 11) (w_fi ws (n_v vs 0) 12) (v_iv (Value.int x)) k3 k13 k14 k16 g2 f3 f4 f15 f16 f17 kz_0_8 kz_0_11 kz_0_12 ex2
  exact ⟨(fun _ h => (by cases h)), [Value.int x], ag_one hx, List.forall_mem_cons.mpr ⟨⟨show (23 : Nat) < 100 from by decide, nf0⟩, List.forall_mem_cons.mpr ⟨⟨show (23 : Nat) < 100 from by decide, nf1⟩, List.forall_mem_cons.mpr ⟨⟨show (20 : Nat) < 100 from by decide, nf2⟩, List.forall_mem_cons.mpr ⟨⟨show (20 : Nat) < 100 from by decide, nf3⟩, List.forall_mem_cons.mpr ⟨⟨show (20 : Nat) < 100 from by decide, nf4⟩, List.forall_mem_cons.mpr ⟨⟨show (20 : Nat) < 100 from by decide, nf5⟩, (fun _ h => (by cases h))⟩⟩⟩⟩⟩⟩, (fun _ h => (by cases h))⟩
set_option maxHeartbeats 4000000 in
theorem vc_Mo_item_at_k0_9_0 (x3 : Int) (x18 : Int) (r_0 : Int) (pos_0 : Int) (k3 : 0 ≤ x3 ∧ x3 ≤ 2000) (k18 : 0 ≤ x18 ∧ x18 ≤ 2000) (f0 : 1 * x18 + ((-1) * x3 + 0) ≤ 0) (f1 : (-1) * x18 + (1 * x3 + 0) ≤ 0) (f14 : 1 * x18 + ((-1) * pos_0 + 0) ≤ 0) (kz_0_11 : 0 ≤ pos_0 ∧ pos_0 ≤ 2000) : 1 * x3 + ((-1) * pos_0 + 0) ≤ 0 := by
  first
    | omega
    | (have q1 := (hE_0_2_1 (r_0 + 2) (by omega)).2 (by omega)
       have q2 := (hE_0_2_2 (r_0 + 2) (by omega)).2 (by omega)
       omega)
    | (have q1 := (hE_0_2_1 (r_0 + 1) (by omega)).2 (by omega)
       have q2 := (hE_0_2_2 (r_0 + 1) (by omega)).2 (by omega)
       omega)
    | (have q1 := (hE_0_2_1 (r_0 + 2) (by omega)).2 (by omega)
       omega)
    | (have q1 := (hE_0_2_1 (r_0 + 1) (by omega)).2 (by omega)
       omega)
    | (have q1 := (hE_0_2_1 (r_0 + 2) (by omega)).2 (by omega)
       have q2 := (hE_0_2_2 (r_0 + 2) (by omega)).2 (by omega)
       have q3 := (hE_0_2_3 (r_0 + 2) (by omega)).1 (by omega)
       omega)
    | (have q1 := (hE_0_2_1 (r_0 + 2) (by omega)).2 (by omega)
       have q2 := (hE_0_2_2 (r_0 + 2) (by omega)).2 (by omega)
       have q3 := (hE_0_2_3 (r_0 + 2) (by omega)).2 (by omega)
       omega)
set_option maxHeartbeats 4000000 in
theorem vc_Mo_item_at_k0_9_1 (x3 : Int) (x18 : Int) (r_0 : Int) (pos_0 : Int) (fault_0 : Int) (k3 : 0 ≤ x3 ∧ x3 ≤ 2000) (k18 : 0 ≤ x18 ∧ x18 ≤ 2000) (f0 : 1 * x18 + ((-1) * x3 + 0) ≤ 0) (f1 : (-1) * x18 + (1 * x3 + 0) ≤ 0) (f14 : 1 * x18 + ((-1) * pos_0 + 0) ≤ 0) (f15 : (1 ≤ fault_0) ∨ ((x18 + 1) ≤ pos_0)) (kz_0_8 : 0 ≤ fault_0 ∧ fault_0 ≤ 5) (kz_0_11 : 0 ≤ pos_0 ∧ pos_0 ≤ 2000) : (1 ≤ fault_0) ∨ ((x3 + 1) ≤ pos_0) := by
  first
    | omega
    | (have q1 := (hE_0_2_1 (r_0 + 2) (by omega)).2 (by omega)
       have q2 := (hE_0_2_2 (r_0 + 2) (by omega)).2 (by omega)
       omega)
    | (have q1 := (hE_0_2_1 (r_0 + 1) (by omega)).2 (by omega)
       have q2 := (hE_0_2_2 (r_0 + 1) (by omega)).2 (by omega)
       omega)
    | (have q1 := (hE_0_2_1 (r_0 + 2) (by omega)).2 (by omega)
       omega)
    | (have q1 := (hE_0_2_1 (r_0 + 1) (by omega)).2 (by omega)
       omega)
    | (have q1 := (hE_0_2_1 (r_0 + 2) (by omega)).2 (by omega)
       have q2 := (hE_0_2_2 (r_0 + 2) (by omega)).2 (by omega)
       have q3 := (hE_0_2_3 (r_0 + 2) (by omega)).1 (by omega)
       omega)
    | (have q1 := (hE_0_2_1 (r_0 + 2) (by omega)).2 (by omega)
       have q2 := (hE_0_2_2 (r_0 + 2) (by omega)).2 (by omega)
       have q3 := (hE_0_2_3 (r_0 + 2) (by omega)).2 (by omega)
       omega)
def o_Mo_item_at_k0_9 : or_T := (94, 19, [(0, (2, 0, 0, [165])), (1, (0, 0, 0, [])), (3, (0, 0, 2000, [])), (6, (0, 0, 2000, [])), (8, (0, 0, 2000, [])), (12, (0, 99, 99, [])), (13, (0, 0, 2000, [])), (15, (0, -2147483648, 0, [])), (18, (0, 0, 2000, []))], [(23, [18, 3], [0, 1, -1]), (23, [18, 3], [0, -1, 1]), (23, [13, 3], [0, 1, -1]), (23, [13, 3], [0, -1, 1]), (23, [8, 3], [0, 1, -1]), (23, [8, 3], [0, -1, 1]), (23, [6, 3], [0, 1, -1]), (23, [6, 3], [0, -1, 1]), (20, [1, 0], [50, 1, 1, 1005, 1002, 0, 6, 4, 2, 1, 0, 0, 1, 3, 1, 2, 4, 3, 2, 1, 5, 0, 2]), (20, [0], [60, 1, 3, 199, 5, 2, 3, 4]), (20, [15, 12], [30, 0, 1, 0, 0, -1, 0, 0]), (20, [15], [30, 0, -1, 0, 0]), (20, [0, 0], [30, 0, 1, 1, 15, -1, 1, 11]), (20, [0], [50, 3, 0, 12, 11, 15, 2, 21, 4, 7, 1, 3, 2, 0, 12, 0, 1, 0, 3, 2, 0, 11, 4, 3, 2, 0, 15, 0, 8, 3, 7, 1, 3, 2, 0, 12, 0, 0, 0, 7, 4, 3, 2, 0, 15, 0, 1, 2, 0, 11]), (20, [18, 0], [30, 0, 1, 0, 0, -1, 1, 11]), (20, [0, 18], [50, 2, 0, 8, 11, 3, 7, 0, 2, 0, 1, 2, 0, 8, 0, 6, 4, 2, 1, 1, 0, 1, 2, 0, 11]), (102, [18], [0, 165008, 165009, 165011, 165012, 165013, 165014, 165015]), (23, [18, 3], [0, 1, -1]), (23, [18, 3], [0, -1, 1]), (8, [15], [5]), (23, [13, 3], [0, 1, -1]), (23, [13, 3], [0, -1, 1]), (23, [8, 3], [0, 1, -1]), (23, [8, 3], [0, -1, 1]), (23, [6, 3], [0, 1, -1]), (23, [6, 3], [0, -1, 1]), (102, [14], [0, 165008, 165009, 165011, 165012, 165013, 165014, 165015]), (23, [13, 3], [0, 1, -1]), (23, [13, 3], [0, -1, 1]), (23, [8, 3], [0, 1, -1]), (23, [8, 3], [0, -1, 1]), (23, [6, 3], [0, 1, -1]), (23, [6, 3], [0, -1, 1]), (102, [9], [187072209578355573530071658587684226515959365500928, 165008, 165009, 165011, 165012, 165013, 165014, 165015]), (23, [8, 3], [0, 1, -1]), (23, [8, 3], [0, -1, 1]), (23, [6, 3], [0, 1, -1]), (23, [6, 3], [0, -1, 1]), (102, [6], [0, 165011, 165012, 165013, 165014, 165015]), (23, [6, 3], [0, 1, -1]), (23, [6, 3], [0, -1, 1])], [], [], [(20, [3, 0], [30, 0, 1, 0, 0, -1, 1, 11]), (20, [0, 3], [50, 2, 0, 8, 11, 3, 7, 0, 2, 0, 1, 2, 0, 8, 0, 6, 4, 2, 1, 1, 0, 1, 2, 0, 11])], [], [])
theorem oo_Mo_item_at_k0_9 {kA : Nat → ClassId} : or_ok PRD kA GG o_Mo_item_at_k0_9 := by
  refine or_mk fun A ta ws vs hD hth hl => ?_
  intro t0 r0 t1 k1 t3 k3 t6 k6 t8 k8 t12 k12 t13 k13 t15 k15 t18 k18 f0 f1 f2 f3 f4 f5 f6 f7 f8 f9 f10 f11 f12 f13 f14 f15 ta1 w1 le1 s1 f17 f18 f19 f20 f21 f22 f23 f24 f25 ta2 w2 le2 s2 f27 f28 f29 f30 f31 f32 ta3 w3 le3 s3 f34 f35 f36 f37 ta4 w4 le4 s4 f39 f40
  have kz_0_8 := fdq_14 hD hth r0
  have kz_0_11 := fdq_273 hD hth r0
  have nf0 : fc_1 PRD (20, [3, 0], [30, 0, 1, 0, 0, -1, 1, 11]) ws (vs) := ⟨nf_in hl rfl, sgq_1395 (vc_Mo_item_at_k0_9_0 (v_iv (n_v vs 3)) (v_iv (n_v vs 18)) (w_fi ws (n_v vs 0) 5) (w_fi ws (n_v vs 0) 11) k3 k18 (shm_7 f0) (shm_22 f1) (shm_1395 f14) kz_0_11)⟩
  have nf1 : fc_1 PRD (20, [0, 3], [50, 2, 0, 8, 11, 3, 7, 0, 2, 0, 1, 2, 0, 8, 0, 6, 4, 2, 1, 1, 0, 1, 2, 0, 11]) ws (vs) := ⟨nf_in hl rfl, sgq_1659 (vc_Mo_item_at_k0_9_1 (v_iv (n_v vs 3)) (v_iv (n_v vs 18)) (w_fi ws (n_v vs 0) 5) (w_fi ws (n_v vs 0) 11) (w_fi ws (n_v vs 0) 8) k3 k18 (shm_7 f0) (shm_22 f1) (shm_1395 f14) (shm_1659 f15) kz_0_8 kz_0_11)⟩
  refine ⟨(fun _ h => (by cases h)), [], trivial, ?_, (fun _ h => (by cases h))⟩
  rw [List.append_nil]
  exact List.forall_mem_cons.mpr ⟨⟨show (20 : Nat) < 100 from by decide, nf0⟩, List.forall_mem_cons.mpr ⟨⟨show (20 : Nat) < 100 from by decide, nf1⟩, (fun _ h => (by cases h))⟩⟩
set_option maxHeartbeats 4000000 in
theorem vc_Mo_item_at_k0_10_r0 (x10 : Int) (x14 : Int) (x16 : Int) (r_0 : Int) (fault_0 : Int) (k10 : (-1) ≤ x10 ∧ x10 ≤ 23) (k14 : (-1) ≤ x14 ∧ x14 ≤ 48) (k16 : 0 ≤ x16 ∧ x16 ≤ 0) (g5 : x16 = fault_0) (f8 : 1 * x14 + ((-1) * x10 + 0) ≤ 0) (f9 : (-1) * x14 + (1 * x10 + 0) ≤ 0) (f20 : (1 ≤ fault_0) ∨ (0 ≤ x14)) (kz_0_8 : 0 ≤ fault_0 ∧ fault_0 ≤ 5) : 0 ≤ x10 ∧ x10 ≤ 23 := by
  first
    | omega
    | (have q1 := (hE_0_2_1 (r_0 + 2) (by omega)).2 (by omega)
       have q2 := (hE_0_2_2 (r_0 + 2) (by omega)).2 (by omega)
       omega)
    | (have q1 := (hE_0_2_1 (r_0 + 1) (by omega)).2 (by omega)
       have q2 := (hE_0_2_2 (r_0 + 1) (by omega)).2 (by omega)
       omega)
    | (have q1 := (hE_0_2_1 (r_0 + 2) (by omega)).2 (by omega)
       omega)
    | (have q1 := (hE_0_2_1 (r_0 + 1) (by omega)).2 (by omega)
       omega)
    | (have q1 := (hE_0_2_1 (r_0 + 2) (by omega)).2 (by omega)
       have q2 := (hE_0_2_2 (r_0 + 2) (by omega)).2 (by omega)
       have q3 := (hE_0_2_3 (r_0 + 2) (by omega)).1 (by omega)
       omega)
    | (have q1 := (hE_0_2_1 (r_0 + 2) (by omega)).2 (by omega)
       have q2 := (hE_0_2_2 (r_0 + 2) (by omega)).2 (by omega)
       have q3 := (hE_0_2_3 (r_0 + 2) (by omega)).2 (by omega)
       omega)
def o_Mo_item_at_k0_10 : or_T := (57, 21, [(0, (2, 0, 0, [165])), (1, (0, 0, 0, [])), (3, (0, 0, 2000, [])), (6, (0, 0, 2000, [])), (8, (0, 0, 2000, [])), (10, (0, -1, 23, [])), (12, (0, 99, 99, [])), (13, (0, 0, 2000, [])), (14, (0, -1, 48, [])), (15, (0, 1, 2147483647, [])), (16, (0, 0, 0, [])), (17, (2, 0, 0, [167])), (18, (0, 0, 66297, [])), (19, (0, 219, 219, [])), (20, (0, 219, 66516, []))], [(1, [20, 18, 19], []), (9, [18, 0], [5]), (9, [17, 0], [2]), (8, [15], [4]), (8, [16], [0]), (9, [16, 0], [8]), (23, [13, 3], [0, 1, -1]), (23, [13, 3], [0, -1, 1]), (23, [14, 10], [0, 1, -1]), (23, [14, 10], [0, -1, 1]), (23, [8, 3], [0, 1, -1]), (23, [8, 3], [0, -1, 1]), (23, [6, 3], [0, 1, -1]), (23, [6, 3], [0, -1, 1]), (20, [1, 0], [50, 1, 1, 1005, 1002, 0, 6, 4, 2, 1, 0, 0, 1, 3, 1, 2, 4, 3, 2, 1, 5, 0, 2]), (20, [0], [60, 1, 3, 199, 5, 2, 3, 4]), (20, [0, 0], [30, 0, 1, 1, 15, -1, 1, 11]), (20, [0], [50, 3, 0, 12, 11, 15, 2, 21, 4, 7, 1, 3, 2, 0, 12, 0, 1, 0, 3, 2, 0, 11, 4, 3, 2, 0, 15, 0, 8, 3, 7, 1, 3, 2, 0, 12, 0, 0, 0, 7, 4, 3, 2, 0, 15, 0, 1, 2, 0, 11]), (20, [13, 0], [30, 0, 1, 0, 0, -1, 1, 11]), (20, [0, 13], [50, 3, 0, 8, 12, 11, 3, 7, 0, 2, 0, 1, 2, 0, 8, 3, 7, 1, 3, 2, 0, 12, 0, 0, 0, 6, 4, 2, 1, 1, 0, 1, 2, 0, 11]), (20, [0, 14], [50, 1, 0, 8, 3, 7, 0, 2, 0, 1, 2, 0, 8, 0, 2, 0, 0, 1, 1]), (20, [15, 12], [30, 0, 1, 0, 0, -1, 0, 0]), (20, [15], [30, 0, -1, 0, 0]), (102, [14], [0, 165008, 165009, 165011, 165012, 165013, 165014, 165015]), (23, [13, 3], [0, 1, -1]), (23, [13, 3], [0, -1, 1]), (23, [14, 10], [0, 1, -1]), (23, [14, 10], [0, -1, 1]), (23, [8, 3], [0, 1, -1]), (23, [8, 3], [0, -1, 1]), (23, [6, 3], [0, 1, -1]), (23, [6, 3], [0, -1, 1]), (102, [9], [187072209578355573530071658587684226515959365500928, 165008, 165009, 165011, 165012, 165013, 165014, 165015]), (23, [8, 3], [0, 1, -1]), (23, [8, 3], [0, -1, 1]), (23, [6, 3], [0, 1, -1]), (23, [6, 3], [0, -1, 1]), (102, [6], [0, 165011, 165012, 165013, 165014, 165015]), (23, [6, 3], [0, 1, -1]), (23, [6, 3], [0, -1, 1])], [(10, (0, 0, 23, []))], [], [], [], [(20, 18, 219, 219)])
theorem oo_Mo_item_at_k0_10 {kA : Nat → ClassId} : or_ok PRD kA GG o_Mo_item_at_k0_10 := by
  refine or_mk fun A ta ws vs hD hth hl => ?_
  intro t0 r0 t1 k1 t3 k3 t6 k6 t8 k8 t10 k10 t12 k12 t13 k13 t14 k14 t15 k15 t16 k16 t17 r17 t18 k18 t19 k19 t20 k20 d0 f0 f1 f2 f3 f4 f5 f6 f7 f8 f9 f10 f11 f12 f13 f14 f15 f16 f17 f18 f19 f20 f21 f22 ta1 w1 le1 s1 f24 f25 f26 f27 f28 f29 f30 f31 ta2 w2 le2 s2 f33 f34 f35 f36 ta3 w3 le3 s3 f38 f39
  replace f5 := shm_143 f5
  have g5 : v_iv (n_v vs 16) = w_fi ws (n_v vs 0) 8 := congrArg v_iv f5
  have kz_0_8 := fdq_14 hD hth r0
  have hrf0 : 0 ≤ v_iv (n_v vs 10) ∧ v_iv (n_v vs 10) ≤ 23 := vc_Mo_item_at_k0_10_r0 (v_iv (n_v vs 10)) (v_iv (n_v vs 14)) (v_iv (n_v vs 16)) (w_fi ws (n_v vs 0) 5) (w_fi ws (n_v vs 0) 8) k10 k14 k16 g5 (shm_7 f8) (shm_22 f9) (shm_1889 f20) kz_0_8
  have rf10 : tv_ok ta (0, 0, 23, []) (n_v vs 10) := tv_in t10 (by first | omega | grind) (by first | omega | grind)
  refine ⟨List.forall_mem_cons.mpr ⟨rf10, (fun _ h => (by cases h))⟩, [], trivial, ?_, (fun _ h => (by cases h))⟩
  rw [List.append_nil]
  exact (fun _ h => (by cases h))
set_option maxHeartbeats 4000000 in
theorem vc_Mo_item_at_k0_11_r0 (x12 : Int) (x15 : Int) (r_0 : Int) (k12 : 99 ≤ x12 ∧ x12 ≤ 99) (k15 : 1 ≤ x15 ∧ x15 ≤ 2147483647) (f22 : 1 * x15 + ((-1) * x12 + 0) ≤ 0) : 1 ≤ x15 ∧ x15 ≤ 99 := by
  first
    | omega
    | (have q1 := (hE_0_2_1 (r_0 + 2) (by omega)).2 (by omega)
       have q2 := (hE_0_2_2 (r_0 + 2) (by omega)).2 (by omega)
       omega)
    | (have q1 := (hE_0_2_1 (r_0 + 1) (by omega)).2 (by omega)
       have q2 := (hE_0_2_2 (r_0 + 1) (by omega)).2 (by omega)
       omega)
    | (have q1 := (hE_0_2_1 (r_0 + 2) (by omega)).2 (by omega)
       omega)
    | (have q1 := (hE_0_2_1 (r_0 + 1) (by omega)).2 (by omega)
       omega)
    | (have q1 := (hE_0_2_1 (r_0 + 2) (by omega)).2 (by omega)
       have q2 := (hE_0_2_2 (r_0 + 2) (by omega)).2 (by omega)
       have q3 := (hE_0_2_3 (r_0 + 2) (by omega)).1 (by omega)
       omega)
    | (have q1 := (hE_0_2_1 (r_0 + 2) (by omega)).2 (by omega)
       have q2 := (hE_0_2_2 (r_0 + 2) (by omega)).2 (by omega)
       have q3 := (hE_0_2_3 (r_0 + 2) (by omega)).2 (by omega)
       omega)
def o_Mo_item_at_k0_11 : or_T := (60, 22, [(0, (2, 0, 0, [165])), (1, (0, 0, 0, [])), (3, (0, 0, 2000, [])), (6, (0, 0, 2000, [])), (8, (0, 0, 2000, [])), (10, (0, 0, 23, [])), (12, (0, 99, 99, [])), (13, (0, 0, 2000, [])), (14, (0, -1, 48, [])), (15, (0, 1, 2147483647, [])), (16, (0, 0, 0, [])), (17, (2, 0, 0, [167])), (18, (0, 0, 66297, [])), (19, (0, 219, 219, [])), (20, (0, 219, 66516, [])), (21, (0, 219, 66539, []))], [(1, [21, 20, 10], []), (1, [20, 18, 19], []), (9, [18, 0], [5]), (9, [17, 0], [2]), (8, [15], [4]), (8, [16], [0]), (9, [16, 0], [8]), (23, [13, 3], [0, 1, -1]), (23, [13, 3], [0, -1, 1]), (23, [14, 10], [0, 1, -1]), (23, [14, 10], [0, -1, 1]), (23, [8, 3], [0, 1, -1]), (23, [8, 3], [0, -1, 1]), (23, [6, 3], [0, 1, -1]), (23, [6, 3], [0, -1, 1]), (20, [1, 0], [50, 1, 1, 1005, 1002, 0, 6, 4, 2, 1, 0, 0, 1, 3, 1, 2, 4, 3, 2, 1, 5, 0, 2]), (20, [0], [60, 1, 3, 199, 5, 2, 3, 4]), (20, [0, 0], [30, 0, 1, 1, 15, -1, 1, 11]), (20, [0], [50, 3, 0, 12, 11, 15, 2, 21, 4, 7, 1, 3, 2, 0, 12, 0, 1, 0, 3, 2, 0, 11, 4, 3, 2, 0, 15, 0, 8, 3, 7, 1, 3, 2, 0, 12, 0, 0, 0, 7, 4, 3, 2, 0, 15, 0, 1, 2, 0, 11]), (20, [13, 0], [30, 0, 1, 0, 0, -1, 1, 11]), (20, [0, 13], [50, 3, 0, 8, 12, 11, 3, 7, 0, 2, 0, 1, 2, 0, 8, 3, 7, 1, 3, 2, 0, 12, 0, 0, 0, 6, 4, 2, 1, 1, 0, 1, 2, 0, 11]), (20, [0, 14], [50, 1, 0, 8, 3, 7, 0, 2, 0, 1, 2, 0, 8, 0, 2, 0, 0, 1, 1]), (20, [15, 12], [30, 0, 1, 0, 0, -1, 0, 0]), (20, [15], [30, 0, -1, 0, 0]), (102, [14], [0, 165008, 165009, 165011, 165012, 165013, 165014, 165015]), (23, [13, 3], [0, 1, -1]), (23, [13, 3], [0, -1, 1]), (23, [14, 10], [0, 1, -1]), (23, [14, 10], [0, -1, 1]), (23, [8, 3], [0, 1, -1]), (23, [8, 3], [0, -1, 1]), (23, [6, 3], [0, 1, -1]), (23, [6, 3], [0, -1, 1]), (102, [9], [187072209578355573530071658587684226515959365500928, 165008, 165009, 165011, 165012, 165013, 165014, 165015]), (23, [8, 3], [0, 1, -1]), (23, [8, 3], [0, -1, 1]), (23, [6, 3], [0, 1, -1]), (23, [6, 3], [0, -1, 1]), (102, [6], [0, 165011, 165012, 165013, 165014, 165015]), (23, [6, 3], [0, 1, -1]), (23, [6, 3], [0, -1, 1])], [(15, (0, 1, 99, []))], [], [], [], [(21, 10, 219, 66516), (21, 20, 0, 23), (21, 18, 219, 242), (20, 18, 219, 219)])
theorem oo_Mo_item_at_k0_11 {kA : Nat → ClassId} : or_ok PRD kA GG o_Mo_item_at_k0_11 := by
  refine or_mk fun A ta ws vs hD hth hl => ?_
  intro t0 r0 t1 k1 t3 k3 t6 k6 t8 k8 t10 k10 t12 k12 t13 k13 t14 k14 t15 k15 t16 k16 t17 r17 t18 k18 t19 k19 t20 k20 t21 k21 d0 d1 d2 d3 f0 f1 f2 f3 f4 f5 f6 f7 f8 f9 f10 f11 f12 f13 f14 f15 f16 f17 f18 f19 f20 f21 f22 f23 ta1 w1 le1 s1 f25 f26 f27 f28 f29 f30 f31 f32 ta2 w2 le2 s2 f34 f35 f36 f37 ta3 w3 le3 s3 f39 f40
  have hrf0 : 1 ≤ v_iv (n_v vs 15) ∧ v_iv (n_v vs 15) ≤ 99 := vc_Mo_item_at_k0_11_r0 (v_iv (n_v vs 12)) (v_iv (n_v vs 15)) (w_fi ws (n_v vs 0) 5) k12 k15 (shm_219 f22)
  have rf15 : tv_ok ta (0, 1, 99, []) (n_v vs 15) := tv_in t15 (by first | omega | grind) (by first | omega | grind)
  refine ⟨List.forall_mem_cons.mpr ⟨rf15, (fun _ h => (by cases h))⟩, [], trivial, ?_, (fun _ h => (by cases h))⟩
  rw [List.append_nil]
  exact (fun _ h => (by cases h))
set_option maxHeartbeats 4000000 in
theorem vc_Mo_item_at_k0_12_0 (x1 : Int) (x10 : Int) (x14 : Int) (x15 : Int) (x18 : Int) (x20 : Int) (x21 : Int) (from_0 : Int) (pos_0 : Int) (kind_0 : Int) (fault_0 : Int) (r_1 : Int) (fault_1 : Int) (all_1 : Int → Int) (now_1 : Int → Int) (latest_1 : Int → Int) (from_1 : Int) (pos_1 : Int) (kind_1 : Int) (r_0 : Int) (all_0 : Int → Int) (now_0 : Int → Int) (latest_0 : Int → Int) (k1 : 0 ≤ x1 ∧ x1 ≤ 0) (k10 : 0 ≤ x10 ∧ x10 ≤ 23) (k14 : (-1) ≤ x14 ∧ x14 ≤ 48) (k15 : 1 ≤ x15 ∧ x15 ≤ 99) (k18 : 0 ≤ x18 ∧ x18 ≤ 66297) (k20 : 219 ≤ x20 ∧ x20 ≤ 66516) (k21 : 219 ≤ x21 ∧ x21 ≤ 66539) (d0 : x10 + 219 ≤ x21 ∧ x21 ≤ x10 + 66516) (d3 : x18 + 219 ≤ x20 ∧ x20 ≤ x18 + 219) (f2 : 1 * x14 + ((-1) * x10 + 0) ≤ 0) (f3 : (-1) * x14 + (1 * x10 + 0) ≤ 0) (f16 : x21 = x20 + x10) (g18 : x18 = r_1) (f31 : (x1 + 1) ≤ all_1 ((r_1 + 2))) (fe_0_5_1 : r_0 = r_1) (fe_0_8_1 : fault_0 = fault_1) (fe_0_11_1 : pos_0 = pos_1) (fe_0_12_1 : kind_0 = kind_1) (fe_0_15_1 : from_0 = from_1) (hE_0_2_1 : ∀ j : Int, 0 ≤ j → (j = x21 → all_0 j = x15) ∧ (j ≠ x21 → all_0 j = all_1 j)) (hE_0_3_1 : ∀ j : Int, now_0 j = now_1 j) (hE_0_4_1 : ∀ j : Int, latest_0 j = latest_1 j) (kz_0_8 : 0 ≤ fault_0 ∧ fault_0 ≤ 5) (kz_0_11 : 0 ≤ pos_0 ∧ pos_0 ≤ 2000) (kz_0_12 : 0 ≤ kind_0 ∧ kind_0 ≤ 4) (kz_0_15 : 0 ≤ from_0 ∧ from_0 ≤ 2000) : (x1 + 1) ≤ all_0 ((r_0 + 2)) := by
  subst fe_0_5_1
  subst fe_0_8_1
  subst fe_0_11_1
  subst fe_0_12_1
  subst fe_0_15_1
  have e_hE_0_3_1 := funext hE_0_3_1; subst e_hE_0_3_1
  have e_hE_0_4_1 := funext hE_0_4_1; subst e_hE_0_4_1
  first
    | omega
    | (have q1 := (hE_0_2_1 (r_0 + 2) (by omega)).2 (by omega)
       have q2 := (hE_0_2_2 (r_0 + 2) (by omega)).2 (by omega)
       omega)
    | (have q1 := (hE_0_2_1 (r_0 + 1) (by omega)).2 (by omega)
       have q2 := (hE_0_2_2 (r_0 + 1) (by omega)).2 (by omega)
       omega)
    | (have q1 := (hE_0_2_1 (r_0 + 2) (by omega)).2 (by omega)
       omega)
    | (have q1 := (hE_0_2_1 (r_0 + 1) (by omega)).2 (by omega)
       omega)
    | (have q1 := (hE_0_2_1 (r_0 + 2) (by omega)).2 (by omega)
       have q2 := (hE_0_2_2 (r_0 + 2) (by omega)).2 (by omega)
       have q3 := (hE_0_2_3 (r_0 + 2) (by omega)).1 (by omega)
       omega)
    | (have q1 := (hE_0_2_1 (r_0 + 2) (by omega)).2 (by omega)
       have q2 := (hE_0_2_2 (r_0 + 2) (by omega)).2 (by omega)
       have q3 := (hE_0_2_3 (r_0 + 2) (by omega)).2 (by omega)
       omega)
set_option maxHeartbeats 4000000 in
theorem vc_Mo_item_at_k0_12_1 (x10 : Int) (x14 : Int) (x15 : Int) (x18 : Int) (x20 : Int) (x21 : Int) (from_0 : Int) (pos_0 : Int) (kind_0 : Int) (fault_0 : Int) (r_1 : Int) (fault_1 : Int) (all_1 : Int → Int) (now_1 : Int → Int) (latest_1 : Int → Int) (from_1 : Int) (pos_1 : Int) (kind_1 : Int) (r_0 : Int) (all_0 : Int → Int) (now_0 : Int → Int) (latest_0 : Int → Int) (k10 : 0 ≤ x10 ∧ x10 ≤ 23) (k14 : (-1) ≤ x14 ∧ x14 ≤ 48) (k15 : 1 ≤ x15 ∧ x15 ≤ 99) (k18 : 0 ≤ x18 ∧ x18 ≤ 66297) (k20 : 219 ≤ x20 ∧ x20 ≤ 66516) (k21 : 219 ≤ x21 ∧ x21 ≤ 66539) (d3 : x18 + 219 ≤ x20 ∧ x20 ≤ x18 + 219) (f2 : 1 * x14 + ((-1) * x10 + 0) ≤ 0) (f3 : (-1) * x14 + (1 * x10 + 0) ≤ 0) (f16 : x21 = x20 + x10) (g18 : x18 = r_1) (f32 : RWS (r_1) (all_1) (now_1) (latest_1)) (fe_0_5_1 : r_0 = r_1) (fe_0_8_1 : fault_0 = fault_1) (fe_0_11_1 : pos_0 = pos_1) (fe_0_12_1 : kind_0 = kind_1) (fe_0_15_1 : from_0 = from_1) (hE_0_2_1 : ∀ j : Int, 0 ≤ j → (j = x21 → all_0 j = x15) ∧ (j ≠ x21 → all_0 j = all_1 j)) (hE_0_3_1 : ∀ j : Int, now_0 j = now_1 j) (hE_0_4_1 : ∀ j : Int, latest_0 j = latest_1 j) (kz_0_8 : 0 ≤ fault_0 ∧ fault_0 ≤ 5) (kz_0_11 : 0 ≤ pos_0 ∧ pos_0 ≤ 2000) (kz_0_12 : 0 ≤ kind_0 ∧ kind_0 ≤ 4) (kz_0_15 : 0 ≤ from_0 ∧ from_0 ≤ 2000) : RWS (r_0) (all_0) (now_0) (latest_0) := by
  subst fe_0_5_1
  subst fe_0_8_1
  subst fe_0_11_1
  subst fe_0_12_1
  subst fe_0_15_1
  have e_hE_0_3_1 := funext hE_0_3_1; subst e_hE_0_3_1
  have e_hE_0_4_1 := funext hE_0_4_1; subst e_hE_0_4_1
  first
    | assumption
    | (have hr := rws_r ‹RWS _ _ _ _›
       have hc := (rws_sg ‹RWS _ _ _ _›).1
       exact rws_off ‹RWS _ _ _ _› (by assumption) (by omega))
set_option maxHeartbeats 4000000 in
theorem vc_Mo_item_at_k0_12_2 (x3 : Int) (x13 : Int) (x15 : Int) (x21 : Int) (from_0 : Int) (pos_0 : Int) (kind_0 : Int) (fault_0 : Int) (r_1 : Int) (fault_1 : Int) (all_1 : Int → Int) (now_1 : Int → Int) (latest_1 : Int → Int) (from_1 : Int) (pos_1 : Int) (kind_1 : Int) (r_0 : Int) (all_0 : Int → Int) (now_0 : Int → Int) (latest_0 : Int → Int) (gx : Int) (k3 : 0 ≤ x3 ∧ x3 ≤ 2000) (k13 : 0 ≤ x13 ∧ x13 ≤ 2000) (k15 : 1 ≤ x15 ∧ x15 ≤ 99) (k21 : 219 ≤ x21 ∧ x21 ≤ 66539) (f0 : 1 * x13 + ((-1) * x3 + 0) ≤ 0) (f1 : (-1) * x13 + (1 * x3 + 0) ≤ 0) (fe_0_5_1 : r_0 = r_1) (fe_0_8_1 : fault_0 = fault_1) (fe_0_11_1 : pos_0 = pos_1) (fe_0_12_1 : kind_0 = kind_1) (fe_0_15_1 : from_0 = from_1) (hE_0_2_1 : ∀ j : Int, 0 ≤ j → (j = x21 → all_0 j = x15) ∧ (j ≠ x21 → all_0 j = all_1 j)) (hE_0_3_1 : ∀ j : Int, now_0 j = now_1 j) (hE_0_4_1 : ∀ j : Int, latest_0 j = latest_1 j) (kz_0_8 : 0 ≤ fault_0 ∧ fault_0 ≤ 5) (kz_0_11 : 0 ≤ pos_0 ∧ pos_0 ≤ 2000) (kz_0_12 : 0 ≤ kind_0 ∧ kind_0 ≤ 4) (kz_0_15 : 0 ≤ from_0 ∧ from_0 ≤ 2000) (ex2 : gx = x3) : 1 * gx + ((-1) * x3 + 0) ≤ 0 := by
  subst fe_0_5_1
  subst fe_0_8_1
  subst fe_0_11_1
  subst fe_0_12_1
  subst fe_0_15_1
  have e_hE_0_3_1 := funext hE_0_3_1; subst e_hE_0_3_1
  have e_hE_0_4_1 := funext hE_0_4_1; subst e_hE_0_4_1
  first
    | omega
    | (have q1 := (hE_0_2_1 (r_0 + 2) (by omega)).2 (by omega)
       have q2 := (hE_0_2_2 (r_0 + 2) (by omega)).2 (by omega)
       omega)
    | (have q1 := (hE_0_2_1 (r_0 + 1) (by omega)).2 (by omega)
       have q2 := (hE_0_2_2 (r_0 + 1) (by omega)).2 (by omega)
       omega)
    | (have q1 := (hE_0_2_1 (r_0 + 2) (by omega)).2 (by omega)
       omega)
    | (have q1 := (hE_0_2_1 (r_0 + 1) (by omega)).2 (by omega)
       omega)
    | (have q1 := (hE_0_2_1 (r_0 + 2) (by omega)).2 (by omega)
       have q2 := (hE_0_2_2 (r_0 + 2) (by omega)).2 (by omega)
       have q3 := (hE_0_2_3 (r_0 + 2) (by omega)).1 (by omega)
       omega)
    | (have q1 := (hE_0_2_1 (r_0 + 2) (by omega)).2 (by omega)
       have q2 := (hE_0_2_2 (r_0 + 2) (by omega)).2 (by omega)
       have q3 := (hE_0_2_3 (r_0 + 2) (by omega)).2 (by omega)
       omega)
set_option maxHeartbeats 4000000 in
theorem vc_Mo_item_at_k0_12_3 (x3 : Int) (x13 : Int) (x15 : Int) (x21 : Int) (from_0 : Int) (pos_0 : Int) (kind_0 : Int) (fault_0 : Int) (r_1 : Int) (fault_1 : Int) (all_1 : Int → Int) (now_1 : Int → Int) (latest_1 : Int → Int) (from_1 : Int) (pos_1 : Int) (kind_1 : Int) (r_0 : Int) (all_0 : Int → Int) (now_0 : Int → Int) (latest_0 : Int → Int) (gx : Int) (k3 : 0 ≤ x3 ∧ x3 ≤ 2000) (k13 : 0 ≤ x13 ∧ x13 ≤ 2000) (k15 : 1 ≤ x15 ∧ x15 ≤ 99) (k21 : 219 ≤ x21 ∧ x21 ≤ 66539) (f0 : 1 * x13 + ((-1) * x3 + 0) ≤ 0) (f1 : (-1) * x13 + (1 * x3 + 0) ≤ 0) (fe_0_5_1 : r_0 = r_1) (fe_0_8_1 : fault_0 = fault_1) (fe_0_11_1 : pos_0 = pos_1) (fe_0_12_1 : kind_0 = kind_1) (fe_0_15_1 : from_0 = from_1) (hE_0_2_1 : ∀ j : Int, 0 ≤ j → (j = x21 → all_0 j = x15) ∧ (j ≠ x21 → all_0 j = all_1 j)) (hE_0_3_1 : ∀ j : Int, now_0 j = now_1 j) (hE_0_4_1 : ∀ j : Int, latest_0 j = latest_1 j) (kz_0_8 : 0 ≤ fault_0 ∧ fault_0 ≤ 5) (kz_0_11 : 0 ≤ pos_0 ∧ pos_0 ≤ 2000) (kz_0_12 : 0 ≤ kind_0 ∧ kind_0 ≤ 4) (kz_0_15 : 0 ≤ from_0 ∧ from_0 ≤ 2000) (ex2 : gx = x3) : (-1) * gx + (1 * x3 + 0) ≤ 0 := by
  subst fe_0_5_1
  subst fe_0_8_1
  subst fe_0_11_1
  subst fe_0_12_1
  subst fe_0_15_1
  have e_hE_0_3_1 := funext hE_0_3_1; subst e_hE_0_3_1
  have e_hE_0_4_1 := funext hE_0_4_1; subst e_hE_0_4_1
  first
    | omega
    | (have q1 := (hE_0_2_1 (r_0 + 2) (by omega)).2 (by omega)
       have q2 := (hE_0_2_2 (r_0 + 2) (by omega)).2 (by omega)
       omega)
    | (have q1 := (hE_0_2_1 (r_0 + 1) (by omega)).2 (by omega)
       have q2 := (hE_0_2_2 (r_0 + 1) (by omega)).2 (by omega)
       omega)
    | (have q1 := (hE_0_2_1 (r_0 + 2) (by omega)).2 (by omega)
       omega)
    | (have q1 := (hE_0_2_1 (r_0 + 1) (by omega)).2 (by omega)
       omega)
    | (have q1 := (hE_0_2_1 (r_0 + 2) (by omega)).2 (by omega)
       have q2 := (hE_0_2_2 (r_0 + 2) (by omega)).2 (by omega)
       have q3 := (hE_0_2_3 (r_0 + 2) (by omega)).1 (by omega)
       omega)
    | (have q1 := (hE_0_2_1 (r_0 + 2) (by omega)).2 (by omega)
       have q2 := (hE_0_2_2 (r_0 + 2) (by omega)).2 (by omega)
       have q3 := (hE_0_2_3 (r_0 + 2) (by omega)).2 (by omega)
       omega)
set_option maxHeartbeats 4000000 in
theorem vc_Mo_item_at_k0_12_4 (x15 : Int) (x21 : Int) (from_0 : Int) (pos_0 : Int) (kind_0 : Int) (fault_0 : Int) (r_1 : Int) (fault_1 : Int) (all_1 : Int → Int) (now_1 : Int → Int) (latest_1 : Int → Int) (from_1 : Int) (pos_1 : Int) (kind_1 : Int) (r_0 : Int) (all_0 : Int → Int) (now_0 : Int → Int) (latest_0 : Int → Int) (k15 : 1 ≤ x15 ∧ x15 ≤ 99) (k21 : 219 ≤ x21 ∧ x21 ≤ 66539) (f33 : 1 * from_1 + ((-1) * pos_1 + 0) ≤ 0) (fe_0_5_1 : r_0 = r_1) (fe_0_8_1 : fault_0 = fault_1) (fe_0_11_1 : pos_0 = pos_1) (fe_0_12_1 : kind_0 = kind_1) (fe_0_15_1 : from_0 = from_1) (hE_0_2_1 : ∀ j : Int, 0 ≤ j → (j = x21 → all_0 j = x15) ∧ (j ≠ x21 → all_0 j = all_1 j)) (hE_0_3_1 : ∀ j : Int, now_0 j = now_1 j) (hE_0_4_1 : ∀ j : Int, latest_0 j = latest_1 j) (kz_0_8 : 0 ≤ fault_0 ∧ fault_0 ≤ 5) (kz_0_11 : 0 ≤ pos_0 ∧ pos_0 ≤ 2000) (kz_0_12 : 0 ≤ kind_0 ∧ kind_0 ≤ 4) (kz_0_15 : 0 ≤ from_0 ∧ from_0 ≤ 2000) : 1 * from_0 + ((-1) * pos_0 + 0) ≤ 0 := by
  subst fe_0_5_1
  subst fe_0_8_1
  subst fe_0_11_1
  subst fe_0_12_1
  subst fe_0_15_1
  have e_hE_0_3_1 := funext hE_0_3_1; subst e_hE_0_3_1
  have e_hE_0_4_1 := funext hE_0_4_1; subst e_hE_0_4_1
  first
    | omega
    | (have q1 := (hE_0_2_1 (r_0 + 2) (by omega)).2 (by omega)
       have q2 := (hE_0_2_2 (r_0 + 2) (by omega)).2 (by omega)
       omega)
    | (have q1 := (hE_0_2_1 (r_0 + 1) (by omega)).2 (by omega)
       have q2 := (hE_0_2_2 (r_0 + 1) (by omega)).2 (by omega)
       omega)
    | (have q1 := (hE_0_2_1 (r_0 + 2) (by omega)).2 (by omega)
       omega)
    | (have q1 := (hE_0_2_1 (r_0 + 1) (by omega)).2 (by omega)
       omega)
    | (have q1 := (hE_0_2_1 (r_0 + 2) (by omega)).2 (by omega)
       have q2 := (hE_0_2_2 (r_0 + 2) (by omega)).2 (by omega)
       have q3 := (hE_0_2_3 (r_0 + 2) (by omega)).1 (by omega)
       omega)
    | (have q1 := (hE_0_2_1 (r_0 + 2) (by omega)).2 (by omega)
       have q2 := (hE_0_2_2 (r_0 + 2) (by omega)).2 (by omega)
       have q3 := (hE_0_2_3 (r_0 + 2) (by omega)).2 (by omega)
       omega)
set_option maxHeartbeats 4000000 in
theorem vc_Mo_item_at_k0_12_5 (x15 : Int) (x21 : Int) (from_0 : Int) (pos_0 : Int) (kind_0 : Int) (fault_0 : Int) (r_1 : Int) (fault_1 : Int) (all_1 : Int → Int) (now_1 : Int → Int) (latest_1 : Int → Int) (from_1 : Int) (pos_1 : Int) (kind_1 : Int) (r_0 : Int) (all_0 : Int → Int) (now_0 : Int → Int) (latest_0 : Int → Int) (k15 : 1 ≤ x15 ∧ x15 ≤ 99) (k21 : 219 ≤ x21 ∧ x21 ≤ 66539) (f34 : ((kind_1 = 1) → (pos_1 ≤ (from_1 + 8))) ∧ ((kind_1 = 0) ∨ ((from_1 + 1) ≤ pos_1))) (fe_0_5_1 : r_0 = r_1) (fe_0_8_1 : fault_0 = fault_1) (fe_0_11_1 : pos_0 = pos_1) (fe_0_12_1 : kind_0 = kind_1) (fe_0_15_1 : from_0 = from_1) (hE_0_2_1 : ∀ j : Int, 0 ≤ j → (j = x21 → all_0 j = x15) ∧ (j ≠ x21 → all_0 j = all_1 j)) (hE_0_3_1 : ∀ j : Int, now_0 j = now_1 j) (hE_0_4_1 : ∀ j : Int, latest_0 j = latest_1 j) (kz_0_8 : 0 ≤ fault_0 ∧ fault_0 ≤ 5) (kz_0_11 : 0 ≤ pos_0 ∧ pos_0 ≤ 2000) (kz_0_12 : 0 ≤ kind_0 ∧ kind_0 ≤ 4) (kz_0_15 : 0 ≤ from_0 ∧ from_0 ≤ 2000) : ((kind_0 = 1) → (pos_0 ≤ (from_0 + 8))) ∧ ((kind_0 = 0) ∨ ((from_0 + 1) ≤ pos_0)) := by
  subst fe_0_5_1
  subst fe_0_8_1
  subst fe_0_11_1
  subst fe_0_12_1
  subst fe_0_15_1
  have e_hE_0_3_1 := funext hE_0_3_1; subst e_hE_0_3_1
  have e_hE_0_4_1 := funext hE_0_4_1; subst e_hE_0_4_1
  first
    | omega
    | (have q1 := (hE_0_2_1 (r_0 + 2) (by omega)).2 (by omega)
       have q2 := (hE_0_2_2 (r_0 + 2) (by omega)).2 (by omega)
       omega)
    | (have q1 := (hE_0_2_1 (r_0 + 1) (by omega)).2 (by omega)
       have q2 := (hE_0_2_2 (r_0 + 1) (by omega)).2 (by omega)
       omega)
    | (have q1 := (hE_0_2_1 (r_0 + 2) (by omega)).2 (by omega)
       omega)
    | (have q1 := (hE_0_2_1 (r_0 + 1) (by omega)).2 (by omega)
       omega)
    | (have q1 := (hE_0_2_1 (r_0 + 2) (by omega)).2 (by omega)
       have q2 := (hE_0_2_2 (r_0 + 2) (by omega)).2 (by omega)
       have q3 := (hE_0_2_3 (r_0 + 2) (by omega)).1 (by omega)
       omega)
    | (have q1 := (hE_0_2_1 (r_0 + 2) (by omega)).2 (by omega)
       have q2 := (hE_0_2_2 (r_0 + 2) (by omega)).2 (by omega)
       have q3 := (hE_0_2_3 (r_0 + 2) (by omega)).2 (by omega)
       omega)
set_option maxHeartbeats 4000000 in
theorem vc_Mo_item_at_k0_12_6 (x3 : Int) (x13 : Int) (x15 : Int) (x21 : Int) (from_0 : Int) (pos_0 : Int) (kind_0 : Int) (fault_0 : Int) (r_1 : Int) (fault_1 : Int) (all_1 : Int → Int) (now_1 : Int → Int) (latest_1 : Int → Int) (from_1 : Int) (pos_1 : Int) (kind_1 : Int) (r_0 : Int) (all_0 : Int → Int) (now_0 : Int → Int) (latest_0 : Int → Int) (gx : Int) (k3 : 0 ≤ x3 ∧ x3 ≤ 2000) (k13 : 0 ≤ x13 ∧ x13 ≤ 2000) (k15 : 1 ≤ x15 ∧ x15 ≤ 99) (k21 : 219 ≤ x21 ∧ x21 ≤ 66539) (f0 : 1 * x13 + ((-1) * x3 + 0) ≤ 0) (f1 : (-1) * x13 + (1 * x3 + 0) ≤ 0) (f10 : 1 * x13 + ((-1) * pos_0 + 0) ≤ 0) (fe_0_5_1 : r_0 = r_1) (fe_0_8_1 : fault_0 = fault_1) (fe_0_11_1 : pos_0 = pos_1) (fe_0_12_1 : kind_0 = kind_1) (fe_0_15_1 : from_0 = from_1) (hE_0_2_1 : ∀ j : Int, 0 ≤ j → (j = x21 → all_0 j = x15) ∧ (j ≠ x21 → all_0 j = all_1 j)) (hE_0_3_1 : ∀ j : Int, now_0 j = now_1 j) (hE_0_4_1 : ∀ j : Int, latest_0 j = latest_1 j) (kz_0_8 : 0 ≤ fault_0 ∧ fault_0 ≤ 5) (kz_0_11 : 0 ≤ pos_0 ∧ pos_0 ≤ 2000) (kz_0_12 : 0 ≤ kind_0 ∧ kind_0 ≤ 4) (kz_0_15 : 0 ≤ from_0 ∧ from_0 ≤ 2000) (ex2 : gx = x3) : 1 * gx + ((-1) * pos_0 + 0) ≤ 0 := by
  subst fe_0_5_1
  subst fe_0_8_1
  subst fe_0_11_1
  subst fe_0_12_1
  subst fe_0_15_1
  have e_hE_0_3_1 := funext hE_0_3_1; subst e_hE_0_3_1
  have e_hE_0_4_1 := funext hE_0_4_1; subst e_hE_0_4_1
  first
    | omega
    | (have q1 := (hE_0_2_1 (r_0 + 2) (by omega)).2 (by omega)
       have q2 := (hE_0_2_2 (r_0 + 2) (by omega)).2 (by omega)
       omega)
    | (have q1 := (hE_0_2_1 (r_0 + 1) (by omega)).2 (by omega)
       have q2 := (hE_0_2_2 (r_0 + 1) (by omega)).2 (by omega)
       omega)
    | (have q1 := (hE_0_2_1 (r_0 + 2) (by omega)).2 (by omega)
       omega)
    | (have q1 := (hE_0_2_1 (r_0 + 1) (by omega)).2 (by omega)
       omega)
    | (have q1 := (hE_0_2_1 (r_0 + 2) (by omega)).2 (by omega)
       have q2 := (hE_0_2_2 (r_0 + 2) (by omega)).2 (by omega)
       have q3 := (hE_0_2_3 (r_0 + 2) (by omega)).1 (by omega)
       omega)
    | (have q1 := (hE_0_2_1 (r_0 + 2) (by omega)).2 (by omega)
       have q2 := (hE_0_2_2 (r_0 + 2) (by omega)).2 (by omega)
       have q3 := (hE_0_2_3 (r_0 + 2) (by omega)).2 (by omega)
       omega)
set_option maxHeartbeats 4000000 in
theorem vc_Mo_item_at_k0_12_7 (x3 : Int) (x13 : Int) (x15 : Int) (x16 : Int) (x21 : Int) (from_0 : Int) (pos_0 : Int) (kind_0 : Int) (fault_0 : Int) (r_1 : Int) (fault_1 : Int) (all_1 : Int → Int) (now_1 : Int → Int) (latest_1 : Int → Int) (from_1 : Int) (pos_1 : Int) (kind_1 : Int) (r_0 : Int) (all_0 : Int → Int) (now_0 : Int → Int) (latest_0 : Int → Int) (gx : Int) (k3 : 0 ≤ x3 ∧ x3 ≤ 2000) (k13 : 0 ≤ x13 ∧ x13 ≤ 2000) (k15 : 1 ≤ x15 ∧ x15 ≤ 99) (k16 : 0 ≤ x16 ∧ x16 ≤ 0) (k21 : 219 ≤ x21 ∧ x21 ≤ 66539) (f0 : 1 * x13 + ((-1) * x3 + 0) ≤ 0) (f1 : (-1) * x13 + (1 * x3 + 0) ≤ 0) (f10 : 1 * x13 + ((-1) * pos_0 + 0) ≤ 0) (g22 : x16 = fault_1) (f34 : ((kind_1 = 1) → (pos_1 ≤ (from_1 + 8))) ∧ ((kind_1 = 0) ∨ ((from_1 + 1) ≤ pos_1))) (f36 : (1 ≤ fault_1) ∨ ((kind_1 = 0) ∨ ((x13 + 1) ≤ pos_1))) (fe_0_5_1 : r_0 = r_1) (fe_0_8_1 : fault_0 = fault_1) (fe_0_11_1 : pos_0 = pos_1) (fe_0_12_1 : kind_0 = kind_1) (fe_0_15_1 : from_0 = from_1) (hE_0_2_1 : ∀ j : Int, 0 ≤ j → (j = x21 → all_0 j = x15) ∧ (j ≠ x21 → all_0 j = all_1 j)) (hE_0_3_1 : ∀ j : Int, now_0 j = now_1 j) (hE_0_4_1 : ∀ j : Int, latest_0 j = latest_1 j) (kz_0_8 : 0 ≤ fault_0 ∧ fault_0 ≤ 5) (kz_0_11 : 0 ≤ pos_0 ∧ pos_0 ≤ 2000) (kz_0_12 : 0 ≤ kind_0 ∧ kind_0 ≤ 4) (kz_0_15 : 0 ≤ from_0 ∧ from_0 ≤ 2000) (ex2 : gx = x3) : (1 ≤ fault_0) ∨ ((kind_0 = 0) ∨ ((gx + 1) ≤ pos_0)) := by
  subst fe_0_5_1
  subst fe_0_8_1
  subst fe_0_11_1
  subst fe_0_12_1
  subst fe_0_15_1
  have e_hE_0_3_1 := funext hE_0_3_1; subst e_hE_0_3_1
  have e_hE_0_4_1 := funext hE_0_4_1; subst e_hE_0_4_1
  first
    | omega
    | (have q1 := (hE_0_2_1 (r_0 + 2) (by omega)).2 (by omega)
       have q2 := (hE_0_2_2 (r_0 + 2) (by omega)).2 (by omega)
       omega)
    | (have q1 := (hE_0_2_1 (r_0 + 1) (by omega)).2 (by omega)
       have q2 := (hE_0_2_2 (r_0 + 1) (by omega)).2 (by omega)
       omega)
    | (have q1 := (hE_0_2_1 (r_0 + 2) (by omega)).2 (by omega)
       omega)
    | (have q1 := (hE_0_2_1 (r_0 + 1) (by omega)).2 (by omega)
       omega)
    | (have q1 := (hE_0_2_1 (r_0 + 2) (by omega)).2 (by omega)
       have q2 := (hE_0_2_2 (r_0 + 2) (by omega)).2 (by omega)
       have q3 := (hE_0_2_3 (r_0 + 2) (by omega)).1 (by omega)
       omega)
    | (have q1 := (hE_0_2_1 (r_0 + 2) (by omega)).2 (by omega)
       have q2 := (hE_0_2_2 (r_0 + 2) (by omega)).2 (by omega)
       have q3 := (hE_0_2_3 (r_0 + 2) (by omega)).2 (by omega)
       omega)
def o_Mo_item_at_k0_12 : or_T := (64, 23, [(0, (2, 0, 0, [165])), (1, (0, 0, 0, [])), (3, (0, 0, 2000, [])), (6, (0, 0, 2000, [])), (8, (0, 0, 2000, [])), (10, (0, 0, 23, [])), (12, (0, 99, 99, [])), (13, (0, 0, 2000, [])), (14, (0, -1, 48, [])), (15, (0, 1, 99, [])), (16, (0, 0, 0, [])), (17, (2, 0, 0, [167])), (18, (0, 0, 66297, [])), (19, (0, 219, 219, [])), (20, (0, 219, 66516, [])), (21, (0, 219, 66539, []))], [(23, [13, 3], [0, 1, -1]), (23, [13, 3], [0, -1, 1]), (23, [14, 10], [0, 1, -1]), (23, [14, 10], [0, -1, 1]), (23, [8, 3], [0, 1, -1]), (23, [8, 3], [0, -1, 1]), (23, [6, 3], [0, 1, -1]), (23, [6, 3], [0, -1, 1]), (20, [0, 0], [30, 0, 1, 1, 15, -1, 1, 11]), (20, [0], [50, 3, 0, 12, 11, 15, 2, 21, 4, 7, 1, 3, 2, 0, 12, 0, 1, 0, 3, 2, 0, 11, 4, 3, 2, 0, 15, 0, 8, 3, 7, 1, 3, 2, 0, 12, 0, 0, 0, 7, 4, 3, 2, 0, 15, 0, 1, 2, 0, 11]), (20, [13, 0], [30, 0, 1, 0, 0, -1, 1, 11]), (20, [0, 13], [50, 3, 0, 8, 12, 11, 3, 7, 0, 2, 0, 1, 2, 0, 8, 3, 7, 1, 3, 2, 0, 12, 0, 0, 0, 6, 4, 2, 1, 1, 0, 1, 2, 0, 11]), (20, [0, 14], [50, 1, 0, 8, 3, 7, 0, 2, 0, 1, 2, 0, 8, 0, 2, 0, 0, 1, 1]), (20, [15, 12], [30, 0, 1, 0, 0, -1, 0, 0]), (20, [15], [30, 0, -1, 0, 0]), (100, [17, 21, 15], []), (1, [21, 20, 10], []), (1, [20, 18, 19], []), (9, [18, 0], [5]), (9, [17, 0], [2]), (8, [15], [4]), (8, [16], [0]), (9, [16, 0], [8]), (23, [13, 3], [0, 1, -1]), (23, [13, 3], [0, -1, 1]), (23, [14, 10], [0, 1, -1]), (23, [14, 10], [0, -1, 1]), (23, [8, 3], [0, 1, -1]), (23, [8, 3], [0, -1, 1]), (23, [6, 3], [0, 1, -1]), (23, [6, 3], [0, -1, 1]), (20, [1, 0], [50, 1, 1, 1005, 1002, 0, 6, 4, 2, 1, 0, 0, 1, 3, 1, 2, 4, 3, 2, 1, 5, 0, 2]), (20, [0], [60, 1, 3, 199, 5, 2, 3, 4]), (20, [0, 0], [30, 0, 1, 1, 15, -1, 1, 11]), (20, [0], [50, 3, 0, 12, 11, 15, 2, 21, 4, 7, 1, 3, 2, 0, 12, 0, 1, 0, 3, 2, 0, 11, 4, 3, 2, 0, 15, 0, 8, 3, 7, 1, 3, 2, 0, 12, 0, 0, 0, 7, 4, 3, 2, 0, 15, 0, 1, 2, 0, 11]), (20, [13, 0], [30, 0, 1, 0, 0, -1, 1, 11]), (20, [0, 13], [50, 3, 0, 8, 12, 11, 3, 7, 0, 2, 0, 1, 2, 0, 8, 3, 7, 1, 3, 2, 0, 12, 0, 0, 0, 6, 4, 2, 1, 1, 0, 1, 2, 0, 11]), (20, [0, 14], [50, 1, 0, 8, 3, 7, 0, 2, 0, 1, 2, 0, 8, 0, 2, 0, 0, 1, 1]), (20, [15, 12], [30, 0, 1, 0, 0, -1, 0, 0]), (20, [15], [30, 0, -1, 0, 0]), (102, [14], [0, 165008, 165009, 165011, 165012, 165013, 165014, 165015]), (23, [13, 3], [0, 1, -1]), (23, [13, 3], [0, -1, 1]), (23, [14, 10], [0, 1, -1]), (23, [14, 10], [0, -1, 1]), (23, [8, 3], [0, 1, -1]), (23, [8, 3], [0, -1, 1]), (23, [6, 3], [0, 1, -1]), (23, [6, 3], [0, -1, 1]), (102, [9], [187072209578355573530071658587684226515959365500928, 165008, 165009, 165011, 165012, 165013, 165014, 165015]), (23, [8, 3], [0, 1, -1]), (23, [8, 3], [0, -1, 1]), (23, [6, 3], [0, 1, -1]), (23, [6, 3], [0, -1, 1]), (102, [6], [0, 165011, 165012, 165013, 165014, 165015]), (23, [6, 3], [0, 1, -1]), (23, [6, 3], [0, -1, 1])], [], [(0, 0, 2000, [])], [(20, [1, 0], [50, 1, 1, 1005, 1002, 0, 6, 4, 2, 1, 0, 0, 1, 3, 1, 2, 4, 3, 2, 1, 5, 0, 2]), (20, [0], [60, 1, 3, 199, 5, 2, 3, 4]), (23, [23, 3], [0, 1, -1]), (23, [23, 3], [0, -1, 1]), (20, [0, 0], [30, 0, 1, 1, 15, -1, 1, 11]), (20, [0], [50, 3, 0, 12, 11, 15, 2, 21, 4, 7, 1, 3, 2, 0, 12, 0, 1, 0, 3, 2, 0, 11, 4, 3, 2, 0, 15, 0, 8, 3, 7, 1, 3, 2, 0, 12, 0, 0, 0, 7, 4, 3, 2, 0, 15, 0, 1, 2, 0, 11]), (20, [23, 0], [30, 0, 1, 0, 0, -1, 1, 11]), (20, [0, 23], [50, 3, 0, 8, 12, 11, 3, 7, 0, 2, 0, 1, 2, 0, 8, 3, 7, 1, 3, 2, 0, 12, 0, 0, 0, 6, 4, 2, 1, 1, 0, 1, 2, 0, 11])], [], [(21, 10, 219, 66516), (21, 20, 0, 23), (21, 18, 219, 242), (20, 18, 219, 219)])
theorem oo_Mo_item_at_k0_12 {kA : Nat → ClassId} : or_ok PRD kA GG o_Mo_item_at_k0_12 := by
  refine or_mk fun A ta ws vs hD hth hl => ?_
  intro t0 r0 t1 k1 t3 k3 t6 k6 t8 k8 t10 k10 t12 k12 t13 k13 t14 k14 t15 k15 t16 k16 t17 r17 t18 k18 t19 k19 t20 k20 t21 k21 d0 d1 d2 d3 f0 f1 f2 f3 f4 f5 f6 f7 f8 f9 f10 f11 f12 f13 f14 ta1 w1 le1 s1 f16 f17 f18 f19 f20 f21 f22 f23 f24 f25 f26 f27 f28 f29 f30 f31 f32 f33 f34 f35 f36 f37 f38 f39 ta2 w2 le2 s2 f41 f42 f43 f44 f45 f46 f47 f48 ta3 w3 le3 s3 f50 f51 f52 f53 ta4 w4 le4 s4 f55 f56
  replace f0 := shm_7 f0
  replace f1 := shm_22 f1
  replace f2 := shm_7 f2
  replace f3 := shm_22 f3
  replace f4 := shm_7 f4
  replace f5 := shm_22 f5
  replace f6 := shm_7 f6
  replace f7 := shm_22 f7
  replace f8 := shm_1397 f8
  replace f9 := shm_1398 f9
  replace f10 := shm_1395 f10
  replace f11 := shm_1660 f11
  replace f12 := shm_1889 f12
  replace f13 := shm_219 f13
  replace f14 := shm_1890 f14
  have s1 : (∀ b j, w_el ws b j = if b = v_ad (n_v vs 17) ∧ j = (v_iv (n_v vs 21)).toNat then v_iv (n_v vs 15) else w_el w1 b j) ∧ ∀ b k, w_fd ws b k = w_fd w1 b k := s1.2
  replace f16 := shm_12 f16
  replace f17 := shm_12 f17
  replace f18 := shm_109 f18
  replace f19 := shm_129 f19
  replace f20 := shm_145 f20
  replace f21 := shm_210 f21
  replace f22 := shm_143 f22
  replace f23 := shm_7 f23
  replace f24 := shm_22 f24
  replace f25 := shm_7 f25
  replace f26 := shm_22 f26
  replace f27 := shm_7 f27
  replace f28 := shm_22 f28
  replace f29 := shm_7 f29
  replace f30 := shm_22 f30
  replace f31 := shm_981 f31
  replace f32 := shm_952 f32
  replace f33 := shm_1397 f33
  replace f34 := shm_1398 f34
  replace f35 := shm_1395 f35
  replace f36 := shm_1660 f36
  replace f37 := shm_1889 f37
  replace f38 := shm_219 f38
  replace f39 := shm_1890 f39
  replace f41 := shm_7 f41
  replace f42 := shm_22 f42
  replace f43 := shm_7 f43
  replace f44 := shm_22 f44
  replace f45 := shm_7 f45
  replace f46 := shm_22 f46
  replace f47 := shm_7 f47
  replace f48 := shm_22 f48
  replace f50 := shm_7 f50
  replace f51 := shm_22 f51
  replace f52 := shm_7 f52
  replace f53 := shm_22 f53
  replace f55 := shm_7 f55
  replace f56 := shm_22 f56
  have ar_0_2_1 : w_ar w1 (n_v vs 0) 2 = w_ar ws (n_v vs 0) 2 := congrArg v_ad (s1.2 _ _).symm
  have cr_0_2 := fdq_12 hD hth r0
  have ar_0_3_1 : w_ar w1 (n_v vs 0) 3 = w_ar ws (n_v vs 0) 3 := congrArg v_ad (s1.2 _ _).symm
  have cr_0_3 := fdq_141 hD hth r0
  have ar_0_4_1 : w_ar w1 (n_v vs 0) 4 = w_ar ws (n_v vs 0) 4 := congrArg v_ad (s1.2 _ _).symm
  have cr_0_4 := fdq_142 hD hth r0
  have ad_17 : v_ad (n_v vs 17) = w_ar ws (n_v vs 0) 2 := (congrArg v_ad f19).trans ar_0_2_1
  have g18 : v_iv (n_v vs 18) = w_fi w1 (n_v vs 0) 5 := congrArg v_iv f18
  have g22 : v_iv (n_v vs 16) = w_fi w1 (n_v vs 0) 8 := congrArg v_iv f22
  simp only [ar_0_2_1, ar_0_3_1, ar_0_4_1] at f31 f32
  have fe_0_5_1 : w_fi ws (n_v vs 0) 5 = w_fi w1 (n_v vs 0) 5 := congrArg v_iv (s1.2 _ _)
  have fe_0_8_1 : w_fi ws (n_v vs 0) 8 = w_fi w1 (n_v vs 0) 8 := congrArg v_iv (s1.2 _ _)
  have fe_0_11_1 : w_fi ws (n_v vs 0) 11 = w_fi w1 (n_v vs 0) 11 := congrArg v_iv (s1.2 _ _)
  have fe_0_12_1 : w_fi ws (n_v vs 0) 12 = w_fi w1 (n_v vs 0) 12 := congrArg v_iv (s1.2 _ _)
  have fe_0_15_1 : w_fi ws (n_v vs 0) 15 = w_fi w1 (n_v vs 0) 15 := congrArg v_iv (s1.2 _ _)
  have hE_0_2_1 : ∀ j : Int, 0 ≤ j → (j = v_iv (n_v vs 21) → w_ei ws (w_ar ws (n_v vs 0) 2) j = v_iv (n_v vs 15)) ∧ (j ≠ v_iv (n_v vs 21) → w_ei ws (w_ar ws (n_v vs 0) 2) j = w_ei w1 (w_ar ws (n_v vs 0) 2) j) := fun j hj => ⟨fun h => by unfold w_ei; rw [s1.1, if_pos ⟨ad_17.symm, by rw [h]⟩], fun h => by unfold w_ei; rw [s1.1, if_neg (fun e => h (by have := e.2; omega))]⟩
  have hE_0_3_1 : ∀ j : Int, w_ei ws (w_ar ws (n_v vs 0) 3) j = w_ei w1 (w_ar ws (n_v vs 0) 3) j := el_kp s1.1 r17 cr_0_3 (by decide)
  have hK_0_3 := elq_77 hD hth cr_0_3
  have hE_0_4_1 : ∀ j : Int, w_ei ws (w_ar ws (n_v vs 0) 4) j = w_ei w1 (w_ar ws (n_v vs 0) 4) j := el_kp s1.1 r17 cr_0_4 (by decide)
  have hK_0_4 := elq_78 hD hth cr_0_4
  have kz_0_8 := fdq_14 hD hth r0
  have kz_0_11 := fdq_273 hD hth r0
  have kz_0_12 := fdq_186 hD hth r0
  have kz_0_15 := fdq_274 hD hth r0
  first | have hJ0 : w_ei w1 (w_ar ws (n_v vs 0) 2) ((w_fi w1 (n_v vs 0) 5 + 2)) = w_ei w1 (w_ar ws (n_v vs 0) 2) ((w_fi ws (n_v vs 0) 5 + 2)) := congrArg _ (show ((w_fi w1 (n_v vs 0) 5 + 2) : Int) = (w_fi ws (n_v vs 0) 5 + 2) from by omega) | skip
  first | have hI1 := (hE_0_2_1 ((w_fi ws (n_v vs 0) 5 + 2)) (by omega)).2 (by omega) | have hI1 := (hE_0_2_1 ((w_fi ws (n_v vs 0) 5 + 2)) (by omega)).1 (by omega) | skip
  obtain ⟨x, ex, hx⟩ := iv_ex (ta := ta) (lo := 0) (hi := 2000) (z := v_iv (n_v vs 3)) (by omega) (by omega) (by omega) (by omega)
  have ex2 : v_iv (Value.int x) = v_iv (n_v vs 3) := ex
  have ex3 : 0 ≤ v_iv (Value.int x) ∧ v_iv (Value.int x) ≤ 2000 := tv_rng hx
  have e_0 : n_v (vs ++ [Value.int x]) 0 = n_v vs 0 := n_v_old (by rw [hl]; decide)
  have e_1 : n_v (vs ++ [Value.int x]) 1 = n_v vs 1 := n_v_old (by rw [hl]; decide)
  have e_3 : n_v (vs ++ [Value.int x]) 3 = n_v vs 3 := n_v_old (by rw [hl]; decide)
  have e_23 : n_v (vs ++ [Value.int x]) 23 = Value.int x := n_v_new hl
  have nf0 : fc_1 PRD (20, [1, 0], [50, 1, 1, 1005, 1002, 0, 6, 4, 2, 1, 0, 0, 1, 3, 1, 2, 4, 3, 2, 1, 5, 0, 2]) ws (vs ++ [Value.int x]) := by
    refine ⟨nf_inA hl rfl, sgq_981 ?_⟩
    · show (v_iv (n_v (vs ++ [Value.int x]) 1) + 1) ≤ w_ei ws (w_ar ws (n_v (vs ++ [Value.int x]) 0) 2) ((w_fi ws (n_v (vs ++ [Value.int x]) 0) 5 + 2))
      simp only [e_0, e_1]
      exact vc_Mo_item_at_k0_12_0 (v_iv (n_v vs 1)) (v_iv (n_v vs 10)) (v_iv (n_v vs 14)) (v_iv (n_v vs 15)) (v_iv (n_v vs 18)) (v_iv (n_v vs 20)) (v_iv (n_v vs 21)) (w_fi ws (n_v vs 0) 15) (w_fi ws (n_v vs 0) 11) (w_fi ws (n_v vs 0) 12) (w_fi ws (n_v vs 0) 8) (w_fi w1 (n_v vs 0) 5) (w_fi w1 (n_v vs 0) 8) (w_ei w1 (w_ar ws (n_v vs 0) 2)) (w_ei w1 (w_ar ws (n_v vs 0) 3)) (w_ei w1 (w_ar ws (n_v vs 0) 4)) (w_fi w1 (n_v vs 0) 15) (w_fi w1 (n_v vs 0) 11) (w_fi w1 (n_v vs 0) 12) (w_fi ws (n_v vs 0) 5) (w_ei ws (w_ar ws (n_v vs 0) 2)) (w_ei ws (w_ar ws (n_v vs 0) 3)) (w_ei ws (w_ar ws (n_v vs 0) 4)) k1 k10 k14 k15 k18 k20 k21 d0 d3 f2 f3 f16 g18 f31 fe_0_5_1 fe_0_8_1 fe_0_11_1 fe_0_12_1 fe_0_15_1 hE_0_2_1 hE_0_3_1 hE_0_4_1 kz_0_8 kz_0_11 kz_0_12 kz_0_15
  have nf1 : fc_1 PRD (20, [0], [60, 1, 3, 199, 5, 2, 3, 4]) ws (vs ++ [Value.int x]) := by
    refine ⟨nf_inA hl rfl, sgq_952 ?_⟩
    · show RWS (w_fi ws (n_v (vs ++ [Value.int x]) 0) 5) (w_ei ws (w_ar ws (n_v (vs ++ [Value.int x]) 0) 2)) (w_ei ws (w_ar ws (n_v (vs ++ [Value.int x]) 0) 3)) (w_ei ws (w_ar ws (n_v (vs ++ [Value.int x]) 0) 4))
      rw [e_0]
      exact vc_Mo_item_at_k0_12_1 (v_iv (n_v vs 10)) (v_iv (n_v vs 14)) (v_iv (n_v vs 15)) (v_iv (n_v vs 18)) (v_iv (n_v vs 20)) (v_iv (n_v vs 21)) (w_fi ws (n_v vs 0) 15) (w_fi ws (n_v vs 0) 11) (w_fi ws (n_v vs 0) 12) (w_fi ws (n_v vs 0) 8) (w_fi w1 (n_v vs 0) 5) (w_fi w1 (n_v vs 0) 8) (w_ei w1 (w_ar ws (n_v vs 0) 2)) (w_ei w1 (w_ar ws (n_v vs 0) 3)) (w_ei w1 (w_ar ws (n_v vs 0) 4)) (w_fi w1 (n_v vs 0) 15) (w_fi w1 (n_v vs 0) 11) (w_fi w1 (n_v vs 0) 12) (w_fi ws (n_v vs 0) 5) (w_ei ws (w_ar ws (n_v vs 0) 2)) (w_ei ws (w_ar ws (n_v vs 0) 3)) (w_ei ws (w_ar ws (n_v vs 0) 4)) k10 k14 k15 k18 k20 k21 d3 f2 f3 f16 g18 f32 fe_0_5_1 fe_0_8_1 fe_0_11_1 fe_0_12_1 fe_0_15_1 hE_0_2_1 hE_0_3_1 hE_0_4_1 kz_0_8 kz_0_11 kz_0_12 kz_0_15
  have nf2 : fc_1 PRD (23, [23, 3], [0, 1, -1]) ws (vs ++ [Value.int x]) := by
    refine ⟨nf_inA hl rfl, sgq_7 ?_⟩
    · show 1 * v_iv (n_v (vs ++ [Value.int x]) 23) + ((-1) * v_iv (n_v (vs ++ [Value.int x]) 3) + 0) ≤ 0
      simp only [e_3, e_23]
      exact vc_Mo_item_at_k0_12_2 (v_iv (n_v vs 3)) (v_iv (n_v vs 13)) (v_iv (n_v vs 15)) (v_iv (n_v vs 21)) (w_fi ws (n_v vs 0) 15) (w_fi ws (n_v vs 0) 11) (w_fi ws (n_v vs 0) 12) (w_fi ws (n_v vs 0) 8) (w_fi w1 (n_v vs 0) 5) (w_fi w1 (n_v vs 0) 8) (w_ei w1 (w_ar ws (n_v vs 0) 2)) (w_ei w1 (w_ar ws (n_v vs 0) 3)) (w_ei w1 (w_ar ws (n_v vs 0) 4)) (w_fi w1 (n_v vs 0) 15) (w_fi w1 (n_v vs 0) 11) (w_fi w1 (n_v vs 0) 12) (w_fi ws (n_v vs 0) 5) (w_ei ws (w_ar ws (n_v vs 0) 2)) (w_ei ws (w_ar ws (n_v vs 0) 3)) (w_ei ws (w_ar ws (n_v vs 0) 4)) (v_iv (Value.int x)) k3 k13 k15 k21 f0 f1 fe_0_5_1 fe_0_8_1 fe_0_11_1 fe_0_12_1 fe_0_15_1 hE_0_2_1 hE_0_3_1 hE_0_4_1 kz_0_8 kz_0_11 kz_0_12 kz_0_15 ex2
  have nf3 : fc_1 PRD (23, [23, 3], [0, -1, 1]) ws (vs ++ [Value.int x]) := by
    refine ⟨nf_inA hl rfl, sgq_22 ?_⟩
    · show (-1) * v_iv (n_v (vs ++ [Value.int x]) 23) + (1 * v_iv (n_v (vs ++ [Value.int x]) 3) + 0) ≤ 0
      simp only [e_3, e_23]
      exact vc_Mo_item_at_k0_12_3 (v_iv (n_v vs 3)) (v_iv (n_v vs 13)) (v_iv (n_v vs 15)) (v_iv (n_v vs 21)) (w_fi ws (n_v vs 0) 15) (w_fi ws (n_v vs 0) 11) (w_fi ws (n_v vs 0) 12) (w_fi ws (n_v vs 0) 8) (w_fi w1 (n_v vs 0) 5) (w_fi w1 (n_v vs 0) 8) (w_ei w1 (w_ar ws (n_v vs 0) 2)) (w_ei w1 (w_ar ws (n_v vs 0) 3)) (w_ei w1 (w_ar ws (n_v vs 0) 4)) (w_fi w1 (n_v vs 0) 15) (w_fi w1 (n_v vs 0) 11) (w_fi w1 (n_v vs 0) 12) (w_fi ws (n_v vs 0) 5) (w_ei ws (w_ar ws (n_v vs 0) 2)) (w_ei ws (w_ar ws (n_v vs 0) 3)) (w_ei ws (w_ar ws (n_v vs 0) 4)) (v_iv (Value.int x)) k3 k13 k15 k21 f0 f1 fe_0_5_1 fe_0_8_1 fe_0_11_1 fe_0_12_1 fe_0_15_1 hE_0_2_1 hE_0_3_1 hE_0_4_1 kz_0_8 kz_0_11 kz_0_12 kz_0_15 ex2
  have nf4 : fc_1 PRD (20, [0, 0], [30, 0, 1, 1, 15, -1, 1, 11]) ws (vs ++ [Value.int x]) := by
    refine ⟨nf_inA hl rfl, sgq_1397 ?_⟩
    · show 1 * w_fi ws (n_v (vs ++ [Value.int x]) 0) 15 + ((-1) * w_fi ws (n_v (vs ++ [Value.int x]) 0) 11 + 0) ≤ 0
      rw [e_0]
      exact vc_Mo_item_at_k0_12_4 (v_iv (n_v vs 15)) (v_iv (n_v vs 21)) (w_fi ws (n_v vs 0) 15) (w_fi ws (n_v vs 0) 11) (w_fi ws (n_v vs 0) 12) (w_fi ws (n_v vs 0) 8) (w_fi w1 (n_v vs 0) 5) (w_fi w1 (n_v vs 0) 8) (w_ei w1 (w_ar ws (n_v vs 0) 2)) (w_ei w1 (w_ar ws (n_v vs 0) 3)) (w_ei w1 (w_ar ws (n_v vs 0) 4)) (w_fi w1 (n_v vs 0) 15) (w_fi w1 (n_v vs 0) 11) (w_fi w1 (n_v vs 0) 12) (w_fi ws (n_v vs 0) 5) (w_ei ws (w_ar ws (n_v vs 0) 2)) (w_ei ws (w_ar ws (n_v vs 0) 3)) (w_ei ws (w_ar ws (n_v vs 0) 4)) k15 k21 f33 fe_0_5_1 fe_0_8_1 fe_0_11_1 fe_0_12_1 fe_0_15_1 hE_0_2_1 hE_0_3_1 hE_0_4_1 kz_0_8 kz_0_11 kz_0_12 kz_0_15
  have nf5 : fc_1 PRD (20, [0], [50, 3, 0, 12, 11, 15, 2, 21, 4, 7, 1, 3, 2, 0, 12, 0, 1, 0, 3, 2, 0, 11, 4, 3, 2, 0, 15, 0, 8, 3, 7, 1, 3, 2, 0, 12, 0, 0, 0, 7, 4, 3, 2, 0, 15, 0, 1, 2, 0, 11]) ws (vs ++ [Value.int x]) := by
    refine ⟨nf_inA hl rfl, sgq_1398 ?_⟩
    · show ((w_fi ws (n_v (vs ++ [Value.int x]) 0) 12 = 1) → (w_fi ws (n_v (vs ++ [Value.int x]) 0) 11 ≤ (w_fi ws (n_v (vs ++ [Value.int x]) 0) 15 + 8))) ∧ ((w_fi ws (n_v (vs ++ [Value.int x]) 0) 12 = 0) ∨ ((w_fi ws (n_v (vs ++ [Value.int x]) 0) 15 + 1) ≤ w_fi ws (n_v (vs ++ [Value.int x]) 0) 11))
      rw [e_0]
      exact vc_Mo_item_at_k0_12_5 (v_iv (n_v vs 15)) (v_iv (n_v vs 21)) (w_fi ws (n_v vs 0) 15) (w_fi ws (n_v vs 0) 11) (w_fi ws (n_v vs 0) 12) (w_fi ws (n_v vs 0) 8) (w_fi w1 (n_v vs 0) 5) (w_fi w1 (n_v vs 0) 8) (w_ei w1 (w_ar ws (n_v vs 0) 2)) (w_ei w1 (w_ar ws (n_v vs 0) 3)) (w_ei w1 (w_ar ws (n_v vs 0) 4)) (w_fi w1 (n_v vs 0) 15) (w_fi w1 (n_v vs 0) 11) (w_fi w1 (n_v vs 0) 12) (w_fi ws (n_v vs 0) 5) (w_ei ws (w_ar ws (n_v vs 0) 2)) (w_ei ws (w_ar ws (n_v vs 0) 3)) (w_ei ws (w_ar ws (n_v vs 0) 4)) k15 k21 f34 fe_0_5_1 fe_0_8_1 fe_0_11_1 fe_0_12_1 fe_0_15_1 hE_0_2_1 hE_0_3_1 hE_0_4_1 kz_0_8 kz_0_11 kz_0_12 kz_0_15
  have nf6 : fc_1 PRD (20, [23, 0], [30, 0, 1, 0, 0, -1, 1, 11]) ws (vs ++ [Value.int x]) := by
    refine ⟨nf_inA hl rfl, sgq_1395 ?_⟩
    · show 1 * v_iv (n_v (vs ++ [Value.int x]) 23) + ((-1) * w_fi ws (n_v (vs ++ [Value.int x]) 0) 11 + 0) ≤ 0
      simp only [e_0, e_23]
      exact vc_Mo_item_at_k0_12_6 (v_iv (n_v vs 3)) (v_iv (n_v vs 13)) (v_iv (n_v vs 15)) (v_iv (n_v vs 21)) (w_fi ws (n_v vs 0) 15) (w_fi ws (n_v vs 0) 11) (w_fi ws (n_v vs 0) 12) (w_fi ws (n_v vs 0) 8) (w_fi w1 (n_v vs 0) 5) (w_fi w1 (n_v vs 0) 8) (w_ei w1 (w_ar ws (n_v vs 0) 2)) (w_ei w1 (w_ar ws (n_v vs 0) 3)) (w_ei w1 (w_ar ws (n_v vs 0) 4)) (w_fi w1 (n_v vs 0) 15) (w_fi w1 (n_v vs 0) 11) (w_fi w1 (n_v vs 0) 12) (w_fi ws (n_v vs 0) 5) (w_ei ws (w_ar ws (n_v vs 0) 2)) (w_ei ws (w_ar ws (n_v vs 0) 3)) (w_ei ws (w_ar ws (n_v vs 0) 4)) (v_iv (Value.int x)) k3 k13 k15 k21 f0 f1 f10 fe_0_5_1 fe_0_8_1 fe_0_11_1 fe_0_12_1 fe_0_15_1 hE_0_2_1 hE_0_3_1 hE_0_4_1 kz_0_8 kz_0_11 kz_0_12 kz_0_15 ex2
  have nf7 : fc_1 PRD (20, [0, 23], [50, 3, 0, 8, 12, 11, 3, 7, 0, 2, 0, 1, 2, 0, 8, 3, 7, 1, 3, 2, 0, 12, 0, 0, 0, 6, 4, 2, 1, 1, 0, 1, 2, 0, 11]) ws (vs ++ [Value.int x]) := by
    refine ⟨nf_inA hl rfl, sgq_1660 ?_⟩
    · show (1 ≤ w_fi ws (n_v (vs ++ [Value.int x]) 0) 8) ∨ ((w_fi ws (n_v (vs ++ [Value.int x]) 0) 12 = 0) ∨ ((v_iv (n_v (vs ++ [Value.int x]) 23) + 1) ≤ w_fi ws (n_v (vs ++ [Value.int x]) 0) 11))
      simp only [e_0, e_23]
      exact vc_Mo_item_at_k0_12_7 (v_iv (n_v vs 3)) (v_iv (n_v vs 13)) (v_iv (n_v vs 15)) (v_iv (n_v vs 16)) (v_iv (n_v vs 21)) (w_fi ws (n_v vs 0) 15) (w_fi ws (n_v vs 0) 11) (w_fi ws (n_v vs 0) 12) (w_fi ws (n_v vs 0) 8) (w_fi w1 (n_v vs 0) 5) (w_fi w1 (n_v vs 0) 8) (w_ei w1 (w_ar ws (n_v vs 0) 2)) (w_ei w1 (w_ar ws (n_v vs 0) 3)) (w_ei w1 (w_ar ws (n_v vs 0) 4)) (w_fi w1 (n_v vs 0) 15) (w_fi w1 (n_v vs 0) 11) (w_fi w1 (n_v vs 0) 12) (w_fi ws (n_v vs 0) 5) (w_ei ws (w_ar ws (n_v vs 0) 2)) (w_ei ws (w_ar ws (n_v vs 0) 3)) (w_ei ws (w_ar ws (n_v vs 0) 4)) (v_iv (Value.int x)) k3 k13 k15 k16 k21 f0 f1 f10 g22 f34 f36 fe_0_5_1 fe_0_8_1 fe_0_11_1 fe_0_12_1 fe_0_15_1 hE_0_2_1 hE_0_3_1 hE_0_4_1 kz_0_8 kz_0_11 kz_0_12 kz_0_15 ex2
  exact ⟨(fun _ h => (by cases h)), [Value.int x], ag_one hx, List.forall_mem_cons.mpr ⟨⟨show (20 : Nat) < 100 from by decide, nf0⟩, List.forall_mem_cons.mpr ⟨⟨show (20 : Nat) < 100 from by decide, nf1⟩, List.forall_mem_cons.mpr ⟨⟨show (23 : Nat) < 100 from by decide, nf2⟩, List.forall_mem_cons.mpr ⟨⟨show (23 : Nat) < 100 from by decide, nf3⟩, List.forall_mem_cons.mpr ⟨⟨show (20 : Nat) < 100 from by decide, nf4⟩, List.forall_mem_cons.mpr ⟨⟨show (20 : Nat) < 100 from by decide, nf5⟩, List.forall_mem_cons.mpr ⟨⟨show (20 : Nat) < 100 from by decide, nf6⟩, List.forall_mem_cons.mpr ⟨⟨show (20 : Nat) < 100 from by decide, nf7⟩, (fun _ h => (by cases h))⟩⟩⟩⟩⟩⟩⟩⟩, (fun _ h => (by cases h))⟩
set_option maxHeartbeats 4000000 in
theorem vc_Mo_item_at_k0_13_0 (x3 : Int) (x23 : Int) (r_0 : Int) (pos_0 : Int) (k3 : 0 ≤ x3 ∧ x3 ≤ 2000) (k23 : 0 ≤ x23 ∧ x23 ≤ 2000) (f2 : 1 * x23 + ((-1) * x3 + 0) ≤ 0) (f3 : (-1) * x23 + (1 * x3 + 0) ≤ 0) (f14 : 1 * x23 + ((-1) * pos_0 + 0) ≤ 0) (kz_0_11 : 0 ≤ pos_0 ∧ pos_0 ≤ 2000) : 1 * x3 + ((-1) * pos_0 + 0) ≤ 0 := by
  first
    | omega
    | (have q1 := (hE_0_2_1 (r_0 + 2) (by omega)).2 (by omega)
       have q2 := (hE_0_2_2 (r_0 + 2) (by omega)).2 (by omega)
       omega)
    | (have q1 := (hE_0_2_1 (r_0 + 1) (by omega)).2 (by omega)
       have q2 := (hE_0_2_2 (r_0 + 1) (by omega)).2 (by omega)
       omega)
    | (have q1 := (hE_0_2_1 (r_0 + 2) (by omega)).2 (by omega)
       omega)
    | (have q1 := (hE_0_2_1 (r_0 + 1) (by omega)).2 (by omega)
       omega)
    | (have q1 := (hE_0_2_1 (r_0 + 2) (by omega)).2 (by omega)
       have q2 := (hE_0_2_2 (r_0 + 2) (by omega)).2 (by omega)
       have q3 := (hE_0_2_3 (r_0 + 2) (by omega)).1 (by omega)
       omega)
    | (have q1 := (hE_0_2_1 (r_0 + 2) (by omega)).2 (by omega)
       have q2 := (hE_0_2_2 (r_0 + 2) (by omega)).2 (by omega)
       have q3 := (hE_0_2_3 (r_0 + 2) (by omega)).2 (by omega)
       omega)
set_option maxHeartbeats 4000000 in
theorem vc_Mo_item_at_k0_13_1 (x3 : Int) (x23 : Int) (r_0 : Int) (pos_0 : Int) (fault_0 : Int) (k3 : 0 ≤ x3 ∧ x3 ≤ 2000) (k23 : 0 ≤ x23 ∧ x23 ≤ 2000) (f2 : 1 * x23 + ((-1) * x3 + 0) ≤ 0) (f3 : (-1) * x23 + (1 * x3 + 0) ≤ 0) (f14 : 1 * x23 + ((-1) * pos_0 + 0) ≤ 0) (f15 : (1 ≤ fault_0) ∨ ((x23 + 1) ≤ pos_0)) (kz_0_8 : 0 ≤ fault_0 ∧ fault_0 ≤ 5) (kz_0_11 : 0 ≤ pos_0 ∧ pos_0 ≤ 2000) : (1 ≤ fault_0) ∨ ((x3 + 1) ≤ pos_0) := by
  first
    | omega
    | (have q1 := (hE_0_2_1 (r_0 + 2) (by omega)).2 (by omega)
       have q2 := (hE_0_2_2 (r_0 + 2) (by omega)).2 (by omega)
       omega)
    | (have q1 := (hE_0_2_1 (r_0 + 1) (by omega)).2 (by omega)
       have q2 := (hE_0_2_2 (r_0 + 1) (by omega)).2 (by omega)
       omega)
    | (have q1 := (hE_0_2_1 (r_0 + 2) (by omega)).2 (by omega)
       omega)
    | (have q1 := (hE_0_2_1 (r_0 + 1) (by omega)).2 (by omega)
       omega)
    | (have q1 := (hE_0_2_1 (r_0 + 2) (by omega)).2 (by omega)
       have q2 := (hE_0_2_2 (r_0 + 2) (by omega)).2 (by omega)
       have q3 := (hE_0_2_3 (r_0 + 2) (by omega)).1 (by omega)
       omega)
    | (have q1 := (hE_0_2_1 (r_0 + 2) (by omega)).2 (by omega)
       have q2 := (hE_0_2_2 (r_0 + 2) (by omega)).2 (by omega)
       have q3 := (hE_0_2_3 (r_0 + 2) (by omega)).2 (by omega)
       omega)
def o_Mo_item_at_k0_13 : or_T := (94, 24, [(0, (2, 0, 0, [165])), (3, (0, 0, 2000, [])), (23, (0, 0, 2000, []))], [(23, [23, 3], [0, 1, -1]), (23, [23, 3], [0, -1, 1]), (20, [23, 0], [30, 0, 1, 0, 0, -1, 1, 11]), (20, [0, 23], [50, 2, 0, 8, 11, 3, 7, 0, 2, 0, 1, 2, 0, 8, 0, 6, 4, 2, 1, 1, 0, 1, 2, 0, 11])], [], [], [(20, [3, 0], [30, 0, 1, 0, 0, -1, 1, 11]), (20, [0, 3], [50, 2, 0, 8, 11, 3, 7, 0, 2, 0, 1, 2, 0, 8, 0, 6, 4, 2, 1, 1, 0, 1, 2, 0, 11])], [], [])
theorem oo_Mo_item_at_k0_13 {kA : Nat → ClassId} : or_ok PRD kA GG o_Mo_item_at_k0_13 := by
  refine or_mk fun A ta ws vs hD hth hl => ?_
  intro t0 r0 t3 k3 t23 k23 f2 f3 f14 f15
  have kz_0_8 := fdq_14 hD hth r0
  have kz_0_11 := fdq_273 hD hth r0
  have nf0 : fc_1 PRD (20, [3, 0], [30, 0, 1, 0, 0, -1, 1, 11]) ws (vs) := ⟨nf_in hl rfl, sgq_1395 (vc_Mo_item_at_k0_13_0 (v_iv (n_v vs 3)) (v_iv (n_v vs 23)) (w_fi ws (n_v vs 0) 5) (w_fi ws (n_v vs 0) 11) k3 k23 (shm_7 f2) (shm_22 f3) (shm_1395 f14) kz_0_11)⟩
  have nf1 : fc_1 PRD (20, [0, 3], [50, 2, 0, 8, 11, 3, 7, 0, 2, 0, 1, 2, 0, 8, 0, 6, 4, 2, 1, 1, 0, 1, 2, 0, 11]) ws (vs) := ⟨nf_in hl rfl, sgq_1659 (vc_Mo_item_at_k0_13_1 (v_iv (n_v vs 3)) (v_iv (n_v vs 23)) (w_fi ws (n_v vs 0) 5) (w_fi ws (n_v vs 0) 11) (w_fi ws (n_v vs 0) 8) k3 k23 (shm_7 f2) (shm_22 f3) (shm_1395 f14) (shm_1659 f15) kz_0_8 kz_0_11)⟩
  refine ⟨(fun _ h => (by cases h)), [], trivial, ?_, (fun _ h => (by cases h))⟩
  rw [List.append_nil]
  exact List.forall_mem_cons.mpr ⟨⟨show (20 : Nat) < 100 from by decide, nf0⟩, List.forall_mem_cons.mpr ⟨⟨show (20 : Nat) < 100 from by decide, nf1⟩, (fun _ h => (by cases h))⟩⟩
def n_Mo_item_at_k0_an : List an_T := []
def t_Mo_item_at_k0_ct : ct_L := [(1, 460, e_Mo_next), (1, 491, e_Mo_need), (1, 494, e_Mo_met), (1, 506, e_Mo_edgeItem), (16, 469, e_Mo_isWord_at_s5000), (85, 499, e_Mo_of_at_s5002), (226, 469, e_Mo_isWord_at_s5001), (253, 503, e_Mo_groupItem_at_k0), (1000001, 467, en_ro [] (2, 0, 0, [5000])), (1000001, 473, en_ro [] (2, 0, 0, [5001])), (1000001, 497, en_ro [] (2, 0, 0, [5002]))]
set_option maxRecDepth 100000 in
theorem c_Mo_item_at_k0 {l : Launch} {D : va_G} {kA : Nat → ClassId} (h_Mo_edgeItem : ct_ok PRD l D kA GG y_Mo_edgeItem z_Mo_edgeItem e_Mo_edgeItem) (h_Mo_groupItem_at_k0 : ct_ok PRD l D kA GG y_Mo_groupItem_at_k0 z_Mo_groupItem_at_k0 e_Mo_groupItem_at_k0) (h_Mo_isWord_at_s5000 : ct_ok PRD l D kA GG y_Mo_isWord_at_s5000 z_Mo_isWord_at_s5000 e_Mo_isWord_at_s5000) (h_Mo_isWord_at_s5001 : ct_ok PRD l D kA GG y_Mo_isWord_at_s5001 z_Mo_isWord_at_s5001 e_Mo_isWord_at_s5001) (h_Mo_met : ct_ok PRD l D kA GG y_Mo_met z_Mo_met e_Mo_met) (h_Mo_need : ct_ok PRD l D kA GG y_Mo_need z_Mo_need e_Mo_need) (h_Mo_next : ct_ok PRD l D kA GG y_Mo_next z_Mo_next e_Mo_next) (h_Mo_of_at_s5002 : ct_ok PRD l D kA GG y_Mo_of_at_s5002 z_Mo_of_at_s5002 e_Mo_of_at_s5002) : ct_ok PRD l D kA GG y_Mo_item_at_k0 z_Mo_item_at_k0 e_Mo_item_at_k0 := chk_all_ok (FT := [(16, 13, 2), (391, 13, 5), (413, 13, 8)]) (PT := []) (CT := t_Mo_item_at_k0_ct) (KT := []) (NT := []) (AN := n_Mo_item_at_k0_an) (OT := [o_Mo_item_at_k0_0, o_Mo_item_at_k0_1, o_Mo_item_at_k0_2, o_Mo_item_at_k0_3, o_Mo_item_at_k0_4, o_Mo_item_at_k0_5, o_Mo_item_at_k0_6, o_Mo_item_at_k0_7, o_Mo_item_at_k0_8, o_Mo_item_at_k0_9, o_Mo_item_at_k0_10, o_Mo_item_at_k0_11, o_Mo_item_at_k0_12, o_Mo_item_at_k0_13]) 0 240 (List.forall_mem_cons.mpr ⟨oo_Mo_item_at_k0_0, List.forall_mem_cons.mpr ⟨oo_Mo_item_at_k0_1, List.forall_mem_cons.mpr ⟨oo_Mo_item_at_k0_2, List.forall_mem_cons.mpr ⟨oo_Mo_item_at_k0_3, List.forall_mem_cons.mpr ⟨oo_Mo_item_at_k0_4, List.forall_mem_cons.mpr ⟨oo_Mo_item_at_k0_5, List.forall_mem_cons.mpr ⟨oo_Mo_item_at_k0_6, List.forall_mem_cons.mpr ⟨oo_Mo_item_at_k0_7, List.forall_mem_cons.mpr ⟨oo_Mo_item_at_k0_8, List.forall_mem_cons.mpr ⟨oo_Mo_item_at_k0_9, List.forall_mem_cons.mpr ⟨oo_Mo_item_at_k0_10, List.forall_mem_cons.mpr ⟨oo_Mo_item_at_k0_11, List.forall_mem_cons.mpr ⟨oo_Mo_item_at_k0_12, List.forall_mem_cons.mpr ⟨oo_Mo_item_at_k0_13, List.forall_mem_nil _⟩⟩⟩⟩⟩⟩⟩⟩⟩⟩⟩⟩⟩⟩) (by decide +kernel) ⟨List.forall_mem_cons.mpr ⟨gf_Mo_16, List.forall_mem_cons.mpr ⟨gf_Mo_391, List.forall_mem_cons.mpr ⟨gf_Mo_413, List.forall_mem_nil _⟩⟩⟩, List.forall_mem_nil _, List.forall_mem_cons.mpr ⟨cl_virtual (y := y_Mo_next) (ci := 13) rfl rfl ⟨_, _, rfl⟩ (by decide +kernel) h_Mo_next wm_2982 wm_9 wm_2979 wm_2981 wv_12_11 ⟨by decide, by decide, by decide +kernel⟩ (by decide), List.forall_mem_cons.mpr ⟨cl_virtual (y := y_Mo_need) (ci := 13) rfl rfl ⟨_, _, rfl⟩ (by decide +kernel) h_Mo_need wm_3062 wm_9 wm_3059 wm_3061 wv_13_12 ⟨by decide, by decide, by decide +kernel⟩ (by decide), List.forall_mem_cons.mpr ⟨cl_virtual (y := y_Mo_met) (ci := 13) rfl rfl ⟨_, _, rfl⟩ (by decide +kernel) h_Mo_met wm_3008 wm_9 wm_3005 wm_3007 wv_12_15 ⟨by decide, by decide, by decide +kernel⟩ (by decide), List.forall_mem_cons.mpr ⟨cl_virtual (y := y_Mo_edgeItem) (ci := 13) rfl rfl ⟨_, _, rfl⟩ (by decide +kernel) h_Mo_edgeItem wm_3074 wm_9 wm_3071 wm_3073 wv_13_15 ⟨by decide, by decide, by decide +kernel⟩ (by decide), List.forall_mem_cons.mpr ⟨cl_virtual (y := y_Mo_isWord_at_s5000) (ci := 13) rfl rfl ⟨_, _, rfl⟩ (by decide +kernel) h_Mo_isWord_at_s5000 wm_3002 wm_9 wm_2999 wm_3001 wv_12_14 ⟨by decide, by decide, by decide +kernel⟩ (by decide), List.forall_mem_cons.mpr ⟨cl_virtual (y := y_Mo_of_at_s5002) (ci := 13) rfl rfl ⟨_, _, rfl⟩ (by decide +kernel) h_Mo_of_at_s5002 wm_3054 wm_9 wm_3051 wm_3053 wv_13_10 ⟨by decide, by decide, by decide +kernel⟩ (by decide), List.forall_mem_cons.mpr ⟨cl_virtual (y := y_Mo_isWord_at_s5001) (ci := 13) rfl rfl ⟨_, _, rfl⟩ (by decide +kernel) h_Mo_isWord_at_s5001 wm_3002 wm_9 wm_2999 wm_3001 wv_12_14 ⟨by decide, by decide, by decide +kernel⟩ (by decide), List.forall_mem_cons.mpr ⟨cl_virtual (y := y_Mo_groupItem_at_k0) (ci := 13) rfl rfl ⟨_, _, rfl⟩ (by decide +kernel) h_Mo_groupItem_at_k0 wm_3066 wm_9 wm_3063 wm_3065 wv_13_13 ⟨by decide, by decide, by decide +kernel⟩ (by decide), List.forall_mem_cons.mpr ⟨cl_ldcw (own := "DrawingHouseModel") (idx := 467) (i := 0) (tx := "node") (by decide +kernel) (by decide +kernel) (by decide +kernel), List.forall_mem_cons.mpr ⟨cl_ldcw (own := "DrawingHouseModel") (idx := 473) (i := 1) (tx := "group") (by decide +kernel) (by decide +kernel) (by decide +kernel), List.forall_mem_cons.mpr ⟨cl_ldcw (own := "DrawingHouseModel") (idx := 497) (i := 2) (tx := "size") (by decide +kernel) (by decide +kernel) (by decide +kernel), List.forall_mem_nil _⟩⟩⟩⟩⟩⟩⟩⟩⟩⟩⟩, List.forall_mem_nil _, List.forall_mem_nil _, GG_pl⟩ (by decide +kernel)

set_option maxHeartbeats 4000000 in
theorem vc_Mo_item_at_k1_0_0 (x3 : Int) (r_0 : Int) (gx : Int) (k3 : 0 ≤ x3 ∧ x3 ≤ 2000) (ex2 : gx = x3) : 1 * gx + ((-1) * x3 + 0) ≤ 0 := by
  first
    | omega
    | (have q1 := (hE_0_2_1 (r_0 + 2) (by omega)).2 (by omega)
       have q2 := (hE_0_2_2 (r_0 + 2) (by omega)).2 (by omega)
       omega)
    | (have q1 := (hE_0_2_1 (r_0 + 1) (by omega)).2 (by omega)
       have q2 := (hE_0_2_2 (r_0 + 1) (by omega)).2 (by omega)
       omega)
    | (have q1 := (hE_0_2_1 (r_0 + 2) (by omega)).2 (by omega)
       omega)
    | (have q1 := (hE_0_2_1 (r_0 + 1) (by omega)).2 (by omega)
       omega)
    | (have q1 := (hE_0_2_1 (r_0 + 2) (by omega)).2 (by omega)
       have q2 := (hE_0_2_2 (r_0 + 2) (by omega)).2 (by omega)
       have q3 := (hE_0_2_3 (r_0 + 2) (by omega)).1 (by omega)
       omega)
    | (have q1 := (hE_0_2_1 (r_0 + 2) (by omega)).2 (by omega)
       have q2 := (hE_0_2_2 (r_0 + 2) (by omega)).2 (by omega)
       have q3 := (hE_0_2_3 (r_0 + 2) (by omega)).2 (by omega)
       omega)
set_option maxHeartbeats 4000000 in
theorem vc_Mo_item_at_k1_0_1 (x3 : Int) (r_0 : Int) (gx : Int) (k3 : 0 ≤ x3 ∧ x3 ≤ 2000) (ex2 : gx = x3) : (-1) * gx + (1 * x3 + 0) ≤ 0 := by
  first
    | omega
    | (have q1 := (hE_0_2_1 (r_0 + 2) (by omega)).2 (by omega)
       have q2 := (hE_0_2_2 (r_0 + 2) (by omega)).2 (by omega)
       omega)
    | (have q1 := (hE_0_2_1 (r_0 + 1) (by omega)).2 (by omega)
       have q2 := (hE_0_2_2 (r_0 + 1) (by omega)).2 (by omega)
       omega)
    | (have q1 := (hE_0_2_1 (r_0 + 2) (by omega)).2 (by omega)
       omega)
    | (have q1 := (hE_0_2_1 (r_0 + 1) (by omega)).2 (by omega)
       omega)
    | (have q1 := (hE_0_2_1 (r_0 + 2) (by omega)).2 (by omega)
       have q2 := (hE_0_2_2 (r_0 + 2) (by omega)).2 (by omega)
       have q3 := (hE_0_2_3 (r_0 + 2) (by omega)).1 (by omega)
       omega)
    | (have q1 := (hE_0_2_1 (r_0 + 2) (by omega)).2 (by omega)
       have q2 := (hE_0_2_2 (r_0 + 2) (by omega)).2 (by omega)
       have q3 := (hE_0_2_3 (r_0 + 2) (by omega)).2 (by omega)
       omega)
set_option maxHeartbeats 4000000 in
theorem vc_Mo_item_at_k1_0_2 (from_0 : Int) (pos_0 : Int) (r_0 : Int) (f1 : 1 * from_0 + ((-1) * pos_0 + 0) ≤ 0) (kz_0_11 : 0 ≤ pos_0 ∧ pos_0 ≤ 2000) (kz_0_15 : 0 ≤ from_0 ∧ from_0 ≤ 2000) : 1 * from_0 + ((-1) * pos_0 + 0) ≤ 0 := by
  first
    | omega
    | (have q1 := (hE_0_2_1 (r_0 + 2) (by omega)).2 (by omega)
       have q2 := (hE_0_2_2 (r_0 + 2) (by omega)).2 (by omega)
       omega)
    | (have q1 := (hE_0_2_1 (r_0 + 1) (by omega)).2 (by omega)
       have q2 := (hE_0_2_2 (r_0 + 1) (by omega)).2 (by omega)
       omega)
    | (have q1 := (hE_0_2_1 (r_0 + 2) (by omega)).2 (by omega)
       omega)
    | (have q1 := (hE_0_2_1 (r_0 + 1) (by omega)).2 (by omega)
       omega)
    | (have q1 := (hE_0_2_1 (r_0 + 2) (by omega)).2 (by omega)
       have q2 := (hE_0_2_2 (r_0 + 2) (by omega)).2 (by omega)
       have q3 := (hE_0_2_3 (r_0 + 2) (by omega)).1 (by omega)
       omega)
    | (have q1 := (hE_0_2_1 (r_0 + 2) (by omega)).2 (by omega)
       have q2 := (hE_0_2_2 (r_0 + 2) (by omega)).2 (by omega)
       have q3 := (hE_0_2_3 (r_0 + 2) (by omega)).2 (by omega)
       omega)
set_option maxHeartbeats 4000000 in
theorem vc_Mo_item_at_k1_0_3 (from_0 : Int) (pos_0 : Int) (kind_0 : Int) (r_0 : Int) (f2 : ((kind_0 = 1) → (pos_0 ≤ (from_0 + 8))) ∧ ((kind_0 = 0) ∨ ((from_0 + 1) ≤ pos_0))) (kz_0_11 : 0 ≤ pos_0 ∧ pos_0 ≤ 2000) (kz_0_12 : 0 ≤ kind_0 ∧ kind_0 ≤ 4) (kz_0_15 : 0 ≤ from_0 ∧ from_0 ≤ 2000) : ((kind_0 = 1) → (pos_0 ≤ (from_0 + 8))) ∧ ((kind_0 = 0) ∨ ((from_0 + 1) ≤ pos_0)) := by
  first
    | omega
    | (have q1 := (hE_0_2_1 (r_0 + 2) (by omega)).2 (by omega)
       have q2 := (hE_0_2_2 (r_0 + 2) (by omega)).2 (by omega)
       omega)
    | (have q1 := (hE_0_2_1 (r_0 + 1) (by omega)).2 (by omega)
       have q2 := (hE_0_2_2 (r_0 + 1) (by omega)).2 (by omega)
       omega)
    | (have q1 := (hE_0_2_1 (r_0 + 2) (by omega)).2 (by omega)
       omega)
    | (have q1 := (hE_0_2_1 (r_0 + 1) (by omega)).2 (by omega)
       omega)
    | (have q1 := (hE_0_2_1 (r_0 + 2) (by omega)).2 (by omega)
       have q2 := (hE_0_2_2 (r_0 + 2) (by omega)).2 (by omega)
       have q3 := (hE_0_2_3 (r_0 + 2) (by omega)).1 (by omega)
       omega)
    | (have q1 := (hE_0_2_1 (r_0 + 2) (by omega)).2 (by omega)
       have q2 := (hE_0_2_2 (r_0 + 2) (by omega)).2 (by omega)
       have q3 := (hE_0_2_3 (r_0 + 2) (by omega)).2 (by omega)
       omega)
set_option maxHeartbeats 4000000 in
theorem vc_Mo_item_at_k1_0_4 (x3 : Int) (pos_0 : Int) (r_0 : Int) (gx : Int) (k3 : 0 ≤ x3 ∧ x3 ≤ 2000) (f3 : 1 * x3 + ((-1) * pos_0 + 0) ≤ 0) (kz_0_11 : 0 ≤ pos_0 ∧ pos_0 ≤ 2000) (ex2 : gx = x3) : 1 * gx + ((-1) * pos_0 + 0) ≤ 0 := by
  first
    | omega
    | (have q1 := (hE_0_2_1 (r_0 + 2) (by omega)).2 (by omega)
       have q2 := (hE_0_2_2 (r_0 + 2) (by omega)).2 (by omega)
       omega)
    | (have q1 := (hE_0_2_1 (r_0 + 1) (by omega)).2 (by omega)
       have q2 := (hE_0_2_2 (r_0 + 1) (by omega)).2 (by omega)
       omega)
    | (have q1 := (hE_0_2_1 (r_0 + 2) (by omega)).2 (by omega)
       omega)
    | (have q1 := (hE_0_2_1 (r_0 + 1) (by omega)).2 (by omega)
       omega)
    | (have q1 := (hE_0_2_1 (r_0 + 2) (by omega)).2 (by omega)
       have q2 := (hE_0_2_2 (r_0 + 2) (by omega)).2 (by omega)
       have q3 := (hE_0_2_3 (r_0 + 2) (by omega)).1 (by omega)
       omega)
    | (have q1 := (hE_0_2_1 (r_0 + 2) (by omega)).2 (by omega)
       have q2 := (hE_0_2_2 (r_0 + 2) (by omega)).2 (by omega)
       have q3 := (hE_0_2_3 (r_0 + 2) (by omega)).2 (by omega)
       omega)
set_option maxHeartbeats 4000000 in
theorem vc_Mo_item_at_k1_0_5 (x1 : Int) (all_0 : Int → Int) (r_0 : Int) (k1 : 0 ≤ x1 ∧ x1 ≤ 7) (f4 : (x1 + 1) ≤ all_0 ((r_0 + 2))) : (x1 + 1) ≤ all_0 ((r_0 + 2)) := by
  first
    | omega
    | (have q1 := (hE_0_2_1 (r_0 + 2) (by omega)).2 (by omega)
       have q2 := (hE_0_2_2 (r_0 + 2) (by omega)).2 (by omega)
       omega)
    | (have q1 := (hE_0_2_1 (r_0 + 1) (by omega)).2 (by omega)
       have q2 := (hE_0_2_2 (r_0 + 1) (by omega)).2 (by omega)
       omega)
    | (have q1 := (hE_0_2_1 (r_0 + 2) (by omega)).2 (by omega)
       omega)
    | (have q1 := (hE_0_2_1 (r_0 + 1) (by omega)).2 (by omega)
       omega)
    | (have q1 := (hE_0_2_1 (r_0 + 2) (by omega)).2 (by omega)
       have q2 := (hE_0_2_2 (r_0 + 2) (by omega)).2 (by omega)
       have q3 := (hE_0_2_3 (r_0 + 2) (by omega)).1 (by omega)
       omega)
    | (have q1 := (hE_0_2_1 (r_0 + 2) (by omega)).2 (by omega)
       have q2 := (hE_0_2_2 (r_0 + 2) (by omega)).2 (by omega)
       have q3 := (hE_0_2_3 (r_0 + 2) (by omega)).2 (by omega)
       omega)
set_option maxHeartbeats 4000000 in
theorem vc_Mo_item_at_k1_0_6 (all_0 : Int → Int) (r_0 : Int) (now_0 : Int → Int) (latest_0 : Int → Int) (f5 : RWS (r_0) (all_0) (now_0) (latest_0)) : RWS (r_0) (all_0) (now_0) (latest_0) := by
  first
    | assumption
def o_Mo_item_at_k1_0 : or_T := (91, 8, [(0, (2, 0, 0, [165])), (1, (0, 0, 7, [])), (3, (0, 0, 2000, []))], [(20, [0, 0], [30, 0, 1, 1, 15, -1, 1, 11]), (20, [0], [50, 3, 0, 12, 11, 15, 2, 21, 4, 7, 1, 3, 2, 0, 12, 0, 1, 0, 3, 2, 0, 11, 4, 3, 2, 0, 15, 0, 8, 3, 7, 1, 3, 2, 0, 12, 0, 0, 0, 7, 4, 3, 2, 0, 15, 0, 1, 2, 0, 11]), (20, [3, 0], [30, 0, 1, 0, 0, -1, 1, 11]), (20, [1, 0], [50, 1, 1, 1005, 1002, 0, 6, 4, 2, 1, 0, 0, 1, 3, 1, 2, 4, 3, 2, 1, 5, 0, 2]), (20, [0], [60, 1, 3, 199, 5, 2, 3, 4])], [], [(0, 0, 2000, [])], [(23, [8, 3], [0, 1, -1]), (23, [8, 3], [0, -1, 1]), (20, [0, 0], [30, 0, 1, 1, 15, -1, 1, 11]), (20, [0], [50, 3, 0, 12, 11, 15, 2, 21, 4, 7, 1, 3, 2, 0, 12, 0, 1, 0, 3, 2, 0, 11, 4, 3, 2, 0, 15, 0, 8, 3, 7, 1, 3, 2, 0, 12, 0, 0, 0, 7, 4, 3, 2, 0, 15, 0, 1, 2, 0, 11]), (20, [8, 0], [30, 0, 1, 0, 0, -1, 1, 11]), (20, [1, 0], [50, 1, 1, 1005, 1002, 0, 6, 4, 2, 1, 0, 0, 1, 3, 1, 2, 4, 3, 2, 1, 5, 0, 2]), (20, [0], [60, 1, 3, 199, 5, 2, 3, 4])], [], [])
theorem oo_Mo_item_at_k1_0 {kA : Nat → ClassId} : or_ok PRD kA GG o_Mo_item_at_k1_0 := by
  refine or_mk fun A ta ws vs hD hth hl => ?_
  intro t0 r0 t1 k1 t3 k3 f1 f2 f3 f4 f5
  replace f1 := shm_1397 f1
  replace f2 := shm_1398 f2
  replace f3 := shm_1395 f3
  replace f4 := shm_981 f4
  replace f5 := shm_952 f5
  have kz_0_11 := fdq_273 hD hth r0
  have kz_0_12 := fdq_186 hD hth r0
  have kz_0_15 := fdq_274 hD hth r0
  obtain ⟨x, ex, hx⟩ := iv_ex (ta := ta) (lo := 0) (hi := 2000) (z := v_iv (n_v vs 3)) (by omega) (by omega) (by omega) (by omega)
  have ex2 : v_iv (Value.int x) = v_iv (n_v vs 3) := ex
  have ex3 : 0 ≤ v_iv (Value.int x) ∧ v_iv (Value.int x) ≤ 2000 := tv_rng hx
  have e_0 : n_v (vs ++ [Value.int x]) 0 = n_v vs 0 := n_v_old (by rw [hl]; decide)
  have e_1 : n_v (vs ++ [Value.int x]) 1 = n_v vs 1 := n_v_old (by rw [hl]; decide)
  have e_3 : n_v (vs ++ [Value.int x]) 3 = n_v vs 3 := n_v_old (by rw [hl]; decide)
  have e_8 : n_v (vs ++ [Value.int x]) 8 = Value.int x := n_v_new hl
  have nf0 : fc_1 PRD (23, [8, 3], [0, 1, -1]) ws (vs ++ [Value.int x]) := by
    refine ⟨nf_inA hl rfl, sgq_7 ?_⟩
    · show 1 * v_iv (n_v (vs ++ [Value.int x]) 8) + ((-1) * v_iv (n_v (vs ++ [Value.int x]) 3) + 0) ≤ 0
      simp only [e_3, e_8]
      exact vc_Mo_item_at_k1_0_0 (v_iv (n_v vs 3)) (w_fi ws (n_v vs 0) 5) (v_iv (Value.int x)) k3 ex2
  have nf1 : fc_1 PRD (23, [8, 3], [0, -1, 1]) ws (vs ++ [Value.int x]) := by
    refine ⟨nf_inA hl rfl, sgq_22 ?_⟩
    · show (-1) * v_iv (n_v (vs ++ [Value.int x]) 8) + (1 * v_iv (n_v (vs ++ [Value.int x]) 3) + 0) ≤ 0
      simp only [e_3, e_8]
      exact vc_Mo_item_at_k1_0_1 (v_iv (n_v vs 3)) (w_fi ws (n_v vs 0) 5) (v_iv (Value.int x)) k3 ex2
  have nf2 : fc_1 PRD (20, [0, 0], [30, 0, 1, 1, 15, -1, 1, 11]) ws (vs ++ [Value.int x]) := by
    refine ⟨nf_inA hl rfl, sgq_1397 ?_⟩
    · show 1 * w_fi ws (n_v (vs ++ [Value.int x]) 0) 15 + ((-1) * w_fi ws (n_v (vs ++ [Value.int x]) 0) 11 + 0) ≤ 0
      rw [e_0]
      exact vc_Mo_item_at_k1_0_2 (w_fi ws (n_v vs 0) 15) (w_fi ws (n_v vs 0) 11) (w_fi ws (n_v vs 0) 5) f1 kz_0_11 kz_0_15
  have nf3 : fc_1 PRD (20, [0], [50, 3, 0, 12, 11, 15, 2, 21, 4, 7, 1, 3, 2, 0, 12, 0, 1, 0, 3, 2, 0, 11, 4, 3, 2, 0, 15, 0, 8, 3, 7, 1, 3, 2, 0, 12, 0, 0, 0, 7, 4, 3, 2, 0, 15, 0, 1, 2, 0, 11]) ws (vs ++ [Value.int x]) := by
    refine ⟨nf_inA hl rfl, sgq_1398 ?_⟩
    · show ((w_fi ws (n_v (vs ++ [Value.int x]) 0) 12 = 1) → (w_fi ws (n_v (vs ++ [Value.int x]) 0) 11 ≤ (w_fi ws (n_v (vs ++ [Value.int x]) 0) 15 + 8))) ∧ ((w_fi ws (n_v (vs ++ [Value.int x]) 0) 12 = 0) ∨ ((w_fi ws (n_v (vs ++ [Value.int x]) 0) 15 + 1) ≤ w_fi ws (n_v (vs ++ [Value.int x]) 0) 11))
      rw [e_0]
      exact vc_Mo_item_at_k1_0_3 (w_fi ws (n_v vs 0) 15) (w_fi ws (n_v vs 0) 11) (w_fi ws (n_v vs 0) 12) (w_fi ws (n_v vs 0) 5) f2 kz_0_11 kz_0_12 kz_0_15
  have nf4 : fc_1 PRD (20, [8, 0], [30, 0, 1, 0, 0, -1, 1, 11]) ws (vs ++ [Value.int x]) := by
    refine ⟨nf_inA hl rfl, sgq_1395 ?_⟩
    · show 1 * v_iv (n_v (vs ++ [Value.int x]) 8) + ((-1) * w_fi ws (n_v (vs ++ [Value.int x]) 0) 11 + 0) ≤ 0
      simp only [e_0, e_8]
      exact vc_Mo_item_at_k1_0_4 (v_iv (n_v vs 3)) (w_fi ws (n_v vs 0) 11) (w_fi ws (n_v vs 0) 5) (v_iv (Value.int x)) k3 f3 kz_0_11 ex2
  have nf5 : fc_1 PRD (20, [1, 0], [50, 1, 1, 1005, 1002, 0, 6, 4, 2, 1, 0, 0, 1, 3, 1, 2, 4, 3, 2, 1, 5, 0, 2]) ws (vs ++ [Value.int x]) := by
    refine ⟨nf_inA hl rfl, sgq_981 ?_⟩
    · show (v_iv (n_v (vs ++ [Value.int x]) 1) + 1) ≤ w_ei ws (w_ar ws (n_v (vs ++ [Value.int x]) 0) 2) ((w_fi ws (n_v (vs ++ [Value.int x]) 0) 5 + 2))
      simp only [e_0, e_1]
      exact vc_Mo_item_at_k1_0_5 (v_iv (n_v vs 1)) (w_ei ws (w_ar ws (n_v vs 0) 2)) (w_fi ws (n_v vs 0) 5) k1 f4
  have nf6 : fc_1 PRD (20, [0], [60, 1, 3, 199, 5, 2, 3, 4]) ws (vs ++ [Value.int x]) := by
    refine ⟨nf_inA hl rfl, sgq_952 ?_⟩
    · show RWS (w_fi ws (n_v (vs ++ [Value.int x]) 0) 5) (w_ei ws (w_ar ws (n_v (vs ++ [Value.int x]) 0) 2)) (w_ei ws (w_ar ws (n_v (vs ++ [Value.int x]) 0) 3)) (w_ei ws (w_ar ws (n_v (vs ++ [Value.int x]) 0) 4))
      rw [e_0]
      exact vc_Mo_item_at_k1_0_6 (w_ei ws (w_ar ws (n_v vs 0) 2)) (w_fi ws (n_v vs 0) 5) (w_ei ws (w_ar ws (n_v vs 0) 3)) (w_ei ws (w_ar ws (n_v vs 0) 4)) f5
  exact ⟨(fun _ h => (by cases h)), [Value.int x], ag_one hx, List.forall_mem_cons.mpr ⟨⟨show (23 : Nat) < 100 from by decide, nf0⟩, List.forall_mem_cons.mpr ⟨⟨show (23 : Nat) < 100 from by decide, nf1⟩, List.forall_mem_cons.mpr ⟨⟨show (20 : Nat) < 100 from by decide, nf2⟩, List.forall_mem_cons.mpr ⟨⟨show (20 : Nat) < 100 from by decide, nf3⟩, List.forall_mem_cons.mpr ⟨⟨show (20 : Nat) < 100 from by decide, nf4⟩, List.forall_mem_cons.mpr ⟨⟨show (20 : Nat) < 100 from by decide, nf5⟩, List.forall_mem_cons.mpr ⟨⟨show (20 : Nat) < 100 from by decide, nf6⟩, (fun _ h => (by cases h))⟩⟩⟩⟩⟩⟩⟩, (fun _ h => (by cases h))⟩
set_option maxHeartbeats 4000000 in
theorem vc_Mo_item_at_k1_1_0 (x3 : Int) (x8 : Int) (pos_0 : Int) (r_0 : Int) (k3 : 0 ≤ x3 ∧ x3 ≤ 2000) (k8 : 0 ≤ x8 ∧ x8 ≤ 2000) (f0 : 1 * x8 + ((-1) * x3 + 0) ≤ 0) (f1 : (-1) * x8 + (1 * x3 + 0) ≤ 0) (f4 : 1 * x8 + ((-1) * pos_0 + 0) ≤ 0) (kz_0_11 : 0 ≤ pos_0 ∧ pos_0 ≤ 2000) : 1 * x3 + ((-1) * pos_0 + 0) ≤ 0 := by
  first
    | omega
    | (have q1 := (hE_0_2_1 (r_0 + 2) (by omega)).2 (by omega)
       have q2 := (hE_0_2_2 (r_0 + 2) (by omega)).2 (by omega)
       omega)
    | (have q1 := (hE_0_2_1 (r_0 + 1) (by omega)).2 (by omega)
       have q2 := (hE_0_2_2 (r_0 + 1) (by omega)).2 (by omega)
       omega)
    | (have q1 := (hE_0_2_1 (r_0 + 2) (by omega)).2 (by omega)
       omega)
    | (have q1 := (hE_0_2_1 (r_0 + 1) (by omega)).2 (by omega)
       omega)
    | (have q1 := (hE_0_2_1 (r_0 + 2) (by omega)).2 (by omega)
       have q2 := (hE_0_2_2 (r_0 + 2) (by omega)).2 (by omega)
       have q3 := (hE_0_2_3 (r_0 + 2) (by omega)).1 (by omega)
       omega)
    | (have q1 := (hE_0_2_1 (r_0 + 2) (by omega)).2 (by omega)
       have q2 := (hE_0_2_2 (r_0 + 2) (by omega)).2 (by omega)
       have q3 := (hE_0_2_3 (r_0 + 2) (by omega)).2 (by omega)
       omega)
set_option maxHeartbeats 4000000 in
theorem vc_Mo_item_at_k1_1_1 (x3 : Int) (x8 : Int) (pos_0 : Int) (fault_0 : Int) (r_0 : Int) (k3 : 0 ≤ x3 ∧ x3 ≤ 2000) (k8 : 0 ≤ x8 ∧ x8 ≤ 2000) (f0 : 1 * x8 + ((-1) * x3 + 0) ≤ 0) (f1 : (-1) * x8 + (1 * x3 + 0) ≤ 0) (f4 : 1 * x8 + ((-1) * pos_0 + 0) ≤ 0) (f5 : (1 ≤ fault_0) ∨ ((x8 + 1) ≤ pos_0)) (kz_0_8 : 0 ≤ fault_0 ∧ fault_0 ≤ 5) (kz_0_11 : 0 ≤ pos_0 ∧ pos_0 ≤ 2000) : (1 ≤ fault_0) ∨ ((x3 + 1) ≤ pos_0) := by
  first
    | omega
    | (have q1 := (hE_0_2_1 (r_0 + 2) (by omega)).2 (by omega)
       have q2 := (hE_0_2_2 (r_0 + 2) (by omega)).2 (by omega)
       omega)
    | (have q1 := (hE_0_2_1 (r_0 + 1) (by omega)).2 (by omega)
       have q2 := (hE_0_2_2 (r_0 + 1) (by omega)).2 (by omega)
       omega)
    | (have q1 := (hE_0_2_1 (r_0 + 2) (by omega)).2 (by omega)
       omega)
    | (have q1 := (hE_0_2_1 (r_0 + 1) (by omega)).2 (by omega)
       omega)
    | (have q1 := (hE_0_2_1 (r_0 + 2) (by omega)).2 (by omega)
       have q2 := (hE_0_2_2 (r_0 + 2) (by omega)).2 (by omega)
       have q3 := (hE_0_2_3 (r_0 + 2) (by omega)).1 (by omega)
       omega)
    | (have q1 := (hE_0_2_1 (r_0 + 2) (by omega)).2 (by omega)
       have q2 := (hE_0_2_2 (r_0 + 2) (by omega)).2 (by omega)
       have q3 := (hE_0_2_3 (r_0 + 2) (by omega)).2 (by omega)
       omega)
def o_Mo_item_at_k1_1 : or_T := (94, 9, [(0, (2, 0, 0, [165])), (3, (0, 0, 2000, [])), (8, (0, 0, 2000, []))], [(23, [8, 3], [0, 1, -1]), (23, [8, 3], [0, -1, 1]), (20, [8, 0], [30, 0, 1, 0, 0, -1, 1, 11]), (20, [0, 8], [50, 2, 0, 8, 11, 3, 7, 0, 2, 0, 1, 2, 0, 8, 0, 6, 4, 2, 1, 1, 0, 1, 2, 0, 11])], [], [], [(20, [3, 0], [30, 0, 1, 0, 0, -1, 1, 11]), (20, [0, 3], [50, 2, 0, 8, 11, 3, 7, 0, 2, 0, 1, 2, 0, 8, 0, 6, 4, 2, 1, 1, 0, 1, 2, 0, 11])], [], [])
theorem oo_Mo_item_at_k1_1 {kA : Nat → ClassId} : or_ok PRD kA GG o_Mo_item_at_k1_1 := by
  refine or_mk fun A ta ws vs hD hth hl => ?_
  intro t0 r0 t3 k3 t8 k8 f0 f1 f4 f5
  have kz_0_8 := fdq_14 hD hth r0
  have kz_0_11 := fdq_273 hD hth r0
  have nf0 : fc_1 PRD (20, [3, 0], [30, 0, 1, 0, 0, -1, 1, 11]) ws (vs) := ⟨nf_in hl rfl, sgq_1395 (vc_Mo_item_at_k1_1_0 (v_iv (n_v vs 3)) (v_iv (n_v vs 8)) (w_fi ws (n_v vs 0) 11) (w_fi ws (n_v vs 0) 5) k3 k8 (shm_7 f0) (shm_22 f1) (shm_1395 f4) kz_0_11)⟩
  have nf1 : fc_1 PRD (20, [0, 3], [50, 2, 0, 8, 11, 3, 7, 0, 2, 0, 1, 2, 0, 8, 0, 6, 4, 2, 1, 1, 0, 1, 2, 0, 11]) ws (vs) := ⟨nf_in hl rfl, sgq_1659 (vc_Mo_item_at_k1_1_1 (v_iv (n_v vs 3)) (v_iv (n_v vs 8)) (w_fi ws (n_v vs 0) 11) (w_fi ws (n_v vs 0) 8) (w_fi ws (n_v vs 0) 5) k3 k8 (shm_7 f0) (shm_22 f1) (shm_1395 f4) (shm_1659 f5) kz_0_8 kz_0_11)⟩
  refine ⟨(fun _ h => (by cases h)), [], trivial, ?_, (fun _ h => (by cases h))⟩
  rw [List.append_nil]
  exact List.forall_mem_cons.mpr ⟨⟨show (20 : Nat) < 100 from by decide, nf0⟩, List.forall_mem_cons.mpr ⟨⟨show (20 : Nat) < 100 from by decide, nf1⟩, (fun _ h => (by cases h))⟩⟩
set_option maxHeartbeats 4000000 in
theorem vc_Mo_item_at_k1_2_0 (x3 : Int) (r_0 : Int) (gx : Int) (k3 : 0 ≤ x3 ∧ x3 ≤ 2000) (ex2 : gx = x3) : 1 * gx + ((-1) * x3 + 0) ≤ 0 := by
  first
    | omega
    | (have q1 := (hE_0_2_1 (r_0 + 2) (by omega)).2 (by omega)
       have q2 := (hE_0_2_2 (r_0 + 2) (by omega)).2 (by omega)
       omega)
    | (have q1 := (hE_0_2_1 (r_0 + 1) (by omega)).2 (by omega)
       have q2 := (hE_0_2_2 (r_0 + 1) (by omega)).2 (by omega)
       omega)
    | (have q1 := (hE_0_2_1 (r_0 + 2) (by omega)).2 (by omega)
       omega)
    | (have q1 := (hE_0_2_1 (r_0 + 1) (by omega)).2 (by omega)
       omega)
    | (have q1 := (hE_0_2_1 (r_0 + 2) (by omega)).2 (by omega)
       have q2 := (hE_0_2_2 (r_0 + 2) (by omega)).2 (by omega)
       have q3 := (hE_0_2_3 (r_0 + 2) (by omega)).1 (by omega)
       omega)
    | (have q1 := (hE_0_2_1 (r_0 + 2) (by omega)).2 (by omega)
       have q2 := (hE_0_2_2 (r_0 + 2) (by omega)).2 (by omega)
       have q3 := (hE_0_2_3 (r_0 + 2) (by omega)).2 (by omega)
       omega)
set_option maxHeartbeats 4000000 in
theorem vc_Mo_item_at_k1_2_1 (x3 : Int) (r_0 : Int) (gx : Int) (k3 : 0 ≤ x3 ∧ x3 ≤ 2000) (ex2 : gx = x3) : (-1) * gx + (1 * x3 + 0) ≤ 0 := by
  first
    | omega
    | (have q1 := (hE_0_2_1 (r_0 + 2) (by omega)).2 (by omega)
       have q2 := (hE_0_2_2 (r_0 + 2) (by omega)).2 (by omega)
       omega)
    | (have q1 := (hE_0_2_1 (r_0 + 1) (by omega)).2 (by omega)
       have q2 := (hE_0_2_2 (r_0 + 1) (by omega)).2 (by omega)
       omega)
    | (have q1 := (hE_0_2_1 (r_0 + 2) (by omega)).2 (by omega)
       omega)
    | (have q1 := (hE_0_2_1 (r_0 + 1) (by omega)).2 (by omega)
       omega)
    | (have q1 := (hE_0_2_1 (r_0 + 2) (by omega)).2 (by omega)
       have q2 := (hE_0_2_2 (r_0 + 2) (by omega)).2 (by omega)
       have q3 := (hE_0_2_3 (r_0 + 2) (by omega)).1 (by omega)
       omega)
    | (have q1 := (hE_0_2_1 (r_0 + 2) (by omega)).2 (by omega)
       have q2 := (hE_0_2_2 (r_0 + 2) (by omega)).2 (by omega)
       have q3 := (hE_0_2_3 (r_0 + 2) (by omega)).2 (by omega)
       omega)
set_option maxHeartbeats 4000000 in
theorem vc_Mo_item_at_k1_2_2 (from_0 : Int) (pos_0 : Int) (r_0 : Int) (f1 : 1 * from_0 + ((-1) * pos_0 + 0) ≤ 0) (kz_0_11 : 0 ≤ pos_0 ∧ pos_0 ≤ 2000) (kz_0_15 : 0 ≤ from_0 ∧ from_0 ≤ 2000) : 1 * from_0 + ((-1) * pos_0 + 0) ≤ 0 := by
  first
    | omega
    | (have q1 := (hE_0_2_1 (r_0 + 2) (by omega)).2 (by omega)
       have q2 := (hE_0_2_2 (r_0 + 2) (by omega)).2 (by omega)
       omega)
    | (have q1 := (hE_0_2_1 (r_0 + 1) (by omega)).2 (by omega)
       have q2 := (hE_0_2_2 (r_0 + 1) (by omega)).2 (by omega)
       omega)
    | (have q1 := (hE_0_2_1 (r_0 + 2) (by omega)).2 (by omega)
       omega)
    | (have q1 := (hE_0_2_1 (r_0 + 1) (by omega)).2 (by omega)
       omega)
    | (have q1 := (hE_0_2_1 (r_0 + 2) (by omega)).2 (by omega)
       have q2 := (hE_0_2_2 (r_0 + 2) (by omega)).2 (by omega)
       have q3 := (hE_0_2_3 (r_0 + 2) (by omega)).1 (by omega)
       omega)
    | (have q1 := (hE_0_2_1 (r_0 + 2) (by omega)).2 (by omega)
       have q2 := (hE_0_2_2 (r_0 + 2) (by omega)).2 (by omega)
       have q3 := (hE_0_2_3 (r_0 + 2) (by omega)).2 (by omega)
       omega)
set_option maxHeartbeats 4000000 in
theorem vc_Mo_item_at_k1_2_3 (from_0 : Int) (pos_0 : Int) (kind_0 : Int) (r_0 : Int) (f2 : ((kind_0 = 1) → (pos_0 ≤ (from_0 + 8))) ∧ ((kind_0 = 0) ∨ ((from_0 + 1) ≤ pos_0))) (kz_0_11 : 0 ≤ pos_0 ∧ pos_0 ≤ 2000) (kz_0_12 : 0 ≤ kind_0 ∧ kind_0 ≤ 4) (kz_0_15 : 0 ≤ from_0 ∧ from_0 ≤ 2000) : ((kind_0 = 1) → (pos_0 ≤ (from_0 + 8))) ∧ ((kind_0 = 0) ∨ ((from_0 + 1) ≤ pos_0)) := by
  first
    | omega
    | (have q1 := (hE_0_2_1 (r_0 + 2) (by omega)).2 (by omega)
       have q2 := (hE_0_2_2 (r_0 + 2) (by omega)).2 (by omega)
       omega)
    | (have q1 := (hE_0_2_1 (r_0 + 1) (by omega)).2 (by omega)
       have q2 := (hE_0_2_2 (r_0 + 1) (by omega)).2 (by omega)
       omega)
    | (have q1 := (hE_0_2_1 (r_0 + 2) (by omega)).2 (by omega)
       omega)
    | (have q1 := (hE_0_2_1 (r_0 + 1) (by omega)).2 (by omega)
       omega)
    | (have q1 := (hE_0_2_1 (r_0 + 2) (by omega)).2 (by omega)
       have q2 := (hE_0_2_2 (r_0 + 2) (by omega)).2 (by omega)
       have q3 := (hE_0_2_3 (r_0 + 2) (by omega)).1 (by omega)
       omega)
    | (have q1 := (hE_0_2_1 (r_0 + 2) (by omega)).2 (by omega)
       have q2 := (hE_0_2_2 (r_0 + 2) (by omega)).2 (by omega)
       have q3 := (hE_0_2_3 (r_0 + 2) (by omega)).2 (by omega)
       omega)
set_option maxHeartbeats 4000000 in
theorem vc_Mo_item_at_k1_2_4 (x3 : Int) (pos_0 : Int) (r_0 : Int) (gx : Int) (k3 : 0 ≤ x3 ∧ x3 ≤ 2000) (f3 : 1 * x3 + ((-1) * pos_0 + 0) ≤ 0) (kz_0_11 : 0 ≤ pos_0 ∧ pos_0 ≤ 2000) (ex2 : gx = x3) : 1 * gx + ((-1) * pos_0 + 0) ≤ 0 := by
  first
    | omega
    | (have q1 := (hE_0_2_1 (r_0 + 2) (by omega)).2 (by omega)
       have q2 := (hE_0_2_2 (r_0 + 2) (by omega)).2 (by omega)
       omega)
    | (have q1 := (hE_0_2_1 (r_0 + 1) (by omega)).2 (by omega)
       have q2 := (hE_0_2_2 (r_0 + 1) (by omega)).2 (by omega)
       omega)
    | (have q1 := (hE_0_2_1 (r_0 + 2) (by omega)).2 (by omega)
       omega)
    | (have q1 := (hE_0_2_1 (r_0 + 1) (by omega)).2 (by omega)
       omega)
    | (have q1 := (hE_0_2_1 (r_0 + 2) (by omega)).2 (by omega)
       have q2 := (hE_0_2_2 (r_0 + 2) (by omega)).2 (by omega)
       have q3 := (hE_0_2_3 (r_0 + 2) (by omega)).1 (by omega)
       omega)
    | (have q1 := (hE_0_2_1 (r_0 + 2) (by omega)).2 (by omega)
       have q2 := (hE_0_2_2 (r_0 + 2) (by omega)).2 (by omega)
       have q3 := (hE_0_2_3 (r_0 + 2) (by omega)).2 (by omega)
       omega)
set_option maxHeartbeats 4000000 in
theorem vc_Mo_item_at_k1_2_5 (x1 : Int) (all_0 : Int → Int) (r_0 : Int) (k1 : 0 ≤ x1 ∧ x1 ≤ 7) (f4 : (x1 + 1) ≤ all_0 ((r_0 + 2))) : (x1 + 1) ≤ all_0 ((r_0 + 2)) := by
  first
    | omega
    | (have q1 := (hE_0_2_1 (r_0 + 2) (by omega)).2 (by omega)
       have q2 := (hE_0_2_2 (r_0 + 2) (by omega)).2 (by omega)
       omega)
    | (have q1 := (hE_0_2_1 (r_0 + 1) (by omega)).2 (by omega)
       have q2 := (hE_0_2_2 (r_0 + 1) (by omega)).2 (by omega)
       omega)
    | (have q1 := (hE_0_2_1 (r_0 + 2) (by omega)).2 (by omega)
       omega)
    | (have q1 := (hE_0_2_1 (r_0 + 1) (by omega)).2 (by omega)
       omega)
    | (have q1 := (hE_0_2_1 (r_0 + 2) (by omega)).2 (by omega)
       have q2 := (hE_0_2_2 (r_0 + 2) (by omega)).2 (by omega)
       have q3 := (hE_0_2_3 (r_0 + 2) (by omega)).1 (by omega)
       omega)
    | (have q1 := (hE_0_2_1 (r_0 + 2) (by omega)).2 (by omega)
       have q2 := (hE_0_2_2 (r_0 + 2) (by omega)).2 (by omega)
       have q3 := (hE_0_2_3 (r_0 + 2) (by omega)).2 (by omega)
       omega)
set_option maxHeartbeats 4000000 in
theorem vc_Mo_item_at_k1_2_6 (all_0 : Int → Int) (r_0 : Int) (now_0 : Int → Int) (latest_0 : Int → Int) (f5 : RWS (r_0) (all_0) (now_0) (latest_0)) : RWS (r_0) (all_0) (now_0) (latest_0) := by
  first
    | assumption
def o_Mo_item_at_k1_2 : or_T := (83, 8, [(0, (2, 0, 0, [165])), (1, (0, 0, 7, [])), (3, (0, 0, 2000, []))], [(20, [0, 0], [30, 0, 1, 1, 15, -1, 1, 11]), (20, [0], [50, 3, 0, 12, 11, 15, 2, 21, 4, 7, 1, 3, 2, 0, 12, 0, 1, 0, 3, 2, 0, 11, 4, 3, 2, 0, 15, 0, 8, 3, 7, 1, 3, 2, 0, 12, 0, 0, 0, 7, 4, 3, 2, 0, 15, 0, 1, 2, 0, 11]), (20, [3, 0], [30, 0, 1, 0, 0, -1, 1, 11]), (20, [1, 0], [50, 1, 1, 1005, 1002, 0, 6, 4, 2, 1, 0, 0, 1, 3, 1, 2, 4, 3, 2, 1, 5, 0, 2]), (20, [0], [60, 1, 3, 199, 5, 2, 3, 4])], [], [(0, 0, 2000, [])], [(23, [8, 3], [0, 1, -1]), (23, [8, 3], [0, -1, 1]), (20, [0, 0], [30, 0, 1, 1, 15, -1, 1, 11]), (20, [0], [50, 3, 0, 12, 11, 15, 2, 21, 4, 7, 1, 3, 2, 0, 12, 0, 1, 0, 3, 2, 0, 11, 4, 3, 2, 0, 15, 0, 8, 3, 7, 1, 3, 2, 0, 12, 0, 0, 0, 7, 4, 3, 2, 0, 15, 0, 1, 2, 0, 11]), (20, [8, 0], [30, 0, 1, 0, 0, -1, 1, 11]), (20, [1, 0], [50, 1, 1, 1005, 1002, 0, 6, 4, 2, 1, 0, 0, 1, 3, 1, 2, 4, 3, 2, 1, 5, 0, 2]), (20, [0], [60, 1, 3, 199, 5, 2, 3, 4])], [], [])
theorem oo_Mo_item_at_k1_2 {kA : Nat → ClassId} : or_ok PRD kA GG o_Mo_item_at_k1_2 := by
  refine or_mk fun A ta ws vs hD hth hl => ?_
  intro t0 r0 t1 k1 t3 k3 f1 f2 f3 f4 f5
  replace f1 := shm_1397 f1
  replace f2 := shm_1398 f2
  replace f3 := shm_1395 f3
  replace f4 := shm_981 f4
  replace f5 := shm_952 f5
  have kz_0_11 := fdq_273 hD hth r0
  have kz_0_12 := fdq_186 hD hth r0
  have kz_0_15 := fdq_274 hD hth r0
  obtain ⟨x, ex, hx⟩ := iv_ex (ta := ta) (lo := 0) (hi := 2000) (z := v_iv (n_v vs 3)) (by omega) (by omega) (by omega) (by omega)
  have ex2 : v_iv (Value.int x) = v_iv (n_v vs 3) := ex
  have ex3 : 0 ≤ v_iv (Value.int x) ∧ v_iv (Value.int x) ≤ 2000 := tv_rng hx
  have e_0 : n_v (vs ++ [Value.int x]) 0 = n_v vs 0 := n_v_old (by rw [hl]; decide)
  have e_1 : n_v (vs ++ [Value.int x]) 1 = n_v vs 1 := n_v_old (by rw [hl]; decide)
  have e_3 : n_v (vs ++ [Value.int x]) 3 = n_v vs 3 := n_v_old (by rw [hl]; decide)
  have e_8 : n_v (vs ++ [Value.int x]) 8 = Value.int x := n_v_new hl
  have nf0 : fc_1 PRD (23, [8, 3], [0, 1, -1]) ws (vs ++ [Value.int x]) := by
    refine ⟨nf_inA hl rfl, sgq_7 ?_⟩
    · show 1 * v_iv (n_v (vs ++ [Value.int x]) 8) + ((-1) * v_iv (n_v (vs ++ [Value.int x]) 3) + 0) ≤ 0
      simp only [e_3, e_8]
      exact vc_Mo_item_at_k1_2_0 (v_iv (n_v vs 3)) (w_fi ws (n_v vs 0) 5) (v_iv (Value.int x)) k3 ex2
  have nf1 : fc_1 PRD (23, [8, 3], [0, -1, 1]) ws (vs ++ [Value.int x]) := by
    refine ⟨nf_inA hl rfl, sgq_22 ?_⟩
    · show (-1) * v_iv (n_v (vs ++ [Value.int x]) 8) + (1 * v_iv (n_v (vs ++ [Value.int x]) 3) + 0) ≤ 0
      simp only [e_3, e_8]
      exact vc_Mo_item_at_k1_2_1 (v_iv (n_v vs 3)) (w_fi ws (n_v vs 0) 5) (v_iv (Value.int x)) k3 ex2
  have nf2 : fc_1 PRD (20, [0, 0], [30, 0, 1, 1, 15, -1, 1, 11]) ws (vs ++ [Value.int x]) := by
    refine ⟨nf_inA hl rfl, sgq_1397 ?_⟩
    · show 1 * w_fi ws (n_v (vs ++ [Value.int x]) 0) 15 + ((-1) * w_fi ws (n_v (vs ++ [Value.int x]) 0) 11 + 0) ≤ 0
      rw [e_0]
      exact vc_Mo_item_at_k1_2_2 (w_fi ws (n_v vs 0) 15) (w_fi ws (n_v vs 0) 11) (w_fi ws (n_v vs 0) 5) f1 kz_0_11 kz_0_15
  have nf3 : fc_1 PRD (20, [0], [50, 3, 0, 12, 11, 15, 2, 21, 4, 7, 1, 3, 2, 0, 12, 0, 1, 0, 3, 2, 0, 11, 4, 3, 2, 0, 15, 0, 8, 3, 7, 1, 3, 2, 0, 12, 0, 0, 0, 7, 4, 3, 2, 0, 15, 0, 1, 2, 0, 11]) ws (vs ++ [Value.int x]) := by
    refine ⟨nf_inA hl rfl, sgq_1398 ?_⟩
    · show ((w_fi ws (n_v (vs ++ [Value.int x]) 0) 12 = 1) → (w_fi ws (n_v (vs ++ [Value.int x]) 0) 11 ≤ (w_fi ws (n_v (vs ++ [Value.int x]) 0) 15 + 8))) ∧ ((w_fi ws (n_v (vs ++ [Value.int x]) 0) 12 = 0) ∨ ((w_fi ws (n_v (vs ++ [Value.int x]) 0) 15 + 1) ≤ w_fi ws (n_v (vs ++ [Value.int x]) 0) 11))
      rw [e_0]
      exact vc_Mo_item_at_k1_2_3 (w_fi ws (n_v vs 0) 15) (w_fi ws (n_v vs 0) 11) (w_fi ws (n_v vs 0) 12) (w_fi ws (n_v vs 0) 5) f2 kz_0_11 kz_0_12 kz_0_15
  have nf4 : fc_1 PRD (20, [8, 0], [30, 0, 1, 0, 0, -1, 1, 11]) ws (vs ++ [Value.int x]) := by
    refine ⟨nf_inA hl rfl, sgq_1395 ?_⟩
    · show 1 * v_iv (n_v (vs ++ [Value.int x]) 8) + ((-1) * w_fi ws (n_v (vs ++ [Value.int x]) 0) 11 + 0) ≤ 0
      simp only [e_0, e_8]
      exact vc_Mo_item_at_k1_2_4 (v_iv (n_v vs 3)) (w_fi ws (n_v vs 0) 11) (w_fi ws (n_v vs 0) 5) (v_iv (Value.int x)) k3 f3 kz_0_11 ex2
  have nf5 : fc_1 PRD (20, [1, 0], [50, 1, 1, 1005, 1002, 0, 6, 4, 2, 1, 0, 0, 1, 3, 1, 2, 4, 3, 2, 1, 5, 0, 2]) ws (vs ++ [Value.int x]) := by
    refine ⟨nf_inA hl rfl, sgq_981 ?_⟩
    · show (v_iv (n_v (vs ++ [Value.int x]) 1) + 1) ≤ w_ei ws (w_ar ws (n_v (vs ++ [Value.int x]) 0) 2) ((w_fi ws (n_v (vs ++ [Value.int x]) 0) 5 + 2))
      simp only [e_0, e_1]
      exact vc_Mo_item_at_k1_2_5 (v_iv (n_v vs 1)) (w_ei ws (w_ar ws (n_v vs 0) 2)) (w_fi ws (n_v vs 0) 5) k1 f4
  have nf6 : fc_1 PRD (20, [0], [60, 1, 3, 199, 5, 2, 3, 4]) ws (vs ++ [Value.int x]) := by
    refine ⟨nf_inA hl rfl, sgq_952 ?_⟩
    · show RWS (w_fi ws (n_v (vs ++ [Value.int x]) 0) 5) (w_ei ws (w_ar ws (n_v (vs ++ [Value.int x]) 0) 2)) (w_ei ws (w_ar ws (n_v (vs ++ [Value.int x]) 0) 3)) (w_ei ws (w_ar ws (n_v (vs ++ [Value.int x]) 0) 4))
      rw [e_0]
      exact vc_Mo_item_at_k1_2_6 (w_ei ws (w_ar ws (n_v vs 0) 2)) (w_fi ws (n_v vs 0) 5) (w_ei ws (w_ar ws (n_v vs 0) 3)) (w_ei ws (w_ar ws (n_v vs 0) 4)) f5
  exact ⟨(fun _ h => (by cases h)), [Value.int x], ag_one hx, List.forall_mem_cons.mpr ⟨⟨show (23 : Nat) < 100 from by decide, nf0⟩, List.forall_mem_cons.mpr ⟨⟨show (23 : Nat) < 100 from by decide, nf1⟩, List.forall_mem_cons.mpr ⟨⟨show (20 : Nat) < 100 from by decide, nf2⟩, List.forall_mem_cons.mpr ⟨⟨show (20 : Nat) < 100 from by decide, nf3⟩, List.forall_mem_cons.mpr ⟨⟨show (20 : Nat) < 100 from by decide, nf4⟩, List.forall_mem_cons.mpr ⟨⟨show (20 : Nat) < 100 from by decide, nf5⟩, List.forall_mem_cons.mpr ⟨⟨show (20 : Nat) < 100 from by decide, nf6⟩, (fun _ h => (by cases h))⟩⟩⟩⟩⟩⟩⟩, (fun _ h => (by cases h))⟩
set_option maxHeartbeats 4000000 in
theorem vc_Mo_item_at_k1_3_0 (x3 : Int) (r_0 : Int) (gx : Int) (k3 : 0 ≤ x3 ∧ x3 ≤ 2000) (ex2 : gx = x3) : 1 * gx + ((-1) * x3 + 0) ≤ 0 := by
  first
    | omega
    | (have q1 := (hE_0_2_1 (r_0 + 2) (by omega)).2 (by omega)
       have q2 := (hE_0_2_2 (r_0 + 2) (by omega)).2 (by omega)
       omega)
    | (have q1 := (hE_0_2_1 (r_0 + 1) (by omega)).2 (by omega)
       have q2 := (hE_0_2_2 (r_0 + 1) (by omega)).2 (by omega)
       omega)
    | (have q1 := (hE_0_2_1 (r_0 + 2) (by omega)).2 (by omega)
       omega)
    | (have q1 := (hE_0_2_1 (r_0 + 1) (by omega)).2 (by omega)
       omega)
    | (have q1 := (hE_0_2_1 (r_0 + 2) (by omega)).2 (by omega)
       have q2 := (hE_0_2_2 (r_0 + 2) (by omega)).2 (by omega)
       have q3 := (hE_0_2_3 (r_0 + 2) (by omega)).1 (by omega)
       omega)
    | (have q1 := (hE_0_2_1 (r_0 + 2) (by omega)).2 (by omega)
       have q2 := (hE_0_2_2 (r_0 + 2) (by omega)).2 (by omega)
       have q3 := (hE_0_2_3 (r_0 + 2) (by omega)).2 (by omega)
       omega)
set_option maxHeartbeats 4000000 in
theorem vc_Mo_item_at_k1_3_1 (x3 : Int) (r_0 : Int) (gx : Int) (k3 : 0 ≤ x3 ∧ x3 ≤ 2000) (ex2 : gx = x3) : (-1) * gx + (1 * x3 + 0) ≤ 0 := by
  first
    | omega
    | (have q1 := (hE_0_2_1 (r_0 + 2) (by omega)).2 (by omega)
       have q2 := (hE_0_2_2 (r_0 + 2) (by omega)).2 (by omega)
       omega)
    | (have q1 := (hE_0_2_1 (r_0 + 1) (by omega)).2 (by omega)
       have q2 := (hE_0_2_2 (r_0 + 1) (by omega)).2 (by omega)
       omega)
    | (have q1 := (hE_0_2_1 (r_0 + 2) (by omega)).2 (by omega)
       omega)
    | (have q1 := (hE_0_2_1 (r_0 + 1) (by omega)).2 (by omega)
       omega)
    | (have q1 := (hE_0_2_1 (r_0 + 2) (by omega)).2 (by omega)
       have q2 := (hE_0_2_2 (r_0 + 2) (by omega)).2 (by omega)
       have q3 := (hE_0_2_3 (r_0 + 2) (by omega)).1 (by omega)
       omega)
    | (have q1 := (hE_0_2_1 (r_0 + 2) (by omega)).2 (by omega)
       have q2 := (hE_0_2_2 (r_0 + 2) (by omega)).2 (by omega)
       have q3 := (hE_0_2_3 (r_0 + 2) (by omega)).2 (by omega)
       omega)
set_option maxHeartbeats 4000000 in
theorem vc_Mo_item_at_k1_3_2 (x3 : Int) (pos_0 : Int) (r_0 : Int) (gx : Int) (k3 : 0 ≤ x3 ∧ x3 ≤ 2000) (f3 : 1 * x3 + ((-1) * pos_0 + 0) ≤ 0) (kz_0_11 : 0 ≤ pos_0 ∧ pos_0 ≤ 2000) (ex2 : gx = x3) : 1 * gx + ((-1) * pos_0 + 0) ≤ 0 := by
  first
    | omega
    | (have q1 := (hE_0_2_1 (r_0 + 2) (by omega)).2 (by omega)
       have q2 := (hE_0_2_2 (r_0 + 2) (by omega)).2 (by omega)
       omega)
    | (have q1 := (hE_0_2_1 (r_0 + 1) (by omega)).2 (by omega)
       have q2 := (hE_0_2_2 (r_0 + 1) (by omega)).2 (by omega)
       omega)
    | (have q1 := (hE_0_2_1 (r_0 + 2) (by omega)).2 (by omega)
       omega)
    | (have q1 := (hE_0_2_1 (r_0 + 1) (by omega)).2 (by omega)
       omega)
    | (have q1 := (hE_0_2_1 (r_0 + 2) (by omega)).2 (by omega)
       have q2 := (hE_0_2_2 (r_0 + 2) (by omega)).2 (by omega)
       have q3 := (hE_0_2_3 (r_0 + 2) (by omega)).1 (by omega)
       omega)
    | (have q1 := (hE_0_2_1 (r_0 + 2) (by omega)).2 (by omega)
       have q2 := (hE_0_2_2 (r_0 + 2) (by omega)).2 (by omega)
       have q3 := (hE_0_2_3 (r_0 + 2) (by omega)).2 (by omega)
       omega)
def o_Mo_item_at_k1_3 : or_T := (11, 6, [(0, (2, 0, 0, [165])), (3, (0, 0, 2000, []))], [(20, [3, 0], [30, 0, 1, 0, 0, -1, 1, 11])], [], [(0, 0, 2000, [])], [(23, [6, 3], [0, 1, -1]), (23, [6, 3], [0, -1, 1]), (20, [6, 0], [30, 0, 1, 0, 0, -1, 1, 11])], [], [])
theorem oo_Mo_item_at_k1_3 {kA : Nat → ClassId} : or_ok PRD kA GG o_Mo_item_at_k1_3 := by
  refine or_mk fun A ta ws vs hD hth hl => ?_
  intro t0 r0 t3 k3 f3
  replace f3 := shm_1395 f3
  have kz_0_11 := fdq_273 hD hth r0
  obtain ⟨x, ex, hx⟩ := iv_ex (ta := ta) (lo := 0) (hi := 2000) (z := v_iv (n_v vs 3)) (by omega) (by omega) (by omega) (by omega)
  have ex2 : v_iv (Value.int x) = v_iv (n_v vs 3) := ex
  have ex3 : 0 ≤ v_iv (Value.int x) ∧ v_iv (Value.int x) ≤ 2000 := tv_rng hx
  have e_0 : n_v (vs ++ [Value.int x]) 0 = n_v vs 0 := n_v_old (by rw [hl]; decide)
  have e_3 : n_v (vs ++ [Value.int x]) 3 = n_v vs 3 := n_v_old (by rw [hl]; decide)
  have e_6 : n_v (vs ++ [Value.int x]) 6 = Value.int x := n_v_new hl
  have nf0 : fc_1 PRD (23, [6, 3], [0, 1, -1]) ws (vs ++ [Value.int x]) := by
    refine ⟨nf_inA hl rfl, sgq_7 ?_⟩
    · show 1 * v_iv (n_v (vs ++ [Value.int x]) 6) + ((-1) * v_iv (n_v (vs ++ [Value.int x]) 3) + 0) ≤ 0
      simp only [e_3, e_6]
      exact vc_Mo_item_at_k1_3_0 (v_iv (n_v vs 3)) (w_fi ws (n_v vs 0) 5) (v_iv (Value.int x)) k3 ex2
  have nf1 : fc_1 PRD (23, [6, 3], [0, -1, 1]) ws (vs ++ [Value.int x]) := by
    refine ⟨nf_inA hl rfl, sgq_22 ?_⟩
    · show (-1) * v_iv (n_v (vs ++ [Value.int x]) 6) + (1 * v_iv (n_v (vs ++ [Value.int x]) 3) + 0) ≤ 0
      simp only [e_3, e_6]
      exact vc_Mo_item_at_k1_3_1 (v_iv (n_v vs 3)) (w_fi ws (n_v vs 0) 5) (v_iv (Value.int x)) k3 ex2
  have nf2 : fc_1 PRD (20, [6, 0], [30, 0, 1, 0, 0, -1, 1, 11]) ws (vs ++ [Value.int x]) := by
    refine ⟨nf_inA hl rfl, sgq_1395 ?_⟩
    · show 1 * v_iv (n_v (vs ++ [Value.int x]) 6) + ((-1) * w_fi ws (n_v (vs ++ [Value.int x]) 0) 11 + 0) ≤ 0
      simp only [e_0, e_6]
      exact vc_Mo_item_at_k1_3_2 (v_iv (n_v vs 3)) (w_fi ws (n_v vs 0) 11) (w_fi ws (n_v vs 0) 5) (v_iv (Value.int x)) k3 f3 kz_0_11 ex2
  exact ⟨(fun _ h => (by cases h)), [Value.int x], ag_one hx, List.forall_mem_cons.mpr ⟨⟨show (23 : Nat) < 100 from by decide, nf0⟩, List.forall_mem_cons.mpr ⟨⟨show (23 : Nat) < 100 from by decide, nf1⟩, List.forall_mem_cons.mpr ⟨⟨show (20 : Nat) < 100 from by decide, nf2⟩, (fun _ h => (by cases h))⟩⟩⟩, (fun _ h => (by cases h))⟩
set_option maxHeartbeats 4000000 in
theorem vc_Mo_item_at_k1_4_0 (x3 : Int) (x6 : Int) (r_0 : Int) (gx : Int) (k3 : 0 ≤ x3 ∧ x3 ≤ 2000) (k6 : 0 ≤ x6 ∧ x6 ≤ 2000) (f0 : 1 * x6 + ((-1) * x3 + 0) ≤ 0) (f1 : (-1) * x6 + (1 * x3 + 0) ≤ 0) (ex2 : gx = x3) : 1 * gx + ((-1) * x3 + 0) ≤ 0 := by
  first
    | omega
    | (have q1 := (hE_0_2_1 (r_0 + 2) (by omega)).2 (by omega)
       have q2 := (hE_0_2_2 (r_0 + 2) (by omega)).2 (by omega)
       omega)
    | (have q1 := (hE_0_2_1 (r_0 + 1) (by omega)).2 (by omega)
       have q2 := (hE_0_2_2 (r_0 + 1) (by omega)).2 (by omega)
       omega)
    | (have q1 := (hE_0_2_1 (r_0 + 2) (by omega)).2 (by omega)
       omega)
    | (have q1 := (hE_0_2_1 (r_0 + 1) (by omega)).2 (by omega)
       omega)
    | (have q1 := (hE_0_2_1 (r_0 + 2) (by omega)).2 (by omega)
       have q2 := (hE_0_2_2 (r_0 + 2) (by omega)).2 (by omega)
       have q3 := (hE_0_2_3 (r_0 + 2) (by omega)).1 (by omega)
       omega)
    | (have q1 := (hE_0_2_1 (r_0 + 2) (by omega)).2 (by omega)
       have q2 := (hE_0_2_2 (r_0 + 2) (by omega)).2 (by omega)
       have q3 := (hE_0_2_3 (r_0 + 2) (by omega)).2 (by omega)
       omega)
set_option maxHeartbeats 4000000 in
theorem vc_Mo_item_at_k1_4_1 (x3 : Int) (x6 : Int) (r_0 : Int) (gx : Int) (k3 : 0 ≤ x3 ∧ x3 ≤ 2000) (k6 : 0 ≤ x6 ∧ x6 ≤ 2000) (f0 : 1 * x6 + ((-1) * x3 + 0) ≤ 0) (f1 : (-1) * x6 + (1 * x3 + 0) ≤ 0) (ex2 : gx = x3) : (-1) * gx + (1 * x3 + 0) ≤ 0 := by
  first
    | omega
    | (have q1 := (hE_0_2_1 (r_0 + 2) (by omega)).2 (by omega)
       have q2 := (hE_0_2_2 (r_0 + 2) (by omega)).2 (by omega)
       omega)
    | (have q1 := (hE_0_2_1 (r_0 + 1) (by omega)).2 (by omega)
       have q2 := (hE_0_2_2 (r_0 + 1) (by omega)).2 (by omega)
       omega)
    | (have q1 := (hE_0_2_1 (r_0 + 2) (by omega)).2 (by omega)
       omega)
    | (have q1 := (hE_0_2_1 (r_0 + 1) (by omega)).2 (by omega)
       omega)
    | (have q1 := (hE_0_2_1 (r_0 + 2) (by omega)).2 (by omega)
       have q2 := (hE_0_2_2 (r_0 + 2) (by omega)).2 (by omega)
       have q3 := (hE_0_2_3 (r_0 + 2) (by omega)).1 (by omega)
       omega)
    | (have q1 := (hE_0_2_1 (r_0 + 2) (by omega)).2 (by omega)
       have q2 := (hE_0_2_2 (r_0 + 2) (by omega)).2 (by omega)
       have q3 := (hE_0_2_3 (r_0 + 2) (by omega)).2 (by omega)
       omega)
set_option maxHeartbeats 4000000 in
theorem vc_Mo_item_at_k1_4_2 (r_0 : Int) (from_0 : Int) (pos_0 : Int) (f4 : 1 * from_0 + ((-1) * pos_0 + 0) ≤ 0) (kz_0_11 : 0 ≤ pos_0 ∧ pos_0 ≤ 2000) (kz_0_15 : 0 ≤ from_0 ∧ from_0 ≤ 2000) : 1 * from_0 + ((-1) * pos_0 + 0) ≤ 0 := by
  first
    | omega
    | (have q1 := (hE_0_2_1 (r_0 + 2) (by omega)).2 (by omega)
       have q2 := (hE_0_2_2 (r_0 + 2) (by omega)).2 (by omega)
       omega)
    | (have q1 := (hE_0_2_1 (r_0 + 1) (by omega)).2 (by omega)
       have q2 := (hE_0_2_2 (r_0 + 1) (by omega)).2 (by omega)
       omega)
    | (have q1 := (hE_0_2_1 (r_0 + 2) (by omega)).2 (by omega)
       omega)
    | (have q1 := (hE_0_2_1 (r_0 + 1) (by omega)).2 (by omega)
       omega)
    | (have q1 := (hE_0_2_1 (r_0 + 2) (by omega)).2 (by omega)
       have q2 := (hE_0_2_2 (r_0 + 2) (by omega)).2 (by omega)
       have q3 := (hE_0_2_3 (r_0 + 2) (by omega)).1 (by omega)
       omega)
    | (have q1 := (hE_0_2_1 (r_0 + 2) (by omega)).2 (by omega)
       have q2 := (hE_0_2_2 (r_0 + 2) (by omega)).2 (by omega)
       have q3 := (hE_0_2_3 (r_0 + 2) (by omega)).2 (by omega)
       omega)
set_option maxHeartbeats 4000000 in
theorem vc_Mo_item_at_k1_4_3 (r_0 : Int) (from_0 : Int) (pos_0 : Int) (kind_0 : Int) (f5 : ((kind_0 = 1) → (pos_0 ≤ (from_0 + 8))) ∧ ((kind_0 = 0) ∨ ((from_0 + 1) ≤ pos_0))) (kz_0_11 : 0 ≤ pos_0 ∧ pos_0 ≤ 2000) (kz_0_12 : 0 ≤ kind_0 ∧ kind_0 ≤ 4) (kz_0_15 : 0 ≤ from_0 ∧ from_0 ≤ 2000) : ((kind_0 = 1) → (pos_0 ≤ (from_0 + 8))) ∧ ((kind_0 = 0) ∨ ((from_0 + 1) ≤ pos_0)) := by
  first
    | omega
    | (have q1 := (hE_0_2_1 (r_0 + 2) (by omega)).2 (by omega)
       have q2 := (hE_0_2_2 (r_0 + 2) (by omega)).2 (by omega)
       omega)
    | (have q1 := (hE_0_2_1 (r_0 + 1) (by omega)).2 (by omega)
       have q2 := (hE_0_2_2 (r_0 + 1) (by omega)).2 (by omega)
       omega)
    | (have q1 := (hE_0_2_1 (r_0 + 2) (by omega)).2 (by omega)
       omega)
    | (have q1 := (hE_0_2_1 (r_0 + 1) (by omega)).2 (by omega)
       omega)
    | (have q1 := (hE_0_2_1 (r_0 + 2) (by omega)).2 (by omega)
       have q2 := (hE_0_2_2 (r_0 + 2) (by omega)).2 (by omega)
       have q3 := (hE_0_2_3 (r_0 + 2) (by omega)).1 (by omega)
       omega)
    | (have q1 := (hE_0_2_1 (r_0 + 2) (by omega)).2 (by omega)
       have q2 := (hE_0_2_2 (r_0 + 2) (by omega)).2 (by omega)
       have q3 := (hE_0_2_3 (r_0 + 2) (by omega)).2 (by omega)
       omega)
set_option maxHeartbeats 4000000 in
theorem vc_Mo_item_at_k1_4_4 (x3 : Int) (x6 : Int) (r_0 : Int) (from_0 : Int) (pos_0 : Int) (gx : Int) (gy : Int) (k3 : 0 ≤ x3 ∧ x3 ≤ 2000) (k6 : 0 ≤ x6 ∧ x6 ≤ 2000) (f0 : 1 * x6 + ((-1) * x3 + 0) ≤ 0) (f1 : (-1) * x6 + (1 * x3 + 0) ≤ 0) (f4 : 1 * from_0 + ((-1) * pos_0 + 0) ≤ 0) (f6 : 1 * x6 + ((-1) * from_0 + 0) ≤ 0) (kz_0_11 : 0 ≤ pos_0 ∧ pos_0 ≤ 2000) (kz_0_15 : 0 ≤ from_0 ∧ from_0 ≤ 2000) (ex2 : gx = x3) (ey2 : gy = from_0) : 1 * gx + ((-1) * pos_0 + 0) ≤ 0 := by
  first
    | omega
    | (have q1 := (hE_0_2_1 (r_0 + 2) (by omega)).2 (by omega)
       have q2 := (hE_0_2_2 (r_0 + 2) (by omega)).2 (by omega)
       omega)
    | (have q1 := (hE_0_2_1 (r_0 + 1) (by omega)).2 (by omega)
       have q2 := (hE_0_2_2 (r_0 + 1) (by omega)).2 (by omega)
       omega)
    | (have q1 := (hE_0_2_1 (r_0 + 2) (by omega)).2 (by omega)
       omega)
    | (have q1 := (hE_0_2_1 (r_0 + 1) (by omega)).2 (by omega)
       omega)
    | (have q1 := (hE_0_2_1 (r_0 + 2) (by omega)).2 (by omega)
       have q2 := (hE_0_2_2 (r_0 + 2) (by omega)).2 (by omega)
       have q3 := (hE_0_2_3 (r_0 + 2) (by omega)).1 (by omega)
       omega)
    | (have q1 := (hE_0_2_1 (r_0 + 2) (by omega)).2 (by omega)
       have q2 := (hE_0_2_2 (r_0 + 2) (by omega)).2 (by omega)
       have q3 := (hE_0_2_3 (r_0 + 2) (by omega)).2 (by omega)
       omega)
set_option maxHeartbeats 4000000 in
theorem vc_Mo_item_at_k1_4_5 (r_0 : Int) (from_0 : Int) (pos_0 : Int) (kind_0 : Int) (gy : Int) (f4 : 1 * from_0 + ((-1) * pos_0 + 0) ≤ 0) (f5 : ((kind_0 = 1) → (pos_0 ≤ (from_0 + 8))) ∧ ((kind_0 = 0) ∨ ((from_0 + 1) ≤ pos_0))) (kz_0_11 : 0 ≤ pos_0 ∧ pos_0 ≤ 2000) (kz_0_12 : 0 ≤ kind_0 ∧ kind_0 ≤ 4) (kz_0_15 : 0 ≤ from_0 ∧ from_0 ≤ 2000) (ey2 : gy = from_0) : (kind_0 = 0) ∨ ((gy + 1) ≤ pos_0) := by
  first
    | omega
    | (have q1 := (hE_0_2_1 (r_0 + 2) (by omega)).2 (by omega)
       have q2 := (hE_0_2_2 (r_0 + 2) (by omega)).2 (by omega)
       omega)
    | (have q1 := (hE_0_2_1 (r_0 + 1) (by omega)).2 (by omega)
       have q2 := (hE_0_2_2 (r_0 + 1) (by omega)).2 (by omega)
       omega)
    | (have q1 := (hE_0_2_1 (r_0 + 2) (by omega)).2 (by omega)
       omega)
    | (have q1 := (hE_0_2_1 (r_0 + 1) (by omega)).2 (by omega)
       omega)
    | (have q1 := (hE_0_2_1 (r_0 + 2) (by omega)).2 (by omega)
       have q2 := (hE_0_2_2 (r_0 + 2) (by omega)).2 (by omega)
       have q3 := (hE_0_2_3 (r_0 + 2) (by omega)).1 (by omega)
       omega)
    | (have q1 := (hE_0_2_1 (r_0 + 2) (by omega)).2 (by omega)
       have q2 := (hE_0_2_2 (r_0 + 2) (by omega)).2 (by omega)
       have q3 := (hE_0_2_3 (r_0 + 2) (by omega)).2 (by omega)
       omega)
set_option maxHeartbeats 4000000 in
theorem vc_Mo_item_at_k1_4_6 (x1 : Int) (all_0 : Int → Int) (r_0 : Int) (k1 : 0 ≤ x1 ∧ x1 ≤ 7) (f2 : (x1 + 1) ≤ all_0 ((r_0 + 2))) : (x1 + 1) ≤ all_0 ((r_0 + 2)) := by
  first
    | omega
    | (have q1 := (hE_0_2_1 (r_0 + 2) (by omega)).2 (by omega)
       have q2 := (hE_0_2_2 (r_0 + 2) (by omega)).2 (by omega)
       omega)
    | (have q1 := (hE_0_2_1 (r_0 + 1) (by omega)).2 (by omega)
       have q2 := (hE_0_2_2 (r_0 + 1) (by omega)).2 (by omega)
       omega)
    | (have q1 := (hE_0_2_1 (r_0 + 2) (by omega)).2 (by omega)
       omega)
    | (have q1 := (hE_0_2_1 (r_0 + 1) (by omega)).2 (by omega)
       omega)
    | (have q1 := (hE_0_2_1 (r_0 + 2) (by omega)).2 (by omega)
       have q2 := (hE_0_2_2 (r_0 + 2) (by omega)).2 (by omega)
       have q3 := (hE_0_2_3 (r_0 + 2) (by omega)).1 (by omega)
       omega)
    | (have q1 := (hE_0_2_1 (r_0 + 2) (by omega)).2 (by omega)
       have q2 := (hE_0_2_2 (r_0 + 2) (by omega)).2 (by omega)
       have q3 := (hE_0_2_3 (r_0 + 2) (by omega)).2 (by omega)
       omega)
set_option maxHeartbeats 4000000 in
theorem vc_Mo_item_at_k1_4_7 (all_0 : Int → Int) (r_0 : Int) (now_0 : Int → Int) (latest_0 : Int → Int) (f3 : RWS (r_0) (all_0) (now_0) (latest_0)) : RWS (r_0) (all_0) (now_0) (latest_0) := by
  first
    | assumption
set_option maxHeartbeats 4000000 in
theorem vc_Mo_item_at_k1_4_8 (x7 : Int) (all_0 : Int → Int) (r_0 : Int) (k7 : (-1) ≤ x7 ∧ x7 ≤ (-1)) : MEB (r_0) (all_0) (x7) := by
  intro q; exfalso; omega
def o_Mo_item_at_k1_4 : or_T := (17, 8, [(0, (2, 0, 0, [165])), (1, (0, 0, 7, [])), (3, (0, 0, 2000, [])), (6, (0, 0, 2000, [])), (7, (0, -1, -1, []))], [(23, [6, 3], [0, 1, -1]), (23, [6, 3], [0, -1, 1]), (20, [1, 0], [50, 1, 1, 1005, 1002, 0, 6, 4, 2, 1, 0, 0, 1, 3, 1, 2, 4, 3, 2, 1, 5, 0, 2]), (20, [0], [60, 1, 3, 199, 5, 2, 3, 4]), (20, [0, 0], [30, 0, 1, 1, 15, -1, 1, 11]), (20, [0], [50, 3, 0, 12, 11, 15, 2, 21, 4, 7, 1, 3, 2, 0, 12, 0, 1, 0, 3, 2, 0, 11, 4, 3, 2, 0, 15, 0, 8, 3, 7, 1, 3, 2, 0, 12, 0, 0, 0, 7, 4, 3, 2, 0, 15, 0, 1, 2, 0, 11]), (20, [6, 0], [30, 0, 1, 0, 0, -1, 1, 15])], [], [(0, 0, 2000, []), (0, 0, 2000, [])], [(23, [8, 3], [0, 1, -1]), (23, [8, 3], [0, -1, 1]), (20, [0, 0], [30, 0, 1, 1, 15, -1, 1, 11]), (20, [0], [50, 3, 0, 12, 11, 15, 2, 21, 4, 7, 1, 3, 2, 0, 12, 0, 1, 0, 3, 2, 0, 11, 4, 3, 2, 0, 15, 0, 8, 3, 7, 1, 3, 2, 0, 12, 0, 0, 0, 7, 4, 3, 2, 0, 15, 0, 1, 2, 0, 11]), (20, [8, 0], [30, 0, 1, 0, 0, -1, 1, 11]), (20, [0, 9], [50, 2, 0, 12, 11, 3, 7, 1, 3, 2, 0, 12, 0, 0, 0, 6, 4, 2, 1, 1, 0, 1, 2, 0, 11]), (20, [1, 0], [50, 1, 1, 1005, 1002, 0, 6, 4, 2, 1, 0, 0, 1, 3, 1, 2, 4, 3, 2, 1, 5, 0, 2]), (20, [0], [60, 1, 3, 199, 5, 2, 3, 4]), (20, [0, 7], [60, 1, 1, 241, 5, 2])], [], [])
theorem oo_Mo_item_at_k1_4 {kA : Nat → ClassId} : or_ok PRD kA GG o_Mo_item_at_k1_4 := by
  refine or_mk fun A ta ws vs hD hth hl => ?_
  intro t0 r0 t1 k1 t3 k3 t6 k6 t7 k7 f0 f1 f2 f3 f4 f5 f6
  replace f0 := shm_7 f0
  replace f1 := shm_22 f1
  replace f2 := shm_981 f2
  replace f3 := shm_952 f3
  replace f4 := shm_1397 f4
  replace f5 := shm_1398 f5
  replace f6 := shm_1396 f6
  have kz_0_11 := fdq_273 hD hth r0
  have kz_0_12 := fdq_186 hD hth r0
  have kz_0_15 := fdq_274 hD hth r0
  obtain ⟨x, ex, hx⟩ := iv_ex (ta := ta) (lo := 0) (hi := 2000) (z := v_iv (n_v vs 3)) (by omega) (by omega) (by omega) (by omega)
  have ex2 : v_iv (Value.int x) = v_iv (n_v vs 3) := ex
  have ex3 : 0 ≤ v_iv (Value.int x) ∧ v_iv (Value.int x) ≤ 2000 := tv_rng hx
  obtain ⟨y, ey, hy⟩ := iv_ex (ta := ta) (lo := 0) (hi := 2000) (z := w_fi ws (n_v vs 0) 15) (by omega) (by omega) (by omega) (by omega)
  have ey2 : v_iv (Value.int y) = w_fi ws (n_v vs 0) 15 := ey
  have ey3 : 0 ≤ v_iv (Value.int y) ∧ v_iv (Value.int y) ≤ 2000 := tv_rng hy
  have e_0 : n_v (vs ++ [Value.int x, Value.int y]) 0 = n_v vs 0 := n_v_old (by rw [hl]; decide)
  have e_1 : n_v (vs ++ [Value.int x, Value.int y]) 1 = n_v vs 1 := n_v_old (by rw [hl]; decide)
  have e_3 : n_v (vs ++ [Value.int x, Value.int y]) 3 = n_v vs 3 := n_v_old (by rw [hl]; decide)
  have e_7 : n_v (vs ++ [Value.int x, Value.int y]) 7 = n_v vs 7 := n_v_old (by rw [hl]; decide)
  have e_8 : n_v (vs ++ [Value.int x, Value.int y]) 8 = Value.int x := n_v_new0 hl
  have e_9 : n_v (vs ++ [Value.int x, Value.int y]) 9 = Value.int y := n_v_new1 hl
  have nf0 : fc_1 PRD (23, [8, 3], [0, 1, -1]) ws (vs ++ [Value.int x, Value.int y]) := by
    refine ⟨nf_inA hl rfl, sgq_7 ?_⟩
    · show 1 * v_iv (n_v (vs ++ [Value.int x, Value.int y]) 8) + ((-1) * v_iv (n_v (vs ++ [Value.int x, Value.int y]) 3) + 0) ≤ 0
      simp only [e_3, e_8]
      exact vc_Mo_item_at_k1_4_0 (v_iv (n_v vs 3)) (v_iv (n_v vs 6)) (w_fi ws (n_v vs 0) 5) (v_iv (Value.int x)) k3 k6 f0 f1 ex2
  have nf1 : fc_1 PRD (23, [8, 3], [0, -1, 1]) ws (vs ++ [Value.int x, Value.int y]) := by
    refine ⟨nf_inA hl rfl, sgq_22 ?_⟩
    · show (-1) * v_iv (n_v (vs ++ [Value.int x, Value.int y]) 8) + (1 * v_iv (n_v (vs ++ [Value.int x, Value.int y]) 3) + 0) ≤ 0
      simp only [e_3, e_8]
      exact vc_Mo_item_at_k1_4_1 (v_iv (n_v vs 3)) (v_iv (n_v vs 6)) (w_fi ws (n_v vs 0) 5) (v_iv (Value.int x)) k3 k6 f0 f1 ex2
  have nf2 : fc_1 PRD (20, [0, 0], [30, 0, 1, 1, 15, -1, 1, 11]) ws (vs ++ [Value.int x, Value.int y]) := by
    refine ⟨nf_inA hl rfl, sgq_1397 ?_⟩
    · show 1 * w_fi ws (n_v (vs ++ [Value.int x, Value.int y]) 0) 15 + ((-1) * w_fi ws (n_v (vs ++ [Value.int x, Value.int y]) 0) 11 + 0) ≤ 0
      rw [e_0]
      exact vc_Mo_item_at_k1_4_2 (w_fi ws (n_v vs 0) 5) (w_fi ws (n_v vs 0) 15) (w_fi ws (n_v vs 0) 11) f4 kz_0_11 kz_0_15
  have nf3 : fc_1 PRD (20, [0], [50, 3, 0, 12, 11, 15, 2, 21, 4, 7, 1, 3, 2, 0, 12, 0, 1, 0, 3, 2, 0, 11, 4, 3, 2, 0, 15, 0, 8, 3, 7, 1, 3, 2, 0, 12, 0, 0, 0, 7, 4, 3, 2, 0, 15, 0, 1, 2, 0, 11]) ws (vs ++ [Value.int x, Value.int y]) := by
    refine ⟨nf_inA hl rfl, sgq_1398 ?_⟩
    · show ((w_fi ws (n_v (vs ++ [Value.int x, Value.int y]) 0) 12 = 1) → (w_fi ws (n_v (vs ++ [Value.int x, Value.int y]) 0) 11 ≤ (w_fi ws (n_v (vs ++ [Value.int x, Value.int y]) 0) 15 + 8))) ∧ ((w_fi ws (n_v (vs ++ [Value.int x, Value.int y]) 0) 12 = 0) ∨ ((w_fi ws (n_v (vs ++ [Value.int x, Value.int y]) 0) 15 + 1) ≤ w_fi ws (n_v (vs ++ [Value.int x, Value.int y]) 0) 11))
      rw [e_0]
      exact vc_Mo_item_at_k1_4_3 (w_fi ws (n_v vs 0) 5) (w_fi ws (n_v vs 0) 15) (w_fi ws (n_v vs 0) 11) (w_fi ws (n_v vs 0) 12) f5 kz_0_11 kz_0_12 kz_0_15
  have nf4 : fc_1 PRD (20, [8, 0], [30, 0, 1, 0, 0, -1, 1, 11]) ws (vs ++ [Value.int x, Value.int y]) := by
    refine ⟨nf_inA hl rfl, sgq_1395 ?_⟩
    · show 1 * v_iv (n_v (vs ++ [Value.int x, Value.int y]) 8) + ((-1) * w_fi ws (n_v (vs ++ [Value.int x, Value.int y]) 0) 11 + 0) ≤ 0
      simp only [e_0, e_8]
      exact vc_Mo_item_at_k1_4_4 (v_iv (n_v vs 3)) (v_iv (n_v vs 6)) (w_fi ws (n_v vs 0) 5) (w_fi ws (n_v vs 0) 15) (w_fi ws (n_v vs 0) 11) (v_iv (Value.int x)) (v_iv (Value.int y)) k3 k6 f0 f1 f4 f6 kz_0_11 kz_0_15 ex2 ey2
  have nf5 : fc_1 PRD (20, [0, 9], [50, 2, 0, 12, 11, 3, 7, 1, 3, 2, 0, 12, 0, 0, 0, 6, 4, 2, 1, 1, 0, 1, 2, 0, 11]) ws (vs ++ [Value.int x, Value.int y]) := by
    refine ⟨nf_inA hl rfl, sgq_1978 ?_⟩
    · show (w_fi ws (n_v (vs ++ [Value.int x, Value.int y]) 0) 12 = 0) ∨ ((v_iv (n_v (vs ++ [Value.int x, Value.int y]) 9) + 1) ≤ w_fi ws (n_v (vs ++ [Value.int x, Value.int y]) 0) 11)
      simp only [e_0, e_9]
      exact vc_Mo_item_at_k1_4_5 (w_fi ws (n_v vs 0) 5) (w_fi ws (n_v vs 0) 15) (w_fi ws (n_v vs 0) 11) (w_fi ws (n_v vs 0) 12) (v_iv (Value.int y)) f4 f5 kz_0_11 kz_0_12 kz_0_15 ey2
  have nf6 : fc_1 PRD (20, [1, 0], [50, 1, 1, 1005, 1002, 0, 6, 4, 2, 1, 0, 0, 1, 3, 1, 2, 4, 3, 2, 1, 5, 0, 2]) ws (vs ++ [Value.int x, Value.int y]) := by
    refine ⟨nf_inA hl rfl, sgq_981 ?_⟩
    · show (v_iv (n_v (vs ++ [Value.int x, Value.int y]) 1) + 1) ≤ w_ei ws (w_ar ws (n_v (vs ++ [Value.int x, Value.int y]) 0) 2) ((w_fi ws (n_v (vs ++ [Value.int x, Value.int y]) 0) 5 + 2))
      simp only [e_0, e_1]
      exact vc_Mo_item_at_k1_4_6 (v_iv (n_v vs 1)) (w_ei ws (w_ar ws (n_v vs 0) 2)) (w_fi ws (n_v vs 0) 5) k1 f2
  have nf7 : fc_1 PRD (20, [0], [60, 1, 3, 199, 5, 2, 3, 4]) ws (vs ++ [Value.int x, Value.int y]) := by
    refine ⟨nf_inA hl rfl, sgq_952 ?_⟩
    · show RWS (w_fi ws (n_v (vs ++ [Value.int x, Value.int y]) 0) 5) (w_ei ws (w_ar ws (n_v (vs ++ [Value.int x, Value.int y]) 0) 2)) (w_ei ws (w_ar ws (n_v (vs ++ [Value.int x, Value.int y]) 0) 3)) (w_ei ws (w_ar ws (n_v (vs ++ [Value.int x, Value.int y]) 0) 4))
      rw [e_0]
      exact vc_Mo_item_at_k1_4_7 (w_ei ws (w_ar ws (n_v vs 0) 2)) (w_fi ws (n_v vs 0) 5) (w_ei ws (w_ar ws (n_v vs 0) 3)) (w_ei ws (w_ar ws (n_v vs 0) 4)) f3
  have nf8 : fc_1 PRD (20, [0, 7], [60, 1, 1, 241, 5, 2]) ws (vs ++ [Value.int x, Value.int y]) := by
    refine ⟨nf_inA hl rfl, sgq_1979 ?_⟩
    · show MEB (w_fi ws (n_v (vs ++ [Value.int x, Value.int y]) 0) 5) (w_ei ws (w_ar ws (n_v (vs ++ [Value.int x, Value.int y]) 0) 2)) (v_iv (n_v (vs ++ [Value.int x, Value.int y]) 7))
      simp only [e_0, e_7]
      exact vc_Mo_item_at_k1_4_8 (v_iv (n_v vs 7)) (w_ei ws (w_ar ws (n_v vs 0) 2)) (w_fi ws (n_v vs 0) 5) k7
  exact ⟨(fun _ h => (by cases h)), [Value.int x, Value.int y], ag_two hx hy, List.forall_mem_cons.mpr ⟨⟨show (23 : Nat) < 100 from by decide, nf0⟩, List.forall_mem_cons.mpr ⟨⟨show (23 : Nat) < 100 from by decide, nf1⟩, List.forall_mem_cons.mpr ⟨⟨show (20 : Nat) < 100 from by decide, nf2⟩, List.forall_mem_cons.mpr ⟨⟨show (20 : Nat) < 100 from by decide, nf3⟩, List.forall_mem_cons.mpr ⟨⟨show (20 : Nat) < 100 from by decide, nf4⟩, List.forall_mem_cons.mpr ⟨⟨show (20 : Nat) < 100 from by decide, nf5⟩, List.forall_mem_cons.mpr ⟨⟨show (20 : Nat) < 100 from by decide, nf6⟩, List.forall_mem_cons.mpr ⟨⟨show (20 : Nat) < 100 from by decide, nf7⟩, List.forall_mem_cons.mpr ⟨⟨show (20 : Nat) < 100 from by decide, nf8⟩, (fun _ h => (by cases h))⟩⟩⟩⟩⟩⟩⟩⟩⟩, (fun _ h => (by cases h))⟩
set_option maxHeartbeats 4000000 in
theorem vc_Mo_item_at_k1_5_0 (x3 : Int) (x8 : Int) (r_0 : Int) (gx : Int) (k3 : 0 ≤ x3 ∧ x3 ≤ 2000) (k8 : 0 ≤ x8 ∧ x8 ≤ 2000) (f0 : 1 * x8 + ((-1) * x3 + 0) ≤ 0) (f1 : (-1) * x8 + (1 * x3 + 0) ≤ 0) (ex2 : gx = x3) : 1 * gx + ((-1) * x3 + 0) ≤ 0 := by
  first
    | omega
    | (have q1 := (hE_0_2_1 (r_0 + 2) (by omega)).2 (by omega)
       have q2 := (hE_0_2_2 (r_0 + 2) (by omega)).2 (by omega)
       omega)
    | (have q1 := (hE_0_2_1 (r_0 + 1) (by omega)).2 (by omega)
       have q2 := (hE_0_2_2 (r_0 + 1) (by omega)).2 (by omega)
       omega)
    | (have q1 := (hE_0_2_1 (r_0 + 2) (by omega)).2 (by omega)
       omega)
    | (have q1 := (hE_0_2_1 (r_0 + 1) (by omega)).2 (by omega)
       omega)
    | (have q1 := (hE_0_2_1 (r_0 + 2) (by omega)).2 (by omega)
       have q2 := (hE_0_2_2 (r_0 + 2) (by omega)).2 (by omega)
       have q3 := (hE_0_2_3 (r_0 + 2) (by omega)).1 (by omega)
       omega)
    | (have q1 := (hE_0_2_1 (r_0 + 2) (by omega)).2 (by omega)
       have q2 := (hE_0_2_2 (r_0 + 2) (by omega)).2 (by omega)
       have q3 := (hE_0_2_3 (r_0 + 2) (by omega)).2 (by omega)
       omega)
set_option maxHeartbeats 4000000 in
theorem vc_Mo_item_at_k1_5_1 (x3 : Int) (x8 : Int) (r_0 : Int) (gx : Int) (k3 : 0 ≤ x3 ∧ x3 ≤ 2000) (k8 : 0 ≤ x8 ∧ x8 ≤ 2000) (f0 : 1 * x8 + ((-1) * x3 + 0) ≤ 0) (f1 : (-1) * x8 + (1 * x3 + 0) ≤ 0) (ex2 : gx = x3) : (-1) * gx + (1 * x3 + 0) ≤ 0 := by
  first
    | omega
    | (have q1 := (hE_0_2_1 (r_0 + 2) (by omega)).2 (by omega)
       have q2 := (hE_0_2_2 (r_0 + 2) (by omega)).2 (by omega)
       omega)
    | (have q1 := (hE_0_2_1 (r_0 + 1) (by omega)).2 (by omega)
       have q2 := (hE_0_2_2 (r_0 + 1) (by omega)).2 (by omega)
       omega)
    | (have q1 := (hE_0_2_1 (r_0 + 2) (by omega)).2 (by omega)
       omega)
    | (have q1 := (hE_0_2_1 (r_0 + 1) (by omega)).2 (by omega)
       omega)
    | (have q1 := (hE_0_2_1 (r_0 + 2) (by omega)).2 (by omega)
       have q2 := (hE_0_2_2 (r_0 + 2) (by omega)).2 (by omega)
       have q3 := (hE_0_2_3 (r_0 + 2) (by omega)).1 (by omega)
       omega)
    | (have q1 := (hE_0_2_1 (r_0 + 2) (by omega)).2 (by omega)
       have q2 := (hE_0_2_2 (r_0 + 2) (by omega)).2 (by omega)
       have q3 := (hE_0_2_3 (r_0 + 2) (by omega)).2 (by omega)
       omega)
set_option maxHeartbeats 4000000 in
theorem vc_Mo_item_at_k1_5_2 (x10 : Int) (r_0 : Int) (gy : Int) (k10 : (-1) ≤ x10 ∧ x10 ≤ 23) (ey2 : gy = x10) : 1 * gy + ((-1) * x10 + 0) ≤ 0 := by
  first
    | omega
    | (have q1 := (hE_0_2_1 (r_0 + 2) (by omega)).2 (by omega)
       have q2 := (hE_0_2_2 (r_0 + 2) (by omega)).2 (by omega)
       omega)
    | (have q1 := (hE_0_2_1 (r_0 + 1) (by omega)).2 (by omega)
       have q2 := (hE_0_2_2 (r_0 + 1) (by omega)).2 (by omega)
       omega)
    | (have q1 := (hE_0_2_1 (r_0 + 2) (by omega)).2 (by omega)
       omega)
    | (have q1 := (hE_0_2_1 (r_0 + 1) (by omega)).2 (by omega)
       omega)
    | (have q1 := (hE_0_2_1 (r_0 + 2) (by omega)).2 (by omega)
       have q2 := (hE_0_2_2 (r_0 + 2) (by omega)).2 (by omega)
       have q3 := (hE_0_2_3 (r_0 + 2) (by omega)).1 (by omega)
       omega)
    | (have q1 := (hE_0_2_1 (r_0 + 2) (by omega)).2 (by omega)
       have q2 := (hE_0_2_2 (r_0 + 2) (by omega)).2 (by omega)
       have q3 := (hE_0_2_3 (r_0 + 2) (by omega)).2 (by omega)
       omega)
set_option maxHeartbeats 4000000 in
theorem vc_Mo_item_at_k1_5_3 (x10 : Int) (r_0 : Int) (gy : Int) (k10 : (-1) ≤ x10 ∧ x10 ≤ 23) (ey2 : gy = x10) : (-1) * gy + (1 * x10 + 0) ≤ 0 := by
  first
    | omega
    | (have q1 := (hE_0_2_1 (r_0 + 2) (by omega)).2 (by omega)
       have q2 := (hE_0_2_2 (r_0 + 2) (by omega)).2 (by omega)
       omega)
    | (have q1 := (hE_0_2_1 (r_0 + 1) (by omega)).2 (by omega)
       have q2 := (hE_0_2_2 (r_0 + 1) (by omega)).2 (by omega)
       omega)
    | (have q1 := (hE_0_2_1 (r_0 + 2) (by omega)).2 (by omega)
       omega)
    | (have q1 := (hE_0_2_1 (r_0 + 1) (by omega)).2 (by omega)
       omega)
    | (have q1 := (hE_0_2_1 (r_0 + 2) (by omega)).2 (by omega)
       have q2 := (hE_0_2_2 (r_0 + 2) (by omega)).2 (by omega)
       have q3 := (hE_0_2_3 (r_0 + 2) (by omega)).1 (by omega)
       omega)
    | (have q1 := (hE_0_2_1 (r_0 + 2) (by omega)).2 (by omega)
       have q2 := (hE_0_2_2 (r_0 + 2) (by omega)).2 (by omega)
       have q3 := (hE_0_2_3 (r_0 + 2) (by omega)).2 (by omega)
       omega)
set_option maxHeartbeats 4000000 in
theorem vc_Mo_item_at_k1_5_4 (from_0 : Int) (pos_0 : Int) (r_0 : Int) (f4 : 1 * from_0 + ((-1) * pos_0 + 0) ≤ 0) (kz_0_11 : 0 ≤ pos_0 ∧ pos_0 ≤ 2000) (kz_0_15 : 0 ≤ from_0 ∧ from_0 ≤ 2000) : 1 * from_0 + ((-1) * pos_0 + 0) ≤ 0 := by
  first
    | omega
    | (have q1 := (hE_0_2_1 (r_0 + 2) (by omega)).2 (by omega)
       have q2 := (hE_0_2_2 (r_0 + 2) (by omega)).2 (by omega)
       omega)
    | (have q1 := (hE_0_2_1 (r_0 + 1) (by omega)).2 (by omega)
       have q2 := (hE_0_2_2 (r_0 + 1) (by omega)).2 (by omega)
       omega)
    | (have q1 := (hE_0_2_1 (r_0 + 2) (by omega)).2 (by omega)
       omega)
    | (have q1 := (hE_0_2_1 (r_0 + 1) (by omega)).2 (by omega)
       omega)
    | (have q1 := (hE_0_2_1 (r_0 + 2) (by omega)).2 (by omega)
       have q2 := (hE_0_2_2 (r_0 + 2) (by omega)).2 (by omega)
       have q3 := (hE_0_2_3 (r_0 + 2) (by omega)).1 (by omega)
       omega)
    | (have q1 := (hE_0_2_1 (r_0 + 2) (by omega)).2 (by omega)
       have q2 := (hE_0_2_2 (r_0 + 2) (by omega)).2 (by omega)
       have q3 := (hE_0_2_3 (r_0 + 2) (by omega)).2 (by omega)
       omega)
set_option maxHeartbeats 4000000 in
theorem vc_Mo_item_at_k1_5_5 (from_0 : Int) (pos_0 : Int) (kind_0 : Int) (r_0 : Int) (f5 : ((kind_0 = 1) → (pos_0 ≤ (from_0 + 8))) ∧ ((kind_0 = 0) ∨ ((from_0 + 1) ≤ pos_0))) (kz_0_11 : 0 ≤ pos_0 ∧ pos_0 ≤ 2000) (kz_0_12 : 0 ≤ kind_0 ∧ kind_0 ≤ 4) (kz_0_15 : 0 ≤ from_0 ∧ from_0 ≤ 2000) : ((kind_0 = 1) → (pos_0 ≤ (from_0 + 8))) ∧ ((kind_0 = 0) ∨ ((from_0 + 1) ≤ pos_0)) := by
  first
    | omega
    | (have q1 := (hE_0_2_1 (r_0 + 2) (by omega)).2 (by omega)
       have q2 := (hE_0_2_2 (r_0 + 2) (by omega)).2 (by omega)
       omega)
    | (have q1 := (hE_0_2_1 (r_0 + 1) (by omega)).2 (by omega)
       have q2 := (hE_0_2_2 (r_0 + 1) (by omega)).2 (by omega)
       omega)
    | (have q1 := (hE_0_2_1 (r_0 + 2) (by omega)).2 (by omega)
       omega)
    | (have q1 := (hE_0_2_1 (r_0 + 1) (by omega)).2 (by omega)
       omega)
    | (have q1 := (hE_0_2_1 (r_0 + 2) (by omega)).2 (by omega)
       have q2 := (hE_0_2_2 (r_0 + 2) (by omega)).2 (by omega)
       have q3 := (hE_0_2_3 (r_0 + 2) (by omega)).1 (by omega)
       omega)
    | (have q1 := (hE_0_2_1 (r_0 + 2) (by omega)).2 (by omega)
       have q2 := (hE_0_2_2 (r_0 + 2) (by omega)).2 (by omega)
       have q3 := (hE_0_2_3 (r_0 + 2) (by omega)).2 (by omega)
       omega)
set_option maxHeartbeats 4000000 in
theorem vc_Mo_item_at_k1_5_6 (x3 : Int) (x8 : Int) (pos_0 : Int) (r_0 : Int) (gx : Int) (k3 : 0 ≤ x3 ∧ x3 ≤ 2000) (k8 : 0 ≤ x8 ∧ x8 ≤ 2000) (f0 : 1 * x8 + ((-1) * x3 + 0) ≤ 0) (f1 : (-1) * x8 + (1 * x3 + 0) ≤ 0) (f6 : 1 * x8 + ((-1) * pos_0 + 0) ≤ 0) (kz_0_11 : 0 ≤ pos_0 ∧ pos_0 ≤ 2000) (ex2 : gx = x3) : 1 * gx + ((-1) * pos_0 + 0) ≤ 0 := by
  first
    | omega
    | (have q1 := (hE_0_2_1 (r_0 + 2) (by omega)).2 (by omega)
       have q2 := (hE_0_2_2 (r_0 + 2) (by omega)).2 (by omega)
       omega)
    | (have q1 := (hE_0_2_1 (r_0 + 1) (by omega)).2 (by omega)
       have q2 := (hE_0_2_2 (r_0 + 1) (by omega)).2 (by omega)
       omega)
    | (have q1 := (hE_0_2_1 (r_0 + 2) (by omega)).2 (by omega)
       omega)
    | (have q1 := (hE_0_2_1 (r_0 + 1) (by omega)).2 (by omega)
       omega)
    | (have q1 := (hE_0_2_1 (r_0 + 2) (by omega)).2 (by omega)
       have q2 := (hE_0_2_2 (r_0 + 2) (by omega)).2 (by omega)
       have q3 := (hE_0_2_3 (r_0 + 2) (by omega)).1 (by omega)
       omega)
    | (have q1 := (hE_0_2_1 (r_0 + 2) (by omega)).2 (by omega)
       have q2 := (hE_0_2_2 (r_0 + 2) (by omega)).2 (by omega)
       have q3 := (hE_0_2_3 (r_0 + 2) (by omega)).2 (by omega)
       omega)
set_option maxHeartbeats 4000000 in
theorem vc_Mo_item_at_k1_5_7 (x3 : Int) (x7 : Int) (x8 : Int) (x9 : Int) (x10 : Int) (pos_0 : Int) (kind_0 : Int) (fault_0 : Int) (all_0 : Int → Int) (r_0 : Int) (gx : Int) (k3 : 0 ≤ x3 ∧ x3 ≤ 2000) (k7 : (-1) ≤ x7 ∧ x7 ≤ (-1)) (k8 : 0 ≤ x8 ∧ x8 ≤ 2000) (k9 : 0 ≤ x9 ∧ x9 ≤ 2000) (k10 : (-1) ≤ x10 ∧ x10 ≤ 23) (f0 : 1 * x8 + ((-1) * x3 + 0) ≤ 0) (f1 : (-1) * x8 + (1 * x3 + 0) ≤ 0) (f6 : 1 * x8 + ((-1) * pos_0 + 0) ≤ 0) (f7 : (1 ≤ fault_0) ∨ ((kind_0 = 0) ∨ ((x8 + 1) ≤ pos_0))) (f8 : (1 ≤ fault_0) ∨ ((x9 + 1) ≤ pos_0)) (f9 : ((-1) * fault_0 + 0 ≤ (-1)) ∨ ((-1) * x10 + 0 ≤ 0)) (f10 : (1 ≤ fault_0) ∨ ((x7 ≤ (-1)) ∨ (all_0 ((r_0 + 1)) ≤ 47))) (kz_0_8 : 0 ≤ fault_0 ∧ fault_0 ≤ 5) (kz_0_11 : 0 ≤ pos_0 ∧ pos_0 ≤ 2000) (kz_0_12 : 0 ≤ kind_0 ∧ kind_0 ≤ 4) (ex2 : gx = x3) : (1 ≤ fault_0) ∨ ((kind_0 = 0) ∨ ((gx + 1) ≤ pos_0)) := by
  first
    | omega
    | (have q1 := (hE_0_2_1 (r_0 + 2) (by omega)).2 (by omega)
       have q2 := (hE_0_2_2 (r_0 + 2) (by omega)).2 (by omega)
       omega)
    | (have q1 := (hE_0_2_1 (r_0 + 1) (by omega)).2 (by omega)
       have q2 := (hE_0_2_2 (r_0 + 1) (by omega)).2 (by omega)
       omega)
    | (have q1 := (hE_0_2_1 (r_0 + 2) (by omega)).2 (by omega)
       omega)
    | (have q1 := (hE_0_2_1 (r_0 + 1) (by omega)).2 (by omega)
       omega)
    | (have q1 := (hE_0_2_1 (r_0 + 2) (by omega)).2 (by omega)
       have q2 := (hE_0_2_2 (r_0 + 2) (by omega)).2 (by omega)
       have q3 := (hE_0_2_3 (r_0 + 2) (by omega)).1 (by omega)
       omega)
    | (have q1 := (hE_0_2_1 (r_0 + 2) (by omega)).2 (by omega)
       have q2 := (hE_0_2_2 (r_0 + 2) (by omega)).2 (by omega)
       have q3 := (hE_0_2_3 (r_0 + 2) (by omega)).2 (by omega)
       omega)
set_option maxHeartbeats 4000000 in
theorem vc_Mo_item_at_k1_5_8 (x7 : Int) (x10 : Int) (fault_0 : Int) (all_0 : Int → Int) (r_0 : Int) (gy : Int) (k7 : (-1) ≤ x7 ∧ x7 ≤ (-1)) (k10 : (-1) ≤ x10 ∧ x10 ≤ 23) (f9 : ((-1) * fault_0 + 0 ≤ (-1)) ∨ ((-1) * x10 + 0 ≤ 0)) (f10 : (1 ≤ fault_0) ∨ ((x7 ≤ (-1)) ∨ (all_0 ((r_0 + 1)) ≤ 47))) (kz_0_8 : 0 ≤ fault_0 ∧ fault_0 ≤ 5) (ey2 : gy = x10) : (1 ≤ fault_0) ∨ (0 ≤ gy) := by
  first
    | omega
    | (have q1 := (hE_0_2_1 (r_0 + 2) (by omega)).2 (by omega)
       have q2 := (hE_0_2_2 (r_0 + 2) (by omega)).2 (by omega)
       omega)
    | (have q1 := (hE_0_2_1 (r_0 + 1) (by omega)).2 (by omega)
       have q2 := (hE_0_2_2 (r_0 + 1) (by omega)).2 (by omega)
       omega)
    | (have q1 := (hE_0_2_1 (r_0 + 2) (by omega)).2 (by omega)
       omega)
    | (have q1 := (hE_0_2_1 (r_0 + 1) (by omega)).2 (by omega)
       omega)
    | (have q1 := (hE_0_2_1 (r_0 + 2) (by omega)).2 (by omega)
       have q2 := (hE_0_2_2 (r_0 + 2) (by omega)).2 (by omega)
       have q3 := (hE_0_2_3 (r_0 + 2) (by omega)).1 (by omega)
       omega)
    | (have q1 := (hE_0_2_1 (r_0 + 2) (by omega)).2 (by omega)
       have q2 := (hE_0_2_2 (r_0 + 2) (by omega)).2 (by omega)
       have q3 := (hE_0_2_3 (r_0 + 2) (by omega)).2 (by omega)
       omega)
def o_Mo_item_at_k1_5 : or_T := (27, 13, [(0, (2, 0, 0, [165])), (3, (0, 0, 2000, [])), (7, (0, -1, -1, [])), (8, (0, 0, 2000, [])), (9, (0, 0, 2000, [])), (10, (0, -1, 23, []))], [(23, [8, 3], [0, 1, -1]), (23, [8, 3], [0, -1, 1]), (20, [0, 0], [30, 0, 1, 1, 15, -1, 1, 11]), (20, [0], [50, 3, 0, 12, 11, 15, 2, 21, 4, 7, 1, 3, 2, 0, 12, 0, 1, 0, 3, 2, 0, 11, 4, 3, 2, 0, 15, 0, 8, 3, 7, 1, 3, 2, 0, 12, 0, 0, 0, 7, 4, 3, 2, 0, 15, 0, 1, 2, 0, 11]), (20, [8, 0], [30, 0, 1, 0, 0, -1, 1, 11]), (20, [0, 8], [50, 3, 0, 8, 12, 11, 3, 7, 0, 2, 0, 1, 2, 0, 8, 3, 7, 1, 3, 2, 0, 12, 0, 0, 0, 6, 4, 2, 1, 1, 0, 1, 2, 0, 11]), (20, [0, 9], [50, 2, 0, 8, 11, 3, 7, 0, 2, 0, 1, 2, 0, 8, 0, 6, 4, 2, 1, 1, 0, 1, 2, 0, 11]), (20, [0, 10], [31, 1, -1, -1, 1, 8, 0, -1, 0, 0]), (20, [0, 7], [50, 2, 1, 8, 5, 2, 3, 7, 0, 2, 0, 1, 2, 0, 8, 3, 6, 0, 2, 1, 1, 0, -1, 0, 10, 3, 0, 2, 4, 3, 2, 0, 5, 0, 1, 0, 47])], [], [(0, 0, 2000, []), (0, -1, 48, [])], [(23, [13, 3], [0, 1, -1]), (23, [13, 3], [0, -1, 1]), (23, [14, 10], [0, 1, -1]), (23, [14, 10], [0, -1, 1]), (20, [0, 0], [30, 0, 1, 1, 15, -1, 1, 11]), (20, [0], [50, 3, 0, 12, 11, 15, 2, 21, 4, 7, 1, 3, 2, 0, 12, 0, 1, 0, 3, 2, 0, 11, 4, 3, 2, 0, 15, 0, 8, 3, 7, 1, 3, 2, 0, 12, 0, 0, 0, 7, 4, 3, 2, 0, 15, 0, 1, 2, 0, 11]), (20, [13, 0], [30, 0, 1, 0, 0, -1, 1, 11]), (20, [0, 13], [50, 3, 0, 8, 12, 11, 3, 7, 0, 2, 0, 1, 2, 0, 8, 3, 7, 1, 3, 2, 0, 12, 0, 0, 0, 6, 4, 2, 1, 1, 0, 1, 2, 0, 11]), (20, [0, 14], [50, 1, 0, 8, 3, 7, 0, 2, 0, 1, 2, 0, 8, 0, 2, 0, 0, 1, 1])], [], [])
theorem oo_Mo_item_at_k1_5 {kA : Nat → ClassId} : or_ok PRD kA GG o_Mo_item_at_k1_5 := by
  refine or_mk fun A ta ws vs hD hth hl => ?_
  intro t0 r0 t3 k3 t7 k7 t8 k8 t9 k9 t10 k10 f0 f1 f4 f5 f6 f7 f8 f9 f10
  replace f0 := shm_7 f0
  replace f1 := shm_22 f1
  replace f4 := shm_1397 f4
  replace f5 := shm_1398 f5
  replace f6 := shm_1395 f6
  replace f7 := shm_1660 f7
  replace f8 := shm_1659 f8
  replace f9 := shm_1982 f9
  replace f10 := shm_1983 f10
  have kz_0_8 := fdq_14 hD hth r0
  have kz_0_11 := fdq_273 hD hth r0
  have kz_0_12 := fdq_186 hD hth r0
  have kz_0_15 := fdq_274 hD hth r0
  obtain ⟨x, ex, hx⟩ := iv_ex (ta := ta) (lo := 0) (hi := 2000) (z := v_iv (n_v vs 3)) (by omega) (by omega) (by omega) (by omega)
  have ex2 : v_iv (Value.int x) = v_iv (n_v vs 3) := ex
  have ex3 : 0 ≤ v_iv (Value.int x) ∧ v_iv (Value.int x) ≤ 2000 := tv_rng hx
  obtain ⟨y, ey, hy⟩ := iv_ex (ta := ta) (lo := (-1)) (hi := 48) (z := v_iv (n_v vs 10)) (by omega) (by omega) (by omega) (by omega)
  have ey2 : v_iv (Value.int y) = v_iv (n_v vs 10) := ey
  have ey3 : (-1) ≤ v_iv (Value.int y) ∧ v_iv (Value.int y) ≤ 48 := tv_rng hy
  have e_0 : n_v (vs ++ [Value.int x, Value.int y]) 0 = n_v vs 0 := n_v_old (by rw [hl]; decide)
  have e_3 : n_v (vs ++ [Value.int x, Value.int y]) 3 = n_v vs 3 := n_v_old (by rw [hl]; decide)
  have e_10 : n_v (vs ++ [Value.int x, Value.int y]) 10 = n_v vs 10 := n_v_old (by rw [hl]; decide)
  have e_13 : n_v (vs ++ [Value.int x, Value.int y]) 13 = Value.int x := n_v_new0 hl
  have e_14 : n_v (vs ++ [Value.int x, Value.int y]) 14 = Value.int y := n_v_new1 hl
  have nf0 : fc_1 PRD (23, [13, 3], [0, 1, -1]) ws (vs ++ [Value.int x, Value.int y]) := by
    refine ⟨nf_inA hl rfl, sgq_7 ?_⟩
    · show 1 * v_iv (n_v (vs ++ [Value.int x, Value.int y]) 13) + ((-1) * v_iv (n_v (vs ++ [Value.int x, Value.int y]) 3) + 0) ≤ 0
      simp only [e_3, e_13]
      exact vc_Mo_item_at_k1_5_0 (v_iv (n_v vs 3)) (v_iv (n_v vs 8)) (w_fi ws (n_v vs 0) 5) (v_iv (Value.int x)) k3 k8 f0 f1 ex2
  have nf1 : fc_1 PRD (23, [13, 3], [0, -1, 1]) ws (vs ++ [Value.int x, Value.int y]) := by
    refine ⟨nf_inA hl rfl, sgq_22 ?_⟩
    · show (-1) * v_iv (n_v (vs ++ [Value.int x, Value.int y]) 13) + (1 * v_iv (n_v (vs ++ [Value.int x, Value.int y]) 3) + 0) ≤ 0
      simp only [e_3, e_13]
      exact vc_Mo_item_at_k1_5_1 (v_iv (n_v vs 3)) (v_iv (n_v vs 8)) (w_fi ws (n_v vs 0) 5) (v_iv (Value.int x)) k3 k8 f0 f1 ex2
  have nf2 : fc_1 PRD (23, [14, 10], [0, 1, -1]) ws (vs ++ [Value.int x, Value.int y]) := by
    refine ⟨nf_inA hl rfl, sgq_7 ?_⟩
    · show 1 * v_iv (n_v (vs ++ [Value.int x, Value.int y]) 14) + ((-1) * v_iv (n_v (vs ++ [Value.int x, Value.int y]) 10) + 0) ≤ 0
      simp only [e_10, e_14]
      exact vc_Mo_item_at_k1_5_2 (v_iv (n_v vs 10)) (w_fi ws (n_v vs 0) 5) (v_iv (Value.int y)) k10 ey2
  have nf3 : fc_1 PRD (23, [14, 10], [0, -1, 1]) ws (vs ++ [Value.int x, Value.int y]) := by
    refine ⟨nf_inA hl rfl, sgq_22 ?_⟩
    · show (-1) * v_iv (n_v (vs ++ [Value.int x, Value.int y]) 14) + (1 * v_iv (n_v (vs ++ [Value.int x, Value.int y]) 10) + 0) ≤ 0
      simp only [e_10, e_14]
      exact vc_Mo_item_at_k1_5_3 (v_iv (n_v vs 10)) (w_fi ws (n_v vs 0) 5) (v_iv (Value.int y)) k10 ey2
  have nf4 : fc_1 PRD (20, [0, 0], [30, 0, 1, 1, 15, -1, 1, 11]) ws (vs ++ [Value.int x, Value.int y]) := by
    refine ⟨nf_inA hl rfl, sgq_1397 ?_⟩
    · show 1 * w_fi ws (n_v (vs ++ [Value.int x, Value.int y]) 0) 15 + ((-1) * w_fi ws (n_v (vs ++ [Value.int x, Value.int y]) 0) 11 + 0) ≤ 0
      rw [e_0]
      exact vc_Mo_item_at_k1_5_4 (w_fi ws (n_v vs 0) 15) (w_fi ws (n_v vs 0) 11) (w_fi ws (n_v vs 0) 5) f4 kz_0_11 kz_0_15
  have nf5 : fc_1 PRD (20, [0], [50, 3, 0, 12, 11, 15, 2, 21, 4, 7, 1, 3, 2, 0, 12, 0, 1, 0, 3, 2, 0, 11, 4, 3, 2, 0, 15, 0, 8, 3, 7, 1, 3, 2, 0, 12, 0, 0, 0, 7, 4, 3, 2, 0, 15, 0, 1, 2, 0, 11]) ws (vs ++ [Value.int x, Value.int y]) := by
    refine ⟨nf_inA hl rfl, sgq_1398 ?_⟩
    · show ((w_fi ws (n_v (vs ++ [Value.int x, Value.int y]) 0) 12 = 1) → (w_fi ws (n_v (vs ++ [Value.int x, Value.int y]) 0) 11 ≤ (w_fi ws (n_v (vs ++ [Value.int x, Value.int y]) 0) 15 + 8))) ∧ ((w_fi ws (n_v (vs ++ [Value.int x, Value.int y]) 0) 12 = 0) ∨ ((w_fi ws (n_v (vs ++ [Value.int x, Value.int y]) 0) 15 + 1) ≤ w_fi ws (n_v (vs ++ [Value.int x, Value.int y]) 0) 11))
      rw [e_0]
      exact vc_Mo_item_at_k1_5_5 (w_fi ws (n_v vs 0) 15) (w_fi ws (n_v vs 0) 11) (w_fi ws (n_v vs 0) 12) (w_fi ws (n_v vs 0) 5) f5 kz_0_11 kz_0_12 kz_0_15
  have nf6 : fc_1 PRD (20, [13, 0], [30, 0, 1, 0, 0, -1, 1, 11]) ws (vs ++ [Value.int x, Value.int y]) := by
    refine ⟨nf_inA hl rfl, sgq_1395 ?_⟩
    · show 1 * v_iv (n_v (vs ++ [Value.int x, Value.int y]) 13) + ((-1) * w_fi ws (n_v (vs ++ [Value.int x, Value.int y]) 0) 11 + 0) ≤ 0
      simp only [e_0, e_13]
      exact vc_Mo_item_at_k1_5_6 (v_iv (n_v vs 3)) (v_iv (n_v vs 8)) (w_fi ws (n_v vs 0) 11) (w_fi ws (n_v vs 0) 5) (v_iv (Value.int x)) k3 k8 f0 f1 f6 kz_0_11 ex2
  have nf7 : fc_1 PRD (20, [0, 13], [50, 3, 0, 8, 12, 11, 3, 7, 0, 2, 0, 1, 2, 0, 8, 3, 7, 1, 3, 2, 0, 12, 0, 0, 0, 6, 4, 2, 1, 1, 0, 1, 2, 0, 11]) ws (vs ++ [Value.int x, Value.int y]) := by
    refine ⟨nf_inA hl rfl, sgq_1660 ?_⟩
    · show (1 ≤ w_fi ws (n_v (vs ++ [Value.int x, Value.int y]) 0) 8) ∨ ((w_fi ws (n_v (vs ++ [Value.int x, Value.int y]) 0) 12 = 0) ∨ ((v_iv (n_v (vs ++ [Value.int x, Value.int y]) 13) + 1) ≤ w_fi ws (n_v (vs ++ [Value.int x, Value.int y]) 0) 11))
      simp only [e_0, e_13]
      exact vc_Mo_item_at_k1_5_7 (v_iv (n_v vs 3)) (v_iv (n_v vs 7)) (v_iv (n_v vs 8)) (v_iv (n_v vs 9)) (v_iv (n_v vs 10)) (w_fi ws (n_v vs 0) 11) (w_fi ws (n_v vs 0) 12) (w_fi ws (n_v vs 0) 8) (w_ei ws (w_ar ws (n_v vs 0) 2)) (w_fi ws (n_v vs 0) 5) (v_iv (Value.int x)) k3 k7 k8 k9 k10 f0 f1 f6 f7 f8 f9 f10 kz_0_8 kz_0_11 kz_0_12 ex2
  have nf8 : fc_1 PRD (20, [0, 14], [50, 1, 0, 8, 3, 7, 0, 2, 0, 1, 2, 0, 8, 0, 2, 0, 0, 1, 1]) ws (vs ++ [Value.int x, Value.int y]) := by
    refine ⟨nf_inA hl rfl, sgq_1889 ?_⟩
    · show (1 ≤ w_fi ws (n_v (vs ++ [Value.int x, Value.int y]) 0) 8) ∨ (0 ≤ v_iv (n_v (vs ++ [Value.int x, Value.int y]) 14))
      simp only [e_0, e_14]
      exact vc_Mo_item_at_k1_5_8 (v_iv (n_v vs 7)) (v_iv (n_v vs 10)) (w_fi ws (n_v vs 0) 8) (w_ei ws (w_ar ws (n_v vs 0) 2)) (w_fi ws (n_v vs 0) 5) (v_iv (Value.int y)) k7 k10 f9 f10 kz_0_8 ey2
  exact ⟨(fun _ h => (by cases h)), [Value.int x, Value.int y], ag_two hx hy, List.forall_mem_cons.mpr ⟨⟨show (23 : Nat) < 100 from by decide, nf0⟩, List.forall_mem_cons.mpr ⟨⟨show (23 : Nat) < 100 from by decide, nf1⟩, List.forall_mem_cons.mpr ⟨⟨show (23 : Nat) < 100 from by decide, nf2⟩, List.forall_mem_cons.mpr ⟨⟨show (23 : Nat) < 100 from by decide, nf3⟩, List.forall_mem_cons.mpr ⟨⟨show (20 : Nat) < 100 from by decide, nf4⟩, List.forall_mem_cons.mpr ⟨⟨show (20 : Nat) < 100 from by decide, nf5⟩, List.forall_mem_cons.mpr ⟨⟨show (20 : Nat) < 100 from by decide, nf6⟩, List.forall_mem_cons.mpr ⟨⟨show (20 : Nat) < 100 from by decide, nf7⟩, List.forall_mem_cons.mpr ⟨⟨show (20 : Nat) < 100 from by decide, nf8⟩, (fun _ h => (by cases h))⟩⟩⟩⟩⟩⟩⟩⟩⟩, (fun _ h => (by cases h))⟩
set_option maxHeartbeats 4000000 in
theorem vc_Mo_item_at_k1_6_0 (x3 : Int) (x13 : Int) (r_0 : Int) (gx : Int) (k3 : 0 ≤ x3 ∧ x3 ≤ 2000) (k13 : 0 ≤ x13 ∧ x13 ≤ 2000) (f2 : 1 * x13 + ((-1) * x3 + 0) ≤ 0) (f3 : (-1) * x13 + (1 * x3 + 0) ≤ 0) (ex2 : gx = x3) : 1 * gx + ((-1) * x3 + 0) ≤ 0 := by
  first
    | omega
    | (have q1 := (hE_0_2_1 (r_0 + 2) (by omega)).2 (by omega)
       have q2 := (hE_0_2_2 (r_0 + 2) (by omega)).2 (by omega)
       omega)
    | (have q1 := (hE_0_2_1 (r_0 + 1) (by omega)).2 (by omega)
       have q2 := (hE_0_2_2 (r_0 + 1) (by omega)).2 (by omega)
       omega)
    | (have q1 := (hE_0_2_1 (r_0 + 2) (by omega)).2 (by omega)
       omega)
    | (have q1 := (hE_0_2_1 (r_0 + 1) (by omega)).2 (by omega)
       omega)
    | (have q1 := (hE_0_2_1 (r_0 + 2) (by omega)).2 (by omega)
       have q2 := (hE_0_2_2 (r_0 + 2) (by omega)).2 (by omega)
       have q3 := (hE_0_2_3 (r_0 + 2) (by omega)).1 (by omega)
       omega)
    | (have q1 := (hE_0_2_1 (r_0 + 2) (by omega)).2 (by omega)
       have q2 := (hE_0_2_2 (r_0 + 2) (by omega)).2 (by omega)
       have q3 := (hE_0_2_3 (r_0 + 2) (by omega)).2 (by omega)
       omega)
set_option maxHeartbeats 4000000 in
theorem vc_Mo_item_at_k1_6_1 (x3 : Int) (x13 : Int) (r_0 : Int) (gx : Int) (k3 : 0 ≤ x3 ∧ x3 ≤ 2000) (k13 : 0 ≤ x13 ∧ x13 ≤ 2000) (f2 : 1 * x13 + ((-1) * x3 + 0) ≤ 0) (f3 : (-1) * x13 + (1 * x3 + 0) ≤ 0) (ex2 : gx = x3) : (-1) * gx + (1 * x3 + 0) ≤ 0 := by
  first
    | omega
    | (have q1 := (hE_0_2_1 (r_0 + 2) (by omega)).2 (by omega)
       have q2 := (hE_0_2_2 (r_0 + 2) (by omega)).2 (by omega)
       omega)
    | (have q1 := (hE_0_2_1 (r_0 + 1) (by omega)).2 (by omega)
       have q2 := (hE_0_2_2 (r_0 + 1) (by omega)).2 (by omega)
       omega)
    | (have q1 := (hE_0_2_1 (r_0 + 2) (by omega)).2 (by omega)
       omega)
    | (have q1 := (hE_0_2_1 (r_0 + 1) (by omega)).2 (by omega)
       omega)
    | (have q1 := (hE_0_2_1 (r_0 + 2) (by omega)).2 (by omega)
       have q2 := (hE_0_2_2 (r_0 + 2) (by omega)).2 (by omega)
       have q3 := (hE_0_2_3 (r_0 + 2) (by omega)).1 (by omega)
       omega)
    | (have q1 := (hE_0_2_1 (r_0 + 2) (by omega)).2 (by omega)
       have q2 := (hE_0_2_2 (r_0 + 2) (by omega)).2 (by omega)
       have q3 := (hE_0_2_3 (r_0 + 2) (by omega)).2 (by omega)
       omega)
set_option maxHeartbeats 4000000 in
theorem vc_Mo_item_at_k1_6_2 (r_0 : Int) (from_0 : Int) (pos_0 : Int) (f12 : 1 * from_0 + ((-1) * pos_0 + 0) ≤ 0) (kz_0_11 : 0 ≤ pos_0 ∧ pos_0 ≤ 2000) (kz_0_15 : 0 ≤ from_0 ∧ from_0 ≤ 2000) : 1 * from_0 + ((-1) * pos_0 + 0) ≤ 0 := by
  first
    | omega
    | (have q1 := (hE_0_2_1 (r_0 + 2) (by omega)).2 (by omega)
       have q2 := (hE_0_2_2 (r_0 + 2) (by omega)).2 (by omega)
       omega)
    | (have q1 := (hE_0_2_1 (r_0 + 1) (by omega)).2 (by omega)
       have q2 := (hE_0_2_2 (r_0 + 1) (by omega)).2 (by omega)
       omega)
    | (have q1 := (hE_0_2_1 (r_0 + 2) (by omega)).2 (by omega)
       omega)
    | (have q1 := (hE_0_2_1 (r_0 + 1) (by omega)).2 (by omega)
       omega)
    | (have q1 := (hE_0_2_1 (r_0 + 2) (by omega)).2 (by omega)
       have q2 := (hE_0_2_2 (r_0 + 2) (by omega)).2 (by omega)
       have q3 := (hE_0_2_3 (r_0 + 2) (by omega)).1 (by omega)
       omega)
    | (have q1 := (hE_0_2_1 (r_0 + 2) (by omega)).2 (by omega)
       have q2 := (hE_0_2_2 (r_0 + 2) (by omega)).2 (by omega)
       have q3 := (hE_0_2_3 (r_0 + 2) (by omega)).2 (by omega)
       omega)
set_option maxHeartbeats 4000000 in
theorem vc_Mo_item_at_k1_6_3 (r_0 : Int) (from_0 : Int) (pos_0 : Int) (kind_0 : Int) (f13 : ((kind_0 = 1) → (pos_0 ≤ (from_0 + 8))) ∧ ((kind_0 = 0) ∨ ((from_0 + 1) ≤ pos_0))) (kz_0_11 : 0 ≤ pos_0 ∧ pos_0 ≤ 2000) (kz_0_12 : 0 ≤ kind_0 ∧ kind_0 ≤ 4) (kz_0_15 : 0 ≤ from_0 ∧ from_0 ≤ 2000) : ((kind_0 = 1) → (pos_0 ≤ (from_0 + 8))) ∧ ((kind_0 = 0) ∨ ((from_0 + 1) ≤ pos_0)) := by
  first
    | omega
    | (have q1 := (hE_0_2_1 (r_0 + 2) (by omega)).2 (by omega)
       have q2 := (hE_0_2_2 (r_0 + 2) (by omega)).2 (by omega)
       omega)
    | (have q1 := (hE_0_2_1 (r_0 + 1) (by omega)).2 (by omega)
       have q2 := (hE_0_2_2 (r_0 + 1) (by omega)).2 (by omega)
       omega)
    | (have q1 := (hE_0_2_1 (r_0 + 2) (by omega)).2 (by omega)
       omega)
    | (have q1 := (hE_0_2_1 (r_0 + 1) (by omega)).2 (by omega)
       omega)
    | (have q1 := (hE_0_2_1 (r_0 + 2) (by omega)).2 (by omega)
       have q2 := (hE_0_2_2 (r_0 + 2) (by omega)).2 (by omega)
       have q3 := (hE_0_2_3 (r_0 + 2) (by omega)).1 (by omega)
       omega)
    | (have q1 := (hE_0_2_1 (r_0 + 2) (by omega)).2 (by omega)
       have q2 := (hE_0_2_2 (r_0 + 2) (by omega)).2 (by omega)
       have q3 := (hE_0_2_3 (r_0 + 2) (by omega)).2 (by omega)
       omega)
set_option maxHeartbeats 4000000 in
theorem vc_Mo_item_at_k1_6_4 (x3 : Int) (x13 : Int) (r_0 : Int) (pos_0 : Int) (gx : Int) (k3 : 0 ≤ x3 ∧ x3 ≤ 2000) (k13 : 0 ≤ x13 ∧ x13 ≤ 2000) (f2 : 1 * x13 + ((-1) * x3 + 0) ≤ 0) (f3 : (-1) * x13 + (1 * x3 + 0) ≤ 0) (f14 : 1 * x13 + ((-1) * pos_0 + 0) ≤ 0) (kz_0_11 : 0 ≤ pos_0 ∧ pos_0 ≤ 2000) (ex2 : gx = x3) : 1 * gx + ((-1) * pos_0 + 0) ≤ 0 := by
  first
    | omega
    | (have q1 := (hE_0_2_1 (r_0 + 2) (by omega)).2 (by omega)
       have q2 := (hE_0_2_2 (r_0 + 2) (by omega)).2 (by omega)
       omega)
    | (have q1 := (hE_0_2_1 (r_0 + 1) (by omega)).2 (by omega)
       have q2 := (hE_0_2_2 (r_0 + 1) (by omega)).2 (by omega)
       omega)
    | (have q1 := (hE_0_2_1 (r_0 + 2) (by omega)).2 (by omega)
       omega)
    | (have q1 := (hE_0_2_1 (r_0 + 1) (by omega)).2 (by omega)
       omega)
    | (have q1 := (hE_0_2_1 (r_0 + 2) (by omega)).2 (by omega)
       have q2 := (hE_0_2_2 (r_0 + 2) (by omega)).2 (by omega)
       have q3 := (hE_0_2_3 (r_0 + 2) (by omega)).1 (by omega)
       omega)
    | (have q1 := (hE_0_2_1 (r_0 + 2) (by omega)).2 (by omega)
       have q2 := (hE_0_2_2 (r_0 + 2) (by omega)).2 (by omega)
       have q3 := (hE_0_2_3 (r_0 + 2) (by omega)).2 (by omega)
       omega)
set_option maxHeartbeats 4000000 in
theorem vc_Mo_item_at_k1_6_5 (x16 : Int) (fault_0 : Int) (r_0 : Int) (pos_0 : Int) (kind_0 : Int) (gx : Int) (k16 : 1 ≤ x16 ∧ x16 ≤ 5) (g1 : x16 = fault_0) (kz_0_8 : 0 ≤ fault_0 ∧ fault_0 ≤ 5) (kz_0_11 : 0 ≤ pos_0 ∧ pos_0 ≤ 2000) (kz_0_12 : 0 ≤ kind_0 ∧ kind_0 ≤ 4) : (1 ≤ fault_0) ∨ ((kind_0 = 0) ∨ ((gx + 1) ≤ pos_0)) := by
  first
    | omega
    | (have q1 := (hE_0_2_1 (r_0 + 2) (by omega)).2 (by omega)
       have q2 := (hE_0_2_2 (r_0 + 2) (by omega)).2 (by omega)
       omega)
    | (have q1 := (hE_0_2_1 (r_0 + 1) (by omega)).2 (by omega)
       have q2 := (hE_0_2_2 (r_0 + 1) (by omega)).2 (by omega)
       omega)
    | (have q1 := (hE_0_2_1 (r_0 + 2) (by omega)).2 (by omega)
       omega)
    | (have q1 := (hE_0_2_1 (r_0 + 1) (by omega)).2 (by omega)
       omega)
    | (have q1 := (hE_0_2_1 (r_0 + 2) (by omega)).2 (by omega)
       have q2 := (hE_0_2_2 (r_0 + 2) (by omega)).2 (by omega)
       have q3 := (hE_0_2_3 (r_0 + 2) (by omega)).1 (by omega)
       omega)
    | (have q1 := (hE_0_2_1 (r_0 + 2) (by omega)).2 (by omega)
       have q2 := (hE_0_2_2 (r_0 + 2) (by omega)).2 (by omega)
       have q3 := (hE_0_2_3 (r_0 + 2) (by omega)).2 (by omega)
       omega)
def o_Mo_item_at_k1_6 : or_T := (64, 18, [(0, (2, 0, 0, [165])), (1, (0, 0, 7, [])), (3, (0, 0, 2000, [])), (6, (0, 0, 2000, [])), (8, (0, 0, 2000, [])), (10, (0, -1, 23, [])), (12, (0, 99, 99, [])), (13, (0, 0, 2000, [])), (14, (0, -1, 48, [])), (15, (0, -2147483648, 2147483647, [])), (16, (0, 1, 5, []))], [(8, [16], [1]), (9, [16, 0], [8]), (23, [13, 3], [0, 1, -1]), (23, [13, 3], [0, -1, 1]), (23, [14, 10], [0, 1, -1]), (23, [14, 10], [0, -1, 1]), (23, [8, 3], [0, 1, -1]), (23, [8, 3], [0, -1, 1]), (23, [6, 3], [0, 1, -1]), (23, [6, 3], [0, -1, 1]), (20, [1, 0], [50, 1, 1, 1005, 1002, 0, 6, 4, 2, 1, 0, 0, 1, 3, 1, 2, 4, 3, 2, 1, 5, 0, 2]), (20, [0], [60, 1, 3, 199, 5, 2, 3, 4]), (20, [0, 0], [30, 0, 1, 1, 15, -1, 1, 11]), (20, [0], [50, 3, 0, 12, 11, 15, 2, 21, 4, 7, 1, 3, 2, 0, 12, 0, 1, 0, 3, 2, 0, 11, 4, 3, 2, 0, 15, 0, 8, 3, 7, 1, 3, 2, 0, 12, 0, 0, 0, 7, 4, 3, 2, 0, 15, 0, 1, 2, 0, 11]), (20, [13, 0], [30, 0, 1, 0, 0, -1, 1, 11]), (20, [0, 13], [50, 3, 0, 8, 12, 11, 3, 7, 0, 2, 0, 1, 2, 0, 8, 3, 7, 1, 3, 2, 0, 12, 0, 0, 0, 6, 4, 2, 1, 1, 0, 1, 2, 0, 11]), (20, [0, 14], [50, 1, 0, 8, 3, 7, 0, 2, 0, 1, 2, 0, 8, 0, 2, 0, 0, 1, 1]), (20, [15, 12], [30, 0, 1, 0, 0, -1, 0, 0]), (20, [15], [30, 0, -1, 0, 0]), (102, [14], [0, 165008, 165009, 165011, 165012, 165013, 165014, 165015]), (23, [13, 3], [0, 1, -1]), (23, [13, 3], [0, -1, 1]), (23, [14, 10], [0, 1, -1]), (23, [14, 10], [0, -1, 1]), (23, [8, 3], [0, 1, -1]), (23, [8, 3], [0, -1, 1]), (23, [6, 3], [0, 1, -1]), (23, [6, 3], [0, -1, 1]), (102, [9], [187072209578355573530071658587684226515959365500928, 165008, 165009, 165011, 165012, 165013, 165014, 165015]), (23, [8, 3], [0, 1, -1]), (23, [8, 3], [0, -1, 1]), (23, [6, 3], [0, 1, -1]), (23, [6, 3], [0, -1, 1]), (102, [6], [0, 165011, 165012, 165013, 165014, 165015]), (23, [6, 3], [0, 1, -1]), (23, [6, 3], [0, -1, 1])], [], [(0, 0, 2000, [])], [(23, [18, 3], [0, 1, -1]), (23, [18, 3], [0, -1, 1]), (20, [0, 0], [30, 0, 1, 1, 15, -1, 1, 11]), (20, [0], [50, 3, 0, 12, 11, 15, 2, 21, 4, 7, 1, 3, 2, 0, 12, 0, 1, 0, 3, 2, 0, 11, 4, 3, 2, 0, 15, 0, 8, 3, 7, 1, 3, 2, 0, 12, 0, 0, 0, 7, 4, 3, 2, 0, 15, 0, 1, 2, 0, 11]), (20, [18, 0], [30, 0, 1, 0, 0, -1, 1, 11]), (20, [0, 18], [50, 3, 0, 8, 12, 11, 3, 7, 0, 2, 0, 1, 2, 0, 8, 3, 7, 1, 3, 2, 0, 12, 0, 0, 0, 6, 4, 2, 1, 1, 0, 1, 2, 0, 11])], [], [])
theorem oo_Mo_item_at_k1_6 {kA : Nat → ClassId} : or_ok PRD kA GG o_Mo_item_at_k1_6 := by
  refine or_mk fun A ta ws vs hD hth hl => ?_
  intro t0 r0 t1 k1 t3 k3 t6 k6 t8 k8 t10 k10 t12 k12 t13 k13 t14 k14 t15 k15 t16 k16 f0 f1 f2 f3 f4 f5 f6 f7 f8 f9 f10 f11 f12 f13 f14 f15 f16 f17 f18 ta1 w1 le1 s1 f20 f21 f22 f23 f24 f25 f26 f27 ta2 w2 le2 s2 f29 f30 f31 f32 ta3 w3 le3 s3 f34 f35
  replace f1 := shm_143 f1
  replace f2 := shm_7 f2
  replace f3 := shm_22 f3
  replace f12 := shm_1397 f12
  replace f13 := shm_1398 f13
  replace f14 := shm_1395 f14
  have g1 : v_iv (n_v vs 16) = w_fi ws (n_v vs 0) 8 := congrArg v_iv f1
  have kz_0_8 := fdq_14 hD hth r0
  have kz_0_11 := fdq_273 hD hth r0
  have kz_0_12 := fdq_186 hD hth r0
  have kz_0_15 := fdq_274 hD hth r0
  obtain ⟨x, ex, hx⟩ := iv_ex (ta := ta) (lo := 0) (hi := 2000) (z := v_iv (n_v vs 3)) (by omega) (by omega) (by omega) (by omega)
  have ex2 : v_iv (Value.int x) = v_iv (n_v vs 3) := ex
  have ex3 : 0 ≤ v_iv (Value.int x) ∧ v_iv (Value.int x) ≤ 2000 := tv_rng hx
  have e_0 : n_v (vs ++ [Value.int x]) 0 = n_v vs 0 := n_v_old (by rw [hl]; decide)
  have e_3 : n_v (vs ++ [Value.int x]) 3 = n_v vs 3 := n_v_old (by rw [hl]; decide)
  have e_18 : n_v (vs ++ [Value.int x]) 18 = Value.int x := n_v_new hl
  have nf0 : fc_1 PRD (23, [18, 3], [0, 1, -1]) ws (vs ++ [Value.int x]) := by
    refine ⟨nf_inA hl rfl, sgq_7 ?_⟩
    · show 1 * v_iv (n_v (vs ++ [Value.int x]) 18) + ((-1) * v_iv (n_v (vs ++ [Value.int x]) 3) + 0) ≤ 0
      simp only [e_3, e_18]
      exact vc_Mo_item_at_k1_6_0 (v_iv (n_v vs 3)) (v_iv (n_v vs 13)) (w_fi ws (n_v vs 0) 5) (v_iv (Value.int x)) k3 k13 f2 f3 ex2
  have nf1 : fc_1 PRD (23, [18, 3], [0, -1, 1]) ws (vs ++ [Value.int x]) := by
    refine ⟨nf_inA hl rfl, sgq_22 ?_⟩
    · show (-1) * v_iv (n_v (vs ++ [Value.int x]) 18) + (1 * v_iv (n_v (vs ++ [Value.int x]) 3) + 0) ≤ 0
      simp only [e_3, e_18]
      exact vc_Mo_item_at_k1_6_1 (v_iv (n_v vs 3)) (v_iv (n_v vs 13)) (w_fi ws (n_v vs 0) 5) (v_iv (Value.int x)) k3 k13 f2 f3 ex2
  have nf2 : fc_1 PRD (20, [0, 0], [30, 0, 1, 1, 15, -1, 1, 11]) ws (vs ++ [Value.int x]) := by
    refine ⟨nf_inA hl rfl, sgq_1397 ?_⟩
    · show 1 * w_fi ws (n_v (vs ++ [Value.int x]) 0) 15 + ((-1) * w_fi ws (n_v (vs ++ [Value.int x]) 0) 11 + 0) ≤ 0
      rw [e_0]
      exact vc_Mo_item_at_k1_6_2 (w_fi ws (n_v vs 0) 5) (w_fi ws (n_v vs 0) 15) (w_fi ws (n_v vs 0) 11) f12 kz_0_11 kz_0_15
  have nf3 : fc_1 PRD (20, [0], [50, 3, 0, 12, 11, 15, 2, 21, 4, 7, 1, 3, 2, 0, 12, 0, 1, 0, 3, 2, 0, 11, 4, 3, 2, 0, 15, 0, 8, 3, 7, 1, 3, 2, 0, 12, 0, 0, 0, 7, 4, 3, 2, 0, 15, 0, 1, 2, 0, 11]) ws (vs ++ [Value.int x]) := by
    refine ⟨nf_inA hl rfl, sgq_1398 ?_⟩
    · show ((w_fi ws (n_v (vs ++ [Value.int x]) 0) 12 = 1) → (w_fi ws (n_v (vs ++ [Value.int x]) 0) 11 ≤ (w_fi ws (n_v (vs ++ [Value.int x]) 0) 15 + 8))) ∧ ((w_fi ws (n_v (vs ++ [Value.int x]) 0) 12 = 0) ∨ ((w_fi ws (n_v (vs ++ [Value.int x]) 0) 15 + 1) ≤ w_fi ws (n_v (vs ++ [Value.int x]) 0) 11))
      rw [e_0]
      exact vc_Mo_item_at_k1_6_3 (w_fi ws (n_v vs 0) 5) (w_fi ws (n_v vs 0) 15) (w_fi ws (n_v vs 0) 11) (w_fi ws (n_v vs 0) 12) f13 kz_0_11 kz_0_12 kz_0_15
  have nf4 : fc_1 PRD (20, [18, 0], [30, 0, 1, 0, 0, -1, 1, 11]) ws (vs ++ [Value.int x]) := by
    refine ⟨nf_inA hl rfl, sgq_1395 ?_⟩
    · show 1 * v_iv (n_v (vs ++ [Value.int x]) 18) + ((-1) * w_fi ws (n_v (vs ++ [Value.int x]) 0) 11 + 0) ≤ 0
      simp only [e_0, e_18]
      exact vc_Mo_item_at_k1_6_4 (v_iv (n_v vs 3)) (v_iv (n_v vs 13)) (w_fi ws (n_v vs 0) 5) (w_fi ws (n_v vs 0) 11) (v_iv (Value.int x)) k3 k13 f2 f3 f14 kz_0_11 ex2
  have nf5 : fc_1 PRD (20, [0, 18], [50, 3, 0, 8, 12, 11, 3, 7, 0, 2, 0, 1, 2, 0, 8, 3, 7, 1, 3, 2, 0, 12, 0, 0, 0, 6, 4, 2, 1, 1, 0, 1, 2, 0, 11]) ws (vs ++ [Value.int x]) := by
    refine ⟨nf_inA hl rfl, sgq_1660 ?_⟩
    · show (1 ≤ w_fi ws (n_v (vs ++ [Value.int x]) 0) 8) ∨ ((w_fi ws (n_v (vs ++ [Value.int x]) 0) 12 = 0) ∨ ((v_iv (n_v (vs ++ [Value.int x]) 18) + 1) ≤ w_fi ws (n_v (vs ++ [Value.int x]) 0) 11))
      simp only [e_0, e_18]
      exact vc_Mo_item_at_k1_6_5 (v_iv (n_v vs 16)) (w_fi ws (n_v vs 0) 8) (w_fi ws (n_v vs 0) 5) (w_fi ws (n_v vs 0) 11) (w_fi ws (n_v vs 0) 12) (v_iv (Value.int x)) k16 g1 kz_0_8 kz_0_11 kz_0_12
  exact ⟨(fun _ h => (by cases h)), [Value.int x], ag_one hx, List.forall_mem_cons.mpr ⟨⟨show (23 : Nat) < 100 from by decide, nf0⟩, List.forall_mem_cons.mpr ⟨⟨show (23 : Nat) < 100 from by decide, nf1⟩, List.forall_mem_cons.mpr ⟨⟨show (20 : Nat) < 100 from by decide, nf2⟩, List.forall_mem_cons.mpr ⟨⟨show (20 : Nat) < 100 from by decide, nf3⟩, List.forall_mem_cons.mpr ⟨⟨show (20 : Nat) < 100 from by decide, nf4⟩, List.forall_mem_cons.mpr ⟨⟨show (20 : Nat) < 100 from by decide, nf5⟩, (fun _ h => (by cases h))⟩⟩⟩⟩⟩⟩, (fun _ h => (by cases h))⟩
set_option maxHeartbeats 4000000 in
theorem vc_Mo_item_at_k1_7_0 (x3 : Int) (x18 : Int) (r_0 : Int) (pos_0 : Int) (k3 : 0 ≤ x3 ∧ x3 ≤ 2000) (k18 : 0 ≤ x18 ∧ x18 ≤ 2000) (f0 : 1 * x18 + ((-1) * x3 + 0) ≤ 0) (f1 : (-1) * x18 + (1 * x3 + 0) ≤ 0) (f14 : 1 * x18 + ((-1) * pos_0 + 0) ≤ 0) (kz_0_11 : 0 ≤ pos_0 ∧ pos_0 ≤ 2000) : 1 * x3 + ((-1) * pos_0 + 0) ≤ 0 := by
  first
    | omega
    | (have q1 := (hE_0_2_1 (r_0 + 2) (by omega)).2 (by omega)
       have q2 := (hE_0_2_2 (r_0 + 2) (by omega)).2 (by omega)
       omega)
    | (have q1 := (hE_0_2_1 (r_0 + 1) (by omega)).2 (by omega)
       have q2 := (hE_0_2_2 (r_0 + 1) (by omega)).2 (by omega)
       omega)
    | (have q1 := (hE_0_2_1 (r_0 + 2) (by omega)).2 (by omega)
       omega)
    | (have q1 := (hE_0_2_1 (r_0 + 1) (by omega)).2 (by omega)
       omega)
    | (have q1 := (hE_0_2_1 (r_0 + 2) (by omega)).2 (by omega)
       have q2 := (hE_0_2_2 (r_0 + 2) (by omega)).2 (by omega)
       have q3 := (hE_0_2_3 (r_0 + 2) (by omega)).1 (by omega)
       omega)
    | (have q1 := (hE_0_2_1 (r_0 + 2) (by omega)).2 (by omega)
       have q2 := (hE_0_2_2 (r_0 + 2) (by omega)).2 (by omega)
       have q3 := (hE_0_2_3 (r_0 + 2) (by omega)).2 (by omega)
       omega)
set_option maxHeartbeats 4000000 in
theorem vc_Mo_item_at_k1_7_1 (x3 : Int) (x18 : Int) (r_0 : Int) (pos_0 : Int) (fault_0 : Int) (k3 : 0 ≤ x3 ∧ x3 ≤ 2000) (k18 : 0 ≤ x18 ∧ x18 ≤ 2000) (f0 : 1 * x18 + ((-1) * x3 + 0) ≤ 0) (f1 : (-1) * x18 + (1 * x3 + 0) ≤ 0) (f14 : 1 * x18 + ((-1) * pos_0 + 0) ≤ 0) (f15 : (1 ≤ fault_0) ∨ ((x18 + 1) ≤ pos_0)) (kz_0_8 : 0 ≤ fault_0 ∧ fault_0 ≤ 5) (kz_0_11 : 0 ≤ pos_0 ∧ pos_0 ≤ 2000) : (1 ≤ fault_0) ∨ ((x3 + 1) ≤ pos_0) := by
  first
    | omega
    | (have q1 := (hE_0_2_1 (r_0 + 2) (by omega)).2 (by omega)
       have q2 := (hE_0_2_2 (r_0 + 2) (by omega)).2 (by omega)
       omega)
    | (have q1 := (hE_0_2_1 (r_0 + 1) (by omega)).2 (by omega)
       have q2 := (hE_0_2_2 (r_0 + 1) (by omega)).2 (by omega)
       omega)
    | (have q1 := (hE_0_2_1 (r_0 + 2) (by omega)).2 (by omega)
       omega)
    | (have q1 := (hE_0_2_1 (r_0 + 1) (by omega)).2 (by omega)
       omega)
    | (have q1 := (hE_0_2_1 (r_0 + 2) (by omega)).2 (by omega)
       have q2 := (hE_0_2_2 (r_0 + 2) (by omega)).2 (by omega)
       have q3 := (hE_0_2_3 (r_0 + 2) (by omega)).1 (by omega)
       omega)
    | (have q1 := (hE_0_2_1 (r_0 + 2) (by omega)).2 (by omega)
       have q2 := (hE_0_2_2 (r_0 + 2) (by omega)).2 (by omega)
       have q3 := (hE_0_2_3 (r_0 + 2) (by omega)).2 (by omega)
       omega)
def o_Mo_item_at_k1_7 : or_T := (94, 19, [(0, (2, 0, 0, [165])), (1, (0, 0, 7, [])), (3, (0, 0, 2000, [])), (6, (0, 0, 2000, [])), (8, (0, 0, 2000, [])), (12, (0, 99, 99, [])), (13, (0, 0, 2000, [])), (15, (0, -2147483648, 2147483647, [])), (18, (0, 0, 2000, []))], [(23, [18, 3], [0, 1, -1]), (23, [18, 3], [0, -1, 1]), (23, [13, 3], [0, 1, -1]), (23, [13, 3], [0, -1, 1]), (23, [8, 3], [0, 1, -1]), (23, [8, 3], [0, -1, 1]), (23, [6, 3], [0, 1, -1]), (23, [6, 3], [0, -1, 1]), (20, [1, 0], [50, 1, 1, 1005, 1002, 0, 6, 4, 2, 1, 0, 0, 1, 3, 1, 2, 4, 3, 2, 1, 5, 0, 2]), (20, [0], [60, 1, 3, 199, 5, 2, 3, 4]), (20, [15, 12], [30, 0, 1, 0, 0, -1, 0, 0]), (20, [15], [30, 0, -1, 0, 0]), (20, [0, 0], [30, 0, 1, 1, 15, -1, 1, 11]), (20, [0], [50, 3, 0, 12, 11, 15, 2, 21, 4, 7, 1, 3, 2, 0, 12, 0, 1, 0, 3, 2, 0, 11, 4, 3, 2, 0, 15, 0, 8, 3, 7, 1, 3, 2, 0, 12, 0, 0, 0, 7, 4, 3, 2, 0, 15, 0, 1, 2, 0, 11]), (20, [18, 0], [30, 0, 1, 0, 0, -1, 1, 11]), (20, [0, 18], [50, 2, 0, 8, 11, 3, 7, 0, 2, 0, 1, 2, 0, 8, 0, 6, 4, 2, 1, 1, 0, 1, 2, 0, 11]), (102, [18], [0, 165008, 165009, 165011, 165012, 165013, 165014, 165015]), (23, [18, 3], [0, 1, -1]), (23, [18, 3], [0, -1, 1]), (23, [13, 3], [0, 1, -1]), (23, [13, 3], [0, -1, 1]), (23, [8, 3], [0, 1, -1]), (23, [8, 3], [0, -1, 1]), (23, [6, 3], [0, 1, -1]), (23, [6, 3], [0, -1, 1]), (102, [14], [0, 165008, 165009, 165011, 165012, 165013, 165014, 165015]), (23, [13, 3], [0, 1, -1]), (23, [13, 3], [0, -1, 1]), (23, [8, 3], [0, 1, -1]), (23, [8, 3], [0, -1, 1]), (23, [6, 3], [0, 1, -1]), (23, [6, 3], [0, -1, 1]), (102, [9], [187072209578355573530071658587684226515959365500928, 165008, 165009, 165011, 165012, 165013, 165014, 165015]), (23, [8, 3], [0, 1, -1]), (23, [8, 3], [0, -1, 1]), (23, [6, 3], [0, 1, -1]), (23, [6, 3], [0, -1, 1]), (102, [6], [0, 165011, 165012, 165013, 165014, 165015]), (23, [6, 3], [0, 1, -1]), (23, [6, 3], [0, -1, 1])], [], [], [(20, [3, 0], [30, 0, 1, 0, 0, -1, 1, 11]), (20, [0, 3], [50, 2, 0, 8, 11, 3, 7, 0, 2, 0, 1, 2, 0, 8, 0, 6, 4, 2, 1, 1, 0, 1, 2, 0, 11])], [], [])
theorem oo_Mo_item_at_k1_7 {kA : Nat → ClassId} : or_ok PRD kA GG o_Mo_item_at_k1_7 := by
  refine or_mk fun A ta ws vs hD hth hl => ?_
  intro t0 r0 t1 k1 t3 k3 t6 k6 t8 k8 t12 k12 t13 k13 t15 k15 t18 k18 f0 f1 f2 f3 f4 f5 f6 f7 f8 f9 f10 f11 f12 f13 f14 f15 ta1 w1 le1 s1 f17 f18 f19 f20 f21 f22 f23 f24 ta2 w2 le2 s2 f26 f27 f28 f29 f30 f31 ta3 w3 le3 s3 f33 f34 f35 f36 ta4 w4 le4 s4 f38 f39
  have kz_0_8 := fdq_14 hD hth r0
  have kz_0_11 := fdq_273 hD hth r0
  have nf0 : fc_1 PRD (20, [3, 0], [30, 0, 1, 0, 0, -1, 1, 11]) ws (vs) := ⟨nf_in hl rfl, sgq_1395 (vc_Mo_item_at_k1_7_0 (v_iv (n_v vs 3)) (v_iv (n_v vs 18)) (w_fi ws (n_v vs 0) 5) (w_fi ws (n_v vs 0) 11) k3 k18 (shm_7 f0) (shm_22 f1) (shm_1395 f14) kz_0_11)⟩
  have nf1 : fc_1 PRD (20, [0, 3], [50, 2, 0, 8, 11, 3, 7, 0, 2, 0, 1, 2, 0, 8, 0, 6, 4, 2, 1, 1, 0, 1, 2, 0, 11]) ws (vs) := ⟨nf_in hl rfl, sgq_1659 (vc_Mo_item_at_k1_7_1 (v_iv (n_v vs 3)) (v_iv (n_v vs 18)) (w_fi ws (n_v vs 0) 5) (w_fi ws (n_v vs 0) 11) (w_fi ws (n_v vs 0) 8) k3 k18 (shm_7 f0) (shm_22 f1) (shm_1395 f14) (shm_1659 f15) kz_0_8 kz_0_11)⟩
  refine ⟨(fun _ h => (by cases h)), [], trivial, ?_, (fun _ h => (by cases h))⟩
  rw [List.append_nil]
  exact List.forall_mem_cons.mpr ⟨⟨show (20 : Nat) < 100 from by decide, nf0⟩, List.forall_mem_cons.mpr ⟨⟨show (20 : Nat) < 100 from by decide, nf1⟩, (fun _ h => (by cases h))⟩⟩
set_option maxHeartbeats 4000000 in
theorem vc_Mo_item_at_k1_8_0 (x3 : Int) (x13 : Int) (r_0 : Int) (gx : Int) (k3 : 0 ≤ x3 ∧ x3 ≤ 2000) (k13 : 0 ≤ x13 ∧ x13 ≤ 2000) (f3 : 1 * x13 + ((-1) * x3 + 0) ≤ 0) (f4 : (-1) * x13 + (1 * x3 + 0) ≤ 0) (ex2 : gx = x3) : 1 * gx + ((-1) * x3 + 0) ≤ 0 := by
  first
    | omega
    | (have q1 := (hE_0_2_1 (r_0 + 2) (by omega)).2 (by omega)
       have q2 := (hE_0_2_2 (r_0 + 2) (by omega)).2 (by omega)
       omega)
    | (have q1 := (hE_0_2_1 (r_0 + 1) (by omega)).2 (by omega)
       have q2 := (hE_0_2_2 (r_0 + 1) (by omega)).2 (by omega)
       omega)
    | (have q1 := (hE_0_2_1 (r_0 + 2) (by omega)).2 (by omega)
       omega)
    | (have q1 := (hE_0_2_1 (r_0 + 1) (by omega)).2 (by omega)
       omega)
    | (have q1 := (hE_0_2_1 (r_0 + 2) (by omega)).2 (by omega)
       have q2 := (hE_0_2_2 (r_0 + 2) (by omega)).2 (by omega)
       have q3 := (hE_0_2_3 (r_0 + 2) (by omega)).1 (by omega)
       omega)
    | (have q1 := (hE_0_2_1 (r_0 + 2) (by omega)).2 (by omega)
       have q2 := (hE_0_2_2 (r_0 + 2) (by omega)).2 (by omega)
       have q3 := (hE_0_2_3 (r_0 + 2) (by omega)).2 (by omega)
       omega)
set_option maxHeartbeats 4000000 in
theorem vc_Mo_item_at_k1_8_1 (x3 : Int) (x13 : Int) (r_0 : Int) (gx : Int) (k3 : 0 ≤ x3 ∧ x3 ≤ 2000) (k13 : 0 ≤ x13 ∧ x13 ≤ 2000) (f3 : 1 * x13 + ((-1) * x3 + 0) ≤ 0) (f4 : (-1) * x13 + (1 * x3 + 0) ≤ 0) (ex2 : gx = x3) : (-1) * gx + (1 * x3 + 0) ≤ 0 := by
  first
    | omega
    | (have q1 := (hE_0_2_1 (r_0 + 2) (by omega)).2 (by omega)
       have q2 := (hE_0_2_2 (r_0 + 2) (by omega)).2 (by omega)
       omega)
    | (have q1 := (hE_0_2_1 (r_0 + 1) (by omega)).2 (by omega)
       have q2 := (hE_0_2_2 (r_0 + 1) (by omega)).2 (by omega)
       omega)
    | (have q1 := (hE_0_2_1 (r_0 + 2) (by omega)).2 (by omega)
       omega)
    | (have q1 := (hE_0_2_1 (r_0 + 1) (by omega)).2 (by omega)
       omega)
    | (have q1 := (hE_0_2_1 (r_0 + 2) (by omega)).2 (by omega)
       have q2 := (hE_0_2_2 (r_0 + 2) (by omega)).2 (by omega)
       have q3 := (hE_0_2_3 (r_0 + 2) (by omega)).1 (by omega)
       omega)
    | (have q1 := (hE_0_2_1 (r_0 + 2) (by omega)).2 (by omega)
       have q2 := (hE_0_2_2 (r_0 + 2) (by omega)).2 (by omega)
       have q3 := (hE_0_2_3 (r_0 + 2) (by omega)).2 (by omega)
       omega)
set_option maxHeartbeats 4000000 in
theorem vc_Mo_item_at_k1_8_2 (r_0 : Int) (from_0 : Int) (pos_0 : Int) (f13 : 1 * from_0 + ((-1) * pos_0 + 0) ≤ 0) (kz_0_11 : 0 ≤ pos_0 ∧ pos_0 ≤ 2000) (kz_0_15 : 0 ≤ from_0 ∧ from_0 ≤ 2000) : 1 * from_0 + ((-1) * pos_0 + 0) ≤ 0 := by
  first
    | omega
    | (have q1 := (hE_0_2_1 (r_0 + 2) (by omega)).2 (by omega)
       have q2 := (hE_0_2_2 (r_0 + 2) (by omega)).2 (by omega)
       omega)
    | (have q1 := (hE_0_2_1 (r_0 + 1) (by omega)).2 (by omega)
       have q2 := (hE_0_2_2 (r_0 + 1) (by omega)).2 (by omega)
       omega)
    | (have q1 := (hE_0_2_1 (r_0 + 2) (by omega)).2 (by omega)
       omega)
    | (have q1 := (hE_0_2_1 (r_0 + 1) (by omega)).2 (by omega)
       omega)
    | (have q1 := (hE_0_2_1 (r_0 + 2) (by omega)).2 (by omega)
       have q2 := (hE_0_2_2 (r_0 + 2) (by omega)).2 (by omega)
       have q3 := (hE_0_2_3 (r_0 + 2) (by omega)).1 (by omega)
       omega)
    | (have q1 := (hE_0_2_1 (r_0 + 2) (by omega)).2 (by omega)
       have q2 := (hE_0_2_2 (r_0 + 2) (by omega)).2 (by omega)
       have q3 := (hE_0_2_3 (r_0 + 2) (by omega)).2 (by omega)
       omega)
set_option maxHeartbeats 4000000 in
theorem vc_Mo_item_at_k1_8_3 (r_0 : Int) (from_0 : Int) (pos_0 : Int) (kind_0 : Int) (f14 : ((kind_0 = 1) → (pos_0 ≤ (from_0 + 8))) ∧ ((kind_0 = 0) ∨ ((from_0 + 1) ≤ pos_0))) (kz_0_11 : 0 ≤ pos_0 ∧ pos_0 ≤ 2000) (kz_0_12 : 0 ≤ kind_0 ∧ kind_0 ≤ 4) (kz_0_15 : 0 ≤ from_0 ∧ from_0 ≤ 2000) : ((kind_0 = 1) → (pos_0 ≤ (from_0 + 8))) ∧ ((kind_0 = 0) ∨ ((from_0 + 1) ≤ pos_0)) := by
  first
    | omega
    | (have q1 := (hE_0_2_1 (r_0 + 2) (by omega)).2 (by omega)
       have q2 := (hE_0_2_2 (r_0 + 2) (by omega)).2 (by omega)
       omega)
    | (have q1 := (hE_0_2_1 (r_0 + 1) (by omega)).2 (by omega)
       have q2 := (hE_0_2_2 (r_0 + 1) (by omega)).2 (by omega)
       omega)
    | (have q1 := (hE_0_2_1 (r_0 + 2) (by omega)).2 (by omega)
       omega)
    | (have q1 := (hE_0_2_1 (r_0 + 1) (by omega)).2 (by omega)
       omega)
    | (have q1 := (hE_0_2_1 (r_0 + 2) (by omega)).2 (by omega)
       have q2 := (hE_0_2_2 (r_0 + 2) (by omega)).2 (by omega)
       have q3 := (hE_0_2_3 (r_0 + 2) (by omega)).1 (by omega)
       omega)
    | (have q1 := (hE_0_2_1 (r_0 + 2) (by omega)).2 (by omega)
       have q2 := (hE_0_2_2 (r_0 + 2) (by omega)).2 (by omega)
       have q3 := (hE_0_2_3 (r_0 + 2) (by omega)).2 (by omega)
       omega)
set_option maxHeartbeats 4000000 in
theorem vc_Mo_item_at_k1_8_4 (x3 : Int) (x13 : Int) (r_0 : Int) (pos_0 : Int) (gx : Int) (k3 : 0 ≤ x3 ∧ x3 ≤ 2000) (k13 : 0 ≤ x13 ∧ x13 ≤ 2000) (f3 : 1 * x13 + ((-1) * x3 + 0) ≤ 0) (f4 : (-1) * x13 + (1 * x3 + 0) ≤ 0) (f15 : 1 * x13 + ((-1) * pos_0 + 0) ≤ 0) (kz_0_11 : 0 ≤ pos_0 ∧ pos_0 ≤ 2000) (ex2 : gx = x3) : 1 * gx + ((-1) * pos_0 + 0) ≤ 0 := by
  first
    | omega
    | (have q1 := (hE_0_2_1 (r_0 + 2) (by omega)).2 (by omega)
       have q2 := (hE_0_2_2 (r_0 + 2) (by omega)).2 (by omega)
       omega)
    | (have q1 := (hE_0_2_1 (r_0 + 1) (by omega)).2 (by omega)
       have q2 := (hE_0_2_2 (r_0 + 1) (by omega)).2 (by omega)
       omega)
    | (have q1 := (hE_0_2_1 (r_0 + 2) (by omega)).2 (by omega)
       omega)
    | (have q1 := (hE_0_2_1 (r_0 + 1) (by omega)).2 (by omega)
       omega)
    | (have q1 := (hE_0_2_1 (r_0 + 2) (by omega)).2 (by omega)
       have q2 := (hE_0_2_2 (r_0 + 2) (by omega)).2 (by omega)
       have q3 := (hE_0_2_3 (r_0 + 2) (by omega)).1 (by omega)
       omega)
    | (have q1 := (hE_0_2_1 (r_0 + 2) (by omega)).2 (by omega)
       have q2 := (hE_0_2_2 (r_0 + 2) (by omega)).2 (by omega)
       have q3 := (hE_0_2_3 (r_0 + 2) (by omega)).2 (by omega)
       omega)
set_option maxHeartbeats 4000000 in
theorem vc_Mo_item_at_k1_8_5 (x3 : Int) (x13 : Int) (x14 : Int) (x16 : Int) (fault_0 : Int) (r_0 : Int) (pos_0 : Int) (kind_0 : Int) (gx : Int) (k3 : 0 ≤ x3 ∧ x3 ≤ 2000) (k13 : 0 ≤ x13 ∧ x13 ≤ 2000) (k14 : (-1) ≤ x14 ∧ x14 ≤ 48) (k16 : 0 ≤ x16 ∧ x16 ≤ 0) (g2 : x16 = fault_0) (f3 : 1 * x13 + ((-1) * x3 + 0) ≤ 0) (f4 : (-1) * x13 + (1 * x3 + 0) ≤ 0) (f15 : 1 * x13 + ((-1) * pos_0 + 0) ≤ 0) (f16 : (1 ≤ fault_0) ∨ ((kind_0 = 0) ∨ ((x13 + 1) ≤ pos_0))) (f17 : (1 ≤ fault_0) ∨ (0 ≤ x14)) (kz_0_8 : 0 ≤ fault_0 ∧ fault_0 ≤ 5) (kz_0_11 : 0 ≤ pos_0 ∧ pos_0 ≤ 2000) (kz_0_12 : 0 ≤ kind_0 ∧ kind_0 ≤ 4) (ex2 : gx = x3) : (1 ≤ fault_0) ∨ ((kind_0 = 0) ∨ ((gx + 1) ≤ pos_0)) := by
  first
    | omega
    | (have q1 := (hE_0_2_1 (r_0 + 2) (by omega)).2 (by omega)
       have q2 := (hE_0_2_2 (r_0 + 2) (by omega)).2 (by omega)
       omega)
    | (have q1 := (hE_0_2_1 (r_0 + 1) (by omega)).2 (by omega)
       have q2 := (hE_0_2_2 (r_0 + 1) (by omega)).2 (by omega)
       omega)
    | (have q1 := (hE_0_2_1 (r_0 + 2) (by omega)).2 (by omega)
       omega)
    | (have q1 := (hE_0_2_1 (r_0 + 1) (by omega)).2 (by omega)
       omega)
    | (have q1 := (hE_0_2_1 (r_0 + 2) (by omega)).2 (by omega)
       have q2 := (hE_0_2_2 (r_0 + 2) (by omega)).2 (by omega)
       have q3 := (hE_0_2_3 (r_0 + 2) (by omega)).1 (by omega)
       omega)
    | (have q1 := (hE_0_2_1 (r_0 + 2) (by omega)).2 (by omega)
       have q2 := (hE_0_2_2 (r_0 + 2) (by omega)).2 (by omega)
       have q3 := (hE_0_2_3 (r_0 + 2) (by omega)).2 (by omega)
       omega)
def o_Mo_item_at_k1_8 : or_T := (64, 18, [(0, (2, 0, 0, [165])), (1, (0, 0, 7, [])), (3, (0, 0, 2000, [])), (6, (0, 0, 2000, [])), (8, (0, 0, 2000, [])), (10, (0, -1, 23, [])), (12, (0, 99, 99, [])), (13, (0, 0, 2000, [])), (14, (0, -1, 48, [])), (15, (0, -2147483648, 0, [])), (16, (0, 0, 0, []))], [(8, [15], [5]), (8, [16], [0]), (9, [16, 0], [8]), (23, [13, 3], [0, 1, -1]), (23, [13, 3], [0, -1, 1]), (23, [14, 10], [0, 1, -1]), (23, [14, 10], [0, -1, 1]), (23, [8, 3], [0, 1, -1]), (23, [8, 3], [0, -1, 1]), (23, [6, 3], [0, 1, -1]), (23, [6, 3], [0, -1, 1]), (20, [1, 0], [50, 1, 1, 1005, 1002, 0, 6, 4, 2, 1, 0, 0, 1, 3, 1, 2, 4, 3, 2, 1, 5, 0, 2]), (20, [0], [60, 1, 3, 199, 5, 2, 3, 4]), (20, [0, 0], [30, 0, 1, 1, 15, -1, 1, 11]), (20, [0], [50, 3, 0, 12, 11, 15, 2, 21, 4, 7, 1, 3, 2, 0, 12, 0, 1, 0, 3, 2, 0, 11, 4, 3, 2, 0, 15, 0, 8, 3, 7, 1, 3, 2, 0, 12, 0, 0, 0, 7, 4, 3, 2, 0, 15, 0, 1, 2, 0, 11]), (20, [13, 0], [30, 0, 1, 0, 0, -1, 1, 11]), (20, [0, 13], [50, 3, 0, 8, 12, 11, 3, 7, 0, 2, 0, 1, 2, 0, 8, 3, 7, 1, 3, 2, 0, 12, 0, 0, 0, 6, 4, 2, 1, 1, 0, 1, 2, 0, 11]), (20, [0, 14], [50, 1, 0, 8, 3, 7, 0, 2, 0, 1, 2, 0, 8, 0, 2, 0, 0, 1, 1]), (20, [15, 12], [30, 0, 1, 0, 0, -1, 0, 0]), (20, [15], [30, 0, -1, 0, 0]), (102, [14], [0, 165008, 165009, 165011, 165012, 165013, 165014, 165015]), (23, [13, 3], [0, 1, -1]), (23, [13, 3], [0, -1, 1]), (23, [14, 10], [0, 1, -1]), (23, [14, 10], [0, -1, 1]), (23, [8, 3], [0, 1, -1]), (23, [8, 3], [0, -1, 1]), (23, [6, 3], [0, 1, -1]), (23, [6, 3], [0, -1, 1]), (102, [9], [187072209578355573530071658587684226515959365500928, 165008, 165009, 165011, 165012, 165013, 165014, 165015]), (23, [8, 3], [0, 1, -1]), (23, [8, 3], [0, -1, 1]), (23, [6, 3], [0, 1, -1]), (23, [6, 3], [0, -1, 1]), (102, [6], [0, 165011, 165012, 165013, 165014, 165015]), (23, [6, 3], [0, 1, -1]), (23, [6, 3], [0, -1, 1])], [], [(0, 0, 2000, [])], [(23, [18, 3], [0, 1, -1]), (23, [18, 3], [0, -1, 1]), (20, [0, 0], [30, 0, 1, 1, 15, -1, 1, 11]), (20, [0], [50, 3, 0, 12, 11, 15, 2, 21, 4, 7, 1, 3, 2, 0, 12, 0, 1, 0, 3, 2, 0, 11, 4, 3, 2, 0, 15, 0, 8, 3, 7, 1, 3, 2, 0, 12, 0, 0, 0, 7, 4, 3, 2, 0, 15, 0, 1, 2, 0, 11]), (20, [18, 0], [30, 0, 1, 0, 0, -1, 1, 11]), (20, [0, 18], [50, 3, 0, 8, 12, 11, 3, 7, 0, 2, 0, 1, 2, 0, 8, 3, 7, 1, 3, 2, 0, 12, 0, 0, 0, 6, 4, 2, 1, 1, 0, 1, 2, 0, 11])], [], [])
theorem oo_Mo_item_at_k1_8 {kA : Nat → ClassId} : or_ok PRD kA GG o_Mo_item_at_k1_8 := by
  refine or_mk fun A ta ws vs hD hth hl => ?_
  intro t0 r0 t1 k1 t3 k3 t6 k6 t8 k8 t10 k10 t12 k12 t13 k13 t14 k14 t15 k15 t16 k16 f0 f1 f2 f3 f4 f5 f6 f7 f8 f9 f10 f11 f12 f13 f14 f15 f16 f17 f18 f19 ta1 w1 le1 s1 f21 f22 f23 f24 f25 f26 f27 f28 ta2 w2 le2 s2 f30 f31 f32 f33 ta3 w3 le3 s3 f35 f36
  replace f2 := shm_143 f2
  replace f3 := shm_7 f3
  replace f4 := shm_22 f4
  replace f13 := shm_1397 f13
  replace f14 := shm_1398 f14
  replace f15 := shm_1395 f15
  replace f16 := shm_1660 f16
  replace f17 := shm_1889 f17
  have g2 : v_iv (n_v vs 16) = w_fi ws (n_v vs 0) 8 := congrArg v_iv f2
  have kz_0_8 := fdq_14 hD hth r0
  have kz_0_11 := fdq_273 hD hth r0
  have kz_0_12 := fdq_186 hD hth r0
  have kz_0_15 := fdq_274 hD hth r0
  obtain ⟨x, ex, hx⟩ := iv_ex (ta := ta) (lo := 0) (hi := 2000) (z := v_iv (n_v vs 3)) (by omega) (by omega) (by omega) (by omega)
  have ex2 : v_iv (Value.int x) = v_iv (n_v vs 3) := ex
  have ex3 : 0 ≤ v_iv (Value.int x) ∧ v_iv (Value.int x) ≤ 2000 := tv_rng hx
  have e_0 : n_v (vs ++ [Value.int x]) 0 = n_v vs 0 := n_v_old (by rw [hl]; decide)
  have e_3 : n_v (vs ++ [Value.int x]) 3 = n_v vs 3 := n_v_old (by rw [hl]; decide)
  have e_18 : n_v (vs ++ [Value.int x]) 18 = Value.int x := n_v_new hl
  have nf0 : fc_1 PRD (23, [18, 3], [0, 1, -1]) ws (vs ++ [Value.int x]) := by
    refine ⟨nf_inA hl rfl, sgq_7 ?_⟩
    · show 1 * v_iv (n_v (vs ++ [Value.int x]) 18) + ((-1) * v_iv (n_v (vs ++ [Value.int x]) 3) + 0) ≤ 0
      simp only [e_3, e_18]
      exact vc_Mo_item_at_k1_8_0 (v_iv (n_v vs 3)) (v_iv (n_v vs 13)) (w_fi ws (n_v vs 0) 5) (v_iv (Value.int x)) k3 k13 f3 f4 ex2
  have nf1 : fc_1 PRD (23, [18, 3], [0, -1, 1]) ws (vs ++ [Value.int x]) := by
    refine ⟨nf_inA hl rfl, sgq_22 ?_⟩
    · show (-1) * v_iv (n_v (vs ++ [Value.int x]) 18) + (1 * v_iv (n_v (vs ++ [Value.int x]) 3) + 0) ≤ 0
      simp only [e_3, e_18]
      exact vc_Mo_item_at_k1_8_1 (v_iv (n_v vs 3)) (v_iv (n_v vs 13)) (w_fi ws (n_v vs 0) 5) (v_iv (Value.int x)) k3 k13 f3 f4 ex2
  have nf2 : fc_1 PRD (20, [0, 0], [30, 0, 1, 1, 15, -1, 1, 11]) ws (vs ++ [Value.int x]) := by
    refine ⟨nf_inA hl rfl, sgq_1397 ?_⟩
    · show 1 * w_fi ws (n_v (vs ++ [Value.int x]) 0) 15 + ((-1) * w_fi ws (n_v (vs ++ [Value.int x]) 0) 11 + 0) ≤ 0
      rw [e_0]
      exact vc_Mo_item_at_k1_8_2 (w_fi ws (n_v vs 0) 5) (w_fi ws (n_v vs 0) 15) (w_fi ws (n_v vs 0) 11) f13 kz_0_11 kz_0_15
  have nf3 : fc_1 PRD (20, [0], [50, 3, 0, 12, 11, 15, 2, 21, 4, 7, 1, 3, 2, 0, 12, 0, 1, 0, 3, 2, 0, 11, 4, 3, 2, 0, 15, 0, 8, 3, 7, 1, 3, 2, 0, 12, 0, 0, 0, 7, 4, 3, 2, 0, 15, 0, 1, 2, 0, 11]) ws (vs ++ [Value.int x]) := by
    refine ⟨nf_inA hl rfl, sgq_1398 ?_⟩
    · show ((w_fi ws (n_v (vs ++ [Value.int x]) 0) 12 = 1) → (w_fi ws (n_v (vs ++ [Value.int x]) 0) 11 ≤ (w_fi ws (n_v (vs ++ [Value.int x]) 0) 15 + 8))) ∧ ((w_fi ws (n_v (vs ++ [Value.int x]) 0) 12 = 0) ∨ ((w_fi ws (n_v (vs ++ [Value.int x]) 0) 15 + 1) ≤ w_fi ws (n_v (vs ++ [Value.int x]) 0) 11))
      rw [e_0]
      exact vc_Mo_item_at_k1_8_3 (w_fi ws (n_v vs 0) 5) (w_fi ws (n_v vs 0) 15) (w_fi ws (n_v vs 0) 11) (w_fi ws (n_v vs 0) 12) f14 kz_0_11 kz_0_12 kz_0_15
  have nf4 : fc_1 PRD (20, [18, 0], [30, 0, 1, 0, 0, -1, 1, 11]) ws (vs ++ [Value.int x]) := by
    refine ⟨nf_inA hl rfl, sgq_1395 ?_⟩
    · show 1 * v_iv (n_v (vs ++ [Value.int x]) 18) + ((-1) * w_fi ws (n_v (vs ++ [Value.int x]) 0) 11 + 0) ≤ 0
      simp only [e_0, e_18]
      exact vc_Mo_item_at_k1_8_4 (v_iv (n_v vs 3)) (v_iv (n_v vs 13)) (w_fi ws (n_v vs 0) 5) (w_fi ws (n_v vs 0) 11) (v_iv (Value.int x)) k3 k13 f3 f4 f15 kz_0_11 ex2
  have nf5 : fc_1 PRD (20, [0, 18], [50, 3, 0, 8, 12, 11, 3, 7, 0, 2, 0, 1, 2, 0, 8, 3, 7, 1, 3, 2, 0, 12, 0, 0, 0, 6, 4, 2, 1, 1, 0, 1, 2, 0, 11]) ws (vs ++ [Value.int x]) := by
    refine ⟨nf_inA hl rfl, sgq_1660 ?_⟩
    · show (1 ≤ w_fi ws (n_v (vs ++ [Value.int x]) 0) 8) ∨ ((w_fi ws (n_v (vs ++ [Value.int x]) 0) 12 = 0) ∨ ((v_iv (n_v (vs ++ [Value.int x]) 18) + 1) ≤ w_fi ws (n_v (vs ++ [Value.int x]) 0) 11))
      simp only [e_0, e_18]
      exact vc_Mo_item_at_k1_8_5 (v_iv (n_v vs 3)) (v_iv (n_v vs 13)) (v_iv (n_v vs 14)) (v_iv (n_v vs 16)) (w_fi ws (n_v vs 0) 8) (w_fi ws (n_v vs 0) 5) (w_fi ws (n_v vs 0) 11) (w_fi ws (n_v vs 0) 12) (v_iv (Value.int x)) k3 k13 k14 k16 g2 f3 f4 f15 f16 f17 kz_0_8 kz_0_11 kz_0_12 ex2
  exact ⟨(fun _ h => (by cases h)), [Value.int x], ag_one hx, List.forall_mem_cons.mpr ⟨⟨show (23 : Nat) < 100 from by decide, nf0⟩, List.forall_mem_cons.mpr ⟨⟨show (23 : Nat) < 100 from by decide, nf1⟩, List.forall_mem_cons.mpr ⟨⟨show (20 : Nat) < 100 from by decide, nf2⟩, List.forall_mem_cons.mpr ⟨⟨show (20 : Nat) < 100 from by decide, nf3⟩, List.forall_mem_cons.mpr ⟨⟨show (20 : Nat) < 100 from by decide, nf4⟩, List.forall_mem_cons.mpr ⟨⟨show (20 : Nat) < 100 from by decide, nf5⟩, (fun _ h => (by cases h))⟩⟩⟩⟩⟩⟩, (fun _ h => (by cases h))⟩
set_option maxHeartbeats 4000000 in
theorem vc_Mo_item_at_k1_9_0 (x3 : Int) (x18 : Int) (r_0 : Int) (pos_0 : Int) (k3 : 0 ≤ x3 ∧ x3 ≤ 2000) (k18 : 0 ≤ x18 ∧ x18 ≤ 2000) (f0 : 1 * x18 + ((-1) * x3 + 0) ≤ 0) (f1 : (-1) * x18 + (1 * x3 + 0) ≤ 0) (f14 : 1 * x18 + ((-1) * pos_0 + 0) ≤ 0) (kz_0_11 : 0 ≤ pos_0 ∧ pos_0 ≤ 2000) : 1 * x3 + ((-1) * pos_0 + 0) ≤ 0 := by
  first
    | omega
    | (have q1 := (hE_0_2_1 (r_0 + 2) (by omega)).2 (by omega)
       have q2 := (hE_0_2_2 (r_0 + 2) (by omega)).2 (by omega)
       omega)
    | (have q1 := (hE_0_2_1 (r_0 + 1) (by omega)).2 (by omega)
       have q2 := (hE_0_2_2 (r_0 + 1) (by omega)).2 (by omega)
       omega)
    | (have q1 := (hE_0_2_1 (r_0 + 2) (by omega)).2 (by omega)
       omega)
    | (have q1 := (hE_0_2_1 (r_0 + 1) (by omega)).2 (by omega)
       omega)
    | (have q1 := (hE_0_2_1 (r_0 + 2) (by omega)).2 (by omega)
       have q2 := (hE_0_2_2 (r_0 + 2) (by omega)).2 (by omega)
       have q3 := (hE_0_2_3 (r_0 + 2) (by omega)).1 (by omega)
       omega)
    | (have q1 := (hE_0_2_1 (r_0 + 2) (by omega)).2 (by omega)
       have q2 := (hE_0_2_2 (r_0 + 2) (by omega)).2 (by omega)
       have q3 := (hE_0_2_3 (r_0 + 2) (by omega)).2 (by omega)
       omega)
set_option maxHeartbeats 4000000 in
theorem vc_Mo_item_at_k1_9_1 (x3 : Int) (x18 : Int) (r_0 : Int) (pos_0 : Int) (fault_0 : Int) (k3 : 0 ≤ x3 ∧ x3 ≤ 2000) (k18 : 0 ≤ x18 ∧ x18 ≤ 2000) (f0 : 1 * x18 + ((-1) * x3 + 0) ≤ 0) (f1 : (-1) * x18 + (1 * x3 + 0) ≤ 0) (f14 : 1 * x18 + ((-1) * pos_0 + 0) ≤ 0) (f15 : (1 ≤ fault_0) ∨ ((x18 + 1) ≤ pos_0)) (kz_0_8 : 0 ≤ fault_0 ∧ fault_0 ≤ 5) (kz_0_11 : 0 ≤ pos_0 ∧ pos_0 ≤ 2000) : (1 ≤ fault_0) ∨ ((x3 + 1) ≤ pos_0) := by
  first
    | omega
    | (have q1 := (hE_0_2_1 (r_0 + 2) (by omega)).2 (by omega)
       have q2 := (hE_0_2_2 (r_0 + 2) (by omega)).2 (by omega)
       omega)
    | (have q1 := (hE_0_2_1 (r_0 + 1) (by omega)).2 (by omega)
       have q2 := (hE_0_2_2 (r_0 + 1) (by omega)).2 (by omega)
       omega)
    | (have q1 := (hE_0_2_1 (r_0 + 2) (by omega)).2 (by omega)
       omega)
    | (have q1 := (hE_0_2_1 (r_0 + 1) (by omega)).2 (by omega)
       omega)
    | (have q1 := (hE_0_2_1 (r_0 + 2) (by omega)).2 (by omega)
       have q2 := (hE_0_2_2 (r_0 + 2) (by omega)).2 (by omega)
       have q3 := (hE_0_2_3 (r_0 + 2) (by omega)).1 (by omega)
       omega)
    | (have q1 := (hE_0_2_1 (r_0 + 2) (by omega)).2 (by omega)
       have q2 := (hE_0_2_2 (r_0 + 2) (by omega)).2 (by omega)
       have q3 := (hE_0_2_3 (r_0 + 2) (by omega)).2 (by omega)
       omega)
def o_Mo_item_at_k1_9 : or_T := (94, 19, [(0, (2, 0, 0, [165])), (1, (0, 0, 7, [])), (3, (0, 0, 2000, [])), (6, (0, 0, 2000, [])), (8, (0, 0, 2000, [])), (12, (0, 99, 99, [])), (13, (0, 0, 2000, [])), (15, (0, -2147483648, 0, [])), (18, (0, 0, 2000, []))], [(23, [18, 3], [0, 1, -1]), (23, [18, 3], [0, -1, 1]), (23, [13, 3], [0, 1, -1]), (23, [13, 3], [0, -1, 1]), (23, [8, 3], [0, 1, -1]), (23, [8, 3], [0, -1, 1]), (23, [6, 3], [0, 1, -1]), (23, [6, 3], [0, -1, 1]), (20, [1, 0], [50, 1, 1, 1005, 1002, 0, 6, 4, 2, 1, 0, 0, 1, 3, 1, 2, 4, 3, 2, 1, 5, 0, 2]), (20, [0], [60, 1, 3, 199, 5, 2, 3, 4]), (20, [15, 12], [30, 0, 1, 0, 0, -1, 0, 0]), (20, [15], [30, 0, -1, 0, 0]), (20, [0, 0], [30, 0, 1, 1, 15, -1, 1, 11]), (20, [0], [50, 3, 0, 12, 11, 15, 2, 21, 4, 7, 1, 3, 2, 0, 12, 0, 1, 0, 3, 2, 0, 11, 4, 3, 2, 0, 15, 0, 8, 3, 7, 1, 3, 2, 0, 12, 0, 0, 0, 7, 4, 3, 2, 0, 15, 0, 1, 2, 0, 11]), (20, [18, 0], [30, 0, 1, 0, 0, -1, 1, 11]), (20, [0, 18], [50, 2, 0, 8, 11, 3, 7, 0, 2, 0, 1, 2, 0, 8, 0, 6, 4, 2, 1, 1, 0, 1, 2, 0, 11]), (102, [18], [0, 165008, 165009, 165011, 165012, 165013, 165014, 165015]), (23, [18, 3], [0, 1, -1]), (23, [18, 3], [0, -1, 1]), (8, [15], [5]), (23, [13, 3], [0, 1, -1]), (23, [13, 3], [0, -1, 1]), (23, [8, 3], [0, 1, -1]), (23, [8, 3], [0, -1, 1]), (23, [6, 3], [0, 1, -1]), (23, [6, 3], [0, -1, 1]), (102, [14], [0, 165008, 165009, 165011, 165012, 165013, 165014, 165015]), (23, [13, 3], [0, 1, -1]), (23, [13, 3], [0, -1, 1]), (23, [8, 3], [0, 1, -1]), (23, [8, 3], [0, -1, 1]), (23, [6, 3], [0, 1, -1]), (23, [6, 3], [0, -1, 1]), (102, [9], [187072209578355573530071658587684226515959365500928, 165008, 165009, 165011, 165012, 165013, 165014, 165015]), (23, [8, 3], [0, 1, -1]), (23, [8, 3], [0, -1, 1]), (23, [6, 3], [0, 1, -1]), (23, [6, 3], [0, -1, 1]), (102, [6], [0, 165011, 165012, 165013, 165014, 165015]), (23, [6, 3], [0, 1, -1]), (23, [6, 3], [0, -1, 1])], [], [], [(20, [3, 0], [30, 0, 1, 0, 0, -1, 1, 11]), (20, [0, 3], [50, 2, 0, 8, 11, 3, 7, 0, 2, 0, 1, 2, 0, 8, 0, 6, 4, 2, 1, 1, 0, 1, 2, 0, 11])], [], [])
theorem oo_Mo_item_at_k1_9 {kA : Nat → ClassId} : or_ok PRD kA GG o_Mo_item_at_k1_9 := by
  refine or_mk fun A ta ws vs hD hth hl => ?_
  intro t0 r0 t1 k1 t3 k3 t6 k6 t8 k8 t12 k12 t13 k13 t15 k15 t18 k18 f0 f1 f2 f3 f4 f5 f6 f7 f8 f9 f10 f11 f12 f13 f14 f15 ta1 w1 le1 s1 f17 f18 f19 f20 f21 f22 f23 f24 f25 ta2 w2 le2 s2 f27 f28 f29 f30 f31 f32 ta3 w3 le3 s3 f34 f35 f36 f37 ta4 w4 le4 s4 f39 f40
  have kz_0_8 := fdq_14 hD hth r0
  have kz_0_11 := fdq_273 hD hth r0
  have nf0 : fc_1 PRD (20, [3, 0], [30, 0, 1, 0, 0, -1, 1, 11]) ws (vs) := ⟨nf_in hl rfl, sgq_1395 (vc_Mo_item_at_k1_9_0 (v_iv (n_v vs 3)) (v_iv (n_v vs 18)) (w_fi ws (n_v vs 0) 5) (w_fi ws (n_v vs 0) 11) k3 k18 (shm_7 f0) (shm_22 f1) (shm_1395 f14) kz_0_11)⟩
  have nf1 : fc_1 PRD (20, [0, 3], [50, 2, 0, 8, 11, 3, 7, 0, 2, 0, 1, 2, 0, 8, 0, 6, 4, 2, 1, 1, 0, 1, 2, 0, 11]) ws (vs) := ⟨nf_in hl rfl, sgq_1659 (vc_Mo_item_at_k1_9_1 (v_iv (n_v vs 3)) (v_iv (n_v vs 18)) (w_fi ws (n_v vs 0) 5) (w_fi ws (n_v vs 0) 11) (w_fi ws (n_v vs 0) 8) k3 k18 (shm_7 f0) (shm_22 f1) (shm_1395 f14) (shm_1659 f15) kz_0_8 kz_0_11)⟩
  refine ⟨(fun _ h => (by cases h)), [], trivial, ?_, (fun _ h => (by cases h))⟩
  rw [List.append_nil]
  exact List.forall_mem_cons.mpr ⟨⟨show (20 : Nat) < 100 from by decide, nf0⟩, List.forall_mem_cons.mpr ⟨⟨show (20 : Nat) < 100 from by decide, nf1⟩, (fun _ h => (by cases h))⟩⟩
set_option maxHeartbeats 4000000 in
theorem vc_Mo_item_at_k1_10_r0 (x10 : Int) (x14 : Int) (x16 : Int) (r_0 : Int) (fault_0 : Int) (k10 : (-1) ≤ x10 ∧ x10 ≤ 23) (k14 : (-1) ≤ x14 ∧ x14 ≤ 48) (k16 : 0 ≤ x16 ∧ x16 ≤ 0) (g5 : x16 = fault_0) (f8 : 1 * x14 + ((-1) * x10 + 0) ≤ 0) (f9 : (-1) * x14 + (1 * x10 + 0) ≤ 0) (f20 : (1 ≤ fault_0) ∨ (0 ≤ x14)) (kz_0_8 : 0 ≤ fault_0 ∧ fault_0 ≤ 5) : 0 ≤ x10 ∧ x10 ≤ 23 := by
  first
    | omega
    | (have q1 := (hE_0_2_1 (r_0 + 2) (by omega)).2 (by omega)
       have q2 := (hE_0_2_2 (r_0 + 2) (by omega)).2 (by omega)
       omega)
    | (have q1 := (hE_0_2_1 (r_0 + 1) (by omega)).2 (by omega)
       have q2 := (hE_0_2_2 (r_0 + 1) (by omega)).2 (by omega)
       omega)
    | (have q1 := (hE_0_2_1 (r_0 + 2) (by omega)).2 (by omega)
       omega)
    | (have q1 := (hE_0_2_1 (r_0 + 1) (by omega)).2 (by omega)
       omega)
    | (have q1 := (hE_0_2_1 (r_0 + 2) (by omega)).2 (by omega)
       have q2 := (hE_0_2_2 (r_0 + 2) (by omega)).2 (by omega)
       have q3 := (hE_0_2_3 (r_0 + 2) (by omega)).1 (by omega)
       omega)
    | (have q1 := (hE_0_2_1 (r_0 + 2) (by omega)).2 (by omega)
       have q2 := (hE_0_2_2 (r_0 + 2) (by omega)).2 (by omega)
       have q3 := (hE_0_2_3 (r_0 + 2) (by omega)).2 (by omega)
       omega)
def o_Mo_item_at_k1_10 : or_T := (57, 21, [(0, (2, 0, 0, [165])), (1, (0, 0, 7, [])), (3, (0, 0, 2000, [])), (6, (0, 0, 2000, [])), (8, (0, 0, 2000, [])), (10, (0, -1, 23, [])), (12, (0, 99, 99, [])), (13, (0, 0, 2000, [])), (14, (0, -1, 48, [])), (15, (0, 1, 2147483647, [])), (16, (0, 0, 0, [])), (17, (2, 0, 0, [167])), (18, (0, 0, 66297, [])), (19, (0, 219, 219, [])), (20, (0, 219, 66516, []))], [(1, [20, 18, 19], []), (9, [18, 0], [5]), (9, [17, 0], [2]), (8, [15], [4]), (8, [16], [0]), (9, [16, 0], [8]), (23, [13, 3], [0, 1, -1]), (23, [13, 3], [0, -1, 1]), (23, [14, 10], [0, 1, -1]), (23, [14, 10], [0, -1, 1]), (23, [8, 3], [0, 1, -1]), (23, [8, 3], [0, -1, 1]), (23, [6, 3], [0, 1, -1]), (23, [6, 3], [0, -1, 1]), (20, [1, 0], [50, 1, 1, 1005, 1002, 0, 6, 4, 2, 1, 0, 0, 1, 3, 1, 2, 4, 3, 2, 1, 5, 0, 2]), (20, [0], [60, 1, 3, 199, 5, 2, 3, 4]), (20, [0, 0], [30, 0, 1, 1, 15, -1, 1, 11]), (20, [0], [50, 3, 0, 12, 11, 15, 2, 21, 4, 7, 1, 3, 2, 0, 12, 0, 1, 0, 3, 2, 0, 11, 4, 3, 2, 0, 15, 0, 8, 3, 7, 1, 3, 2, 0, 12, 0, 0, 0, 7, 4, 3, 2, 0, 15, 0, 1, 2, 0, 11]), (20, [13, 0], [30, 0, 1, 0, 0, -1, 1, 11]), (20, [0, 13], [50, 3, 0, 8, 12, 11, 3, 7, 0, 2, 0, 1, 2, 0, 8, 3, 7, 1, 3, 2, 0, 12, 0, 0, 0, 6, 4, 2, 1, 1, 0, 1, 2, 0, 11]), (20, [0, 14], [50, 1, 0, 8, 3, 7, 0, 2, 0, 1, 2, 0, 8, 0, 2, 0, 0, 1, 1]), (20, [15, 12], [30, 0, 1, 0, 0, -1, 0, 0]), (20, [15], [30, 0, -1, 0, 0]), (102, [14], [0, 165008, 165009, 165011, 165012, 165013, 165014, 165015]), (23, [13, 3], [0, 1, -1]), (23, [13, 3], [0, -1, 1]), (23, [14, 10], [0, 1, -1]), (23, [14, 10], [0, -1, 1]), (23, [8, 3], [0, 1, -1]), (23, [8, 3], [0, -1, 1]), (23, [6, 3], [0, 1, -1]), (23, [6, 3], [0, -1, 1]), (102, [9], [187072209578355573530071658587684226515959365500928, 165008, 165009, 165011, 165012, 165013, 165014, 165015]), (23, [8, 3], [0, 1, -1]), (23, [8, 3], [0, -1, 1]), (23, [6, 3], [0, 1, -1]), (23, [6, 3], [0, -1, 1]), (102, [6], [0, 165011, 165012, 165013, 165014, 165015]), (23, [6, 3], [0, 1, -1]), (23, [6, 3], [0, -1, 1])], [(10, (0, 0, 23, []))], [], [], [], [(20, 18, 219, 219)])
theorem oo_Mo_item_at_k1_10 {kA : Nat → ClassId} : or_ok PRD kA GG o_Mo_item_at_k1_10 := by
  refine or_mk fun A ta ws vs hD hth hl => ?_
  intro t0 r0 t1 k1 t3 k3 t6 k6 t8 k8 t10 k10 t12 k12 t13 k13 t14 k14 t15 k15 t16 k16 t17 r17 t18 k18 t19 k19 t20 k20 d0 f0 f1 f2 f3 f4 f5 f6 f7 f8 f9 f10 f11 f12 f13 f14 f15 f16 f17 f18 f19 f20 f21 f22 ta1 w1 le1 s1 f24 f25 f26 f27 f28 f29 f30 f31 ta2 w2 le2 s2 f33 f34 f35 f36 ta3 w3 le3 s3 f38 f39
  replace f5 := shm_143 f5
  have g5 : v_iv (n_v vs 16) = w_fi ws (n_v vs 0) 8 := congrArg v_iv f5
  have kz_0_8 := fdq_14 hD hth r0
  have hrf0 : 0 ≤ v_iv (n_v vs 10) ∧ v_iv (n_v vs 10) ≤ 23 := vc_Mo_item_at_k1_10_r0 (v_iv (n_v vs 10)) (v_iv (n_v vs 14)) (v_iv (n_v vs 16)) (w_fi ws (n_v vs 0) 5) (w_fi ws (n_v vs 0) 8) k10 k14 k16 g5 (shm_7 f8) (shm_22 f9) (shm_1889 f20) kz_0_8
  have rf10 : tv_ok ta (0, 0, 23, []) (n_v vs 10) := tv_in t10 (by first | omega | grind) (by first | omega | grind)
  refine ⟨List.forall_mem_cons.mpr ⟨rf10, (fun _ h => (by cases h))⟩, [], trivial, ?_, (fun _ h => (by cases h))⟩
  rw [List.append_nil]
  exact (fun _ h => (by cases h))
set_option maxHeartbeats 4000000 in
theorem vc_Mo_item_at_k1_11_r0 (x12 : Int) (x15 : Int) (r_0 : Int) (k12 : 99 ≤ x12 ∧ x12 ≤ 99) (k15 : 1 ≤ x15 ∧ x15 ≤ 2147483647) (f22 : 1 * x15 + ((-1) * x12 + 0) ≤ 0) : 1 ≤ x15 ∧ x15 ≤ 99 := by
  first
    | omega
    | (have q1 := (hE_0_2_1 (r_0 + 2) (by omega)).2 (by omega)
       have q2 := (hE_0_2_2 (r_0 + 2) (by omega)).2 (by omega)
       omega)
    | (have q1 := (hE_0_2_1 (r_0 + 1) (by omega)).2 (by omega)
       have q2 := (hE_0_2_2 (r_0 + 1) (by omega)).2 (by omega)
       omega)
    | (have q1 := (hE_0_2_1 (r_0 + 2) (by omega)).2 (by omega)
       omega)
    | (have q1 := (hE_0_2_1 (r_0 + 1) (by omega)).2 (by omega)
       omega)
    | (have q1 := (hE_0_2_1 (r_0 + 2) (by omega)).2 (by omega)
       have q2 := (hE_0_2_2 (r_0 + 2) (by omega)).2 (by omega)
       have q3 := (hE_0_2_3 (r_0 + 2) (by omega)).1 (by omega)
       omega)
    | (have q1 := (hE_0_2_1 (r_0 + 2) (by omega)).2 (by omega)
       have q2 := (hE_0_2_2 (r_0 + 2) (by omega)).2 (by omega)
       have q3 := (hE_0_2_3 (r_0 + 2) (by omega)).2 (by omega)
       omega)
def o_Mo_item_at_k1_11 : or_T := (60, 22, [(0, (2, 0, 0, [165])), (1, (0, 0, 7, [])), (3, (0, 0, 2000, [])), (6, (0, 0, 2000, [])), (8, (0, 0, 2000, [])), (10, (0, 0, 23, [])), (12, (0, 99, 99, [])), (13, (0, 0, 2000, [])), (14, (0, -1, 48, [])), (15, (0, 1, 2147483647, [])), (16, (0, 0, 0, [])), (17, (2, 0, 0, [167])), (18, (0, 0, 66297, [])), (19, (0, 219, 219, [])), (20, (0, 219, 66516, [])), (21, (0, 219, 66539, []))], [(1, [21, 20, 10], []), (1, [20, 18, 19], []), (9, [18, 0], [5]), (9, [17, 0], [2]), (8, [15], [4]), (8, [16], [0]), (9, [16, 0], [8]), (23, [13, 3], [0, 1, -1]), (23, [13, 3], [0, -1, 1]), (23, [14, 10], [0, 1, -1]), (23, [14, 10], [0, -1, 1]), (23, [8, 3], [0, 1, -1]), (23, [8, 3], [0, -1, 1]), (23, [6, 3], [0, 1, -1]), (23, [6, 3], [0, -1, 1]), (20, [1, 0], [50, 1, 1, 1005, 1002, 0, 6, 4, 2, 1, 0, 0, 1, 3, 1, 2, 4, 3, 2, 1, 5, 0, 2]), (20, [0], [60, 1, 3, 199, 5, 2, 3, 4]), (20, [0, 0], [30, 0, 1, 1, 15, -1, 1, 11]), (20, [0], [50, 3, 0, 12, 11, 15, 2, 21, 4, 7, 1, 3, 2, 0, 12, 0, 1, 0, 3, 2, 0, 11, 4, 3, 2, 0, 15, 0, 8, 3, 7, 1, 3, 2, 0, 12, 0, 0, 0, 7, 4, 3, 2, 0, 15, 0, 1, 2, 0, 11]), (20, [13, 0], [30, 0, 1, 0, 0, -1, 1, 11]), (20, [0, 13], [50, 3, 0, 8, 12, 11, 3, 7, 0, 2, 0, 1, 2, 0, 8, 3, 7, 1, 3, 2, 0, 12, 0, 0, 0, 6, 4, 2, 1, 1, 0, 1, 2, 0, 11]), (20, [0, 14], [50, 1, 0, 8, 3, 7, 0, 2, 0, 1, 2, 0, 8, 0, 2, 0, 0, 1, 1]), (20, [15, 12], [30, 0, 1, 0, 0, -1, 0, 0]), (20, [15], [30, 0, -1, 0, 0]), (102, [14], [0, 165008, 165009, 165011, 165012, 165013, 165014, 165015]), (23, [13, 3], [0, 1, -1]), (23, [13, 3], [0, -1, 1]), (23, [14, 10], [0, 1, -1]), (23, [14, 10], [0, -1, 1]), (23, [8, 3], [0, 1, -1]), (23, [8, 3], [0, -1, 1]), (23, [6, 3], [0, 1, -1]), (23, [6, 3], [0, -1, 1]), (102, [9], [187072209578355573530071658587684226515959365500928, 165008, 165009, 165011, 165012, 165013, 165014, 165015]), (23, [8, 3], [0, 1, -1]), (23, [8, 3], [0, -1, 1]), (23, [6, 3], [0, 1, -1]), (23, [6, 3], [0, -1, 1]), (102, [6], [0, 165011, 165012, 165013, 165014, 165015]), (23, [6, 3], [0, 1, -1]), (23, [6, 3], [0, -1, 1])], [(15, (0, 1, 99, []))], [], [], [], [(21, 10, 219, 66516), (21, 20, 0, 23), (21, 18, 219, 242), (20, 18, 219, 219)])
theorem oo_Mo_item_at_k1_11 {kA : Nat → ClassId} : or_ok PRD kA GG o_Mo_item_at_k1_11 := by
  refine or_mk fun A ta ws vs hD hth hl => ?_
  intro t0 r0 t1 k1 t3 k3 t6 k6 t8 k8 t10 k10 t12 k12 t13 k13 t14 k14 t15 k15 t16 k16 t17 r17 t18 k18 t19 k19 t20 k20 t21 k21 d0 d1 d2 d3 f0 f1 f2 f3 f4 f5 f6 f7 f8 f9 f10 f11 f12 f13 f14 f15 f16 f17 f18 f19 f20 f21 f22 f23 ta1 w1 le1 s1 f25 f26 f27 f28 f29 f30 f31 f32 ta2 w2 le2 s2 f34 f35 f36 f37 ta3 w3 le3 s3 f39 f40
  have hrf0 : 1 ≤ v_iv (n_v vs 15) ∧ v_iv (n_v vs 15) ≤ 99 := vc_Mo_item_at_k1_11_r0 (v_iv (n_v vs 12)) (v_iv (n_v vs 15)) (w_fi ws (n_v vs 0) 5) k12 k15 (shm_219 f22)
  have rf15 : tv_ok ta (0, 1, 99, []) (n_v vs 15) := tv_in t15 (by first | omega | grind) (by first | omega | grind)
  refine ⟨List.forall_mem_cons.mpr ⟨rf15, (fun _ h => (by cases h))⟩, [], trivial, ?_, (fun _ h => (by cases h))⟩
  rw [List.append_nil]
  exact (fun _ h => (by cases h))
set_option maxHeartbeats 4000000 in
theorem vc_Mo_item_at_k1_12_0 (x1 : Int) (x10 : Int) (x14 : Int) (x15 : Int) (x18 : Int) (x20 : Int) (x21 : Int) (from_0 : Int) (pos_0 : Int) (kind_0 : Int) (fault_0 : Int) (r_1 : Int) (fault_1 : Int) (all_1 : Int → Int) (now_1 : Int → Int) (latest_1 : Int → Int) (from_1 : Int) (pos_1 : Int) (kind_1 : Int) (r_0 : Int) (all_0 : Int → Int) (now_0 : Int → Int) (latest_0 : Int → Int) (k1 : 0 ≤ x1 ∧ x1 ≤ 7) (k10 : 0 ≤ x10 ∧ x10 ≤ 23) (k14 : (-1) ≤ x14 ∧ x14 ≤ 48) (k15 : 1 ≤ x15 ∧ x15 ≤ 99) (k18 : 0 ≤ x18 ∧ x18 ≤ 66297) (k20 : 219 ≤ x20 ∧ x20 ≤ 66516) (k21 : 219 ≤ x21 ∧ x21 ≤ 66539) (d0 : x10 + 219 ≤ x21 ∧ x21 ≤ x10 + 66516) (d3 : x18 + 219 ≤ x20 ∧ x20 ≤ x18 + 219) (f2 : 1 * x14 + ((-1) * x10 + 0) ≤ 0) (f3 : (-1) * x14 + (1 * x10 + 0) ≤ 0) (f16 : x21 = x20 + x10) (g18 : x18 = r_1) (f31 : (x1 + 1) ≤ all_1 ((r_1 + 2))) (fe_0_5_1 : r_0 = r_1) (fe_0_8_1 : fault_0 = fault_1) (fe_0_11_1 : pos_0 = pos_1) (fe_0_12_1 : kind_0 = kind_1) (fe_0_15_1 : from_0 = from_1) (hE_0_2_1 : ∀ j : Int, 0 ≤ j → (j = x21 → all_0 j = x15) ∧ (j ≠ x21 → all_0 j = all_1 j)) (hE_0_3_1 : ∀ j : Int, now_0 j = now_1 j) (hE_0_4_1 : ∀ j : Int, latest_0 j = latest_1 j) (kz_0_8 : 0 ≤ fault_0 ∧ fault_0 ≤ 5) (kz_0_11 : 0 ≤ pos_0 ∧ pos_0 ≤ 2000) (kz_0_12 : 0 ≤ kind_0 ∧ kind_0 ≤ 4) (kz_0_15 : 0 ≤ from_0 ∧ from_0 ≤ 2000) : (x1 + 1) ≤ all_0 ((r_0 + 2)) := by
  subst fe_0_5_1
  subst fe_0_8_1
  subst fe_0_11_1
  subst fe_0_12_1
  subst fe_0_15_1
  have e_hE_0_3_1 := funext hE_0_3_1; subst e_hE_0_3_1
  have e_hE_0_4_1 := funext hE_0_4_1; subst e_hE_0_4_1
  first
    | omega
    | (have q1 := (hE_0_2_1 (r_0 + 2) (by omega)).2 (by omega)
       have q2 := (hE_0_2_2 (r_0 + 2) (by omega)).2 (by omega)
       omega)
    | (have q1 := (hE_0_2_1 (r_0 + 1) (by omega)).2 (by omega)
       have q2 := (hE_0_2_2 (r_0 + 1) (by omega)).2 (by omega)
       omega)
    | (have q1 := (hE_0_2_1 (r_0 + 2) (by omega)).2 (by omega)
       omega)
    | (have q1 := (hE_0_2_1 (r_0 + 1) (by omega)).2 (by omega)
       omega)
    | (have q1 := (hE_0_2_1 (r_0 + 2) (by omega)).2 (by omega)
       have q2 := (hE_0_2_2 (r_0 + 2) (by omega)).2 (by omega)
       have q3 := (hE_0_2_3 (r_0 + 2) (by omega)).1 (by omega)
       omega)
    | (have q1 := (hE_0_2_1 (r_0 + 2) (by omega)).2 (by omega)
       have q2 := (hE_0_2_2 (r_0 + 2) (by omega)).2 (by omega)
       have q3 := (hE_0_2_3 (r_0 + 2) (by omega)).2 (by omega)
       omega)
set_option maxHeartbeats 4000000 in
theorem vc_Mo_item_at_k1_12_1 (x10 : Int) (x14 : Int) (x15 : Int) (x18 : Int) (x20 : Int) (x21 : Int) (from_0 : Int) (pos_0 : Int) (kind_0 : Int) (fault_0 : Int) (r_1 : Int) (fault_1 : Int) (all_1 : Int → Int) (now_1 : Int → Int) (latest_1 : Int → Int) (from_1 : Int) (pos_1 : Int) (kind_1 : Int) (r_0 : Int) (all_0 : Int → Int) (now_0 : Int → Int) (latest_0 : Int → Int) (k10 : 0 ≤ x10 ∧ x10 ≤ 23) (k14 : (-1) ≤ x14 ∧ x14 ≤ 48) (k15 : 1 ≤ x15 ∧ x15 ≤ 99) (k18 : 0 ≤ x18 ∧ x18 ≤ 66297) (k20 : 219 ≤ x20 ∧ x20 ≤ 66516) (k21 : 219 ≤ x21 ∧ x21 ≤ 66539) (d3 : x18 + 219 ≤ x20 ∧ x20 ≤ x18 + 219) (f2 : 1 * x14 + ((-1) * x10 + 0) ≤ 0) (f3 : (-1) * x14 + (1 * x10 + 0) ≤ 0) (f16 : x21 = x20 + x10) (g18 : x18 = r_1) (f32 : RWS (r_1) (all_1) (now_1) (latest_1)) (fe_0_5_1 : r_0 = r_1) (fe_0_8_1 : fault_0 = fault_1) (fe_0_11_1 : pos_0 = pos_1) (fe_0_12_1 : kind_0 = kind_1) (fe_0_15_1 : from_0 = from_1) (hE_0_2_1 : ∀ j : Int, 0 ≤ j → (j = x21 → all_0 j = x15) ∧ (j ≠ x21 → all_0 j = all_1 j)) (hE_0_3_1 : ∀ j : Int, now_0 j = now_1 j) (hE_0_4_1 : ∀ j : Int, latest_0 j = latest_1 j) (kz_0_8 : 0 ≤ fault_0 ∧ fault_0 ≤ 5) (kz_0_11 : 0 ≤ pos_0 ∧ pos_0 ≤ 2000) (kz_0_12 : 0 ≤ kind_0 ∧ kind_0 ≤ 4) (kz_0_15 : 0 ≤ from_0 ∧ from_0 ≤ 2000) : RWS (r_0) (all_0) (now_0) (latest_0) := by
  subst fe_0_5_1
  subst fe_0_8_1
  subst fe_0_11_1
  subst fe_0_12_1
  subst fe_0_15_1
  have e_hE_0_3_1 := funext hE_0_3_1; subst e_hE_0_3_1
  have e_hE_0_4_1 := funext hE_0_4_1; subst e_hE_0_4_1
  first
    | assumption
    | (have hr := rws_r ‹RWS _ _ _ _›
       have hc := (rws_sg ‹RWS _ _ _ _›).1
       exact rws_off ‹RWS _ _ _ _› (by assumption) (by omega))
set_option maxHeartbeats 4000000 in
theorem vc_Mo_item_at_k1_12_2 (x3 : Int) (x13 : Int) (x15 : Int) (x21 : Int) (from_0 : Int) (pos_0 : Int) (kind_0 : Int) (fault_0 : Int) (r_1 : Int) (fault_1 : Int) (all_1 : Int → Int) (now_1 : Int → Int) (latest_1 : Int → Int) (from_1 : Int) (pos_1 : Int) (kind_1 : Int) (r_0 : Int) (all_0 : Int → Int) (now_0 : Int → Int) (latest_0 : Int → Int) (gx : Int) (k3 : 0 ≤ x3 ∧ x3 ≤ 2000) (k13 : 0 ≤ x13 ∧ x13 ≤ 2000) (k15 : 1 ≤ x15 ∧ x15 ≤ 99) (k21 : 219 ≤ x21 ∧ x21 ≤ 66539) (f0 : 1 * x13 + ((-1) * x3 + 0) ≤ 0) (f1 : (-1) * x13 + (1 * x3 + 0) ≤ 0) (fe_0_5_1 : r_0 = r_1) (fe_0_8_1 : fault_0 = fault_1) (fe_0_11_1 : pos_0 = pos_1) (fe_0_12_1 : kind_0 = kind_1) (fe_0_15_1 : from_0 = from_1) (hE_0_2_1 : ∀ j : Int, 0 ≤ j → (j = x21 → all_0 j = x15) ∧ (j ≠ x21 → all_0 j = all_1 j)) (hE_0_3_1 : ∀ j : Int, now_0 j = now_1 j) (hE_0_4_1 : ∀ j : Int, latest_0 j = latest_1 j) (kz_0_8 : 0 ≤ fault_0 ∧ fault_0 ≤ 5) (kz_0_11 : 0 ≤ pos_0 ∧ pos_0 ≤ 2000) (kz_0_12 : 0 ≤ kind_0 ∧ kind_0 ≤ 4) (kz_0_15 : 0 ≤ from_0 ∧ from_0 ≤ 2000) (ex2 : gx = x3) : 1 * gx + ((-1) * x3 + 0) ≤ 0 := by
  subst fe_0_5_1
  subst fe_0_8_1
  subst fe_0_11_1
  subst fe_0_12_1
  subst fe_0_15_1
  have e_hE_0_3_1 := funext hE_0_3_1; subst e_hE_0_3_1
  have e_hE_0_4_1 := funext hE_0_4_1; subst e_hE_0_4_1
  first
    | omega
    | (have q1 := (hE_0_2_1 (r_0 + 2) (by omega)).2 (by omega)
       have q2 := (hE_0_2_2 (r_0 + 2) (by omega)).2 (by omega)
       omega)
    | (have q1 := (hE_0_2_1 (r_0 + 1) (by omega)).2 (by omega)
       have q2 := (hE_0_2_2 (r_0 + 1) (by omega)).2 (by omega)
       omega)
    | (have q1 := (hE_0_2_1 (r_0 + 2) (by omega)).2 (by omega)
       omega)
    | (have q1 := (hE_0_2_1 (r_0 + 1) (by omega)).2 (by omega)
       omega)
    | (have q1 := (hE_0_2_1 (r_0 + 2) (by omega)).2 (by omega)
       have q2 := (hE_0_2_2 (r_0 + 2) (by omega)).2 (by omega)
       have q3 := (hE_0_2_3 (r_0 + 2) (by omega)).1 (by omega)
       omega)
    | (have q1 := (hE_0_2_1 (r_0 + 2) (by omega)).2 (by omega)
       have q2 := (hE_0_2_2 (r_0 + 2) (by omega)).2 (by omega)
       have q3 := (hE_0_2_3 (r_0 + 2) (by omega)).2 (by omega)
       omega)
set_option maxHeartbeats 4000000 in
theorem vc_Mo_item_at_k1_12_3 (x3 : Int) (x13 : Int) (x15 : Int) (x21 : Int) (from_0 : Int) (pos_0 : Int) (kind_0 : Int) (fault_0 : Int) (r_1 : Int) (fault_1 : Int) (all_1 : Int → Int) (now_1 : Int → Int) (latest_1 : Int → Int) (from_1 : Int) (pos_1 : Int) (kind_1 : Int) (r_0 : Int) (all_0 : Int → Int) (now_0 : Int → Int) (latest_0 : Int → Int) (gx : Int) (k3 : 0 ≤ x3 ∧ x3 ≤ 2000) (k13 : 0 ≤ x13 ∧ x13 ≤ 2000) (k15 : 1 ≤ x15 ∧ x15 ≤ 99) (k21 : 219 ≤ x21 ∧ x21 ≤ 66539) (f0 : 1 * x13 + ((-1) * x3 + 0) ≤ 0) (f1 : (-1) * x13 + (1 * x3 + 0) ≤ 0) (fe_0_5_1 : r_0 = r_1) (fe_0_8_1 : fault_0 = fault_1) (fe_0_11_1 : pos_0 = pos_1) (fe_0_12_1 : kind_0 = kind_1) (fe_0_15_1 : from_0 = from_1) (hE_0_2_1 : ∀ j : Int, 0 ≤ j → (j = x21 → all_0 j = x15) ∧ (j ≠ x21 → all_0 j = all_1 j)) (hE_0_3_1 : ∀ j : Int, now_0 j = now_1 j) (hE_0_4_1 : ∀ j : Int, latest_0 j = latest_1 j) (kz_0_8 : 0 ≤ fault_0 ∧ fault_0 ≤ 5) (kz_0_11 : 0 ≤ pos_0 ∧ pos_0 ≤ 2000) (kz_0_12 : 0 ≤ kind_0 ∧ kind_0 ≤ 4) (kz_0_15 : 0 ≤ from_0 ∧ from_0 ≤ 2000) (ex2 : gx = x3) : (-1) * gx + (1 * x3 + 0) ≤ 0 := by
  subst fe_0_5_1
  subst fe_0_8_1
  subst fe_0_11_1
  subst fe_0_12_1
  subst fe_0_15_1
  have e_hE_0_3_1 := funext hE_0_3_1; subst e_hE_0_3_1
  have e_hE_0_4_1 := funext hE_0_4_1; subst e_hE_0_4_1
  first
    | omega
    | (have q1 := (hE_0_2_1 (r_0 + 2) (by omega)).2 (by omega)
       have q2 := (hE_0_2_2 (r_0 + 2) (by omega)).2 (by omega)
       omega)
    | (have q1 := (hE_0_2_1 (r_0 + 1) (by omega)).2 (by omega)
       have q2 := (hE_0_2_2 (r_0 + 1) (by omega)).2 (by omega)
       omega)
    | (have q1 := (hE_0_2_1 (r_0 + 2) (by omega)).2 (by omega)
       omega)
    | (have q1 := (hE_0_2_1 (r_0 + 1) (by omega)).2 (by omega)
       omega)
    | (have q1 := (hE_0_2_1 (r_0 + 2) (by omega)).2 (by omega)
       have q2 := (hE_0_2_2 (r_0 + 2) (by omega)).2 (by omega)
       have q3 := (hE_0_2_3 (r_0 + 2) (by omega)).1 (by omega)
       omega)
    | (have q1 := (hE_0_2_1 (r_0 + 2) (by omega)).2 (by omega)
       have q2 := (hE_0_2_2 (r_0 + 2) (by omega)).2 (by omega)
       have q3 := (hE_0_2_3 (r_0 + 2) (by omega)).2 (by omega)
       omega)
set_option maxHeartbeats 4000000 in
theorem vc_Mo_item_at_k1_12_4 (x15 : Int) (x21 : Int) (from_0 : Int) (pos_0 : Int) (kind_0 : Int) (fault_0 : Int) (r_1 : Int) (fault_1 : Int) (all_1 : Int → Int) (now_1 : Int → Int) (latest_1 : Int → Int) (from_1 : Int) (pos_1 : Int) (kind_1 : Int) (r_0 : Int) (all_0 : Int → Int) (now_0 : Int → Int) (latest_0 : Int → Int) (k15 : 1 ≤ x15 ∧ x15 ≤ 99) (k21 : 219 ≤ x21 ∧ x21 ≤ 66539) (f33 : 1 * from_1 + ((-1) * pos_1 + 0) ≤ 0) (fe_0_5_1 : r_0 = r_1) (fe_0_8_1 : fault_0 = fault_1) (fe_0_11_1 : pos_0 = pos_1) (fe_0_12_1 : kind_0 = kind_1) (fe_0_15_1 : from_0 = from_1) (hE_0_2_1 : ∀ j : Int, 0 ≤ j → (j = x21 → all_0 j = x15) ∧ (j ≠ x21 → all_0 j = all_1 j)) (hE_0_3_1 : ∀ j : Int, now_0 j = now_1 j) (hE_0_4_1 : ∀ j : Int, latest_0 j = latest_1 j) (kz_0_8 : 0 ≤ fault_0 ∧ fault_0 ≤ 5) (kz_0_11 : 0 ≤ pos_0 ∧ pos_0 ≤ 2000) (kz_0_12 : 0 ≤ kind_0 ∧ kind_0 ≤ 4) (kz_0_15 : 0 ≤ from_0 ∧ from_0 ≤ 2000) : 1 * from_0 + ((-1) * pos_0 + 0) ≤ 0 := by
  subst fe_0_5_1
  subst fe_0_8_1
  subst fe_0_11_1
  subst fe_0_12_1
  subst fe_0_15_1
  have e_hE_0_3_1 := funext hE_0_3_1; subst e_hE_0_3_1
  have e_hE_0_4_1 := funext hE_0_4_1; subst e_hE_0_4_1
  first
    | omega
    | (have q1 := (hE_0_2_1 (r_0 + 2) (by omega)).2 (by omega)
       have q2 := (hE_0_2_2 (r_0 + 2) (by omega)).2 (by omega)
       omega)
    | (have q1 := (hE_0_2_1 (r_0 + 1) (by omega)).2 (by omega)
       have q2 := (hE_0_2_2 (r_0 + 1) (by omega)).2 (by omega)
       omega)
    | (have q1 := (hE_0_2_1 (r_0 + 2) (by omega)).2 (by omega)
       omega)
    | (have q1 := (hE_0_2_1 (r_0 + 1) (by omega)).2 (by omega)
       omega)
    | (have q1 := (hE_0_2_1 (r_0 + 2) (by omega)).2 (by omega)
       have q2 := (hE_0_2_2 (r_0 + 2) (by omega)).2 (by omega)
       have q3 := (hE_0_2_3 (r_0 + 2) (by omega)).1 (by omega)
       omega)
    | (have q1 := (hE_0_2_1 (r_0 + 2) (by omega)).2 (by omega)
       have q2 := (hE_0_2_2 (r_0 + 2) (by omega)).2 (by omega)
       have q3 := (hE_0_2_3 (r_0 + 2) (by omega)).2 (by omega)
       omega)
set_option maxHeartbeats 4000000 in
theorem vc_Mo_item_at_k1_12_5 (x15 : Int) (x21 : Int) (from_0 : Int) (pos_0 : Int) (kind_0 : Int) (fault_0 : Int) (r_1 : Int) (fault_1 : Int) (all_1 : Int → Int) (now_1 : Int → Int) (latest_1 : Int → Int) (from_1 : Int) (pos_1 : Int) (kind_1 : Int) (r_0 : Int) (all_0 : Int → Int) (now_0 : Int → Int) (latest_0 : Int → Int) (k15 : 1 ≤ x15 ∧ x15 ≤ 99) (k21 : 219 ≤ x21 ∧ x21 ≤ 66539) (f34 : ((kind_1 = 1) → (pos_1 ≤ (from_1 + 8))) ∧ ((kind_1 = 0) ∨ ((from_1 + 1) ≤ pos_1))) (fe_0_5_1 : r_0 = r_1) (fe_0_8_1 : fault_0 = fault_1) (fe_0_11_1 : pos_0 = pos_1) (fe_0_12_1 : kind_0 = kind_1) (fe_0_15_1 : from_0 = from_1) (hE_0_2_1 : ∀ j : Int, 0 ≤ j → (j = x21 → all_0 j = x15) ∧ (j ≠ x21 → all_0 j = all_1 j)) (hE_0_3_1 : ∀ j : Int, now_0 j = now_1 j) (hE_0_4_1 : ∀ j : Int, latest_0 j = latest_1 j) (kz_0_8 : 0 ≤ fault_0 ∧ fault_0 ≤ 5) (kz_0_11 : 0 ≤ pos_0 ∧ pos_0 ≤ 2000) (kz_0_12 : 0 ≤ kind_0 ∧ kind_0 ≤ 4) (kz_0_15 : 0 ≤ from_0 ∧ from_0 ≤ 2000) : ((kind_0 = 1) → (pos_0 ≤ (from_0 + 8))) ∧ ((kind_0 = 0) ∨ ((from_0 + 1) ≤ pos_0)) := by
  subst fe_0_5_1
  subst fe_0_8_1
  subst fe_0_11_1
  subst fe_0_12_1
  subst fe_0_15_1
  have e_hE_0_3_1 := funext hE_0_3_1; subst e_hE_0_3_1
  have e_hE_0_4_1 := funext hE_0_4_1; subst e_hE_0_4_1
  first
    | omega
    | (have q1 := (hE_0_2_1 (r_0 + 2) (by omega)).2 (by omega)
       have q2 := (hE_0_2_2 (r_0 + 2) (by omega)).2 (by omega)
       omega)
    | (have q1 := (hE_0_2_1 (r_0 + 1) (by omega)).2 (by omega)
       have q2 := (hE_0_2_2 (r_0 + 1) (by omega)).2 (by omega)
       omega)
    | (have q1 := (hE_0_2_1 (r_0 + 2) (by omega)).2 (by omega)
       omega)
    | (have q1 := (hE_0_2_1 (r_0 + 1) (by omega)).2 (by omega)
       omega)
    | (have q1 := (hE_0_2_1 (r_0 + 2) (by omega)).2 (by omega)
       have q2 := (hE_0_2_2 (r_0 + 2) (by omega)).2 (by omega)
       have q3 := (hE_0_2_3 (r_0 + 2) (by omega)).1 (by omega)
       omega)
    | (have q1 := (hE_0_2_1 (r_0 + 2) (by omega)).2 (by omega)
       have q2 := (hE_0_2_2 (r_0 + 2) (by omega)).2 (by omega)
       have q3 := (hE_0_2_3 (r_0 + 2) (by omega)).2 (by omega)
       omega)
set_option maxHeartbeats 4000000 in
theorem vc_Mo_item_at_k1_12_6 (x3 : Int) (x13 : Int) (x15 : Int) (x21 : Int) (from_0 : Int) (pos_0 : Int) (kind_0 : Int) (fault_0 : Int) (r_1 : Int) (fault_1 : Int) (all_1 : Int → Int) (now_1 : Int → Int) (latest_1 : Int → Int) (from_1 : Int) (pos_1 : Int) (kind_1 : Int) (r_0 : Int) (all_0 : Int → Int) (now_0 : Int → Int) (latest_0 : Int → Int) (gx : Int) (k3 : 0 ≤ x3 ∧ x3 ≤ 2000) (k13 : 0 ≤ x13 ∧ x13 ≤ 2000) (k15 : 1 ≤ x15 ∧ x15 ≤ 99) (k21 : 219 ≤ x21 ∧ x21 ≤ 66539) (f0 : 1 * x13 + ((-1) * x3 + 0) ≤ 0) (f1 : (-1) * x13 + (1 * x3 + 0) ≤ 0) (f10 : 1 * x13 + ((-1) * pos_0 + 0) ≤ 0) (fe_0_5_1 : r_0 = r_1) (fe_0_8_1 : fault_0 = fault_1) (fe_0_11_1 : pos_0 = pos_1) (fe_0_12_1 : kind_0 = kind_1) (fe_0_15_1 : from_0 = from_1) (hE_0_2_1 : ∀ j : Int, 0 ≤ j → (j = x21 → all_0 j = x15) ∧ (j ≠ x21 → all_0 j = all_1 j)) (hE_0_3_1 : ∀ j : Int, now_0 j = now_1 j) (hE_0_4_1 : ∀ j : Int, latest_0 j = latest_1 j) (kz_0_8 : 0 ≤ fault_0 ∧ fault_0 ≤ 5) (kz_0_11 : 0 ≤ pos_0 ∧ pos_0 ≤ 2000) (kz_0_12 : 0 ≤ kind_0 ∧ kind_0 ≤ 4) (kz_0_15 : 0 ≤ from_0 ∧ from_0 ≤ 2000) (ex2 : gx = x3) : 1 * gx + ((-1) * pos_0 + 0) ≤ 0 := by
  subst fe_0_5_1
  subst fe_0_8_1
  subst fe_0_11_1
  subst fe_0_12_1
  subst fe_0_15_1
  have e_hE_0_3_1 := funext hE_0_3_1; subst e_hE_0_3_1
  have e_hE_0_4_1 := funext hE_0_4_1; subst e_hE_0_4_1
  first
    | omega
    | (have q1 := (hE_0_2_1 (r_0 + 2) (by omega)).2 (by omega)
       have q2 := (hE_0_2_2 (r_0 + 2) (by omega)).2 (by omega)
       omega)
    | (have q1 := (hE_0_2_1 (r_0 + 1) (by omega)).2 (by omega)
       have q2 := (hE_0_2_2 (r_0 + 1) (by omega)).2 (by omega)
       omega)
    | (have q1 := (hE_0_2_1 (r_0 + 2) (by omega)).2 (by omega)
       omega)
    | (have q1 := (hE_0_2_1 (r_0 + 1) (by omega)).2 (by omega)
       omega)
    | (have q1 := (hE_0_2_1 (r_0 + 2) (by omega)).2 (by omega)
       have q2 := (hE_0_2_2 (r_0 + 2) (by omega)).2 (by omega)
       have q3 := (hE_0_2_3 (r_0 + 2) (by omega)).1 (by omega)
       omega)
    | (have q1 := (hE_0_2_1 (r_0 + 2) (by omega)).2 (by omega)
       have q2 := (hE_0_2_2 (r_0 + 2) (by omega)).2 (by omega)
       have q3 := (hE_0_2_3 (r_0 + 2) (by omega)).2 (by omega)
       omega)
set_option maxHeartbeats 4000000 in
theorem vc_Mo_item_at_k1_12_7 (x3 : Int) (x13 : Int) (x15 : Int) (x16 : Int) (x21 : Int) (from_0 : Int) (pos_0 : Int) (kind_0 : Int) (fault_0 : Int) (r_1 : Int) (fault_1 : Int) (all_1 : Int → Int) (now_1 : Int → Int) (latest_1 : Int → Int) (from_1 : Int) (pos_1 : Int) (kind_1 : Int) (r_0 : Int) (all_0 : Int → Int) (now_0 : Int → Int) (latest_0 : Int → Int) (gx : Int) (k3 : 0 ≤ x3 ∧ x3 ≤ 2000) (k13 : 0 ≤ x13 ∧ x13 ≤ 2000) (k15 : 1 ≤ x15 ∧ x15 ≤ 99) (k16 : 0 ≤ x16 ∧ x16 ≤ 0) (k21 : 219 ≤ x21 ∧ x21 ≤ 66539) (f0 : 1 * x13 + ((-1) * x3 + 0) ≤ 0) (f1 : (-1) * x13 + (1 * x3 + 0) ≤ 0) (f10 : 1 * x13 + ((-1) * pos_0 + 0) ≤ 0) (g22 : x16 = fault_1) (f34 : ((kind_1 = 1) → (pos_1 ≤ (from_1 + 8))) ∧ ((kind_1 = 0) ∨ ((from_1 + 1) ≤ pos_1))) (f36 : (1 ≤ fault_1) ∨ ((kind_1 = 0) ∨ ((x13 + 1) ≤ pos_1))) (fe_0_5_1 : r_0 = r_1) (fe_0_8_1 : fault_0 = fault_1) (fe_0_11_1 : pos_0 = pos_1) (fe_0_12_1 : kind_0 = kind_1) (fe_0_15_1 : from_0 = from_1) (hE_0_2_1 : ∀ j : Int, 0 ≤ j → (j = x21 → all_0 j = x15) ∧ (j ≠ x21 → all_0 j = all_1 j)) (hE_0_3_1 : ∀ j : Int, now_0 j = now_1 j) (hE_0_4_1 : ∀ j : Int, latest_0 j = latest_1 j) (kz_0_8 : 0 ≤ fault_0 ∧ fault_0 ≤ 5) (kz_0_11 : 0 ≤ pos_0 ∧ pos_0 ≤ 2000) (kz_0_12 : 0 ≤ kind_0 ∧ kind_0 ≤ 4) (kz_0_15 : 0 ≤ from_0 ∧ from_0 ≤ 2000) (ex2 : gx = x3) : (1 ≤ fault_0) ∨ ((kind_0 = 0) ∨ ((gx + 1) ≤ pos_0)) := by
  subst fe_0_5_1
  subst fe_0_8_1
  subst fe_0_11_1
  subst fe_0_12_1
  subst fe_0_15_1
  have e_hE_0_3_1 := funext hE_0_3_1; subst e_hE_0_3_1
  have e_hE_0_4_1 := funext hE_0_4_1; subst e_hE_0_4_1
  first
    | omega
    | (have q1 := (hE_0_2_1 (r_0 + 2) (by omega)).2 (by omega)
       have q2 := (hE_0_2_2 (r_0 + 2) (by omega)).2 (by omega)
       omega)
    | (have q1 := (hE_0_2_1 (r_0 + 1) (by omega)).2 (by omega)
       have q2 := (hE_0_2_2 (r_0 + 1) (by omega)).2 (by omega)
       omega)
    | (have q1 := (hE_0_2_1 (r_0 + 2) (by omega)).2 (by omega)
       omega)
    | (have q1 := (hE_0_2_1 (r_0 + 1) (by omega)).2 (by omega)
       omega)
    | (have q1 := (hE_0_2_1 (r_0 + 2) (by omega)).2 (by omega)
       have q2 := (hE_0_2_2 (r_0 + 2) (by omega)).2 (by omega)
       have q3 := (hE_0_2_3 (r_0 + 2) (by omega)).1 (by omega)
       omega)
    | (have q1 := (hE_0_2_1 (r_0 + 2) (by omega)).2 (by omega)
       have q2 := (hE_0_2_2 (r_0 + 2) (by omega)).2 (by omega)
       have q3 := (hE_0_2_3 (r_0 + 2) (by omega)).2 (by omega)
       omega)
def o_Mo_item_at_k1_12 : or_T := (64, 23, [(0, (2, 0, 0, [165])), (1, (0, 0, 7, [])), (3, (0, 0, 2000, [])), (6, (0, 0, 2000, [])), (8, (0, 0, 2000, [])), (10, (0, 0, 23, [])), (12, (0, 99, 99, [])), (13, (0, 0, 2000, [])), (14, (0, -1, 48, [])), (15, (0, 1, 99, [])), (16, (0, 0, 0, [])), (17, (2, 0, 0, [167])), (18, (0, 0, 66297, [])), (19, (0, 219, 219, [])), (20, (0, 219, 66516, [])), (21, (0, 219, 66539, []))], [(23, [13, 3], [0, 1, -1]), (23, [13, 3], [0, -1, 1]), (23, [14, 10], [0, 1, -1]), (23, [14, 10], [0, -1, 1]), (23, [8, 3], [0, 1, -1]), (23, [8, 3], [0, -1, 1]), (23, [6, 3], [0, 1, -1]), (23, [6, 3], [0, -1, 1]), (20, [0, 0], [30, 0, 1, 1, 15, -1, 1, 11]), (20, [0], [50, 3, 0, 12, 11, 15, 2, 21, 4, 7, 1, 3, 2, 0, 12, 0, 1, 0, 3, 2, 0, 11, 4, 3, 2, 0, 15, 0, 8, 3, 7, 1, 3, 2, 0, 12, 0, 0, 0, 7, 4, 3, 2, 0, 15, 0, 1, 2, 0, 11]), (20, [13, 0], [30, 0, 1, 0, 0, -1, 1, 11]), (20, [0, 13], [50, 3, 0, 8, 12, 11, 3, 7, 0, 2, 0, 1, 2, 0, 8, 3, 7, 1, 3, 2, 0, 12, 0, 0, 0, 6, 4, 2, 1, 1, 0, 1, 2, 0, 11]), (20, [0, 14], [50, 1, 0, 8, 3, 7, 0, 2, 0, 1, 2, 0, 8, 0, 2, 0, 0, 1, 1]), (20, [15, 12], [30, 0, 1, 0, 0, -1, 0, 0]), (20, [15], [30, 0, -1, 0, 0]), (100, [17, 21, 15], []), (1, [21, 20, 10], []), (1, [20, 18, 19], []), (9, [18, 0], [5]), (9, [17, 0], [2]), (8, [15], [4]), (8, [16], [0]), (9, [16, 0], [8]), (23, [13, 3], [0, 1, -1]), (23, [13, 3], [0, -1, 1]), (23, [14, 10], [0, 1, -1]), (23, [14, 10], [0, -1, 1]), (23, [8, 3], [0, 1, -1]), (23, [8, 3], [0, -1, 1]), (23, [6, 3], [0, 1, -1]), (23, [6, 3], [0, -1, 1]), (20, [1, 0], [50, 1, 1, 1005, 1002, 0, 6, 4, 2, 1, 0, 0, 1, 3, 1, 2, 4, 3, 2, 1, 5, 0, 2]), (20, [0], [60, 1, 3, 199, 5, 2, 3, 4]), (20, [0, 0], [30, 0, 1, 1, 15, -1, 1, 11]), (20, [0], [50, 3, 0, 12, 11, 15, 2, 21, 4, 7, 1, 3, 2, 0, 12, 0, 1, 0, 3, 2, 0, 11, 4, 3, 2, 0, 15, 0, 8, 3, 7, 1, 3, 2, 0, 12, 0, 0, 0, 7, 4, 3, 2, 0, 15, 0, 1, 2, 0, 11]), (20, [13, 0], [30, 0, 1, 0, 0, -1, 1, 11]), (20, [0, 13], [50, 3, 0, 8, 12, 11, 3, 7, 0, 2, 0, 1, 2, 0, 8, 3, 7, 1, 3, 2, 0, 12, 0, 0, 0, 6, 4, 2, 1, 1, 0, 1, 2, 0, 11]), (20, [0, 14], [50, 1, 0, 8, 3, 7, 0, 2, 0, 1, 2, 0, 8, 0, 2, 0, 0, 1, 1]), (20, [15, 12], [30, 0, 1, 0, 0, -1, 0, 0]), (20, [15], [30, 0, -1, 0, 0]), (102, [14], [0, 165008, 165009, 165011, 165012, 165013, 165014, 165015]), (23, [13, 3], [0, 1, -1]), (23, [13, 3], [0, -1, 1]), (23, [14, 10], [0, 1, -1]), (23, [14, 10], [0, -1, 1]), (23, [8, 3], [0, 1, -1]), (23, [8, 3], [0, -1, 1]), (23, [6, 3], [0, 1, -1]), (23, [6, 3], [0, -1, 1]), (102, [9], [187072209578355573530071658587684226515959365500928, 165008, 165009, 165011, 165012, 165013, 165014, 165015]), (23, [8, 3], [0, 1, -1]), (23, [8, 3], [0, -1, 1]), (23, [6, 3], [0, 1, -1]), (23, [6, 3], [0, -1, 1]), (102, [6], [0, 165011, 165012, 165013, 165014, 165015]), (23, [6, 3], [0, 1, -1]), (23, [6, 3], [0, -1, 1])], [], [(0, 0, 2000, [])], [(20, [1, 0], [50, 1, 1, 1005, 1002, 0, 6, 4, 2, 1, 0, 0, 1, 3, 1, 2, 4, 3, 2, 1, 5, 0, 2]), (20, [0], [60, 1, 3, 199, 5, 2, 3, 4]), (23, [23, 3], [0, 1, -1]), (23, [23, 3], [0, -1, 1]), (20, [0, 0], [30, 0, 1, 1, 15, -1, 1, 11]), (20, [0], [50, 3, 0, 12, 11, 15, 2, 21, 4, 7, 1, 3, 2, 0, 12, 0, 1, 0, 3, 2, 0, 11, 4, 3, 2, 0, 15, 0, 8, 3, 7, 1, 3, 2, 0, 12, 0, 0, 0, 7, 4, 3, 2, 0, 15, 0, 1, 2, 0, 11]), (20, [23, 0], [30, 0, 1, 0, 0, -1, 1, 11]), (20, [0, 23], [50, 3, 0, 8, 12, 11, 3, 7, 0, 2, 0, 1, 2, 0, 8, 3, 7, 1, 3, 2, 0, 12, 0, 0, 0, 6, 4, 2, 1, 1, 0, 1, 2, 0, 11])], [], [(21, 10, 219, 66516), (21, 20, 0, 23), (21, 18, 219, 242), (20, 18, 219, 219)])
theorem oo_Mo_item_at_k1_12 {kA : Nat → ClassId} : or_ok PRD kA GG o_Mo_item_at_k1_12 := by
  refine or_mk fun A ta ws vs hD hth hl => ?_
  intro t0 r0 t1 k1 t3 k3 t6 k6 t8 k8 t10 k10 t12 k12 t13 k13 t14 k14 t15 k15 t16 k16 t17 r17 t18 k18 t19 k19 t20 k20 t21 k21 d0 d1 d2 d3 f0 f1 f2 f3 f4 f5 f6 f7 f8 f9 f10 f11 f12 f13 f14 ta1 w1 le1 s1 f16 f17 f18 f19 f20 f21 f22 f23 f24 f25 f26 f27 f28 f29 f30 f31 f32 f33 f34 f35 f36 f37 f38 f39 ta2 w2 le2 s2 f41 f42 f43 f44 f45 f46 f47 f48 ta3 w3 le3 s3 f50 f51 f52 f53 ta4 w4 le4 s4 f55 f56
  replace f0 := shm_7 f0
  replace f1 := shm_22 f1
  replace f2 := shm_7 f2
  replace f3 := shm_22 f3
  replace f4 := shm_7 f4
  replace f5 := shm_22 f5
  replace f6 := shm_7 f6
  replace f7 := shm_22 f7
  replace f8 := shm_1397 f8
  replace f9 := shm_1398 f9
  replace f10 := shm_1395 f10
  replace f11 := shm_1660 f11
  replace f12 := shm_1889 f12
  replace f13 := shm_219 f13
  replace f14 := shm_1890 f14
  have s1 : (∀ b j, w_el ws b j = if b = v_ad (n_v vs 17) ∧ j = (v_iv (n_v vs 21)).toNat then v_iv (n_v vs 15) else w_el w1 b j) ∧ ∀ b k, w_fd ws b k = w_fd w1 b k := s1.2
  replace f16 := shm_12 f16
  replace f17 := shm_12 f17
  replace f18 := shm_109 f18
  replace f19 := shm_129 f19
  replace f20 := shm_145 f20
  replace f21 := shm_210 f21
  replace f22 := shm_143 f22
  replace f23 := shm_7 f23
  replace f24 := shm_22 f24
  replace f25 := shm_7 f25
  replace f26 := shm_22 f26
  replace f27 := shm_7 f27
  replace f28 := shm_22 f28
  replace f29 := shm_7 f29
  replace f30 := shm_22 f30
  replace f31 := shm_981 f31
  replace f32 := shm_952 f32
  replace f33 := shm_1397 f33
  replace f34 := shm_1398 f34
  replace f35 := shm_1395 f35
  replace f36 := shm_1660 f36
  replace f37 := shm_1889 f37
  replace f38 := shm_219 f38
  replace f39 := shm_1890 f39
  replace f41 := shm_7 f41
  replace f42 := shm_22 f42
  replace f43 := shm_7 f43
  replace f44 := shm_22 f44
  replace f45 := shm_7 f45
  replace f46 := shm_22 f46
  replace f47 := shm_7 f47
  replace f48 := shm_22 f48
  replace f50 := shm_7 f50
  replace f51 := shm_22 f51
  replace f52 := shm_7 f52
  replace f53 := shm_22 f53
  replace f55 := shm_7 f55
  replace f56 := shm_22 f56
  have ar_0_2_1 : w_ar w1 (n_v vs 0) 2 = w_ar ws (n_v vs 0) 2 := congrArg v_ad (s1.2 _ _).symm
  have cr_0_2 := fdq_12 hD hth r0
  have ar_0_3_1 : w_ar w1 (n_v vs 0) 3 = w_ar ws (n_v vs 0) 3 := congrArg v_ad (s1.2 _ _).symm
  have cr_0_3 := fdq_141 hD hth r0
  have ar_0_4_1 : w_ar w1 (n_v vs 0) 4 = w_ar ws (n_v vs 0) 4 := congrArg v_ad (s1.2 _ _).symm
  have cr_0_4 := fdq_142 hD hth r0
  have ad_17 : v_ad (n_v vs 17) = w_ar ws (n_v vs 0) 2 := (congrArg v_ad f19).trans ar_0_2_1
  have g18 : v_iv (n_v vs 18) = w_fi w1 (n_v vs 0) 5 := congrArg v_iv f18
  have g22 : v_iv (n_v vs 16) = w_fi w1 (n_v vs 0) 8 := congrArg v_iv f22
  simp only [ar_0_2_1, ar_0_3_1, ar_0_4_1] at f31 f32
  have fe_0_5_1 : w_fi ws (n_v vs 0) 5 = w_fi w1 (n_v vs 0) 5 := congrArg v_iv (s1.2 _ _)
  have fe_0_8_1 : w_fi ws (n_v vs 0) 8 = w_fi w1 (n_v vs 0) 8 := congrArg v_iv (s1.2 _ _)
  have fe_0_11_1 : w_fi ws (n_v vs 0) 11 = w_fi w1 (n_v vs 0) 11 := congrArg v_iv (s1.2 _ _)
  have fe_0_12_1 : w_fi ws (n_v vs 0) 12 = w_fi w1 (n_v vs 0) 12 := congrArg v_iv (s1.2 _ _)
  have fe_0_15_1 : w_fi ws (n_v vs 0) 15 = w_fi w1 (n_v vs 0) 15 := congrArg v_iv (s1.2 _ _)
  have hE_0_2_1 : ∀ j : Int, 0 ≤ j → (j = v_iv (n_v vs 21) → w_ei ws (w_ar ws (n_v vs 0) 2) j = v_iv (n_v vs 15)) ∧ (j ≠ v_iv (n_v vs 21) → w_ei ws (w_ar ws (n_v vs 0) 2) j = w_ei w1 (w_ar ws (n_v vs 0) 2) j) := fun j hj => ⟨fun h => by unfold w_ei; rw [s1.1, if_pos ⟨ad_17.symm, by rw [h]⟩], fun h => by unfold w_ei; rw [s1.1, if_neg (fun e => h (by have := e.2; omega))]⟩
  have hE_0_3_1 : ∀ j : Int, w_ei ws (w_ar ws (n_v vs 0) 3) j = w_ei w1 (w_ar ws (n_v vs 0) 3) j := el_kp s1.1 r17 cr_0_3 (by decide)
  have hK_0_3 := elq_77 hD hth cr_0_3
  have hE_0_4_1 : ∀ j : Int, w_ei ws (w_ar ws (n_v vs 0) 4) j = w_ei w1 (w_ar ws (n_v vs 0) 4) j := el_kp s1.1 r17 cr_0_4 (by decide)
  have hK_0_4 := elq_78 hD hth cr_0_4
  have kz_0_8 := fdq_14 hD hth r0
  have kz_0_11 := fdq_273 hD hth r0
  have kz_0_12 := fdq_186 hD hth r0
  have kz_0_15 := fdq_274 hD hth r0
  first | have hJ0 : w_ei w1 (w_ar ws (n_v vs 0) 2) ((w_fi w1 (n_v vs 0) 5 + 2)) = w_ei w1 (w_ar ws (n_v vs 0) 2) ((w_fi ws (n_v vs 0) 5 + 2)) := congrArg _ (show ((w_fi w1 (n_v vs 0) 5 + 2) : Int) = (w_fi ws (n_v vs 0) 5 + 2) from by omega) | skip
  first | have hI1 := (hE_0_2_1 ((w_fi ws (n_v vs 0) 5 + 2)) (by omega)).2 (by omega) | have hI1 := (hE_0_2_1 ((w_fi ws (n_v vs 0) 5 + 2)) (by omega)).1 (by omega) | skip
  obtain ⟨x, ex, hx⟩ := iv_ex (ta := ta) (lo := 0) (hi := 2000) (z := v_iv (n_v vs 3)) (by omega) (by omega) (by omega) (by omega)
  have ex2 : v_iv (Value.int x) = v_iv (n_v vs 3) := ex
  have ex3 : 0 ≤ v_iv (Value.int x) ∧ v_iv (Value.int x) ≤ 2000 := tv_rng hx
  have e_0 : n_v (vs ++ [Value.int x]) 0 = n_v vs 0 := n_v_old (by rw [hl]; decide)
  have e_1 : n_v (vs ++ [Value.int x]) 1 = n_v vs 1 := n_v_old (by rw [hl]; decide)
  have e_3 : n_v (vs ++ [Value.int x]) 3 = n_v vs 3 := n_v_old (by rw [hl]; decide)
  have e_23 : n_v (vs ++ [Value.int x]) 23 = Value.int x := n_v_new hl
  have nf0 : fc_1 PRD (20, [1, 0], [50, 1, 1, 1005, 1002, 0, 6, 4, 2, 1, 0, 0, 1, 3, 1, 2, 4, 3, 2, 1, 5, 0, 2]) ws (vs ++ [Value.int x]) := by
    refine ⟨nf_inA hl rfl, sgq_981 ?_⟩
    · show (v_iv (n_v (vs ++ [Value.int x]) 1) + 1) ≤ w_ei ws (w_ar ws (n_v (vs ++ [Value.int x]) 0) 2) ((w_fi ws (n_v (vs ++ [Value.int x]) 0) 5 + 2))
      simp only [e_0, e_1]
      exact vc_Mo_item_at_k1_12_0 (v_iv (n_v vs 1)) (v_iv (n_v vs 10)) (v_iv (n_v vs 14)) (v_iv (n_v vs 15)) (v_iv (n_v vs 18)) (v_iv (n_v vs 20)) (v_iv (n_v vs 21)) (w_fi ws (n_v vs 0) 15) (w_fi ws (n_v vs 0) 11) (w_fi ws (n_v vs 0) 12) (w_fi ws (n_v vs 0) 8) (w_fi w1 (n_v vs 0) 5) (w_fi w1 (n_v vs 0) 8) (w_ei w1 (w_ar ws (n_v vs 0) 2)) (w_ei w1 (w_ar ws (n_v vs 0) 3)) (w_ei w1 (w_ar ws (n_v vs 0) 4)) (w_fi w1 (n_v vs 0) 15) (w_fi w1 (n_v vs 0) 11) (w_fi w1 (n_v vs 0) 12) (w_fi ws (n_v vs 0) 5) (w_ei ws (w_ar ws (n_v vs 0) 2)) (w_ei ws (w_ar ws (n_v vs 0) 3)) (w_ei ws (w_ar ws (n_v vs 0) 4)) k1 k10 k14 k15 k18 k20 k21 d0 d3 f2 f3 f16 g18 f31 fe_0_5_1 fe_0_8_1 fe_0_11_1 fe_0_12_1 fe_0_15_1 hE_0_2_1 hE_0_3_1 hE_0_4_1 kz_0_8 kz_0_11 kz_0_12 kz_0_15
  have nf1 : fc_1 PRD (20, [0], [60, 1, 3, 199, 5, 2, 3, 4]) ws (vs ++ [Value.int x]) := by
    refine ⟨nf_inA hl rfl, sgq_952 ?_⟩
    · show RWS (w_fi ws (n_v (vs ++ [Value.int x]) 0) 5) (w_ei ws (w_ar ws (n_v (vs ++ [Value.int x]) 0) 2)) (w_ei ws (w_ar ws (n_v (vs ++ [Value.int x]) 0) 3)) (w_ei ws (w_ar ws (n_v (vs ++ [Value.int x]) 0) 4))
      rw [e_0]
      exact vc_Mo_item_at_k1_12_1 (v_iv (n_v vs 10)) (v_iv (n_v vs 14)) (v_iv (n_v vs 15)) (v_iv (n_v vs 18)) (v_iv (n_v vs 20)) (v_iv (n_v vs 21)) (w_fi ws (n_v vs 0) 15) (w_fi ws (n_v vs 0) 11) (w_fi ws (n_v vs 0) 12) (w_fi ws (n_v vs 0) 8) (w_fi w1 (n_v vs 0) 5) (w_fi w1 (n_v vs 0) 8) (w_ei w1 (w_ar ws (n_v vs 0) 2)) (w_ei w1 (w_ar ws (n_v vs 0) 3)) (w_ei w1 (w_ar ws (n_v vs 0) 4)) (w_fi w1 (n_v vs 0) 15) (w_fi w1 (n_v vs 0) 11) (w_fi w1 (n_v vs 0) 12) (w_fi ws (n_v vs 0) 5) (w_ei ws (w_ar ws (n_v vs 0) 2)) (w_ei ws (w_ar ws (n_v vs 0) 3)) (w_ei ws (w_ar ws (n_v vs 0) 4)) k10 k14 k15 k18 k20 k21 d3 f2 f3 f16 g18 f32 fe_0_5_1 fe_0_8_1 fe_0_11_1 fe_0_12_1 fe_0_15_1 hE_0_2_1 hE_0_3_1 hE_0_4_1 kz_0_8 kz_0_11 kz_0_12 kz_0_15
  have nf2 : fc_1 PRD (23, [23, 3], [0, 1, -1]) ws (vs ++ [Value.int x]) := by
    refine ⟨nf_inA hl rfl, sgq_7 ?_⟩
    · show 1 * v_iv (n_v (vs ++ [Value.int x]) 23) + ((-1) * v_iv (n_v (vs ++ [Value.int x]) 3) + 0) ≤ 0
      simp only [e_3, e_23]
      exact vc_Mo_item_at_k1_12_2 (v_iv (n_v vs 3)) (v_iv (n_v vs 13)) (v_iv (n_v vs 15)) (v_iv (n_v vs 21)) (w_fi ws (n_v vs 0) 15) (w_fi ws (n_v vs 0) 11) (w_fi ws (n_v vs 0) 12) (w_fi ws (n_v vs 0) 8) (w_fi w1 (n_v vs 0) 5) (w_fi w1 (n_v vs 0) 8) (w_ei w1 (w_ar ws (n_v vs 0) 2)) (w_ei w1 (w_ar ws (n_v vs 0) 3)) (w_ei w1 (w_ar ws (n_v vs 0) 4)) (w_fi w1 (n_v vs 0) 15) (w_fi w1 (n_v vs 0) 11) (w_fi w1 (n_v vs 0) 12) (w_fi ws (n_v vs 0) 5) (w_ei ws (w_ar ws (n_v vs 0) 2)) (w_ei ws (w_ar ws (n_v vs 0) 3)) (w_ei ws (w_ar ws (n_v vs 0) 4)) (v_iv (Value.int x)) k3 k13 k15 k21 f0 f1 fe_0_5_1 fe_0_8_1 fe_0_11_1 fe_0_12_1 fe_0_15_1 hE_0_2_1 hE_0_3_1 hE_0_4_1 kz_0_8 kz_0_11 kz_0_12 kz_0_15 ex2
  have nf3 : fc_1 PRD (23, [23, 3], [0, -1, 1]) ws (vs ++ [Value.int x]) := by
    refine ⟨nf_inA hl rfl, sgq_22 ?_⟩
    · show (-1) * v_iv (n_v (vs ++ [Value.int x]) 23) + (1 * v_iv (n_v (vs ++ [Value.int x]) 3) + 0) ≤ 0
      simp only [e_3, e_23]
      exact vc_Mo_item_at_k1_12_3 (v_iv (n_v vs 3)) (v_iv (n_v vs 13)) (v_iv (n_v vs 15)) (v_iv (n_v vs 21)) (w_fi ws (n_v vs 0) 15) (w_fi ws (n_v vs 0) 11) (w_fi ws (n_v vs 0) 12) (w_fi ws (n_v vs 0) 8) (w_fi w1 (n_v vs 0) 5) (w_fi w1 (n_v vs 0) 8) (w_ei w1 (w_ar ws (n_v vs 0) 2)) (w_ei w1 (w_ar ws (n_v vs 0) 3)) (w_ei w1 (w_ar ws (n_v vs 0) 4)) (w_fi w1 (n_v vs 0) 15) (w_fi w1 (n_v vs 0) 11) (w_fi w1 (n_v vs 0) 12) (w_fi ws (n_v vs 0) 5) (w_ei ws (w_ar ws (n_v vs 0) 2)) (w_ei ws (w_ar ws (n_v vs 0) 3)) (w_ei ws (w_ar ws (n_v vs 0) 4)) (v_iv (Value.int x)) k3 k13 k15 k21 f0 f1 fe_0_5_1 fe_0_8_1 fe_0_11_1 fe_0_12_1 fe_0_15_1 hE_0_2_1 hE_0_3_1 hE_0_4_1 kz_0_8 kz_0_11 kz_0_12 kz_0_15 ex2
  have nf4 : fc_1 PRD (20, [0, 0], [30, 0, 1, 1, 15, -1, 1, 11]) ws (vs ++ [Value.int x]) := by
    refine ⟨nf_inA hl rfl, sgq_1397 ?_⟩
    · show 1 * w_fi ws (n_v (vs ++ [Value.int x]) 0) 15 + ((-1) * w_fi ws (n_v (vs ++ [Value.int x]) 0) 11 + 0) ≤ 0
      rw [e_0]
      exact vc_Mo_item_at_k1_12_4 (v_iv (n_v vs 15)) (v_iv (n_v vs 21)) (w_fi ws (n_v vs 0) 15) (w_fi ws (n_v vs 0) 11) (w_fi ws (n_v vs 0) 12) (w_fi ws (n_v vs 0) 8) (w_fi w1 (n_v vs 0) 5) (w_fi w1 (n_v vs 0) 8) (w_ei w1 (w_ar ws (n_v vs 0) 2)) (w_ei w1 (w_ar ws (n_v vs 0) 3)) (w_ei w1 (w_ar ws (n_v vs 0) 4)) (w_fi w1 (n_v vs 0) 15) (w_fi w1 (n_v vs 0) 11) (w_fi w1 (n_v vs 0) 12) (w_fi ws (n_v vs 0) 5) (w_ei ws (w_ar ws (n_v vs 0) 2)) (w_ei ws (w_ar ws (n_v vs 0) 3)) (w_ei ws (w_ar ws (n_v vs 0) 4)) k15 k21 f33 fe_0_5_1 fe_0_8_1 fe_0_11_1 fe_0_12_1 fe_0_15_1 hE_0_2_1 hE_0_3_1 hE_0_4_1 kz_0_8 kz_0_11 kz_0_12 kz_0_15
  have nf5 : fc_1 PRD (20, [0], [50, 3, 0, 12, 11, 15, 2, 21, 4, 7, 1, 3, 2, 0, 12, 0, 1, 0, 3, 2, 0, 11, 4, 3, 2, 0, 15, 0, 8, 3, 7, 1, 3, 2, 0, 12, 0, 0, 0, 7, 4, 3, 2, 0, 15, 0, 1, 2, 0, 11]) ws (vs ++ [Value.int x]) := by
    refine ⟨nf_inA hl rfl, sgq_1398 ?_⟩
    · show ((w_fi ws (n_v (vs ++ [Value.int x]) 0) 12 = 1) → (w_fi ws (n_v (vs ++ [Value.int x]) 0) 11 ≤ (w_fi ws (n_v (vs ++ [Value.int x]) 0) 15 + 8))) ∧ ((w_fi ws (n_v (vs ++ [Value.int x]) 0) 12 = 0) ∨ ((w_fi ws (n_v (vs ++ [Value.int x]) 0) 15 + 1) ≤ w_fi ws (n_v (vs ++ [Value.int x]) 0) 11))
      rw [e_0]
      exact vc_Mo_item_at_k1_12_5 (v_iv (n_v vs 15)) (v_iv (n_v vs 21)) (w_fi ws (n_v vs 0) 15) (w_fi ws (n_v vs 0) 11) (w_fi ws (n_v vs 0) 12) (w_fi ws (n_v vs 0) 8) (w_fi w1 (n_v vs 0) 5) (w_fi w1 (n_v vs 0) 8) (w_ei w1 (w_ar ws (n_v vs 0) 2)) (w_ei w1 (w_ar ws (n_v vs 0) 3)) (w_ei w1 (w_ar ws (n_v vs 0) 4)) (w_fi w1 (n_v vs 0) 15) (w_fi w1 (n_v vs 0) 11) (w_fi w1 (n_v vs 0) 12) (w_fi ws (n_v vs 0) 5) (w_ei ws (w_ar ws (n_v vs 0) 2)) (w_ei ws (w_ar ws (n_v vs 0) 3)) (w_ei ws (w_ar ws (n_v vs 0) 4)) k15 k21 f34 fe_0_5_1 fe_0_8_1 fe_0_11_1 fe_0_12_1 fe_0_15_1 hE_0_2_1 hE_0_3_1 hE_0_4_1 kz_0_8 kz_0_11 kz_0_12 kz_0_15
  have nf6 : fc_1 PRD (20, [23, 0], [30, 0, 1, 0, 0, -1, 1, 11]) ws (vs ++ [Value.int x]) := by
    refine ⟨nf_inA hl rfl, sgq_1395 ?_⟩
    · show 1 * v_iv (n_v (vs ++ [Value.int x]) 23) + ((-1) * w_fi ws (n_v (vs ++ [Value.int x]) 0) 11 + 0) ≤ 0
      simp only [e_0, e_23]
      exact vc_Mo_item_at_k1_12_6 (v_iv (n_v vs 3)) (v_iv (n_v vs 13)) (v_iv (n_v vs 15)) (v_iv (n_v vs 21)) (w_fi ws (n_v vs 0) 15) (w_fi ws (n_v vs 0) 11) (w_fi ws (n_v vs 0) 12) (w_fi ws (n_v vs 0) 8) (w_fi w1 (n_v vs 0) 5) (w_fi w1 (n_v vs 0) 8) (w_ei w1 (w_ar ws (n_v vs 0) 2)) (w_ei w1 (w_ar ws (n_v vs 0) 3)) (w_ei w1 (w_ar ws (n_v vs 0) 4)) (w_fi w1 (n_v vs 0) 15) (w_fi w1 (n_v vs 0) 11) (w_fi w1 (n_v vs 0) 12) (w_fi ws (n_v vs 0) 5) (w_ei ws (w_ar ws (n_v vs 0) 2)) (w_ei ws (w_ar ws (n_v vs 0) 3)) (w_ei ws (w_ar ws (n_v vs 0) 4)) (v_iv (Value.int x)) k3 k13 k15 k21 f0 f1 f10 fe_0_5_1 fe_0_8_1 fe_0_11_1 fe_0_12_1 fe_0_15_1 hE_0_2_1 hE_0_3_1 hE_0_4_1 kz_0_8 kz_0_11 kz_0_12 kz_0_15 ex2
  have nf7 : fc_1 PRD (20, [0, 23], [50, 3, 0, 8, 12, 11, 3, 7, 0, 2, 0, 1, 2, 0, 8, 3, 7, 1, 3, 2, 0, 12, 0, 0, 0, 6, 4, 2, 1, 1, 0, 1, 2, 0, 11]) ws (vs ++ [Value.int x]) := by
    refine ⟨nf_inA hl rfl, sgq_1660 ?_⟩
    · show (1 ≤ w_fi ws (n_v (vs ++ [Value.int x]) 0) 8) ∨ ((w_fi ws (n_v (vs ++ [Value.int x]) 0) 12 = 0) ∨ ((v_iv (n_v (vs ++ [Value.int x]) 23) + 1) ≤ w_fi ws (n_v (vs ++ [Value.int x]) 0) 11))
      simp only [e_0, e_23]
      exact vc_Mo_item_at_k1_12_7 (v_iv (n_v vs 3)) (v_iv (n_v vs 13)) (v_iv (n_v vs 15)) (v_iv (n_v vs 16)) (v_iv (n_v vs 21)) (w_fi ws (n_v vs 0) 15) (w_fi ws (n_v vs 0) 11) (w_fi ws (n_v vs 0) 12) (w_fi ws (n_v vs 0) 8) (w_fi w1 (n_v vs 0) 5) (w_fi w1 (n_v vs 0) 8) (w_ei w1 (w_ar ws (n_v vs 0) 2)) (w_ei w1 (w_ar ws (n_v vs 0) 3)) (w_ei w1 (w_ar ws (n_v vs 0) 4)) (w_fi w1 (n_v vs 0) 15) (w_fi w1 (n_v vs 0) 11) (w_fi w1 (n_v vs 0) 12) (w_fi ws (n_v vs 0) 5) (w_ei ws (w_ar ws (n_v vs 0) 2)) (w_ei ws (w_ar ws (n_v vs 0) 3)) (w_ei ws (w_ar ws (n_v vs 0) 4)) (v_iv (Value.int x)) k3 k13 k15 k16 k21 f0 f1 f10 g22 f34 f36 fe_0_5_1 fe_0_8_1 fe_0_11_1 fe_0_12_1 fe_0_15_1 hE_0_2_1 hE_0_3_1 hE_0_4_1 kz_0_8 kz_0_11 kz_0_12 kz_0_15 ex2
  exact ⟨(fun _ h => (by cases h)), [Value.int x], ag_one hx, List.forall_mem_cons.mpr ⟨⟨show (20 : Nat) < 100 from by decide, nf0⟩, List.forall_mem_cons.mpr ⟨⟨show (20 : Nat) < 100 from by decide, nf1⟩, List.forall_mem_cons.mpr ⟨⟨show (23 : Nat) < 100 from by decide, nf2⟩, List.forall_mem_cons.mpr ⟨⟨show (23 : Nat) < 100 from by decide, nf3⟩, List.forall_mem_cons.mpr ⟨⟨show (20 : Nat) < 100 from by decide, nf4⟩, List.forall_mem_cons.mpr ⟨⟨show (20 : Nat) < 100 from by decide, nf5⟩, List.forall_mem_cons.mpr ⟨⟨show (20 : Nat) < 100 from by decide, nf6⟩, List.forall_mem_cons.mpr ⟨⟨show (20 : Nat) < 100 from by decide, nf7⟩, (fun _ h => (by cases h))⟩⟩⟩⟩⟩⟩⟩⟩, (fun _ h => (by cases h))⟩
set_option maxHeartbeats 4000000 in
theorem vc_Mo_item_at_k1_13_0 (x3 : Int) (x23 : Int) (r_0 : Int) (pos_0 : Int) (k3 : 0 ≤ x3 ∧ x3 ≤ 2000) (k23 : 0 ≤ x23 ∧ x23 ≤ 2000) (f2 : 1 * x23 + ((-1) * x3 + 0) ≤ 0) (f3 : (-1) * x23 + (1 * x3 + 0) ≤ 0) (f14 : 1 * x23 + ((-1) * pos_0 + 0) ≤ 0) (kz_0_11 : 0 ≤ pos_0 ∧ pos_0 ≤ 2000) : 1 * x3 + ((-1) * pos_0 + 0) ≤ 0 := by
  first
    | omega
    | (have q1 := (hE_0_2_1 (r_0 + 2) (by omega)).2 (by omega)
       have q2 := (hE_0_2_2 (r_0 + 2) (by omega)).2 (by omega)
       omega)
    | (have q1 := (hE_0_2_1 (r_0 + 1) (by omega)).2 (by omega)
       have q2 := (hE_0_2_2 (r_0 + 1) (by omega)).2 (by omega)
       omega)
    | (have q1 := (hE_0_2_1 (r_0 + 2) (by omega)).2 (by omega)
       omega)
    | (have q1 := (hE_0_2_1 (r_0 + 1) (by omega)).2 (by omega)
       omega)
    | (have q1 := (hE_0_2_1 (r_0 + 2) (by omega)).2 (by omega)
       have q2 := (hE_0_2_2 (r_0 + 2) (by omega)).2 (by omega)
       have q3 := (hE_0_2_3 (r_0 + 2) (by omega)).1 (by omega)
       omega)
    | (have q1 := (hE_0_2_1 (r_0 + 2) (by omega)).2 (by omega)
       have q2 := (hE_0_2_2 (r_0 + 2) (by omega)).2 (by omega)
       have q3 := (hE_0_2_3 (r_0 + 2) (by omega)).2 (by omega)
       omega)
set_option maxHeartbeats 4000000 in
theorem vc_Mo_item_at_k1_13_1 (x3 : Int) (x23 : Int) (r_0 : Int) (pos_0 : Int) (fault_0 : Int) (k3 : 0 ≤ x3 ∧ x3 ≤ 2000) (k23 : 0 ≤ x23 ∧ x23 ≤ 2000) (f2 : 1 * x23 + ((-1) * x3 + 0) ≤ 0) (f3 : (-1) * x23 + (1 * x3 + 0) ≤ 0) (f14 : 1 * x23 + ((-1) * pos_0 + 0) ≤ 0) (f15 : (1 ≤ fault_0) ∨ ((x23 + 1) ≤ pos_0)) (kz_0_8 : 0 ≤ fault_0 ∧ fault_0 ≤ 5) (kz_0_11 : 0 ≤ pos_0 ∧ pos_0 ≤ 2000) : (1 ≤ fault_0) ∨ ((x3 + 1) ≤ pos_0) := by
  first
    | omega
    | (have q1 := (hE_0_2_1 (r_0 + 2) (by omega)).2 (by omega)
       have q2 := (hE_0_2_2 (r_0 + 2) (by omega)).2 (by omega)
       omega)
    | (have q1 := (hE_0_2_1 (r_0 + 1) (by omega)).2 (by omega)
       have q2 := (hE_0_2_2 (r_0 + 1) (by omega)).2 (by omega)
       omega)
    | (have q1 := (hE_0_2_1 (r_0 + 2) (by omega)).2 (by omega)
       omega)
    | (have q1 := (hE_0_2_1 (r_0 + 1) (by omega)).2 (by omega)
       omega)
    | (have q1 := (hE_0_2_1 (r_0 + 2) (by omega)).2 (by omega)
       have q2 := (hE_0_2_2 (r_0 + 2) (by omega)).2 (by omega)
       have q3 := (hE_0_2_3 (r_0 + 2) (by omega)).1 (by omega)
       omega)
    | (have q1 := (hE_0_2_1 (r_0 + 2) (by omega)).2 (by omega)
       have q2 := (hE_0_2_2 (r_0 + 2) (by omega)).2 (by omega)
       have q3 := (hE_0_2_3 (r_0 + 2) (by omega)).2 (by omega)
       omega)
def o_Mo_item_at_k1_13 : or_T := (94, 24, [(0, (2, 0, 0, [165])), (3, (0, 0, 2000, [])), (23, (0, 0, 2000, []))], [(23, [23, 3], [0, 1, -1]), (23, [23, 3], [0, -1, 1]), (20, [23, 0], [30, 0, 1, 0, 0, -1, 1, 11]), (20, [0, 23], [50, 2, 0, 8, 11, 3, 7, 0, 2, 0, 1, 2, 0, 8, 0, 6, 4, 2, 1, 1, 0, 1, 2, 0, 11])], [], [], [(20, [3, 0], [30, 0, 1, 0, 0, -1, 1, 11]), (20, [0, 3], [50, 2, 0, 8, 11, 3, 7, 0, 2, 0, 1, 2, 0, 8, 0, 6, 4, 2, 1, 1, 0, 1, 2, 0, 11])], [], [])
theorem oo_Mo_item_at_k1_13 {kA : Nat → ClassId} : or_ok PRD kA GG o_Mo_item_at_k1_13 := by
  refine or_mk fun A ta ws vs hD hth hl => ?_
  intro t0 r0 t3 k3 t23 k23 f2 f3 f14 f15
  have kz_0_8 := fdq_14 hD hth r0
  have kz_0_11 := fdq_273 hD hth r0
  have nf0 : fc_1 PRD (20, [3, 0], [30, 0, 1, 0, 0, -1, 1, 11]) ws (vs) := ⟨nf_in hl rfl, sgq_1395 (vc_Mo_item_at_k1_13_0 (v_iv (n_v vs 3)) (v_iv (n_v vs 23)) (w_fi ws (n_v vs 0) 5) (w_fi ws (n_v vs 0) 11) k3 k23 (shm_7 f2) (shm_22 f3) (shm_1395 f14) kz_0_11)⟩
  have nf1 : fc_1 PRD (20, [0, 3], [50, 2, 0, 8, 11, 3, 7, 0, 2, 0, 1, 2, 0, 8, 0, 6, 4, 2, 1, 1, 0, 1, 2, 0, 11]) ws (vs) := ⟨nf_in hl rfl, sgq_1659 (vc_Mo_item_at_k1_13_1 (v_iv (n_v vs 3)) (v_iv (n_v vs 23)) (w_fi ws (n_v vs 0) 5) (w_fi ws (n_v vs 0) 11) (w_fi ws (n_v vs 0) 8) k3 k23 (shm_7 f2) (shm_22 f3) (shm_1395 f14) (shm_1659 f15) kz_0_8 kz_0_11)⟩
  refine ⟨(fun _ h => (by cases h)), [], trivial, ?_, (fun _ h => (by cases h))⟩
  rw [List.append_nil]
  exact List.forall_mem_cons.mpr ⟨⟨show (20 : Nat) < 100 from by decide, nf0⟩, List.forall_mem_cons.mpr ⟨⟨show (20 : Nat) < 100 from by decide, nf1⟩, (fun _ h => (by cases h))⟩⟩
def n_Mo_item_at_k1_an : List an_T := []
def t_Mo_item_at_k1_ct : ct_L := [(1, 460, e_Mo_next), (1, 491, e_Mo_need), (1, 494, e_Mo_met), (1, 506, e_Mo_edgeItem), (16, 469, e_Mo_isWord_at_s5000), (85, 499, e_Mo_of_at_s5002), (226, 469, e_Mo_isWord_at_s5001), (253, 503, e_Mo_groupItem_at_k1), (1000001, 467, en_ro [] (2, 0, 0, [5000])), (1000001, 473, en_ro [] (2, 0, 0, [5001])), (1000001, 497, en_ro [] (2, 0, 0, [5002]))]
set_option maxRecDepth 100000 in
theorem c_Mo_item_at_k1 {l : Launch} {D : va_G} {kA : Nat → ClassId} (h_Mo_edgeItem : ct_ok PRD l D kA GG y_Mo_edgeItem z_Mo_edgeItem e_Mo_edgeItem) (h_Mo_groupItem_at_k1 : ct_ok PRD l D kA GG y_Mo_groupItem_at_k1 z_Mo_groupItem_at_k1 e_Mo_groupItem_at_k1) (h_Mo_isWord_at_s5000 : ct_ok PRD l D kA GG y_Mo_isWord_at_s5000 z_Mo_isWord_at_s5000 e_Mo_isWord_at_s5000) (h_Mo_isWord_at_s5001 : ct_ok PRD l D kA GG y_Mo_isWord_at_s5001 z_Mo_isWord_at_s5001 e_Mo_isWord_at_s5001) (h_Mo_met : ct_ok PRD l D kA GG y_Mo_met z_Mo_met e_Mo_met) (h_Mo_need : ct_ok PRD l D kA GG y_Mo_need z_Mo_need e_Mo_need) (h_Mo_next : ct_ok PRD l D kA GG y_Mo_next z_Mo_next e_Mo_next) (h_Mo_of_at_s5002 : ct_ok PRD l D kA GG y_Mo_of_at_s5002 z_Mo_of_at_s5002 e_Mo_of_at_s5002) : ct_ok PRD l D kA GG y_Mo_item_at_k1 z_Mo_item_at_k1 e_Mo_item_at_k1 := chk_all_ok (FT := [(16, 13, 2), (391, 13, 5), (413, 13, 8)]) (PT := []) (CT := t_Mo_item_at_k1_ct) (KT := []) (NT := []) (AN := n_Mo_item_at_k1_an) (OT := [o_Mo_item_at_k1_0, o_Mo_item_at_k1_1, o_Mo_item_at_k1_2, o_Mo_item_at_k1_3, o_Mo_item_at_k1_4, o_Mo_item_at_k1_5, o_Mo_item_at_k1_6, o_Mo_item_at_k1_7, o_Mo_item_at_k1_8, o_Mo_item_at_k1_9, o_Mo_item_at_k1_10, o_Mo_item_at_k1_11, o_Mo_item_at_k1_12, o_Mo_item_at_k1_13]) 0 240 (List.forall_mem_cons.mpr ⟨oo_Mo_item_at_k1_0, List.forall_mem_cons.mpr ⟨oo_Mo_item_at_k1_1, List.forall_mem_cons.mpr ⟨oo_Mo_item_at_k1_2, List.forall_mem_cons.mpr ⟨oo_Mo_item_at_k1_3, List.forall_mem_cons.mpr ⟨oo_Mo_item_at_k1_4, List.forall_mem_cons.mpr ⟨oo_Mo_item_at_k1_5, List.forall_mem_cons.mpr ⟨oo_Mo_item_at_k1_6, List.forall_mem_cons.mpr ⟨oo_Mo_item_at_k1_7, List.forall_mem_cons.mpr ⟨oo_Mo_item_at_k1_8, List.forall_mem_cons.mpr ⟨oo_Mo_item_at_k1_9, List.forall_mem_cons.mpr ⟨oo_Mo_item_at_k1_10, List.forall_mem_cons.mpr ⟨oo_Mo_item_at_k1_11, List.forall_mem_cons.mpr ⟨oo_Mo_item_at_k1_12, List.forall_mem_cons.mpr ⟨oo_Mo_item_at_k1_13, List.forall_mem_nil _⟩⟩⟩⟩⟩⟩⟩⟩⟩⟩⟩⟩⟩⟩) (by decide +kernel) ⟨List.forall_mem_cons.mpr ⟨gf_Mo_16, List.forall_mem_cons.mpr ⟨gf_Mo_391, List.forall_mem_cons.mpr ⟨gf_Mo_413, List.forall_mem_nil _⟩⟩⟩, List.forall_mem_nil _, List.forall_mem_cons.mpr ⟨cl_virtual (y := y_Mo_next) (ci := 13) rfl rfl ⟨_, _, rfl⟩ (by decide +kernel) h_Mo_next wm_2982 wm_9 wm_2979 wm_2981 wv_12_11 ⟨by decide, by decide, by decide +kernel⟩ (by decide), List.forall_mem_cons.mpr ⟨cl_virtual (y := y_Mo_need) (ci := 13) rfl rfl ⟨_, _, rfl⟩ (by decide +kernel) h_Mo_need wm_3062 wm_9 wm_3059 wm_3061 wv_13_12 ⟨by decide, by decide, by decide +kernel⟩ (by decide), List.forall_mem_cons.mpr ⟨cl_virtual (y := y_Mo_met) (ci := 13) rfl rfl ⟨_, _, rfl⟩ (by decide +kernel) h_Mo_met wm_3008 wm_9 wm_3005 wm_3007 wv_12_15 ⟨by decide, by decide, by decide +kernel⟩ (by decide), List.forall_mem_cons.mpr ⟨cl_virtual (y := y_Mo_edgeItem) (ci := 13) rfl rfl ⟨_, _, rfl⟩ (by decide +kernel) h_Mo_edgeItem wm_3074 wm_9 wm_3071 wm_3073 wv_13_15 ⟨by decide, by decide, by decide +kernel⟩ (by decide), List.forall_mem_cons.mpr ⟨cl_virtual (y := y_Mo_isWord_at_s5000) (ci := 13) rfl rfl ⟨_, _, rfl⟩ (by decide +kernel) h_Mo_isWord_at_s5000 wm_3002 wm_9 wm_2999 wm_3001 wv_12_14 ⟨by decide, by decide, by decide +kernel⟩ (by decide), List.forall_mem_cons.mpr ⟨cl_virtual (y := y_Mo_of_at_s5002) (ci := 13) rfl rfl ⟨_, _, rfl⟩ (by decide +kernel) h_Mo_of_at_s5002 wm_3054 wm_9 wm_3051 wm_3053 wv_13_10 ⟨by decide, by decide, by decide +kernel⟩ (by decide), List.forall_mem_cons.mpr ⟨cl_virtual (y := y_Mo_isWord_at_s5001) (ci := 13) rfl rfl ⟨_, _, rfl⟩ (by decide +kernel) h_Mo_isWord_at_s5001 wm_3002 wm_9 wm_2999 wm_3001 wv_12_14 ⟨by decide, by decide, by decide +kernel⟩ (by decide), List.forall_mem_cons.mpr ⟨cl_virtual (y := y_Mo_groupItem_at_k1) (ci := 13) rfl rfl ⟨_, _, rfl⟩ (by decide +kernel) h_Mo_groupItem_at_k1 wm_3066 wm_9 wm_3063 wm_3065 wv_13_13 ⟨by decide, by decide, by decide +kernel⟩ (by decide), List.forall_mem_cons.mpr ⟨cl_ldcw (own := "DrawingHouseModel") (idx := 467) (i := 0) (tx := "node") (by decide +kernel) (by decide +kernel) (by decide +kernel), List.forall_mem_cons.mpr ⟨cl_ldcw (own := "DrawingHouseModel") (idx := 473) (i := 1) (tx := "group") (by decide +kernel) (by decide +kernel) (by decide +kernel), List.forall_mem_cons.mpr ⟨cl_ldcw (own := "DrawingHouseModel") (idx := 497) (i := 2) (tx := "size") (by decide +kernel) (by decide +kernel) (by decide +kernel), List.forall_mem_nil _⟩⟩⟩⟩⟩⟩⟩⟩⟩⟩⟩, List.forall_mem_nil _, List.forall_mem_nil _, GG_pl⟩ (by decide +kernel)

set_option maxHeartbeats 4000000 in
theorem vc_Mo_item_at_k2_0_0 (x3 : Int) (r_0 : Int) (gx : Int) (k3 : 0 ≤ x3 ∧ x3 ≤ 2000) (ex2 : gx = x3) : 1 * gx + ((-1) * x3 + 0) ≤ 0 := by
  first
    | omega
    | (have q1 := (hE_0_2_1 (r_0 + 2) (by omega)).2 (by omega)
       have q2 := (hE_0_2_2 (r_0 + 2) (by omega)).2 (by omega)
       omega)
    | (have q1 := (hE_0_2_1 (r_0 + 1) (by omega)).2 (by omega)
       have q2 := (hE_0_2_2 (r_0 + 1) (by omega)).2 (by omega)
       omega)
    | (have q1 := (hE_0_2_1 (r_0 + 2) (by omega)).2 (by omega)
       omega)
    | (have q1 := (hE_0_2_1 (r_0 + 1) (by omega)).2 (by omega)
       omega)
    | (have q1 := (hE_0_2_1 (r_0 + 2) (by omega)).2 (by omega)
       have q2 := (hE_0_2_2 (r_0 + 2) (by omega)).2 (by omega)
       have q3 := (hE_0_2_3 (r_0 + 2) (by omega)).1 (by omega)
       omega)
    | (have q1 := (hE_0_2_1 (r_0 + 2) (by omega)).2 (by omega)
       have q2 := (hE_0_2_2 (r_0 + 2) (by omega)).2 (by omega)
       have q3 := (hE_0_2_3 (r_0 + 2) (by omega)).2 (by omega)
       omega)
set_option maxHeartbeats 4000000 in
theorem vc_Mo_item_at_k2_0_1 (x3 : Int) (r_0 : Int) (gx : Int) (k3 : 0 ≤ x3 ∧ x3 ≤ 2000) (ex2 : gx = x3) : (-1) * gx + (1 * x3 + 0) ≤ 0 := by
  first
    | omega
    | (have q1 := (hE_0_2_1 (r_0 + 2) (by omega)).2 (by omega)
       have q2 := (hE_0_2_2 (r_0 + 2) (by omega)).2 (by omega)
       omega)
    | (have q1 := (hE_0_2_1 (r_0 + 1) (by omega)).2 (by omega)
       have q2 := (hE_0_2_2 (r_0 + 1) (by omega)).2 (by omega)
       omega)
    | (have q1 := (hE_0_2_1 (r_0 + 2) (by omega)).2 (by omega)
       omega)
    | (have q1 := (hE_0_2_1 (r_0 + 1) (by omega)).2 (by omega)
       omega)
    | (have q1 := (hE_0_2_1 (r_0 + 2) (by omega)).2 (by omega)
       have q2 := (hE_0_2_2 (r_0 + 2) (by omega)).2 (by omega)
       have q3 := (hE_0_2_3 (r_0 + 2) (by omega)).1 (by omega)
       omega)
    | (have q1 := (hE_0_2_1 (r_0 + 2) (by omega)).2 (by omega)
       have q2 := (hE_0_2_2 (r_0 + 2) (by omega)).2 (by omega)
       have q3 := (hE_0_2_3 (r_0 + 2) (by omega)).2 (by omega)
       omega)
set_option maxHeartbeats 4000000 in
theorem vc_Mo_item_at_k2_0_2 (from_0 : Int) (pos_0 : Int) (r_0 : Int) (f1 : 1 * from_0 + ((-1) * pos_0 + 0) ≤ 0) (kz_0_11 : 0 ≤ pos_0 ∧ pos_0 ≤ 2000) (kz_0_15 : 0 ≤ from_0 ∧ from_0 ≤ 2000) : 1 * from_0 + ((-1) * pos_0 + 0) ≤ 0 := by
  first
    | omega
    | (have q1 := (hE_0_2_1 (r_0 + 2) (by omega)).2 (by omega)
       have q2 := (hE_0_2_2 (r_0 + 2) (by omega)).2 (by omega)
       omega)
    | (have q1 := (hE_0_2_1 (r_0 + 1) (by omega)).2 (by omega)
       have q2 := (hE_0_2_2 (r_0 + 1) (by omega)).2 (by omega)
       omega)
    | (have q1 := (hE_0_2_1 (r_0 + 2) (by omega)).2 (by omega)
       omega)
    | (have q1 := (hE_0_2_1 (r_0 + 1) (by omega)).2 (by omega)
       omega)
    | (have q1 := (hE_0_2_1 (r_0 + 2) (by omega)).2 (by omega)
       have q2 := (hE_0_2_2 (r_0 + 2) (by omega)).2 (by omega)
       have q3 := (hE_0_2_3 (r_0 + 2) (by omega)).1 (by omega)
       omega)
    | (have q1 := (hE_0_2_1 (r_0 + 2) (by omega)).2 (by omega)
       have q2 := (hE_0_2_2 (r_0 + 2) (by omega)).2 (by omega)
       have q3 := (hE_0_2_3 (r_0 + 2) (by omega)).2 (by omega)
       omega)
set_option maxHeartbeats 4000000 in
theorem vc_Mo_item_at_k2_0_3 (from_0 : Int) (pos_0 : Int) (kind_0 : Int) (r_0 : Int) (f2 : ((kind_0 = 1) → (pos_0 ≤ (from_0 + 8))) ∧ ((kind_0 = 0) ∨ ((from_0 + 1) ≤ pos_0))) (kz_0_11 : 0 ≤ pos_0 ∧ pos_0 ≤ 2000) (kz_0_12 : 0 ≤ kind_0 ∧ kind_0 ≤ 4) (kz_0_15 : 0 ≤ from_0 ∧ from_0 ≤ 2000) : ((kind_0 = 1) → (pos_0 ≤ (from_0 + 8))) ∧ ((kind_0 = 0) ∨ ((from_0 + 1) ≤ pos_0)) := by
  first
    | omega
    | (have q1 := (hE_0_2_1 (r_0 + 2) (by omega)).2 (by omega)
       have q2 := (hE_0_2_2 (r_0 + 2) (by omega)).2 (by omega)
       omega)
    | (have q1 := (hE_0_2_1 (r_0 + 1) (by omega)).2 (by omega)
       have q2 := (hE_0_2_2 (r_0 + 1) (by omega)).2 (by omega)
       omega)
    | (have q1 := (hE_0_2_1 (r_0 + 2) (by omega)).2 (by omega)
       omega)
    | (have q1 := (hE_0_2_1 (r_0 + 1) (by omega)).2 (by omega)
       omega)
    | (have q1 := (hE_0_2_1 (r_0 + 2) (by omega)).2 (by omega)
       have q2 := (hE_0_2_2 (r_0 + 2) (by omega)).2 (by omega)
       have q3 := (hE_0_2_3 (r_0 + 2) (by omega)).1 (by omega)
       omega)
    | (have q1 := (hE_0_2_1 (r_0 + 2) (by omega)).2 (by omega)
       have q2 := (hE_0_2_2 (r_0 + 2) (by omega)).2 (by omega)
       have q3 := (hE_0_2_3 (r_0 + 2) (by omega)).2 (by omega)
       omega)
set_option maxHeartbeats 4000000 in
theorem vc_Mo_item_at_k2_0_4 (x3 : Int) (pos_0 : Int) (r_0 : Int) (gx : Int) (k3 : 0 ≤ x3 ∧ x3 ≤ 2000) (f3 : 1 * x3 + ((-1) * pos_0 + 0) ≤ 0) (kz_0_11 : 0 ≤ pos_0 ∧ pos_0 ≤ 2000) (ex2 : gx = x3) : 1 * gx + ((-1) * pos_0 + 0) ≤ 0 := by
  first
    | omega
    | (have q1 := (hE_0_2_1 (r_0 + 2) (by omega)).2 (by omega)
       have q2 := (hE_0_2_2 (r_0 + 2) (by omega)).2 (by omega)
       omega)
    | (have q1 := (hE_0_2_1 (r_0 + 1) (by omega)).2 (by omega)
       have q2 := (hE_0_2_2 (r_0 + 1) (by omega)).2 (by omega)
       omega)
    | (have q1 := (hE_0_2_1 (r_0 + 2) (by omega)).2 (by omega)
       omega)
    | (have q1 := (hE_0_2_1 (r_0 + 1) (by omega)).2 (by omega)
       omega)
    | (have q1 := (hE_0_2_1 (r_0 + 2) (by omega)).2 (by omega)
       have q2 := (hE_0_2_2 (r_0 + 2) (by omega)).2 (by omega)
       have q3 := (hE_0_2_3 (r_0 + 2) (by omega)).1 (by omega)
       omega)
    | (have q1 := (hE_0_2_1 (r_0 + 2) (by omega)).2 (by omega)
       have q2 := (hE_0_2_2 (r_0 + 2) (by omega)).2 (by omega)
       have q3 := (hE_0_2_3 (r_0 + 2) (by omega)).2 (by omega)
       omega)
set_option maxHeartbeats 4000000 in
theorem vc_Mo_item_at_k2_0_5 (x1 : Int) (all_0 : Int → Int) (r_0 : Int) (k1 : 0 ≤ x1 ∧ x1 ≤ 7) (f4 : (x1 + 1) ≤ all_0 ((r_0 + 2))) : (x1 + 1) ≤ all_0 ((r_0 + 2)) := by
  first
    | omega
    | (have q1 := (hE_0_2_1 (r_0 + 2) (by omega)).2 (by omega)
       have q2 := (hE_0_2_2 (r_0 + 2) (by omega)).2 (by omega)
       omega)
    | (have q1 := (hE_0_2_1 (r_0 + 1) (by omega)).2 (by omega)
       have q2 := (hE_0_2_2 (r_0 + 1) (by omega)).2 (by omega)
       omega)
    | (have q1 := (hE_0_2_1 (r_0 + 2) (by omega)).2 (by omega)
       omega)
    | (have q1 := (hE_0_2_1 (r_0 + 1) (by omega)).2 (by omega)
       omega)
    | (have q1 := (hE_0_2_1 (r_0 + 2) (by omega)).2 (by omega)
       have q2 := (hE_0_2_2 (r_0 + 2) (by omega)).2 (by omega)
       have q3 := (hE_0_2_3 (r_0 + 2) (by omega)).1 (by omega)
       omega)
    | (have q1 := (hE_0_2_1 (r_0 + 2) (by omega)).2 (by omega)
       have q2 := (hE_0_2_2 (r_0 + 2) (by omega)).2 (by omega)
       have q3 := (hE_0_2_3 (r_0 + 2) (by omega)).2 (by omega)
       omega)
set_option maxHeartbeats 4000000 in
theorem vc_Mo_item_at_k2_0_6 (all_0 : Int → Int) (r_0 : Int) (now_0 : Int → Int) (latest_0 : Int → Int) (f5 : RWS (r_0) (all_0) (now_0) (latest_0)) : RWS (r_0) (all_0) (now_0) (latest_0) := by
  first
    | assumption
def o_Mo_item_at_k2_0 : or_T := (91, 8, [(0, (2, 0, 0, [165])), (1, (0, 0, 7, [])), (3, (0, 0, 2000, []))], [(20, [0, 0], [30, 0, 1, 1, 15, -1, 1, 11]), (20, [0], [50, 3, 0, 12, 11, 15, 2, 21, 4, 7, 1, 3, 2, 0, 12, 0, 1, 0, 3, 2, 0, 11, 4, 3, 2, 0, 15, 0, 8, 3, 7, 1, 3, 2, 0, 12, 0, 0, 0, 7, 4, 3, 2, 0, 15, 0, 1, 2, 0, 11]), (20, [3, 0], [30, 0, 1, 0, 0, -1, 1, 11]), (20, [1, 0], [50, 1, 1, 1005, 1002, 0, 6, 4, 2, 1, 0, 0, 1, 3, 1, 2, 4, 3, 2, 1, 5, 0, 2]), (20, [0], [60, 1, 3, 199, 5, 2, 3, 4])], [], [(0, 0, 2000, [])], [(23, [8, 3], [0, 1, -1]), (23, [8, 3], [0, -1, 1]), (20, [0, 0], [30, 0, 1, 1, 15, -1, 1, 11]), (20, [0], [50, 3, 0, 12, 11, 15, 2, 21, 4, 7, 1, 3, 2, 0, 12, 0, 1, 0, 3, 2, 0, 11, 4, 3, 2, 0, 15, 0, 8, 3, 7, 1, 3, 2, 0, 12, 0, 0, 0, 7, 4, 3, 2, 0, 15, 0, 1, 2, 0, 11]), (20, [8, 0], [30, 0, 1, 0, 0, -1, 1, 11]), (20, [1, 0], [50, 1, 1, 1005, 1002, 0, 6, 4, 2, 1, 0, 0, 1, 3, 1, 2, 4, 3, 2, 1, 5, 0, 2]), (20, [0], [60, 1, 3, 199, 5, 2, 3, 4])], [], [])
theorem oo_Mo_item_at_k2_0 {kA : Nat → ClassId} : or_ok PRD kA GG o_Mo_item_at_k2_0 := by
  refine or_mk fun A ta ws vs hD hth hl => ?_
  intro t0 r0 t1 k1 t3 k3 f1 f2 f3 f4 f5
  replace f1 := shm_1397 f1
  replace f2 := shm_1398 f2
  replace f3 := shm_1395 f3
  replace f4 := shm_981 f4
  replace f5 := shm_952 f5
  have kz_0_11 := fdq_273 hD hth r0
  have kz_0_12 := fdq_186 hD hth r0
  have kz_0_15 := fdq_274 hD hth r0
  obtain ⟨x, ex, hx⟩ := iv_ex (ta := ta) (lo := 0) (hi := 2000) (z := v_iv (n_v vs 3)) (by omega) (by omega) (by omega) (by omega)
  have ex2 : v_iv (Value.int x) = v_iv (n_v vs 3) := ex
  have ex3 : 0 ≤ v_iv (Value.int x) ∧ v_iv (Value.int x) ≤ 2000 := tv_rng hx
  have e_0 : n_v (vs ++ [Value.int x]) 0 = n_v vs 0 := n_v_old (by rw [hl]; decide)
  have e_1 : n_v (vs ++ [Value.int x]) 1 = n_v vs 1 := n_v_old (by rw [hl]; decide)
  have e_3 : n_v (vs ++ [Value.int x]) 3 = n_v vs 3 := n_v_old (by rw [hl]; decide)
  have e_8 : n_v (vs ++ [Value.int x]) 8 = Value.int x := n_v_new hl
  have nf0 : fc_1 PRD (23, [8, 3], [0, 1, -1]) ws (vs ++ [Value.int x]) := by
    refine ⟨nf_inA hl rfl, sgq_7 ?_⟩
    · show 1 * v_iv (n_v (vs ++ [Value.int x]) 8) + ((-1) * v_iv (n_v (vs ++ [Value.int x]) 3) + 0) ≤ 0
      simp only [e_3, e_8]
      exact vc_Mo_item_at_k2_0_0 (v_iv (n_v vs 3)) (w_fi ws (n_v vs 0) 5) (v_iv (Value.int x)) k3 ex2
  have nf1 : fc_1 PRD (23, [8, 3], [0, -1, 1]) ws (vs ++ [Value.int x]) := by
    refine ⟨nf_inA hl rfl, sgq_22 ?_⟩
    · show (-1) * v_iv (n_v (vs ++ [Value.int x]) 8) + (1 * v_iv (n_v (vs ++ [Value.int x]) 3) + 0) ≤ 0
      simp only [e_3, e_8]
      exact vc_Mo_item_at_k2_0_1 (v_iv (n_v vs 3)) (w_fi ws (n_v vs 0) 5) (v_iv (Value.int x)) k3 ex2
  have nf2 : fc_1 PRD (20, [0, 0], [30, 0, 1, 1, 15, -1, 1, 11]) ws (vs ++ [Value.int x]) := by
    refine ⟨nf_inA hl rfl, sgq_1397 ?_⟩
    · show 1 * w_fi ws (n_v (vs ++ [Value.int x]) 0) 15 + ((-1) * w_fi ws (n_v (vs ++ [Value.int x]) 0) 11 + 0) ≤ 0
      rw [e_0]
      exact vc_Mo_item_at_k2_0_2 (w_fi ws (n_v vs 0) 15) (w_fi ws (n_v vs 0) 11) (w_fi ws (n_v vs 0) 5) f1 kz_0_11 kz_0_15
  have nf3 : fc_1 PRD (20, [0], [50, 3, 0, 12, 11, 15, 2, 21, 4, 7, 1, 3, 2, 0, 12, 0, 1, 0, 3, 2, 0, 11, 4, 3, 2, 0, 15, 0, 8, 3, 7, 1, 3, 2, 0, 12, 0, 0, 0, 7, 4, 3, 2, 0, 15, 0, 1, 2, 0, 11]) ws (vs ++ [Value.int x]) := by
    refine ⟨nf_inA hl rfl, sgq_1398 ?_⟩
    · show ((w_fi ws (n_v (vs ++ [Value.int x]) 0) 12 = 1) → (w_fi ws (n_v (vs ++ [Value.int x]) 0) 11 ≤ (w_fi ws (n_v (vs ++ [Value.int x]) 0) 15 + 8))) ∧ ((w_fi ws (n_v (vs ++ [Value.int x]) 0) 12 = 0) ∨ ((w_fi ws (n_v (vs ++ [Value.int x]) 0) 15 + 1) ≤ w_fi ws (n_v (vs ++ [Value.int x]) 0) 11))
      rw [e_0]
      exact vc_Mo_item_at_k2_0_3 (w_fi ws (n_v vs 0) 15) (w_fi ws (n_v vs 0) 11) (w_fi ws (n_v vs 0) 12) (w_fi ws (n_v vs 0) 5) f2 kz_0_11 kz_0_12 kz_0_15
  have nf4 : fc_1 PRD (20, [8, 0], [30, 0, 1, 0, 0, -1, 1, 11]) ws (vs ++ [Value.int x]) := by
    refine ⟨nf_inA hl rfl, sgq_1395 ?_⟩
    · show 1 * v_iv (n_v (vs ++ [Value.int x]) 8) + ((-1) * w_fi ws (n_v (vs ++ [Value.int x]) 0) 11 + 0) ≤ 0
      simp only [e_0, e_8]
      exact vc_Mo_item_at_k2_0_4 (v_iv (n_v vs 3)) (w_fi ws (n_v vs 0) 11) (w_fi ws (n_v vs 0) 5) (v_iv (Value.int x)) k3 f3 kz_0_11 ex2
  have nf5 : fc_1 PRD (20, [1, 0], [50, 1, 1, 1005, 1002, 0, 6, 4, 2, 1, 0, 0, 1, 3, 1, 2, 4, 3, 2, 1, 5, 0, 2]) ws (vs ++ [Value.int x]) := by
    refine ⟨nf_inA hl rfl, sgq_981 ?_⟩
    · show (v_iv (n_v (vs ++ [Value.int x]) 1) + 1) ≤ w_ei ws (w_ar ws (n_v (vs ++ [Value.int x]) 0) 2) ((w_fi ws (n_v (vs ++ [Value.int x]) 0) 5 + 2))
      simp only [e_0, e_1]
      exact vc_Mo_item_at_k2_0_5 (v_iv (n_v vs 1)) (w_ei ws (w_ar ws (n_v vs 0) 2)) (w_fi ws (n_v vs 0) 5) k1 f4
  have nf6 : fc_1 PRD (20, [0], [60, 1, 3, 199, 5, 2, 3, 4]) ws (vs ++ [Value.int x]) := by
    refine ⟨nf_inA hl rfl, sgq_952 ?_⟩
    · show RWS (w_fi ws (n_v (vs ++ [Value.int x]) 0) 5) (w_ei ws (w_ar ws (n_v (vs ++ [Value.int x]) 0) 2)) (w_ei ws (w_ar ws (n_v (vs ++ [Value.int x]) 0) 3)) (w_ei ws (w_ar ws (n_v (vs ++ [Value.int x]) 0) 4))
      rw [e_0]
      exact vc_Mo_item_at_k2_0_6 (w_ei ws (w_ar ws (n_v vs 0) 2)) (w_fi ws (n_v vs 0) 5) (w_ei ws (w_ar ws (n_v vs 0) 3)) (w_ei ws (w_ar ws (n_v vs 0) 4)) f5
  exact ⟨(fun _ h => (by cases h)), [Value.int x], ag_one hx, List.forall_mem_cons.mpr ⟨⟨show (23 : Nat) < 100 from by decide, nf0⟩, List.forall_mem_cons.mpr ⟨⟨show (23 : Nat) < 100 from by decide, nf1⟩, List.forall_mem_cons.mpr ⟨⟨show (20 : Nat) < 100 from by decide, nf2⟩, List.forall_mem_cons.mpr ⟨⟨show (20 : Nat) < 100 from by decide, nf3⟩, List.forall_mem_cons.mpr ⟨⟨show (20 : Nat) < 100 from by decide, nf4⟩, List.forall_mem_cons.mpr ⟨⟨show (20 : Nat) < 100 from by decide, nf5⟩, List.forall_mem_cons.mpr ⟨⟨show (20 : Nat) < 100 from by decide, nf6⟩, (fun _ h => (by cases h))⟩⟩⟩⟩⟩⟩⟩, (fun _ h => (by cases h))⟩
set_option maxHeartbeats 4000000 in
theorem vc_Mo_item_at_k2_1_0 (x3 : Int) (x8 : Int) (pos_0 : Int) (r_0 : Int) (k3 : 0 ≤ x3 ∧ x3 ≤ 2000) (k8 : 0 ≤ x8 ∧ x8 ≤ 2000) (f0 : 1 * x8 + ((-1) * x3 + 0) ≤ 0) (f1 : (-1) * x8 + (1 * x3 + 0) ≤ 0) (f4 : 1 * x8 + ((-1) * pos_0 + 0) ≤ 0) (kz_0_11 : 0 ≤ pos_0 ∧ pos_0 ≤ 2000) : 1 * x3 + ((-1) * pos_0 + 0) ≤ 0 := by
  first
    | omega
    | (have q1 := (hE_0_2_1 (r_0 + 2) (by omega)).2 (by omega)
       have q2 := (hE_0_2_2 (r_0 + 2) (by omega)).2 (by omega)
       omega)
    | (have q1 := (hE_0_2_1 (r_0 + 1) (by omega)).2 (by omega)
       have q2 := (hE_0_2_2 (r_0 + 1) (by omega)).2 (by omega)
       omega)
    | (have q1 := (hE_0_2_1 (r_0 + 2) (by omega)).2 (by omega)
       omega)
    | (have q1 := (hE_0_2_1 (r_0 + 1) (by omega)).2 (by omega)
       omega)
    | (have q1 := (hE_0_2_1 (r_0 + 2) (by omega)).2 (by omega)
       have q2 := (hE_0_2_2 (r_0 + 2) (by omega)).2 (by omega)
       have q3 := (hE_0_2_3 (r_0 + 2) (by omega)).1 (by omega)
       omega)
    | (have q1 := (hE_0_2_1 (r_0 + 2) (by omega)).2 (by omega)
       have q2 := (hE_0_2_2 (r_0 + 2) (by omega)).2 (by omega)
       have q3 := (hE_0_2_3 (r_0 + 2) (by omega)).2 (by omega)
       omega)
set_option maxHeartbeats 4000000 in
theorem vc_Mo_item_at_k2_1_1 (x3 : Int) (x8 : Int) (pos_0 : Int) (fault_0 : Int) (r_0 : Int) (k3 : 0 ≤ x3 ∧ x3 ≤ 2000) (k8 : 0 ≤ x8 ∧ x8 ≤ 2000) (f0 : 1 * x8 + ((-1) * x3 + 0) ≤ 0) (f1 : (-1) * x8 + (1 * x3 + 0) ≤ 0) (f4 : 1 * x8 + ((-1) * pos_0 + 0) ≤ 0) (f5 : (1 ≤ fault_0) ∨ ((x8 + 1) ≤ pos_0)) (kz_0_8 : 0 ≤ fault_0 ∧ fault_0 ≤ 5) (kz_0_11 : 0 ≤ pos_0 ∧ pos_0 ≤ 2000) : (1 ≤ fault_0) ∨ ((x3 + 1) ≤ pos_0) := by
  first
    | omega
    | (have q1 := (hE_0_2_1 (r_0 + 2) (by omega)).2 (by omega)
       have q2 := (hE_0_2_2 (r_0 + 2) (by omega)).2 (by omega)
       omega)
    | (have q1 := (hE_0_2_1 (r_0 + 1) (by omega)).2 (by omega)
       have q2 := (hE_0_2_2 (r_0 + 1) (by omega)).2 (by omega)
       omega)
    | (have q1 := (hE_0_2_1 (r_0 + 2) (by omega)).2 (by omega)
       omega)
    | (have q1 := (hE_0_2_1 (r_0 + 1) (by omega)).2 (by omega)
       omega)
    | (have q1 := (hE_0_2_1 (r_0 + 2) (by omega)).2 (by omega)
       have q2 := (hE_0_2_2 (r_0 + 2) (by omega)).2 (by omega)
       have q3 := (hE_0_2_3 (r_0 + 2) (by omega)).1 (by omega)
       omega)
    | (have q1 := (hE_0_2_1 (r_0 + 2) (by omega)).2 (by omega)
       have q2 := (hE_0_2_2 (r_0 + 2) (by omega)).2 (by omega)
       have q3 := (hE_0_2_3 (r_0 + 2) (by omega)).2 (by omega)
       omega)
def o_Mo_item_at_k2_1 : or_T := (94, 9, [(0, (2, 0, 0, [165])), (3, (0, 0, 2000, [])), (8, (0, 0, 2000, []))], [(23, [8, 3], [0, 1, -1]), (23, [8, 3], [0, -1, 1]), (20, [8, 0], [30, 0, 1, 0, 0, -1, 1, 11]), (20, [0, 8], [50, 2, 0, 8, 11, 3, 7, 0, 2, 0, 1, 2, 0, 8, 0, 6, 4, 2, 1, 1, 0, 1, 2, 0, 11])], [], [], [(20, [3, 0], [30, 0, 1, 0, 0, -1, 1, 11]), (20, [0, 3], [50, 2, 0, 8, 11, 3, 7, 0, 2, 0, 1, 2, 0, 8, 0, 6, 4, 2, 1, 1, 0, 1, 2, 0, 11])], [], [])
theorem oo_Mo_item_at_k2_1 {kA : Nat → ClassId} : or_ok PRD kA GG o_Mo_item_at_k2_1 := by
  refine or_mk fun A ta ws vs hD hth hl => ?_
  intro t0 r0 t3 k3 t8 k8 f0 f1 f4 f5
  have kz_0_8 := fdq_14 hD hth r0
  have kz_0_11 := fdq_273 hD hth r0
  have nf0 : fc_1 PRD (20, [3, 0], [30, 0, 1, 0, 0, -1, 1, 11]) ws (vs) := ⟨nf_in hl rfl, sgq_1395 (vc_Mo_item_at_k2_1_0 (v_iv (n_v vs 3)) (v_iv (n_v vs 8)) (w_fi ws (n_v vs 0) 11) (w_fi ws (n_v vs 0) 5) k3 k8 (shm_7 f0) (shm_22 f1) (shm_1395 f4) kz_0_11)⟩
  have nf1 : fc_1 PRD (20, [0, 3], [50, 2, 0, 8, 11, 3, 7, 0, 2, 0, 1, 2, 0, 8, 0, 6, 4, 2, 1, 1, 0, 1, 2, 0, 11]) ws (vs) := ⟨nf_in hl rfl, sgq_1659 (vc_Mo_item_at_k2_1_1 (v_iv (n_v vs 3)) (v_iv (n_v vs 8)) (w_fi ws (n_v vs 0) 11) (w_fi ws (n_v vs 0) 8) (w_fi ws (n_v vs 0) 5) k3 k8 (shm_7 f0) (shm_22 f1) (shm_1395 f4) (shm_1659 f5) kz_0_8 kz_0_11)⟩
  refine ⟨(fun _ h => (by cases h)), [], trivial, ?_, (fun _ h => (by cases h))⟩
  rw [List.append_nil]
  exact List.forall_mem_cons.mpr ⟨⟨show (20 : Nat) < 100 from by decide, nf0⟩, List.forall_mem_cons.mpr ⟨⟨show (20 : Nat) < 100 from by decide, nf1⟩, (fun _ h => (by cases h))⟩⟩
set_option maxHeartbeats 4000000 in
theorem vc_Mo_item_at_k2_2_0 (x3 : Int) (r_0 : Int) (gx : Int) (k3 : 0 ≤ x3 ∧ x3 ≤ 2000) (ex2 : gx = x3) : 1 * gx + ((-1) * x3 + 0) ≤ 0 := by
  first
    | omega
    | (have q1 := (hE_0_2_1 (r_0 + 2) (by omega)).2 (by omega)
       have q2 := (hE_0_2_2 (r_0 + 2) (by omega)).2 (by omega)
       omega)
    | (have q1 := (hE_0_2_1 (r_0 + 1) (by omega)).2 (by omega)
       have q2 := (hE_0_2_2 (r_0 + 1) (by omega)).2 (by omega)
       omega)
    | (have q1 := (hE_0_2_1 (r_0 + 2) (by omega)).2 (by omega)
       omega)
    | (have q1 := (hE_0_2_1 (r_0 + 1) (by omega)).2 (by omega)
       omega)
    | (have q1 := (hE_0_2_1 (r_0 + 2) (by omega)).2 (by omega)
       have q2 := (hE_0_2_2 (r_0 + 2) (by omega)).2 (by omega)
       have q3 := (hE_0_2_3 (r_0 + 2) (by omega)).1 (by omega)
       omega)
    | (have q1 := (hE_0_2_1 (r_0 + 2) (by omega)).2 (by omega)
       have q2 := (hE_0_2_2 (r_0 + 2) (by omega)).2 (by omega)
       have q3 := (hE_0_2_3 (r_0 + 2) (by omega)).2 (by omega)
       omega)
set_option maxHeartbeats 4000000 in
theorem vc_Mo_item_at_k2_2_1 (x3 : Int) (r_0 : Int) (gx : Int) (k3 : 0 ≤ x3 ∧ x3 ≤ 2000) (ex2 : gx = x3) : (-1) * gx + (1 * x3 + 0) ≤ 0 := by
  first
    | omega
    | (have q1 := (hE_0_2_1 (r_0 + 2) (by omega)).2 (by omega)
       have q2 := (hE_0_2_2 (r_0 + 2) (by omega)).2 (by omega)
       omega)
    | (have q1 := (hE_0_2_1 (r_0 + 1) (by omega)).2 (by omega)
       have q2 := (hE_0_2_2 (r_0 + 1) (by omega)).2 (by omega)
       omega)
    | (have q1 := (hE_0_2_1 (r_0 + 2) (by omega)).2 (by omega)
       omega)
    | (have q1 := (hE_0_2_1 (r_0 + 1) (by omega)).2 (by omega)
       omega)
    | (have q1 := (hE_0_2_1 (r_0 + 2) (by omega)).2 (by omega)
       have q2 := (hE_0_2_2 (r_0 + 2) (by omega)).2 (by omega)
       have q3 := (hE_0_2_3 (r_0 + 2) (by omega)).1 (by omega)
       omega)
    | (have q1 := (hE_0_2_1 (r_0 + 2) (by omega)).2 (by omega)
       have q2 := (hE_0_2_2 (r_0 + 2) (by omega)).2 (by omega)
       have q3 := (hE_0_2_3 (r_0 + 2) (by omega)).2 (by omega)
       omega)
set_option maxHeartbeats 4000000 in
theorem vc_Mo_item_at_k2_2_2 (from_0 : Int) (pos_0 : Int) (r_0 : Int) (f1 : 1 * from_0 + ((-1) * pos_0 + 0) ≤ 0) (kz_0_11 : 0 ≤ pos_0 ∧ pos_0 ≤ 2000) (kz_0_15 : 0 ≤ from_0 ∧ from_0 ≤ 2000) : 1 * from_0 + ((-1) * pos_0 + 0) ≤ 0 := by
  first
    | omega
    | (have q1 := (hE_0_2_1 (r_0 + 2) (by omega)).2 (by omega)
       have q2 := (hE_0_2_2 (r_0 + 2) (by omega)).2 (by omega)
       omega)
    | (have q1 := (hE_0_2_1 (r_0 + 1) (by omega)).2 (by omega)
       have q2 := (hE_0_2_2 (r_0 + 1) (by omega)).2 (by omega)
       omega)
    | (have q1 := (hE_0_2_1 (r_0 + 2) (by omega)).2 (by omega)
       omega)
    | (have q1 := (hE_0_2_1 (r_0 + 1) (by omega)).2 (by omega)
       omega)
    | (have q1 := (hE_0_2_1 (r_0 + 2) (by omega)).2 (by omega)
       have q2 := (hE_0_2_2 (r_0 + 2) (by omega)).2 (by omega)
       have q3 := (hE_0_2_3 (r_0 + 2) (by omega)).1 (by omega)
       omega)
    | (have q1 := (hE_0_2_1 (r_0 + 2) (by omega)).2 (by omega)
       have q2 := (hE_0_2_2 (r_0 + 2) (by omega)).2 (by omega)
       have q3 := (hE_0_2_3 (r_0 + 2) (by omega)).2 (by omega)
       omega)
set_option maxHeartbeats 4000000 in
theorem vc_Mo_item_at_k2_2_3 (from_0 : Int) (pos_0 : Int) (kind_0 : Int) (r_0 : Int) (f2 : ((kind_0 = 1) → (pos_0 ≤ (from_0 + 8))) ∧ ((kind_0 = 0) ∨ ((from_0 + 1) ≤ pos_0))) (kz_0_11 : 0 ≤ pos_0 ∧ pos_0 ≤ 2000) (kz_0_12 : 0 ≤ kind_0 ∧ kind_0 ≤ 4) (kz_0_15 : 0 ≤ from_0 ∧ from_0 ≤ 2000) : ((kind_0 = 1) → (pos_0 ≤ (from_0 + 8))) ∧ ((kind_0 = 0) ∨ ((from_0 + 1) ≤ pos_0)) := by
  first
    | omega
    | (have q1 := (hE_0_2_1 (r_0 + 2) (by omega)).2 (by omega)
       have q2 := (hE_0_2_2 (r_0 + 2) (by omega)).2 (by omega)
       omega)
    | (have q1 := (hE_0_2_1 (r_0 + 1) (by omega)).2 (by omega)
       have q2 := (hE_0_2_2 (r_0 + 1) (by omega)).2 (by omega)
       omega)
    | (have q1 := (hE_0_2_1 (r_0 + 2) (by omega)).2 (by omega)
       omega)
    | (have q1 := (hE_0_2_1 (r_0 + 1) (by omega)).2 (by omega)
       omega)
    | (have q1 := (hE_0_2_1 (r_0 + 2) (by omega)).2 (by omega)
       have q2 := (hE_0_2_2 (r_0 + 2) (by omega)).2 (by omega)
       have q3 := (hE_0_2_3 (r_0 + 2) (by omega)).1 (by omega)
       omega)
    | (have q1 := (hE_0_2_1 (r_0 + 2) (by omega)).2 (by omega)
       have q2 := (hE_0_2_2 (r_0 + 2) (by omega)).2 (by omega)
       have q3 := (hE_0_2_3 (r_0 + 2) (by omega)).2 (by omega)
       omega)
set_option maxHeartbeats 4000000 in
theorem vc_Mo_item_at_k2_2_4 (x3 : Int) (pos_0 : Int) (r_0 : Int) (gx : Int) (k3 : 0 ≤ x3 ∧ x3 ≤ 2000) (f3 : 1 * x3 + ((-1) * pos_0 + 0) ≤ 0) (kz_0_11 : 0 ≤ pos_0 ∧ pos_0 ≤ 2000) (ex2 : gx = x3) : 1 * gx + ((-1) * pos_0 + 0) ≤ 0 := by
  first
    | omega
    | (have q1 := (hE_0_2_1 (r_0 + 2) (by omega)).2 (by omega)
       have q2 := (hE_0_2_2 (r_0 + 2) (by omega)).2 (by omega)
       omega)
    | (have q1 := (hE_0_2_1 (r_0 + 1) (by omega)).2 (by omega)
       have q2 := (hE_0_2_2 (r_0 + 1) (by omega)).2 (by omega)
       omega)
    | (have q1 := (hE_0_2_1 (r_0 + 2) (by omega)).2 (by omega)
       omega)
    | (have q1 := (hE_0_2_1 (r_0 + 1) (by omega)).2 (by omega)
       omega)
    | (have q1 := (hE_0_2_1 (r_0 + 2) (by omega)).2 (by omega)
       have q2 := (hE_0_2_2 (r_0 + 2) (by omega)).2 (by omega)
       have q3 := (hE_0_2_3 (r_0 + 2) (by omega)).1 (by omega)
       omega)
    | (have q1 := (hE_0_2_1 (r_0 + 2) (by omega)).2 (by omega)
       have q2 := (hE_0_2_2 (r_0 + 2) (by omega)).2 (by omega)
       have q3 := (hE_0_2_3 (r_0 + 2) (by omega)).2 (by omega)
       omega)
set_option maxHeartbeats 4000000 in
theorem vc_Mo_item_at_k2_2_5 (x1 : Int) (all_0 : Int → Int) (r_0 : Int) (k1 : 0 ≤ x1 ∧ x1 ≤ 7) (f4 : (x1 + 1) ≤ all_0 ((r_0 + 2))) : (x1 + 1) ≤ all_0 ((r_0 + 2)) := by
  first
    | omega
    | (have q1 := (hE_0_2_1 (r_0 + 2) (by omega)).2 (by omega)
       have q2 := (hE_0_2_2 (r_0 + 2) (by omega)).2 (by omega)
       omega)
    | (have q1 := (hE_0_2_1 (r_0 + 1) (by omega)).2 (by omega)
       have q2 := (hE_0_2_2 (r_0 + 1) (by omega)).2 (by omega)
       omega)
    | (have q1 := (hE_0_2_1 (r_0 + 2) (by omega)).2 (by omega)
       omega)
    | (have q1 := (hE_0_2_1 (r_0 + 1) (by omega)).2 (by omega)
       omega)
    | (have q1 := (hE_0_2_1 (r_0 + 2) (by omega)).2 (by omega)
       have q2 := (hE_0_2_2 (r_0 + 2) (by omega)).2 (by omega)
       have q3 := (hE_0_2_3 (r_0 + 2) (by omega)).1 (by omega)
       omega)
    | (have q1 := (hE_0_2_1 (r_0 + 2) (by omega)).2 (by omega)
       have q2 := (hE_0_2_2 (r_0 + 2) (by omega)).2 (by omega)
       have q3 := (hE_0_2_3 (r_0 + 2) (by omega)).2 (by omega)
       omega)
set_option maxHeartbeats 4000000 in
theorem vc_Mo_item_at_k2_2_6 (all_0 : Int → Int) (r_0 : Int) (now_0 : Int → Int) (latest_0 : Int → Int) (f5 : RWS (r_0) (all_0) (now_0) (latest_0)) : RWS (r_0) (all_0) (now_0) (latest_0) := by
  first
    | assumption
def o_Mo_item_at_k2_2 : or_T := (83, 8, [(0, (2, 0, 0, [165])), (1, (0, 0, 7, [])), (3, (0, 0, 2000, []))], [(20, [0, 0], [30, 0, 1, 1, 15, -1, 1, 11]), (20, [0], [50, 3, 0, 12, 11, 15, 2, 21, 4, 7, 1, 3, 2, 0, 12, 0, 1, 0, 3, 2, 0, 11, 4, 3, 2, 0, 15, 0, 8, 3, 7, 1, 3, 2, 0, 12, 0, 0, 0, 7, 4, 3, 2, 0, 15, 0, 1, 2, 0, 11]), (20, [3, 0], [30, 0, 1, 0, 0, -1, 1, 11]), (20, [1, 0], [50, 1, 1, 1005, 1002, 0, 6, 4, 2, 1, 0, 0, 1, 3, 1, 2, 4, 3, 2, 1, 5, 0, 2]), (20, [0], [60, 1, 3, 199, 5, 2, 3, 4])], [], [(0, 0, 2000, [])], [(23, [8, 3], [0, 1, -1]), (23, [8, 3], [0, -1, 1]), (20, [0, 0], [30, 0, 1, 1, 15, -1, 1, 11]), (20, [0], [50, 3, 0, 12, 11, 15, 2, 21, 4, 7, 1, 3, 2, 0, 12, 0, 1, 0, 3, 2, 0, 11, 4, 3, 2, 0, 15, 0, 8, 3, 7, 1, 3, 2, 0, 12, 0, 0, 0, 7, 4, 3, 2, 0, 15, 0, 1, 2, 0, 11]), (20, [8, 0], [30, 0, 1, 0, 0, -1, 1, 11]), (20, [1, 0], [50, 1, 1, 1005, 1002, 0, 6, 4, 2, 1, 0, 0, 1, 3, 1, 2, 4, 3, 2, 1, 5, 0, 2]), (20, [0], [60, 1, 3, 199, 5, 2, 3, 4])], [], [])
theorem oo_Mo_item_at_k2_2 {kA : Nat → ClassId} : or_ok PRD kA GG o_Mo_item_at_k2_2 := by
  refine or_mk fun A ta ws vs hD hth hl => ?_
  intro t0 r0 t1 k1 t3 k3 f1 f2 f3 f4 f5
  replace f1 := shm_1397 f1
  replace f2 := shm_1398 f2
  replace f3 := shm_1395 f3
  replace f4 := shm_981 f4
  replace f5 := shm_952 f5
  have kz_0_11 := fdq_273 hD hth r0
  have kz_0_12 := fdq_186 hD hth r0
  have kz_0_15 := fdq_274 hD hth r0
  obtain ⟨x, ex, hx⟩ := iv_ex (ta := ta) (lo := 0) (hi := 2000) (z := v_iv (n_v vs 3)) (by omega) (by omega) (by omega) (by omega)
  have ex2 : v_iv (Value.int x) = v_iv (n_v vs 3) := ex
  have ex3 : 0 ≤ v_iv (Value.int x) ∧ v_iv (Value.int x) ≤ 2000 := tv_rng hx
  have e_0 : n_v (vs ++ [Value.int x]) 0 = n_v vs 0 := n_v_old (by rw [hl]; decide)
  have e_1 : n_v (vs ++ [Value.int x]) 1 = n_v vs 1 := n_v_old (by rw [hl]; decide)
  have e_3 : n_v (vs ++ [Value.int x]) 3 = n_v vs 3 := n_v_old (by rw [hl]; decide)
  have e_8 : n_v (vs ++ [Value.int x]) 8 = Value.int x := n_v_new hl
  have nf0 : fc_1 PRD (23, [8, 3], [0, 1, -1]) ws (vs ++ [Value.int x]) := by
    refine ⟨nf_inA hl rfl, sgq_7 ?_⟩
    · show 1 * v_iv (n_v (vs ++ [Value.int x]) 8) + ((-1) * v_iv (n_v (vs ++ [Value.int x]) 3) + 0) ≤ 0
      simp only [e_3, e_8]
      exact vc_Mo_item_at_k2_2_0 (v_iv (n_v vs 3)) (w_fi ws (n_v vs 0) 5) (v_iv (Value.int x)) k3 ex2
  have nf1 : fc_1 PRD (23, [8, 3], [0, -1, 1]) ws (vs ++ [Value.int x]) := by
    refine ⟨nf_inA hl rfl, sgq_22 ?_⟩
    · show (-1) * v_iv (n_v (vs ++ [Value.int x]) 8) + (1 * v_iv (n_v (vs ++ [Value.int x]) 3) + 0) ≤ 0
      simp only [e_3, e_8]
      exact vc_Mo_item_at_k2_2_1 (v_iv (n_v vs 3)) (w_fi ws (n_v vs 0) 5) (v_iv (Value.int x)) k3 ex2
  have nf2 : fc_1 PRD (20, [0, 0], [30, 0, 1, 1, 15, -1, 1, 11]) ws (vs ++ [Value.int x]) := by
    refine ⟨nf_inA hl rfl, sgq_1397 ?_⟩
    · show 1 * w_fi ws (n_v (vs ++ [Value.int x]) 0) 15 + ((-1) * w_fi ws (n_v (vs ++ [Value.int x]) 0) 11 + 0) ≤ 0
      rw [e_0]
      exact vc_Mo_item_at_k2_2_2 (w_fi ws (n_v vs 0) 15) (w_fi ws (n_v vs 0) 11) (w_fi ws (n_v vs 0) 5) f1 kz_0_11 kz_0_15
  have nf3 : fc_1 PRD (20, [0], [50, 3, 0, 12, 11, 15, 2, 21, 4, 7, 1, 3, 2, 0, 12, 0, 1, 0, 3, 2, 0, 11, 4, 3, 2, 0, 15, 0, 8, 3, 7, 1, 3, 2, 0, 12, 0, 0, 0, 7, 4, 3, 2, 0, 15, 0, 1, 2, 0, 11]) ws (vs ++ [Value.int x]) := by
    refine ⟨nf_inA hl rfl, sgq_1398 ?_⟩
    · show ((w_fi ws (n_v (vs ++ [Value.int x]) 0) 12 = 1) → (w_fi ws (n_v (vs ++ [Value.int x]) 0) 11 ≤ (w_fi ws (n_v (vs ++ [Value.int x]) 0) 15 + 8))) ∧ ((w_fi ws (n_v (vs ++ [Value.int x]) 0) 12 = 0) ∨ ((w_fi ws (n_v (vs ++ [Value.int x]) 0) 15 + 1) ≤ w_fi ws (n_v (vs ++ [Value.int x]) 0) 11))
      rw [e_0]
      exact vc_Mo_item_at_k2_2_3 (w_fi ws (n_v vs 0) 15) (w_fi ws (n_v vs 0) 11) (w_fi ws (n_v vs 0) 12) (w_fi ws (n_v vs 0) 5) f2 kz_0_11 kz_0_12 kz_0_15
  have nf4 : fc_1 PRD (20, [8, 0], [30, 0, 1, 0, 0, -1, 1, 11]) ws (vs ++ [Value.int x]) := by
    refine ⟨nf_inA hl rfl, sgq_1395 ?_⟩
    · show 1 * v_iv (n_v (vs ++ [Value.int x]) 8) + ((-1) * w_fi ws (n_v (vs ++ [Value.int x]) 0) 11 + 0) ≤ 0
      simp only [e_0, e_8]
      exact vc_Mo_item_at_k2_2_4 (v_iv (n_v vs 3)) (w_fi ws (n_v vs 0) 11) (w_fi ws (n_v vs 0) 5) (v_iv (Value.int x)) k3 f3 kz_0_11 ex2
  have nf5 : fc_1 PRD (20, [1, 0], [50, 1, 1, 1005, 1002, 0, 6, 4, 2, 1, 0, 0, 1, 3, 1, 2, 4, 3, 2, 1, 5, 0, 2]) ws (vs ++ [Value.int x]) := by
    refine ⟨nf_inA hl rfl, sgq_981 ?_⟩
    · show (v_iv (n_v (vs ++ [Value.int x]) 1) + 1) ≤ w_ei ws (w_ar ws (n_v (vs ++ [Value.int x]) 0) 2) ((w_fi ws (n_v (vs ++ [Value.int x]) 0) 5 + 2))
      simp only [e_0, e_1]
      exact vc_Mo_item_at_k2_2_5 (v_iv (n_v vs 1)) (w_ei ws (w_ar ws (n_v vs 0) 2)) (w_fi ws (n_v vs 0) 5) k1 f4
  have nf6 : fc_1 PRD (20, [0], [60, 1, 3, 199, 5, 2, 3, 4]) ws (vs ++ [Value.int x]) := by
    refine ⟨nf_inA hl rfl, sgq_952 ?_⟩
    · show RWS (w_fi ws (n_v (vs ++ [Value.int x]) 0) 5) (w_ei ws (w_ar ws (n_v (vs ++ [Value.int x]) 0) 2)) (w_ei ws (w_ar ws (n_v (vs ++ [Value.int x]) 0) 3)) (w_ei ws (w_ar ws (n_v (vs ++ [Value.int x]) 0) 4))
      rw [e_0]
      exact vc_Mo_item_at_k2_2_6 (w_ei ws (w_ar ws (n_v vs 0) 2)) (w_fi ws (n_v vs 0) 5) (w_ei ws (w_ar ws (n_v vs 0) 3)) (w_ei ws (w_ar ws (n_v vs 0) 4)) f5
  exact ⟨(fun _ h => (by cases h)), [Value.int x], ag_one hx, List.forall_mem_cons.mpr ⟨⟨show (23 : Nat) < 100 from by decide, nf0⟩, List.forall_mem_cons.mpr ⟨⟨show (23 : Nat) < 100 from by decide, nf1⟩, List.forall_mem_cons.mpr ⟨⟨show (20 : Nat) < 100 from by decide, nf2⟩, List.forall_mem_cons.mpr ⟨⟨show (20 : Nat) < 100 from by decide, nf3⟩, List.forall_mem_cons.mpr ⟨⟨show (20 : Nat) < 100 from by decide, nf4⟩, List.forall_mem_cons.mpr ⟨⟨show (20 : Nat) < 100 from by decide, nf5⟩, List.forall_mem_cons.mpr ⟨⟨show (20 : Nat) < 100 from by decide, nf6⟩, (fun _ h => (by cases h))⟩⟩⟩⟩⟩⟩⟩, (fun _ h => (by cases h))⟩
set_option maxHeartbeats 4000000 in
theorem vc_Mo_item_at_k2_3_0 (x3 : Int) (r_0 : Int) (gx : Int) (k3 : 0 ≤ x3 ∧ x3 ≤ 2000) (ex2 : gx = x3) : 1 * gx + ((-1) * x3 + 0) ≤ 0 := by
  first
    | omega
    | (have q1 := (hE_0_2_1 (r_0 + 2) (by omega)).2 (by omega)
       have q2 := (hE_0_2_2 (r_0 + 2) (by omega)).2 (by omega)
       omega)
    | (have q1 := (hE_0_2_1 (r_0 + 1) (by omega)).2 (by omega)
       have q2 := (hE_0_2_2 (r_0 + 1) (by omega)).2 (by omega)
       omega)
    | (have q1 := (hE_0_2_1 (r_0 + 2) (by omega)).2 (by omega)
       omega)
    | (have q1 := (hE_0_2_1 (r_0 + 1) (by omega)).2 (by omega)
       omega)
    | (have q1 := (hE_0_2_1 (r_0 + 2) (by omega)).2 (by omega)
       have q2 := (hE_0_2_2 (r_0 + 2) (by omega)).2 (by omega)
       have q3 := (hE_0_2_3 (r_0 + 2) (by omega)).1 (by omega)
       omega)
    | (have q1 := (hE_0_2_1 (r_0 + 2) (by omega)).2 (by omega)
       have q2 := (hE_0_2_2 (r_0 + 2) (by omega)).2 (by omega)
       have q3 := (hE_0_2_3 (r_0 + 2) (by omega)).2 (by omega)
       omega)
set_option maxHeartbeats 4000000 in
theorem vc_Mo_item_at_k2_3_1 (x3 : Int) (r_0 : Int) (gx : Int) (k3 : 0 ≤ x3 ∧ x3 ≤ 2000) (ex2 : gx = x3) : (-1) * gx + (1 * x3 + 0) ≤ 0 := by
  first
    | omega
    | (have q1 := (hE_0_2_1 (r_0 + 2) (by omega)).2 (by omega)
       have q2 := (hE_0_2_2 (r_0 + 2) (by omega)).2 (by omega)
       omega)
    | (have q1 := (hE_0_2_1 (r_0 + 1) (by omega)).2 (by omega)
       have q2 := (hE_0_2_2 (r_0 + 1) (by omega)).2 (by omega)
       omega)
    | (have q1 := (hE_0_2_1 (r_0 + 2) (by omega)).2 (by omega)
       omega)
    | (have q1 := (hE_0_2_1 (r_0 + 1) (by omega)).2 (by omega)
       omega)
    | (have q1 := (hE_0_2_1 (r_0 + 2) (by omega)).2 (by omega)
       have q2 := (hE_0_2_2 (r_0 + 2) (by omega)).2 (by omega)
       have q3 := (hE_0_2_3 (r_0 + 2) (by omega)).1 (by omega)
       omega)
    | (have q1 := (hE_0_2_1 (r_0 + 2) (by omega)).2 (by omega)
       have q2 := (hE_0_2_2 (r_0 + 2) (by omega)).2 (by omega)
       have q3 := (hE_0_2_3 (r_0 + 2) (by omega)).2 (by omega)
       omega)
set_option maxHeartbeats 4000000 in
theorem vc_Mo_item_at_k2_3_2 (x3 : Int) (pos_0 : Int) (r_0 : Int) (gx : Int) (k3 : 0 ≤ x3 ∧ x3 ≤ 2000) (f3 : 1 * x3 + ((-1) * pos_0 + 0) ≤ 0) (kz_0_11 : 0 ≤ pos_0 ∧ pos_0 ≤ 2000) (ex2 : gx = x3) : 1 * gx + ((-1) * pos_0 + 0) ≤ 0 := by
  first
    | omega
    | (have q1 := (hE_0_2_1 (r_0 + 2) (by omega)).2 (by omega)
       have q2 := (hE_0_2_2 (r_0 + 2) (by omega)).2 (by omega)
       omega)
    | (have q1 := (hE_0_2_1 (r_0 + 1) (by omega)).2 (by omega)
       have q2 := (hE_0_2_2 (r_0 + 1) (by omega)).2 (by omega)
       omega)
    | (have q1 := (hE_0_2_1 (r_0 + 2) (by omega)).2 (by omega)
       omega)
    | (have q1 := (hE_0_2_1 (r_0 + 1) (by omega)).2 (by omega)
       omega)
    | (have q1 := (hE_0_2_1 (r_0 + 2) (by omega)).2 (by omega)
       have q2 := (hE_0_2_2 (r_0 + 2) (by omega)).2 (by omega)
       have q3 := (hE_0_2_3 (r_0 + 2) (by omega)).1 (by omega)
       omega)
    | (have q1 := (hE_0_2_1 (r_0 + 2) (by omega)).2 (by omega)
       have q2 := (hE_0_2_2 (r_0 + 2) (by omega)).2 (by omega)
       have q3 := (hE_0_2_3 (r_0 + 2) (by omega)).2 (by omega)
       omega)
def o_Mo_item_at_k2_3 : or_T := (11, 6, [(0, (2, 0, 0, [165])), (3, (0, 0, 2000, []))], [(20, [3, 0], [30, 0, 1, 0, 0, -1, 1, 11])], [], [(0, 0, 2000, [])], [(23, [6, 3], [0, 1, -1]), (23, [6, 3], [0, -1, 1]), (20, [6, 0], [30, 0, 1, 0, 0, -1, 1, 11])], [], [])
theorem oo_Mo_item_at_k2_3 {kA : Nat → ClassId} : or_ok PRD kA GG o_Mo_item_at_k2_3 := by
  refine or_mk fun A ta ws vs hD hth hl => ?_
  intro t0 r0 t3 k3 f3
  replace f3 := shm_1395 f3
  have kz_0_11 := fdq_273 hD hth r0
  obtain ⟨x, ex, hx⟩ := iv_ex (ta := ta) (lo := 0) (hi := 2000) (z := v_iv (n_v vs 3)) (by omega) (by omega) (by omega) (by omega)
  have ex2 : v_iv (Value.int x) = v_iv (n_v vs 3) := ex
  have ex3 : 0 ≤ v_iv (Value.int x) ∧ v_iv (Value.int x) ≤ 2000 := tv_rng hx
  have e_0 : n_v (vs ++ [Value.int x]) 0 = n_v vs 0 := n_v_old (by rw [hl]; decide)
  have e_3 : n_v (vs ++ [Value.int x]) 3 = n_v vs 3 := n_v_old (by rw [hl]; decide)
  have e_6 : n_v (vs ++ [Value.int x]) 6 = Value.int x := n_v_new hl
  have nf0 : fc_1 PRD (23, [6, 3], [0, 1, -1]) ws (vs ++ [Value.int x]) := by
    refine ⟨nf_inA hl rfl, sgq_7 ?_⟩
    · show 1 * v_iv (n_v (vs ++ [Value.int x]) 6) + ((-1) * v_iv (n_v (vs ++ [Value.int x]) 3) + 0) ≤ 0
      simp only [e_3, e_6]
      exact vc_Mo_item_at_k2_3_0 (v_iv (n_v vs 3)) (w_fi ws (n_v vs 0) 5) (v_iv (Value.int x)) k3 ex2
  have nf1 : fc_1 PRD (23, [6, 3], [0, -1, 1]) ws (vs ++ [Value.int x]) := by
    refine ⟨nf_inA hl rfl, sgq_22 ?_⟩
    · show (-1) * v_iv (n_v (vs ++ [Value.int x]) 6) + (1 * v_iv (n_v (vs ++ [Value.int x]) 3) + 0) ≤ 0
      simp only [e_3, e_6]
      exact vc_Mo_item_at_k2_3_1 (v_iv (n_v vs 3)) (w_fi ws (n_v vs 0) 5) (v_iv (Value.int x)) k3 ex2
  have nf2 : fc_1 PRD (20, [6, 0], [30, 0, 1, 0, 0, -1, 1, 11]) ws (vs ++ [Value.int x]) := by
    refine ⟨nf_inA hl rfl, sgq_1395 ?_⟩
    · show 1 * v_iv (n_v (vs ++ [Value.int x]) 6) + ((-1) * w_fi ws (n_v (vs ++ [Value.int x]) 0) 11 + 0) ≤ 0
      simp only [e_0, e_6]
      exact vc_Mo_item_at_k2_3_2 (v_iv (n_v vs 3)) (w_fi ws (n_v vs 0) 11) (w_fi ws (n_v vs 0) 5) (v_iv (Value.int x)) k3 f3 kz_0_11 ex2
  exact ⟨(fun _ h => (by cases h)), [Value.int x], ag_one hx, List.forall_mem_cons.mpr ⟨⟨show (23 : Nat) < 100 from by decide, nf0⟩, List.forall_mem_cons.mpr ⟨⟨show (23 : Nat) < 100 from by decide, nf1⟩, List.forall_mem_cons.mpr ⟨⟨show (20 : Nat) < 100 from by decide, nf2⟩, (fun _ h => (by cases h))⟩⟩⟩, (fun _ h => (by cases h))⟩
set_option maxHeartbeats 4000000 in
theorem vc_Mo_item_at_k2_4_0 (x3 : Int) (x6 : Int) (r_0 : Int) (gx : Int) (k3 : 0 ≤ x3 ∧ x3 ≤ 2000) (k6 : 0 ≤ x6 ∧ x6 ≤ 2000) (f0 : 1 * x6 + ((-1) * x3 + 0) ≤ 0) (f1 : (-1) * x6 + (1 * x3 + 0) ≤ 0) (ex2 : gx = x3) : 1 * gx + ((-1) * x3 + 0) ≤ 0 := by
  first
    | omega
    | (have q1 := (hE_0_2_1 (r_0 + 2) (by omega)).2 (by omega)
       have q2 := (hE_0_2_2 (r_0 + 2) (by omega)).2 (by omega)
       omega)
    | (have q1 := (hE_0_2_1 (r_0 + 1) (by omega)).2 (by omega)
       have q2 := (hE_0_2_2 (r_0 + 1) (by omega)).2 (by omega)
       omega)
    | (have q1 := (hE_0_2_1 (r_0 + 2) (by omega)).2 (by omega)
       omega)
    | (have q1 := (hE_0_2_1 (r_0 + 1) (by omega)).2 (by omega)
       omega)
    | (have q1 := (hE_0_2_1 (r_0 + 2) (by omega)).2 (by omega)
       have q2 := (hE_0_2_2 (r_0 + 2) (by omega)).2 (by omega)
       have q3 := (hE_0_2_3 (r_0 + 2) (by omega)).1 (by omega)
       omega)
    | (have q1 := (hE_0_2_1 (r_0 + 2) (by omega)).2 (by omega)
       have q2 := (hE_0_2_2 (r_0 + 2) (by omega)).2 (by omega)
       have q3 := (hE_0_2_3 (r_0 + 2) (by omega)).2 (by omega)
       omega)
set_option maxHeartbeats 4000000 in
theorem vc_Mo_item_at_k2_4_1 (x3 : Int) (x6 : Int) (r_0 : Int) (gx : Int) (k3 : 0 ≤ x3 ∧ x3 ≤ 2000) (k6 : 0 ≤ x6 ∧ x6 ≤ 2000) (f0 : 1 * x6 + ((-1) * x3 + 0) ≤ 0) (f1 : (-1) * x6 + (1 * x3 + 0) ≤ 0) (ex2 : gx = x3) : (-1) * gx + (1 * x3 + 0) ≤ 0 := by
  first
    | omega
    | (have q1 := (hE_0_2_1 (r_0 + 2) (by omega)).2 (by omega)
       have q2 := (hE_0_2_2 (r_0 + 2) (by omega)).2 (by omega)
       omega)
    | (have q1 := (hE_0_2_1 (r_0 + 1) (by omega)).2 (by omega)
       have q2 := (hE_0_2_2 (r_0 + 1) (by omega)).2 (by omega)
       omega)
    | (have q1 := (hE_0_2_1 (r_0 + 2) (by omega)).2 (by omega)
       omega)
    | (have q1 := (hE_0_2_1 (r_0 + 1) (by omega)).2 (by omega)
       omega)
    | (have q1 := (hE_0_2_1 (r_0 + 2) (by omega)).2 (by omega)
       have q2 := (hE_0_2_2 (r_0 + 2) (by omega)).2 (by omega)
       have q3 := (hE_0_2_3 (r_0 + 2) (by omega)).1 (by omega)
       omega)
    | (have q1 := (hE_0_2_1 (r_0 + 2) (by omega)).2 (by omega)
       have q2 := (hE_0_2_2 (r_0 + 2) (by omega)).2 (by omega)
       have q3 := (hE_0_2_3 (r_0 + 2) (by omega)).2 (by omega)
       omega)
set_option maxHeartbeats 4000000 in
theorem vc_Mo_item_at_k2_4_2 (r_0 : Int) (from_0 : Int) (pos_0 : Int) (f4 : 1 * from_0 + ((-1) * pos_0 + 0) ≤ 0) (kz_0_11 : 0 ≤ pos_0 ∧ pos_0 ≤ 2000) (kz_0_15 : 0 ≤ from_0 ∧ from_0 ≤ 2000) : 1 * from_0 + ((-1) * pos_0 + 0) ≤ 0 := by
  first
    | omega
    | (have q1 := (hE_0_2_1 (r_0 + 2) (by omega)).2 (by omega)
       have q2 := (hE_0_2_2 (r_0 + 2) (by omega)).2 (by omega)
       omega)
    | (have q1 := (hE_0_2_1 (r_0 + 1) (by omega)).2 (by omega)
       have q2 := (hE_0_2_2 (r_0 + 1) (by omega)).2 (by omega)
       omega)
    | (have q1 := (hE_0_2_1 (r_0 + 2) (by omega)).2 (by omega)
       omega)
    | (have q1 := (hE_0_2_1 (r_0 + 1) (by omega)).2 (by omega)
       omega)
    | (have q1 := (hE_0_2_1 (r_0 + 2) (by omega)).2 (by omega)
       have q2 := (hE_0_2_2 (r_0 + 2) (by omega)).2 (by omega)
       have q3 := (hE_0_2_3 (r_0 + 2) (by omega)).1 (by omega)
       omega)
    | (have q1 := (hE_0_2_1 (r_0 + 2) (by omega)).2 (by omega)
       have q2 := (hE_0_2_2 (r_0 + 2) (by omega)).2 (by omega)
       have q3 := (hE_0_2_3 (r_0 + 2) (by omega)).2 (by omega)
       omega)
set_option maxHeartbeats 4000000 in
theorem vc_Mo_item_at_k2_4_3 (r_0 : Int) (from_0 : Int) (pos_0 : Int) (kind_0 : Int) (f5 : ((kind_0 = 1) → (pos_0 ≤ (from_0 + 8))) ∧ ((kind_0 = 0) ∨ ((from_0 + 1) ≤ pos_0))) (kz_0_11 : 0 ≤ pos_0 ∧ pos_0 ≤ 2000) (kz_0_12 : 0 ≤ kind_0 ∧ kind_0 ≤ 4) (kz_0_15 : 0 ≤ from_0 ∧ from_0 ≤ 2000) : ((kind_0 = 1) → (pos_0 ≤ (from_0 + 8))) ∧ ((kind_0 = 0) ∨ ((from_0 + 1) ≤ pos_0)) := by
  first
    | omega
    | (have q1 := (hE_0_2_1 (r_0 + 2) (by omega)).2 (by omega)
       have q2 := (hE_0_2_2 (r_0 + 2) (by omega)).2 (by omega)
       omega)
    | (have q1 := (hE_0_2_1 (r_0 + 1) (by omega)).2 (by omega)
       have q2 := (hE_0_2_2 (r_0 + 1) (by omega)).2 (by omega)
       omega)
    | (have q1 := (hE_0_2_1 (r_0 + 2) (by omega)).2 (by omega)
       omega)
    | (have q1 := (hE_0_2_1 (r_0 + 1) (by omega)).2 (by omega)
       omega)
    | (have q1 := (hE_0_2_1 (r_0 + 2) (by omega)).2 (by omega)
       have q2 := (hE_0_2_2 (r_0 + 2) (by omega)).2 (by omega)
       have q3 := (hE_0_2_3 (r_0 + 2) (by omega)).1 (by omega)
       omega)
    | (have q1 := (hE_0_2_1 (r_0 + 2) (by omega)).2 (by omega)
       have q2 := (hE_0_2_2 (r_0 + 2) (by omega)).2 (by omega)
       have q3 := (hE_0_2_3 (r_0 + 2) (by omega)).2 (by omega)
       omega)
set_option maxHeartbeats 4000000 in
theorem vc_Mo_item_at_k2_4_4 (x3 : Int) (x6 : Int) (r_0 : Int) (from_0 : Int) (pos_0 : Int) (gx : Int) (gy : Int) (k3 : 0 ≤ x3 ∧ x3 ≤ 2000) (k6 : 0 ≤ x6 ∧ x6 ≤ 2000) (f0 : 1 * x6 + ((-1) * x3 + 0) ≤ 0) (f1 : (-1) * x6 + (1 * x3 + 0) ≤ 0) (f4 : 1 * from_0 + ((-1) * pos_0 + 0) ≤ 0) (f6 : 1 * x6 + ((-1) * from_0 + 0) ≤ 0) (kz_0_11 : 0 ≤ pos_0 ∧ pos_0 ≤ 2000) (kz_0_15 : 0 ≤ from_0 ∧ from_0 ≤ 2000) (ex2 : gx = x3) (ey2 : gy = from_0) : 1 * gx + ((-1) * pos_0 + 0) ≤ 0 := by
  first
    | omega
    | (have q1 := (hE_0_2_1 (r_0 + 2) (by omega)).2 (by omega)
       have q2 := (hE_0_2_2 (r_0 + 2) (by omega)).2 (by omega)
       omega)
    | (have q1 := (hE_0_2_1 (r_0 + 1) (by omega)).2 (by omega)
       have q2 := (hE_0_2_2 (r_0 + 1) (by omega)).2 (by omega)
       omega)
    | (have q1 := (hE_0_2_1 (r_0 + 2) (by omega)).2 (by omega)
       omega)
    | (have q1 := (hE_0_2_1 (r_0 + 1) (by omega)).2 (by omega)
       omega)
    | (have q1 := (hE_0_2_1 (r_0 + 2) (by omega)).2 (by omega)
       have q2 := (hE_0_2_2 (r_0 + 2) (by omega)).2 (by omega)
       have q3 := (hE_0_2_3 (r_0 + 2) (by omega)).1 (by omega)
       omega)
    | (have q1 := (hE_0_2_1 (r_0 + 2) (by omega)).2 (by omega)
       have q2 := (hE_0_2_2 (r_0 + 2) (by omega)).2 (by omega)
       have q3 := (hE_0_2_3 (r_0 + 2) (by omega)).2 (by omega)
       omega)
set_option maxHeartbeats 4000000 in
theorem vc_Mo_item_at_k2_4_5 (r_0 : Int) (from_0 : Int) (pos_0 : Int) (kind_0 : Int) (gy : Int) (f4 : 1 * from_0 + ((-1) * pos_0 + 0) ≤ 0) (f5 : ((kind_0 = 1) → (pos_0 ≤ (from_0 + 8))) ∧ ((kind_0 = 0) ∨ ((from_0 + 1) ≤ pos_0))) (kz_0_11 : 0 ≤ pos_0 ∧ pos_0 ≤ 2000) (kz_0_12 : 0 ≤ kind_0 ∧ kind_0 ≤ 4) (kz_0_15 : 0 ≤ from_0 ∧ from_0 ≤ 2000) (ey2 : gy = from_0) : (kind_0 = 0) ∨ ((gy + 1) ≤ pos_0) := by
  first
    | omega
    | (have q1 := (hE_0_2_1 (r_0 + 2) (by omega)).2 (by omega)
       have q2 := (hE_0_2_2 (r_0 + 2) (by omega)).2 (by omega)
       omega)
    | (have q1 := (hE_0_2_1 (r_0 + 1) (by omega)).2 (by omega)
       have q2 := (hE_0_2_2 (r_0 + 1) (by omega)).2 (by omega)
       omega)
    | (have q1 := (hE_0_2_1 (r_0 + 2) (by omega)).2 (by omega)
       omega)
    | (have q1 := (hE_0_2_1 (r_0 + 1) (by omega)).2 (by omega)
       omega)
    | (have q1 := (hE_0_2_1 (r_0 + 2) (by omega)).2 (by omega)
       have q2 := (hE_0_2_2 (r_0 + 2) (by omega)).2 (by omega)
       have q3 := (hE_0_2_3 (r_0 + 2) (by omega)).1 (by omega)
       omega)
    | (have q1 := (hE_0_2_1 (r_0 + 2) (by omega)).2 (by omega)
       have q2 := (hE_0_2_2 (r_0 + 2) (by omega)).2 (by omega)
       have q3 := (hE_0_2_3 (r_0 + 2) (by omega)).2 (by omega)
       omega)
set_option maxHeartbeats 4000000 in
theorem vc_Mo_item_at_k2_4_6 (x1 : Int) (all_0 : Int → Int) (r_0 : Int) (k1 : 0 ≤ x1 ∧ x1 ≤ 7) (f2 : (x1 + 1) ≤ all_0 ((r_0 + 2))) : (x1 + 1) ≤ all_0 ((r_0 + 2)) := by
  first
    | omega
    | (have q1 := (hE_0_2_1 (r_0 + 2) (by omega)).2 (by omega)
       have q2 := (hE_0_2_2 (r_0 + 2) (by omega)).2 (by omega)
       omega)
    | (have q1 := (hE_0_2_1 (r_0 + 1) (by omega)).2 (by omega)
       have q2 := (hE_0_2_2 (r_0 + 1) (by omega)).2 (by omega)
       omega)
    | (have q1 := (hE_0_2_1 (r_0 + 2) (by omega)).2 (by omega)
       omega)
    | (have q1 := (hE_0_2_1 (r_0 + 1) (by omega)).2 (by omega)
       omega)
    | (have q1 := (hE_0_2_1 (r_0 + 2) (by omega)).2 (by omega)
       have q2 := (hE_0_2_2 (r_0 + 2) (by omega)).2 (by omega)
       have q3 := (hE_0_2_3 (r_0 + 2) (by omega)).1 (by omega)
       omega)
    | (have q1 := (hE_0_2_1 (r_0 + 2) (by omega)).2 (by omega)
       have q2 := (hE_0_2_2 (r_0 + 2) (by omega)).2 (by omega)
       have q3 := (hE_0_2_3 (r_0 + 2) (by omega)).2 (by omega)
       omega)
set_option maxHeartbeats 4000000 in
theorem vc_Mo_item_at_k2_4_7 (all_0 : Int → Int) (r_0 : Int) (now_0 : Int → Int) (latest_0 : Int → Int) (f3 : RWS (r_0) (all_0) (now_0) (latest_0)) : RWS (r_0) (all_0) (now_0) (latest_0) := by
  first
    | assumption
set_option maxHeartbeats 4000000 in
theorem vc_Mo_item_at_k2_4_8 (x7 : Int) (all_0 : Int → Int) (r_0 : Int) (k7 : (-1) ≤ x7 ∧ x7 ≤ (-1)) : MEB (r_0) (all_0) (x7) := by
  intro q; exfalso; omega
def o_Mo_item_at_k2_4 : or_T := (17, 8, [(0, (2, 0, 0, [165])), (1, (0, 0, 7, [])), (3, (0, 0, 2000, [])), (6, (0, 0, 2000, [])), (7, (0, -1, -1, []))], [(23, [6, 3], [0, 1, -1]), (23, [6, 3], [0, -1, 1]), (20, [1, 0], [50, 1, 1, 1005, 1002, 0, 6, 4, 2, 1, 0, 0, 1, 3, 1, 2, 4, 3, 2, 1, 5, 0, 2]), (20, [0], [60, 1, 3, 199, 5, 2, 3, 4]), (20, [0, 0], [30, 0, 1, 1, 15, -1, 1, 11]), (20, [0], [50, 3, 0, 12, 11, 15, 2, 21, 4, 7, 1, 3, 2, 0, 12, 0, 1, 0, 3, 2, 0, 11, 4, 3, 2, 0, 15, 0, 8, 3, 7, 1, 3, 2, 0, 12, 0, 0, 0, 7, 4, 3, 2, 0, 15, 0, 1, 2, 0, 11]), (20, [6, 0], [30, 0, 1, 0, 0, -1, 1, 15])], [], [(0, 0, 2000, []), (0, 0, 2000, [])], [(23, [8, 3], [0, 1, -1]), (23, [8, 3], [0, -1, 1]), (20, [0, 0], [30, 0, 1, 1, 15, -1, 1, 11]), (20, [0], [50, 3, 0, 12, 11, 15, 2, 21, 4, 7, 1, 3, 2, 0, 12, 0, 1, 0, 3, 2, 0, 11, 4, 3, 2, 0, 15, 0, 8, 3, 7, 1, 3, 2, 0, 12, 0, 0, 0, 7, 4, 3, 2, 0, 15, 0, 1, 2, 0, 11]), (20, [8, 0], [30, 0, 1, 0, 0, -1, 1, 11]), (20, [0, 9], [50, 2, 0, 12, 11, 3, 7, 1, 3, 2, 0, 12, 0, 0, 0, 6, 4, 2, 1, 1, 0, 1, 2, 0, 11]), (20, [1, 0], [50, 1, 1, 1005, 1002, 0, 6, 4, 2, 1, 0, 0, 1, 3, 1, 2, 4, 3, 2, 1, 5, 0, 2]), (20, [0], [60, 1, 3, 199, 5, 2, 3, 4]), (20, [0, 7], [60, 1, 1, 241, 5, 2])], [], [])
theorem oo_Mo_item_at_k2_4 {kA : Nat → ClassId} : or_ok PRD kA GG o_Mo_item_at_k2_4 := by
  refine or_mk fun A ta ws vs hD hth hl => ?_
  intro t0 r0 t1 k1 t3 k3 t6 k6 t7 k7 f0 f1 f2 f3 f4 f5 f6
  replace f0 := shm_7 f0
  replace f1 := shm_22 f1
  replace f2 := shm_981 f2
  replace f3 := shm_952 f3
  replace f4 := shm_1397 f4
  replace f5 := shm_1398 f5
  replace f6 := shm_1396 f6
  have kz_0_11 := fdq_273 hD hth r0
  have kz_0_12 := fdq_186 hD hth r0
  have kz_0_15 := fdq_274 hD hth r0
  obtain ⟨x, ex, hx⟩ := iv_ex (ta := ta) (lo := 0) (hi := 2000) (z := v_iv (n_v vs 3)) (by omega) (by omega) (by omega) (by omega)
  have ex2 : v_iv (Value.int x) = v_iv (n_v vs 3) := ex
  have ex3 : 0 ≤ v_iv (Value.int x) ∧ v_iv (Value.int x) ≤ 2000 := tv_rng hx
  obtain ⟨y, ey, hy⟩ := iv_ex (ta := ta) (lo := 0) (hi := 2000) (z := w_fi ws (n_v vs 0) 15) (by omega) (by omega) (by omega) (by omega)
  have ey2 : v_iv (Value.int y) = w_fi ws (n_v vs 0) 15 := ey
  have ey3 : 0 ≤ v_iv (Value.int y) ∧ v_iv (Value.int y) ≤ 2000 := tv_rng hy
  have e_0 : n_v (vs ++ [Value.int x, Value.int y]) 0 = n_v vs 0 := n_v_old (by rw [hl]; decide)
  have e_1 : n_v (vs ++ [Value.int x, Value.int y]) 1 = n_v vs 1 := n_v_old (by rw [hl]; decide)
  have e_3 : n_v (vs ++ [Value.int x, Value.int y]) 3 = n_v vs 3 := n_v_old (by rw [hl]; decide)
  have e_7 : n_v (vs ++ [Value.int x, Value.int y]) 7 = n_v vs 7 := n_v_old (by rw [hl]; decide)
  have e_8 : n_v (vs ++ [Value.int x, Value.int y]) 8 = Value.int x := n_v_new0 hl
  have e_9 : n_v (vs ++ [Value.int x, Value.int y]) 9 = Value.int y := n_v_new1 hl
  have nf0 : fc_1 PRD (23, [8, 3], [0, 1, -1]) ws (vs ++ [Value.int x, Value.int y]) := by
    refine ⟨nf_inA hl rfl, sgq_7 ?_⟩
    · show 1 * v_iv (n_v (vs ++ [Value.int x, Value.int y]) 8) + ((-1) * v_iv (n_v (vs ++ [Value.int x, Value.int y]) 3) + 0) ≤ 0
      simp only [e_3, e_8]
      exact vc_Mo_item_at_k2_4_0 (v_iv (n_v vs 3)) (v_iv (n_v vs 6)) (w_fi ws (n_v vs 0) 5) (v_iv (Value.int x)) k3 k6 f0 f1 ex2
  have nf1 : fc_1 PRD (23, [8, 3], [0, -1, 1]) ws (vs ++ [Value.int x, Value.int y]) := by
    refine ⟨nf_inA hl rfl, sgq_22 ?_⟩
    · show (-1) * v_iv (n_v (vs ++ [Value.int x, Value.int y]) 8) + (1 * v_iv (n_v (vs ++ [Value.int x, Value.int y]) 3) + 0) ≤ 0
      simp only [e_3, e_8]
      exact vc_Mo_item_at_k2_4_1 (v_iv (n_v vs 3)) (v_iv (n_v vs 6)) (w_fi ws (n_v vs 0) 5) (v_iv (Value.int x)) k3 k6 f0 f1 ex2
  have nf2 : fc_1 PRD (20, [0, 0], [30, 0, 1, 1, 15, -1, 1, 11]) ws (vs ++ [Value.int x, Value.int y]) := by
    refine ⟨nf_inA hl rfl, sgq_1397 ?_⟩
    · show 1 * w_fi ws (n_v (vs ++ [Value.int x, Value.int y]) 0) 15 + ((-1) * w_fi ws (n_v (vs ++ [Value.int x, Value.int y]) 0) 11 + 0) ≤ 0
      rw [e_0]
      exact vc_Mo_item_at_k2_4_2 (w_fi ws (n_v vs 0) 5) (w_fi ws (n_v vs 0) 15) (w_fi ws (n_v vs 0) 11) f4 kz_0_11 kz_0_15
  have nf3 : fc_1 PRD (20, [0], [50, 3, 0, 12, 11, 15, 2, 21, 4, 7, 1, 3, 2, 0, 12, 0, 1, 0, 3, 2, 0, 11, 4, 3, 2, 0, 15, 0, 8, 3, 7, 1, 3, 2, 0, 12, 0, 0, 0, 7, 4, 3, 2, 0, 15, 0, 1, 2, 0, 11]) ws (vs ++ [Value.int x, Value.int y]) := by
    refine ⟨nf_inA hl rfl, sgq_1398 ?_⟩
    · show ((w_fi ws (n_v (vs ++ [Value.int x, Value.int y]) 0) 12 = 1) → (w_fi ws (n_v (vs ++ [Value.int x, Value.int y]) 0) 11 ≤ (w_fi ws (n_v (vs ++ [Value.int x, Value.int y]) 0) 15 + 8))) ∧ ((w_fi ws (n_v (vs ++ [Value.int x, Value.int y]) 0) 12 = 0) ∨ ((w_fi ws (n_v (vs ++ [Value.int x, Value.int y]) 0) 15 + 1) ≤ w_fi ws (n_v (vs ++ [Value.int x, Value.int y]) 0) 11))
      rw [e_0]
      exact vc_Mo_item_at_k2_4_3 (w_fi ws (n_v vs 0) 5) (w_fi ws (n_v vs 0) 15) (w_fi ws (n_v vs 0) 11) (w_fi ws (n_v vs 0) 12) f5 kz_0_11 kz_0_12 kz_0_15
  have nf4 : fc_1 PRD (20, [8, 0], [30, 0, 1, 0, 0, -1, 1, 11]) ws (vs ++ [Value.int x, Value.int y]) := by
    refine ⟨nf_inA hl rfl, sgq_1395 ?_⟩
    · show 1 * v_iv (n_v (vs ++ [Value.int x, Value.int y]) 8) + ((-1) * w_fi ws (n_v (vs ++ [Value.int x, Value.int y]) 0) 11 + 0) ≤ 0
      simp only [e_0, e_8]
      exact vc_Mo_item_at_k2_4_4 (v_iv (n_v vs 3)) (v_iv (n_v vs 6)) (w_fi ws (n_v vs 0) 5) (w_fi ws (n_v vs 0) 15) (w_fi ws (n_v vs 0) 11) (v_iv (Value.int x)) (v_iv (Value.int y)) k3 k6 f0 f1 f4 f6 kz_0_11 kz_0_15 ex2 ey2
  have nf5 : fc_1 PRD (20, [0, 9], [50, 2, 0, 12, 11, 3, 7, 1, 3, 2, 0, 12, 0, 0, 0, 6, 4, 2, 1, 1, 0, 1, 2, 0, 11]) ws (vs ++ [Value.int x, Value.int y]) := by
    refine ⟨nf_inA hl rfl, sgq_1978 ?_⟩
    · show (w_fi ws (n_v (vs ++ [Value.int x, Value.int y]) 0) 12 = 0) ∨ ((v_iv (n_v (vs ++ [Value.int x, Value.int y]) 9) + 1) ≤ w_fi ws (n_v (vs ++ [Value.int x, Value.int y]) 0) 11)
      simp only [e_0, e_9]
      exact vc_Mo_item_at_k2_4_5 (w_fi ws (n_v vs 0) 5) (w_fi ws (n_v vs 0) 15) (w_fi ws (n_v vs 0) 11) (w_fi ws (n_v vs 0) 12) (v_iv (Value.int y)) f4 f5 kz_0_11 kz_0_12 kz_0_15 ey2
  have nf6 : fc_1 PRD (20, [1, 0], [50, 1, 1, 1005, 1002, 0, 6, 4, 2, 1, 0, 0, 1, 3, 1, 2, 4, 3, 2, 1, 5, 0, 2]) ws (vs ++ [Value.int x, Value.int y]) := by
    refine ⟨nf_inA hl rfl, sgq_981 ?_⟩
    · show (v_iv (n_v (vs ++ [Value.int x, Value.int y]) 1) + 1) ≤ w_ei ws (w_ar ws (n_v (vs ++ [Value.int x, Value.int y]) 0) 2) ((w_fi ws (n_v (vs ++ [Value.int x, Value.int y]) 0) 5 + 2))
      simp only [e_0, e_1]
      exact vc_Mo_item_at_k2_4_6 (v_iv (n_v vs 1)) (w_ei ws (w_ar ws (n_v vs 0) 2)) (w_fi ws (n_v vs 0) 5) k1 f2
  have nf7 : fc_1 PRD (20, [0], [60, 1, 3, 199, 5, 2, 3, 4]) ws (vs ++ [Value.int x, Value.int y]) := by
    refine ⟨nf_inA hl rfl, sgq_952 ?_⟩
    · show RWS (w_fi ws (n_v (vs ++ [Value.int x, Value.int y]) 0) 5) (w_ei ws (w_ar ws (n_v (vs ++ [Value.int x, Value.int y]) 0) 2)) (w_ei ws (w_ar ws (n_v (vs ++ [Value.int x, Value.int y]) 0) 3)) (w_ei ws (w_ar ws (n_v (vs ++ [Value.int x, Value.int y]) 0) 4))
      rw [e_0]
      exact vc_Mo_item_at_k2_4_7 (w_ei ws (w_ar ws (n_v vs 0) 2)) (w_fi ws (n_v vs 0) 5) (w_ei ws (w_ar ws (n_v vs 0) 3)) (w_ei ws (w_ar ws (n_v vs 0) 4)) f3
  have nf8 : fc_1 PRD (20, [0, 7], [60, 1, 1, 241, 5, 2]) ws (vs ++ [Value.int x, Value.int y]) := by
    refine ⟨nf_inA hl rfl, sgq_1979 ?_⟩
    · show MEB (w_fi ws (n_v (vs ++ [Value.int x, Value.int y]) 0) 5) (w_ei ws (w_ar ws (n_v (vs ++ [Value.int x, Value.int y]) 0) 2)) (v_iv (n_v (vs ++ [Value.int x, Value.int y]) 7))
      simp only [e_0, e_7]
      exact vc_Mo_item_at_k2_4_8 (v_iv (n_v vs 7)) (w_ei ws (w_ar ws (n_v vs 0) 2)) (w_fi ws (n_v vs 0) 5) k7
  exact ⟨(fun _ h => (by cases h)), [Value.int x, Value.int y], ag_two hx hy, List.forall_mem_cons.mpr ⟨⟨show (23 : Nat) < 100 from by decide, nf0⟩, List.forall_mem_cons.mpr ⟨⟨show (23 : Nat) < 100 from by decide, nf1⟩, List.forall_mem_cons.mpr ⟨⟨show (20 : Nat) < 100 from by decide, nf2⟩, List.forall_mem_cons.mpr ⟨⟨show (20 : Nat) < 100 from by decide, nf3⟩, List.forall_mem_cons.mpr ⟨⟨show (20 : Nat) < 100 from by decide, nf4⟩, List.forall_mem_cons.mpr ⟨⟨show (20 : Nat) < 100 from by decide, nf5⟩, List.forall_mem_cons.mpr ⟨⟨show (20 : Nat) < 100 from by decide, nf6⟩, List.forall_mem_cons.mpr ⟨⟨show (20 : Nat) < 100 from by decide, nf7⟩, List.forall_mem_cons.mpr ⟨⟨show (20 : Nat) < 100 from by decide, nf8⟩, (fun _ h => (by cases h))⟩⟩⟩⟩⟩⟩⟩⟩⟩, (fun _ h => (by cases h))⟩
set_option maxHeartbeats 4000000 in
theorem vc_Mo_item_at_k2_5_0 (x3 : Int) (x8 : Int) (r_0 : Int) (gx : Int) (k3 : 0 ≤ x3 ∧ x3 ≤ 2000) (k8 : 0 ≤ x8 ∧ x8 ≤ 2000) (f0 : 1 * x8 + ((-1) * x3 + 0) ≤ 0) (f1 : (-1) * x8 + (1 * x3 + 0) ≤ 0) (ex2 : gx = x3) : 1 * gx + ((-1) * x3 + 0) ≤ 0 := by
  first
    | omega
    | (have q1 := (hE_0_2_1 (r_0 + 2) (by omega)).2 (by omega)
       have q2 := (hE_0_2_2 (r_0 + 2) (by omega)).2 (by omega)
       omega)
    | (have q1 := (hE_0_2_1 (r_0 + 1) (by omega)).2 (by omega)
       have q2 := (hE_0_2_2 (r_0 + 1) (by omega)).2 (by omega)
       omega)
    | (have q1 := (hE_0_2_1 (r_0 + 2) (by omega)).2 (by omega)
       omega)
    | (have q1 := (hE_0_2_1 (r_0 + 1) (by omega)).2 (by omega)
       omega)
    | (have q1 := (hE_0_2_1 (r_0 + 2) (by omega)).2 (by omega)
       have q2 := (hE_0_2_2 (r_0 + 2) (by omega)).2 (by omega)
       have q3 := (hE_0_2_3 (r_0 + 2) (by omega)).1 (by omega)
       omega)
    | (have q1 := (hE_0_2_1 (r_0 + 2) (by omega)).2 (by omega)
       have q2 := (hE_0_2_2 (r_0 + 2) (by omega)).2 (by omega)
       have q3 := (hE_0_2_3 (r_0 + 2) (by omega)).2 (by omega)
       omega)
set_option maxHeartbeats 4000000 in
theorem vc_Mo_item_at_k2_5_1 (x3 : Int) (x8 : Int) (r_0 : Int) (gx : Int) (k3 : 0 ≤ x3 ∧ x3 ≤ 2000) (k8 : 0 ≤ x8 ∧ x8 ≤ 2000) (f0 : 1 * x8 + ((-1) * x3 + 0) ≤ 0) (f1 : (-1) * x8 + (1 * x3 + 0) ≤ 0) (ex2 : gx = x3) : (-1) * gx + (1 * x3 + 0) ≤ 0 := by
  first
    | omega
    | (have q1 := (hE_0_2_1 (r_0 + 2) (by omega)).2 (by omega)
       have q2 := (hE_0_2_2 (r_0 + 2) (by omega)).2 (by omega)
       omega)
    | (have q1 := (hE_0_2_1 (r_0 + 1) (by omega)).2 (by omega)
       have q2 := (hE_0_2_2 (r_0 + 1) (by omega)).2 (by omega)
       omega)
    | (have q1 := (hE_0_2_1 (r_0 + 2) (by omega)).2 (by omega)
       omega)
    | (have q1 := (hE_0_2_1 (r_0 + 1) (by omega)).2 (by omega)
       omega)
    | (have q1 := (hE_0_2_1 (r_0 + 2) (by omega)).2 (by omega)
       have q2 := (hE_0_2_2 (r_0 + 2) (by omega)).2 (by omega)
       have q3 := (hE_0_2_3 (r_0 + 2) (by omega)).1 (by omega)
       omega)
    | (have q1 := (hE_0_2_1 (r_0 + 2) (by omega)).2 (by omega)
       have q2 := (hE_0_2_2 (r_0 + 2) (by omega)).2 (by omega)
       have q3 := (hE_0_2_3 (r_0 + 2) (by omega)).2 (by omega)
       omega)
set_option maxHeartbeats 4000000 in
theorem vc_Mo_item_at_k2_5_2 (x10 : Int) (r_0 : Int) (gy : Int) (k10 : (-1) ≤ x10 ∧ x10 ≤ 23) (ey2 : gy = x10) : 1 * gy + ((-1) * x10 + 0) ≤ 0 := by
  first
    | omega
    | (have q1 := (hE_0_2_1 (r_0 + 2) (by omega)).2 (by omega)
       have q2 := (hE_0_2_2 (r_0 + 2) (by omega)).2 (by omega)
       omega)
    | (have q1 := (hE_0_2_1 (r_0 + 1) (by omega)).2 (by omega)
       have q2 := (hE_0_2_2 (r_0 + 1) (by omega)).2 (by omega)
       omega)
    | (have q1 := (hE_0_2_1 (r_0 + 2) (by omega)).2 (by omega)
       omega)
    | (have q1 := (hE_0_2_1 (r_0 + 1) (by omega)).2 (by omega)
       omega)
    | (have q1 := (hE_0_2_1 (r_0 + 2) (by omega)).2 (by omega)
       have q2 := (hE_0_2_2 (r_0 + 2) (by omega)).2 (by omega)
       have q3 := (hE_0_2_3 (r_0 + 2) (by omega)).1 (by omega)
       omega)
    | (have q1 := (hE_0_2_1 (r_0 + 2) (by omega)).2 (by omega)
       have q2 := (hE_0_2_2 (r_0 + 2) (by omega)).2 (by omega)
       have q3 := (hE_0_2_3 (r_0 + 2) (by omega)).2 (by omega)
       omega)
set_option maxHeartbeats 4000000 in
theorem vc_Mo_item_at_k2_5_3 (x10 : Int) (r_0 : Int) (gy : Int) (k10 : (-1) ≤ x10 ∧ x10 ≤ 23) (ey2 : gy = x10) : (-1) * gy + (1 * x10 + 0) ≤ 0 := by
  first
    | omega
    | (have q1 := (hE_0_2_1 (r_0 + 2) (by omega)).2 (by omega)
       have q2 := (hE_0_2_2 (r_0 + 2) (by omega)).2 (by omega)
       omega)
    | (have q1 := (hE_0_2_1 (r_0 + 1) (by omega)).2 (by omega)
       have q2 := (hE_0_2_2 (r_0 + 1) (by omega)).2 (by omega)
       omega)
    | (have q1 := (hE_0_2_1 (r_0 + 2) (by omega)).2 (by omega)
       omega)
    | (have q1 := (hE_0_2_1 (r_0 + 1) (by omega)).2 (by omega)
       omega)
    | (have q1 := (hE_0_2_1 (r_0 + 2) (by omega)).2 (by omega)
       have q2 := (hE_0_2_2 (r_0 + 2) (by omega)).2 (by omega)
       have q3 := (hE_0_2_3 (r_0 + 2) (by omega)).1 (by omega)
       omega)
    | (have q1 := (hE_0_2_1 (r_0 + 2) (by omega)).2 (by omega)
       have q2 := (hE_0_2_2 (r_0 + 2) (by omega)).2 (by omega)
       have q3 := (hE_0_2_3 (r_0 + 2) (by omega)).2 (by omega)
       omega)
set_option maxHeartbeats 4000000 in
theorem vc_Mo_item_at_k2_5_4 (from_0 : Int) (pos_0 : Int) (r_0 : Int) (f4 : 1 * from_0 + ((-1) * pos_0 + 0) ≤ 0) (kz_0_11 : 0 ≤ pos_0 ∧ pos_0 ≤ 2000) (kz_0_15 : 0 ≤ from_0 ∧ from_0 ≤ 2000) : 1 * from_0 + ((-1) * pos_0 + 0) ≤ 0 := by
  first
    | omega
    | (have q1 := (hE_0_2_1 (r_0 + 2) (by omega)).2 (by omega)
       have q2 := (hE_0_2_2 (r_0 + 2) (by omega)).2 (by omega)
       omega)
    | (have q1 := (hE_0_2_1 (r_0 + 1) (by omega)).2 (by omega)
       have q2 := (hE_0_2_2 (r_0 + 1) (by omega)).2 (by omega)
       omega)
    | (have q1 := (hE_0_2_1 (r_0 + 2) (by omega)).2 (by omega)
       omega)
    | (have q1 := (hE_0_2_1 (r_0 + 1) (by omega)).2 (by omega)
       omega)
    | (have q1 := (hE_0_2_1 (r_0 + 2) (by omega)).2 (by omega)
       have q2 := (hE_0_2_2 (r_0 + 2) (by omega)).2 (by omega)
       have q3 := (hE_0_2_3 (r_0 + 2) (by omega)).1 (by omega)
       omega)
    | (have q1 := (hE_0_2_1 (r_0 + 2) (by omega)).2 (by omega)
       have q2 := (hE_0_2_2 (r_0 + 2) (by omega)).2 (by omega)
       have q3 := (hE_0_2_3 (r_0 + 2) (by omega)).2 (by omega)
       omega)
set_option maxHeartbeats 4000000 in
theorem vc_Mo_item_at_k2_5_5 (from_0 : Int) (pos_0 : Int) (kind_0 : Int) (r_0 : Int) (f5 : ((kind_0 = 1) → (pos_0 ≤ (from_0 + 8))) ∧ ((kind_0 = 0) ∨ ((from_0 + 1) ≤ pos_0))) (kz_0_11 : 0 ≤ pos_0 ∧ pos_0 ≤ 2000) (kz_0_12 : 0 ≤ kind_0 ∧ kind_0 ≤ 4) (kz_0_15 : 0 ≤ from_0 ∧ from_0 ≤ 2000) : ((kind_0 = 1) → (pos_0 ≤ (from_0 + 8))) ∧ ((kind_0 = 0) ∨ ((from_0 + 1) ≤ pos_0)) := by
  first
    | omega
    | (have q1 := (hE_0_2_1 (r_0 + 2) (by omega)).2 (by omega)
       have q2 := (hE_0_2_2 (r_0 + 2) (by omega)).2 (by omega)
       omega)
    | (have q1 := (hE_0_2_1 (r_0 + 1) (by omega)).2 (by omega)
       have q2 := (hE_0_2_2 (r_0 + 1) (by omega)).2 (by omega)
       omega)
    | (have q1 := (hE_0_2_1 (r_0 + 2) (by omega)).2 (by omega)
       omega)
    | (have q1 := (hE_0_2_1 (r_0 + 1) (by omega)).2 (by omega)
       omega)
    | (have q1 := (hE_0_2_1 (r_0 + 2) (by omega)).2 (by omega)
       have q2 := (hE_0_2_2 (r_0 + 2) (by omega)).2 (by omega)
       have q3 := (hE_0_2_3 (r_0 + 2) (by omega)).1 (by omega)
       omega)
    | (have q1 := (hE_0_2_1 (r_0 + 2) (by omega)).2 (by omega)
       have q2 := (hE_0_2_2 (r_0 + 2) (by omega)).2 (by omega)
       have q3 := (hE_0_2_3 (r_0 + 2) (by omega)).2 (by omega)
       omega)
set_option maxHeartbeats 4000000 in
theorem vc_Mo_item_at_k2_5_6 (x3 : Int) (x8 : Int) (pos_0 : Int) (r_0 : Int) (gx : Int) (k3 : 0 ≤ x3 ∧ x3 ≤ 2000) (k8 : 0 ≤ x8 ∧ x8 ≤ 2000) (f0 : 1 * x8 + ((-1) * x3 + 0) ≤ 0) (f1 : (-1) * x8 + (1 * x3 + 0) ≤ 0) (f6 : 1 * x8 + ((-1) * pos_0 + 0) ≤ 0) (kz_0_11 : 0 ≤ pos_0 ∧ pos_0 ≤ 2000) (ex2 : gx = x3) : 1 * gx + ((-1) * pos_0 + 0) ≤ 0 := by
  first
    | omega
    | (have q1 := (hE_0_2_1 (r_0 + 2) (by omega)).2 (by omega)
       have q2 := (hE_0_2_2 (r_0 + 2) (by omega)).2 (by omega)
       omega)
    | (have q1 := (hE_0_2_1 (r_0 + 1) (by omega)).2 (by omega)
       have q2 := (hE_0_2_2 (r_0 + 1) (by omega)).2 (by omega)
       omega)
    | (have q1 := (hE_0_2_1 (r_0 + 2) (by omega)).2 (by omega)
       omega)
    | (have q1 := (hE_0_2_1 (r_0 + 1) (by omega)).2 (by omega)
       omega)
    | (have q1 := (hE_0_2_1 (r_0 + 2) (by omega)).2 (by omega)
       have q2 := (hE_0_2_2 (r_0 + 2) (by omega)).2 (by omega)
       have q3 := (hE_0_2_3 (r_0 + 2) (by omega)).1 (by omega)
       omega)
    | (have q1 := (hE_0_2_1 (r_0 + 2) (by omega)).2 (by omega)
       have q2 := (hE_0_2_2 (r_0 + 2) (by omega)).2 (by omega)
       have q3 := (hE_0_2_3 (r_0 + 2) (by omega)).2 (by omega)
       omega)
set_option maxHeartbeats 4000000 in
theorem vc_Mo_item_at_k2_5_7 (x3 : Int) (x7 : Int) (x8 : Int) (x9 : Int) (x10 : Int) (pos_0 : Int) (kind_0 : Int) (fault_0 : Int) (all_0 : Int → Int) (r_0 : Int) (gx : Int) (k3 : 0 ≤ x3 ∧ x3 ≤ 2000) (k7 : (-1) ≤ x7 ∧ x7 ≤ (-1)) (k8 : 0 ≤ x8 ∧ x8 ≤ 2000) (k9 : 0 ≤ x9 ∧ x9 ≤ 2000) (k10 : (-1) ≤ x10 ∧ x10 ≤ 23) (f0 : 1 * x8 + ((-1) * x3 + 0) ≤ 0) (f1 : (-1) * x8 + (1 * x3 + 0) ≤ 0) (f6 : 1 * x8 + ((-1) * pos_0 + 0) ≤ 0) (f7 : (1 ≤ fault_0) ∨ ((kind_0 = 0) ∨ ((x8 + 1) ≤ pos_0))) (f8 : (1 ≤ fault_0) ∨ ((x9 + 1) ≤ pos_0)) (f9 : ((-1) * fault_0 + 0 ≤ (-1)) ∨ ((-1) * x10 + 0 ≤ 0)) (f10 : (1 ≤ fault_0) ∨ ((x7 ≤ (-1)) ∨ (all_0 ((r_0 + 1)) ≤ 47))) (kz_0_8 : 0 ≤ fault_0 ∧ fault_0 ≤ 5) (kz_0_11 : 0 ≤ pos_0 ∧ pos_0 ≤ 2000) (kz_0_12 : 0 ≤ kind_0 ∧ kind_0 ≤ 4) (ex2 : gx = x3) : (1 ≤ fault_0) ∨ ((kind_0 = 0) ∨ ((gx + 1) ≤ pos_0)) := by
  first
    | omega
    | (have q1 := (hE_0_2_1 (r_0 + 2) (by omega)).2 (by omega)
       have q2 := (hE_0_2_2 (r_0 + 2) (by omega)).2 (by omega)
       omega)
    | (have q1 := (hE_0_2_1 (r_0 + 1) (by omega)).2 (by omega)
       have q2 := (hE_0_2_2 (r_0 + 1) (by omega)).2 (by omega)
       omega)
    | (have q1 := (hE_0_2_1 (r_0 + 2) (by omega)).2 (by omega)
       omega)
    | (have q1 := (hE_0_2_1 (r_0 + 1) (by omega)).2 (by omega)
       omega)
    | (have q1 := (hE_0_2_1 (r_0 + 2) (by omega)).2 (by omega)
       have q2 := (hE_0_2_2 (r_0 + 2) (by omega)).2 (by omega)
       have q3 := (hE_0_2_3 (r_0 + 2) (by omega)).1 (by omega)
       omega)
    | (have q1 := (hE_0_2_1 (r_0 + 2) (by omega)).2 (by omega)
       have q2 := (hE_0_2_2 (r_0 + 2) (by omega)).2 (by omega)
       have q3 := (hE_0_2_3 (r_0 + 2) (by omega)).2 (by omega)
       omega)
set_option maxHeartbeats 4000000 in
theorem vc_Mo_item_at_k2_5_8 (x7 : Int) (x10 : Int) (fault_0 : Int) (all_0 : Int → Int) (r_0 : Int) (gy : Int) (k7 : (-1) ≤ x7 ∧ x7 ≤ (-1)) (k10 : (-1) ≤ x10 ∧ x10 ≤ 23) (f9 : ((-1) * fault_0 + 0 ≤ (-1)) ∨ ((-1) * x10 + 0 ≤ 0)) (f10 : (1 ≤ fault_0) ∨ ((x7 ≤ (-1)) ∨ (all_0 ((r_0 + 1)) ≤ 47))) (kz_0_8 : 0 ≤ fault_0 ∧ fault_0 ≤ 5) (ey2 : gy = x10) : (1 ≤ fault_0) ∨ (0 ≤ gy) := by
  first
    | omega
    | (have q1 := (hE_0_2_1 (r_0 + 2) (by omega)).2 (by omega)
       have q2 := (hE_0_2_2 (r_0 + 2) (by omega)).2 (by omega)
       omega)
    | (have q1 := (hE_0_2_1 (r_0 + 1) (by omega)).2 (by omega)
       have q2 := (hE_0_2_2 (r_0 + 1) (by omega)).2 (by omega)
       omega)
    | (have q1 := (hE_0_2_1 (r_0 + 2) (by omega)).2 (by omega)
       omega)
    | (have q1 := (hE_0_2_1 (r_0 + 1) (by omega)).2 (by omega)
       omega)
    | (have q1 := (hE_0_2_1 (r_0 + 2) (by omega)).2 (by omega)
       have q2 := (hE_0_2_2 (r_0 + 2) (by omega)).2 (by omega)
       have q3 := (hE_0_2_3 (r_0 + 2) (by omega)).1 (by omega)
       omega)
    | (have q1 := (hE_0_2_1 (r_0 + 2) (by omega)).2 (by omega)
       have q2 := (hE_0_2_2 (r_0 + 2) (by omega)).2 (by omega)
       have q3 := (hE_0_2_3 (r_0 + 2) (by omega)).2 (by omega)
       omega)
def o_Mo_item_at_k2_5 : or_T := (27, 13, [(0, (2, 0, 0, [165])), (3, (0, 0, 2000, [])), (7, (0, -1, -1, [])), (8, (0, 0, 2000, [])), (9, (0, 0, 2000, [])), (10, (0, -1, 23, []))], [(23, [8, 3], [0, 1, -1]), (23, [8, 3], [0, -1, 1]), (20, [0, 0], [30, 0, 1, 1, 15, -1, 1, 11]), (20, [0], [50, 3, 0, 12, 11, 15, 2, 21, 4, 7, 1, 3, 2, 0, 12, 0, 1, 0, 3, 2, 0, 11, 4, 3, 2, 0, 15, 0, 8, 3, 7, 1, 3, 2, 0, 12, 0, 0, 0, 7, 4, 3, 2, 0, 15, 0, 1, 2, 0, 11]), (20, [8, 0], [30, 0, 1, 0, 0, -1, 1, 11]), (20, [0, 8], [50, 3, 0, 8, 12, 11, 3, 7, 0, 2, 0, 1, 2, 0, 8, 3, 7, 1, 3, 2, 0, 12, 0, 0, 0, 6, 4, 2, 1, 1, 0, 1, 2, 0, 11]), (20, [0, 9], [50, 2, 0, 8, 11, 3, 7, 0, 2, 0, 1, 2, 0, 8, 0, 6, 4, 2, 1, 1, 0, 1, 2, 0, 11]), (20, [0, 10], [31, 1, -1, -1, 1, 8, 0, -1, 0, 0]), (20, [0, 7], [50, 2, 1, 8, 5, 2, 3, 7, 0, 2, 0, 1, 2, 0, 8, 3, 6, 0, 2, 1, 1, 0, -1, 0, 10, 3, 0, 2, 4, 3, 2, 0, 5, 0, 1, 0, 47])], [], [(0, 0, 2000, []), (0, -1, 48, [])], [(23, [13, 3], [0, 1, -1]), (23, [13, 3], [0, -1, 1]), (23, [14, 10], [0, 1, -1]), (23, [14, 10], [0, -1, 1]), (20, [0, 0], [30, 0, 1, 1, 15, -1, 1, 11]), (20, [0], [50, 3, 0, 12, 11, 15, 2, 21, 4, 7, 1, 3, 2, 0, 12, 0, 1, 0, 3, 2, 0, 11, 4, 3, 2, 0, 15, 0, 8, 3, 7, 1, 3, 2, 0, 12, 0, 0, 0, 7, 4, 3, 2, 0, 15, 0, 1, 2, 0, 11]), (20, [13, 0], [30, 0, 1, 0, 0, -1, 1, 11]), (20, [0, 13], [50, 3, 0, 8, 12, 11, 3, 7, 0, 2, 0, 1, 2, 0, 8, 3, 7, 1, 3, 2, 0, 12, 0, 0, 0, 6, 4, 2, 1, 1, 0, 1, 2, 0, 11]), (20, [0, 14], [50, 1, 0, 8, 3, 7, 0, 2, 0, 1, 2, 0, 8, 0, 2, 0, 0, 1, 1])], [], [])
theorem oo_Mo_item_at_k2_5 {kA : Nat → ClassId} : or_ok PRD kA GG o_Mo_item_at_k2_5 := by
  refine or_mk fun A ta ws vs hD hth hl => ?_
  intro t0 r0 t3 k3 t7 k7 t8 k8 t9 k9 t10 k10 f0 f1 f4 f5 f6 f7 f8 f9 f10
  replace f0 := shm_7 f0
  replace f1 := shm_22 f1
  replace f4 := shm_1397 f4
  replace f5 := shm_1398 f5
  replace f6 := shm_1395 f6
  replace f7 := shm_1660 f7
  replace f8 := shm_1659 f8
  replace f9 := shm_1982 f9
  replace f10 := shm_1983 f10
  have kz_0_8 := fdq_14 hD hth r0
  have kz_0_11 := fdq_273 hD hth r0
  have kz_0_12 := fdq_186 hD hth r0
  have kz_0_15 := fdq_274 hD hth r0
  obtain ⟨x, ex, hx⟩ := iv_ex (ta := ta) (lo := 0) (hi := 2000) (z := v_iv (n_v vs 3)) (by omega) (by omega) (by omega) (by omega)
  have ex2 : v_iv (Value.int x) = v_iv (n_v vs 3) := ex
  have ex3 : 0 ≤ v_iv (Value.int x) ∧ v_iv (Value.int x) ≤ 2000 := tv_rng hx
  obtain ⟨y, ey, hy⟩ := iv_ex (ta := ta) (lo := (-1)) (hi := 48) (z := v_iv (n_v vs 10)) (by omega) (by omega) (by omega) (by omega)
  have ey2 : v_iv (Value.int y) = v_iv (n_v vs 10) := ey
  have ey3 : (-1) ≤ v_iv (Value.int y) ∧ v_iv (Value.int y) ≤ 48 := tv_rng hy
  have e_0 : n_v (vs ++ [Value.int x, Value.int y]) 0 = n_v vs 0 := n_v_old (by rw [hl]; decide)
  have e_3 : n_v (vs ++ [Value.int x, Value.int y]) 3 = n_v vs 3 := n_v_old (by rw [hl]; decide)
  have e_10 : n_v (vs ++ [Value.int x, Value.int y]) 10 = n_v vs 10 := n_v_old (by rw [hl]; decide)
  have e_13 : n_v (vs ++ [Value.int x, Value.int y]) 13 = Value.int x := n_v_new0 hl
  have e_14 : n_v (vs ++ [Value.int x, Value.int y]) 14 = Value.int y := n_v_new1 hl
  have nf0 : fc_1 PRD (23, [13, 3], [0, 1, -1]) ws (vs ++ [Value.int x, Value.int y]) := by
    refine ⟨nf_inA hl rfl, sgq_7 ?_⟩
    · show 1 * v_iv (n_v (vs ++ [Value.int x, Value.int y]) 13) + ((-1) * v_iv (n_v (vs ++ [Value.int x, Value.int y]) 3) + 0) ≤ 0
      simp only [e_3, e_13]
      exact vc_Mo_item_at_k2_5_0 (v_iv (n_v vs 3)) (v_iv (n_v vs 8)) (w_fi ws (n_v vs 0) 5) (v_iv (Value.int x)) k3 k8 f0 f1 ex2
  have nf1 : fc_1 PRD (23, [13, 3], [0, -1, 1]) ws (vs ++ [Value.int x, Value.int y]) := by
    refine ⟨nf_inA hl rfl, sgq_22 ?_⟩
    · show (-1) * v_iv (n_v (vs ++ [Value.int x, Value.int y]) 13) + (1 * v_iv (n_v (vs ++ [Value.int x, Value.int y]) 3) + 0) ≤ 0
      simp only [e_3, e_13]
      exact vc_Mo_item_at_k2_5_1 (v_iv (n_v vs 3)) (v_iv (n_v vs 8)) (w_fi ws (n_v vs 0) 5) (v_iv (Value.int x)) k3 k8 f0 f1 ex2
  have nf2 : fc_1 PRD (23, [14, 10], [0, 1, -1]) ws (vs ++ [Value.int x, Value.int y]) := by
    refine ⟨nf_inA hl rfl, sgq_7 ?_⟩
    · show 1 * v_iv (n_v (vs ++ [Value.int x, Value.int y]) 14) + ((-1) * v_iv (n_v (vs ++ [Value.int x, Value.int y]) 10) + 0) ≤ 0
      simp only [e_10, e_14]
      exact vc_Mo_item_at_k2_5_2 (v_iv (n_v vs 10)) (w_fi ws (n_v vs 0) 5) (v_iv (Value.int y)) k10 ey2
  have nf3 : fc_1 PRD (23, [14, 10], [0, -1, 1]) ws (vs ++ [Value.int x, Value.int y]) := by
    refine ⟨nf_inA hl rfl, sgq_22 ?_⟩
    · show (-1) * v_iv (n_v (vs ++ [Value.int x, Value.int y]) 14) + (1 * v_iv (n_v (vs ++ [Value.int x, Value.int y]) 10) + 0) ≤ 0
      simp only [e_10, e_14]
      exact vc_Mo_item_at_k2_5_3 (v_iv (n_v vs 10)) (w_fi ws (n_v vs 0) 5) (v_iv (Value.int y)) k10 ey2
  have nf4 : fc_1 PRD (20, [0, 0], [30, 0, 1, 1, 15, -1, 1, 11]) ws (vs ++ [Value.int x, Value.int y]) := by
    refine ⟨nf_inA hl rfl, sgq_1397 ?_⟩
    · show 1 * w_fi ws (n_v (vs ++ [Value.int x, Value.int y]) 0) 15 + ((-1) * w_fi ws (n_v (vs ++ [Value.int x, Value.int y]) 0) 11 + 0) ≤ 0
      rw [e_0]
      exact vc_Mo_item_at_k2_5_4 (w_fi ws (n_v vs 0) 15) (w_fi ws (n_v vs 0) 11) (w_fi ws (n_v vs 0) 5) f4 kz_0_11 kz_0_15
  have nf5 : fc_1 PRD (20, [0], [50, 3, 0, 12, 11, 15, 2, 21, 4, 7, 1, 3, 2, 0, 12, 0, 1, 0, 3, 2, 0, 11, 4, 3, 2, 0, 15, 0, 8, 3, 7, 1, 3, 2, 0, 12, 0, 0, 0, 7, 4, 3, 2, 0, 15, 0, 1, 2, 0, 11]) ws (vs ++ [Value.int x, Value.int y]) := by
    refine ⟨nf_inA hl rfl, sgq_1398 ?_⟩
    · show ((w_fi ws (n_v (vs ++ [Value.int x, Value.int y]) 0) 12 = 1) → (w_fi ws (n_v (vs ++ [Value.int x, Value.int y]) 0) 11 ≤ (w_fi ws (n_v (vs ++ [Value.int x, Value.int y]) 0) 15 + 8))) ∧ ((w_fi ws (n_v (vs ++ [Value.int x, Value.int y]) 0) 12 = 0) ∨ ((w_fi ws (n_v (vs ++ [Value.int x, Value.int y]) 0) 15 + 1) ≤ w_fi ws (n_v (vs ++ [Value.int x, Value.int y]) 0) 11))
      rw [e_0]
      exact vc_Mo_item_at_k2_5_5 (w_fi ws (n_v vs 0) 15) (w_fi ws (n_v vs 0) 11) (w_fi ws (n_v vs 0) 12) (w_fi ws (n_v vs 0) 5) f5 kz_0_11 kz_0_12 kz_0_15
  have nf6 : fc_1 PRD (20, [13, 0], [30, 0, 1, 0, 0, -1, 1, 11]) ws (vs ++ [Value.int x, Value.int y]) := by
    refine ⟨nf_inA hl rfl, sgq_1395 ?_⟩
    · show 1 * v_iv (n_v (vs ++ [Value.int x, Value.int y]) 13) + ((-1) * w_fi ws (n_v (vs ++ [Value.int x, Value.int y]) 0) 11 + 0) ≤ 0
      simp only [e_0, e_13]
      exact vc_Mo_item_at_k2_5_6 (v_iv (n_v vs 3)) (v_iv (n_v vs 8)) (w_fi ws (n_v vs 0) 11) (w_fi ws (n_v vs 0) 5) (v_iv (Value.int x)) k3 k8 f0 f1 f6 kz_0_11 ex2
  have nf7 : fc_1 PRD (20, [0, 13], [50, 3, 0, 8, 12, 11, 3, 7, 0, 2, 0, 1, 2, 0, 8, 3, 7, 1, 3, 2, 0, 12, 0, 0, 0, 6, 4, 2, 1, 1, 0, 1, 2, 0, 11]) ws (vs ++ [Value.int x, Value.int y]) := by
    refine ⟨nf_inA hl rfl, sgq_1660 ?_⟩
    · show (1 ≤ w_fi ws (n_v (vs ++ [Value.int x, Value.int y]) 0) 8) ∨ ((w_fi ws (n_v (vs ++ [Value.int x, Value.int y]) 0) 12 = 0) ∨ ((v_iv (n_v (vs ++ [Value.int x, Value.int y]) 13) + 1) ≤ w_fi ws (n_v (vs ++ [Value.int x, Value.int y]) 0) 11))
      simp only [e_0, e_13]
      exact vc_Mo_item_at_k2_5_7 (v_iv (n_v vs 3)) (v_iv (n_v vs 7)) (v_iv (n_v vs 8)) (v_iv (n_v vs 9)) (v_iv (n_v vs 10)) (w_fi ws (n_v vs 0) 11) (w_fi ws (n_v vs 0) 12) (w_fi ws (n_v vs 0) 8) (w_ei ws (w_ar ws (n_v vs 0) 2)) (w_fi ws (n_v vs 0) 5) (v_iv (Value.int x)) k3 k7 k8 k9 k10 f0 f1 f6 f7 f8 f9 f10 kz_0_8 kz_0_11 kz_0_12 ex2
  have nf8 : fc_1 PRD (20, [0, 14], [50, 1, 0, 8, 3, 7, 0, 2, 0, 1, 2, 0, 8, 0, 2, 0, 0, 1, 1]) ws (vs ++ [Value.int x, Value.int y]) := by
    refine ⟨nf_inA hl rfl, sgq_1889 ?_⟩
    · show (1 ≤ w_fi ws (n_v (vs ++ [Value.int x, Value.int y]) 0) 8) ∨ (0 ≤ v_iv (n_v (vs ++ [Value.int x, Value.int y]) 14))
      simp only [e_0, e_14]
      exact vc_Mo_item_at_k2_5_8 (v_iv (n_v vs 7)) (v_iv (n_v vs 10)) (w_fi ws (n_v vs 0) 8) (w_ei ws (w_ar ws (n_v vs 0) 2)) (w_fi ws (n_v vs 0) 5) (v_iv (Value.int y)) k7 k10 f9 f10 kz_0_8 ey2
  exact ⟨(fun _ h => (by cases h)), [Value.int x, Value.int y], ag_two hx hy, List.forall_mem_cons.mpr ⟨⟨show (23 : Nat) < 100 from by decide, nf0⟩, List.forall_mem_cons.mpr ⟨⟨show (23 : Nat) < 100 from by decide, nf1⟩, List.forall_mem_cons.mpr ⟨⟨show (23 : Nat) < 100 from by decide, nf2⟩, List.forall_mem_cons.mpr ⟨⟨show (23 : Nat) < 100 from by decide, nf3⟩, List.forall_mem_cons.mpr ⟨⟨show (20 : Nat) < 100 from by decide, nf4⟩, List.forall_mem_cons.mpr ⟨⟨show (20 : Nat) < 100 from by decide, nf5⟩, List.forall_mem_cons.mpr ⟨⟨show (20 : Nat) < 100 from by decide, nf6⟩, List.forall_mem_cons.mpr ⟨⟨show (20 : Nat) < 100 from by decide, nf7⟩, List.forall_mem_cons.mpr ⟨⟨show (20 : Nat) < 100 from by decide, nf8⟩, (fun _ h => (by cases h))⟩⟩⟩⟩⟩⟩⟩⟩⟩, (fun _ h => (by cases h))⟩
set_option maxHeartbeats 4000000 in
theorem vc_Mo_item_at_k2_6_0 (x3 : Int) (x13 : Int) (r_0 : Int) (gx : Int) (k3 : 0 ≤ x3 ∧ x3 ≤ 2000) (k13 : 0 ≤ x13 ∧ x13 ≤ 2000) (f2 : 1 * x13 + ((-1) * x3 + 0) ≤ 0) (f3 : (-1) * x13 + (1 * x3 + 0) ≤ 0) (ex2 : gx = x3) : 1 * gx + ((-1) * x3 + 0) ≤ 0 := by
  first
    | omega
    | (have q1 := (hE_0_2_1 (r_0 + 2) (by omega)).2 (by omega)
       have q2 := (hE_0_2_2 (r_0 + 2) (by omega)).2 (by omega)
       omega)
    | (have q1 := (hE_0_2_1 (r_0 + 1) (by omega)).2 (by omega)
       have q2 := (hE_0_2_2 (r_0 + 1) (by omega)).2 (by omega)
       omega)
    | (have q1 := (hE_0_2_1 (r_0 + 2) (by omega)).2 (by omega)
       omega)
    | (have q1 := (hE_0_2_1 (r_0 + 1) (by omega)).2 (by omega)
       omega)
    | (have q1 := (hE_0_2_1 (r_0 + 2) (by omega)).2 (by omega)
       have q2 := (hE_0_2_2 (r_0 + 2) (by omega)).2 (by omega)
       have q3 := (hE_0_2_3 (r_0 + 2) (by omega)).1 (by omega)
       omega)
    | (have q1 := (hE_0_2_1 (r_0 + 2) (by omega)).2 (by omega)
       have q2 := (hE_0_2_2 (r_0 + 2) (by omega)).2 (by omega)
       have q3 := (hE_0_2_3 (r_0 + 2) (by omega)).2 (by omega)
       omega)
set_option maxHeartbeats 4000000 in
theorem vc_Mo_item_at_k2_6_1 (x3 : Int) (x13 : Int) (r_0 : Int) (gx : Int) (k3 : 0 ≤ x3 ∧ x3 ≤ 2000) (k13 : 0 ≤ x13 ∧ x13 ≤ 2000) (f2 : 1 * x13 + ((-1) * x3 + 0) ≤ 0) (f3 : (-1) * x13 + (1 * x3 + 0) ≤ 0) (ex2 : gx = x3) : (-1) * gx + (1 * x3 + 0) ≤ 0 := by
  first
    | omega
    | (have q1 := (hE_0_2_1 (r_0 + 2) (by omega)).2 (by omega)
       have q2 := (hE_0_2_2 (r_0 + 2) (by omega)).2 (by omega)
       omega)
    | (have q1 := (hE_0_2_1 (r_0 + 1) (by omega)).2 (by omega)
       have q2 := (hE_0_2_2 (r_0 + 1) (by omega)).2 (by omega)
       omega)
    | (have q1 := (hE_0_2_1 (r_0 + 2) (by omega)).2 (by omega)
       omega)
    | (have q1 := (hE_0_2_1 (r_0 + 1) (by omega)).2 (by omega)
       omega)
    | (have q1 := (hE_0_2_1 (r_0 + 2) (by omega)).2 (by omega)
       have q2 := (hE_0_2_2 (r_0 + 2) (by omega)).2 (by omega)
       have q3 := (hE_0_2_3 (r_0 + 2) (by omega)).1 (by omega)
       omega)
    | (have q1 := (hE_0_2_1 (r_0 + 2) (by omega)).2 (by omega)
       have q2 := (hE_0_2_2 (r_0 + 2) (by omega)).2 (by omega)
       have q3 := (hE_0_2_3 (r_0 + 2) (by omega)).2 (by omega)
       omega)
set_option maxHeartbeats 4000000 in
theorem vc_Mo_item_at_k2_6_2 (r_0 : Int) (from_0 : Int) (pos_0 : Int) (f12 : 1 * from_0 + ((-1) * pos_0 + 0) ≤ 0) (kz_0_11 : 0 ≤ pos_0 ∧ pos_0 ≤ 2000) (kz_0_15 : 0 ≤ from_0 ∧ from_0 ≤ 2000) : 1 * from_0 + ((-1) * pos_0 + 0) ≤ 0 := by
  first
    | omega
    | (have q1 := (hE_0_2_1 (r_0 + 2) (by omega)).2 (by omega)
       have q2 := (hE_0_2_2 (r_0 + 2) (by omega)).2 (by omega)
       omega)
    | (have q1 := (hE_0_2_1 (r_0 + 1) (by omega)).2 (by omega)
       have q2 := (hE_0_2_2 (r_0 + 1) (by omega)).2 (by omega)
       omega)
    | (have q1 := (hE_0_2_1 (r_0 + 2) (by omega)).2 (by omega)
       omega)
    | (have q1 := (hE_0_2_1 (r_0 + 1) (by omega)).2 (by omega)
       omega)
    | (have q1 := (hE_0_2_1 (r_0 + 2) (by omega)).2 (by omega)
       have q2 := (hE_0_2_2 (r_0 + 2) (by omega)).2 (by omega)
       have q3 := (hE_0_2_3 (r_0 + 2) (by omega)).1 (by omega)
       omega)
    | (have q1 := (hE_0_2_1 (r_0 + 2) (by omega)).2 (by omega)
       have q2 := (hE_0_2_2 (r_0 + 2) (by omega)).2 (by omega)
       have q3 := (hE_0_2_3 (r_0 + 2) (by omega)).2 (by omega)
       omega)
set_option maxHeartbeats 4000000 in
theorem vc_Mo_item_at_k2_6_3 (r_0 : Int) (from_0 : Int) (pos_0 : Int) (kind_0 : Int) (f13 : ((kind_0 = 1) → (pos_0 ≤ (from_0 + 8))) ∧ ((kind_0 = 0) ∨ ((from_0 + 1) ≤ pos_0))) (kz_0_11 : 0 ≤ pos_0 ∧ pos_0 ≤ 2000) (kz_0_12 : 0 ≤ kind_0 ∧ kind_0 ≤ 4) (kz_0_15 : 0 ≤ from_0 ∧ from_0 ≤ 2000) : ((kind_0 = 1) → (pos_0 ≤ (from_0 + 8))) ∧ ((kind_0 = 0) ∨ ((from_0 + 1) ≤ pos_0)) := by
  first
    | omega
    | (have q1 := (hE_0_2_1 (r_0 + 2) (by omega)).2 (by omega)
       have q2 := (hE_0_2_2 (r_0 + 2) (by omega)).2 (by omega)
       omega)
    | (have q1 := (hE_0_2_1 (r_0 + 1) (by omega)).2 (by omega)
       have q2 := (hE_0_2_2 (r_0 + 1) (by omega)).2 (by omega)
       omega)
    | (have q1 := (hE_0_2_1 (r_0 + 2) (by omega)).2 (by omega)
       omega)
    | (have q1 := (hE_0_2_1 (r_0 + 1) (by omega)).2 (by omega)
       omega)
    | (have q1 := (hE_0_2_1 (r_0 + 2) (by omega)).2 (by omega)
       have q2 := (hE_0_2_2 (r_0 + 2) (by omega)).2 (by omega)
       have q3 := (hE_0_2_3 (r_0 + 2) (by omega)).1 (by omega)
       omega)
    | (have q1 := (hE_0_2_1 (r_0 + 2) (by omega)).2 (by omega)
       have q2 := (hE_0_2_2 (r_0 + 2) (by omega)).2 (by omega)
       have q3 := (hE_0_2_3 (r_0 + 2) (by omega)).2 (by omega)
       omega)
set_option maxHeartbeats 4000000 in
theorem vc_Mo_item_at_k2_6_4 (x3 : Int) (x13 : Int) (r_0 : Int) (pos_0 : Int) (gx : Int) (k3 : 0 ≤ x3 ∧ x3 ≤ 2000) (k13 : 0 ≤ x13 ∧ x13 ≤ 2000) (f2 : 1 * x13 + ((-1) * x3 + 0) ≤ 0) (f3 : (-1) * x13 + (1 * x3 + 0) ≤ 0) (f14 : 1 * x13 + ((-1) * pos_0 + 0) ≤ 0) (kz_0_11 : 0 ≤ pos_0 ∧ pos_0 ≤ 2000) (ex2 : gx = x3) : 1 * gx + ((-1) * pos_0 + 0) ≤ 0 := by
  first
    | omega
    | (have q1 := (hE_0_2_1 (r_0 + 2) (by omega)).2 (by omega)
       have q2 := (hE_0_2_2 (r_0 + 2) (by omega)).2 (by omega)
       omega)
    | (have q1 := (hE_0_2_1 (r_0 + 1) (by omega)).2 (by omega)
       have q2 := (hE_0_2_2 (r_0 + 1) (by omega)).2 (by omega)
       omega)
    | (have q1 := (hE_0_2_1 (r_0 + 2) (by omega)).2 (by omega)
       omega)
    | (have q1 := (hE_0_2_1 (r_0 + 1) (by omega)).2 (by omega)
       omega)
    | (have q1 := (hE_0_2_1 (r_0 + 2) (by omega)).2 (by omega)
       have q2 := (hE_0_2_2 (r_0 + 2) (by omega)).2 (by omega)
       have q3 := (hE_0_2_3 (r_0 + 2) (by omega)).1 (by omega)
       omega)
    | (have q1 := (hE_0_2_1 (r_0 + 2) (by omega)).2 (by omega)
       have q2 := (hE_0_2_2 (r_0 + 2) (by omega)).2 (by omega)
       have q3 := (hE_0_2_3 (r_0 + 2) (by omega)).2 (by omega)
       omega)
set_option maxHeartbeats 4000000 in
theorem vc_Mo_item_at_k2_6_5 (x16 : Int) (fault_0 : Int) (r_0 : Int) (pos_0 : Int) (kind_0 : Int) (gx : Int) (k16 : 1 ≤ x16 ∧ x16 ≤ 5) (g1 : x16 = fault_0) (kz_0_8 : 0 ≤ fault_0 ∧ fault_0 ≤ 5) (kz_0_11 : 0 ≤ pos_0 ∧ pos_0 ≤ 2000) (kz_0_12 : 0 ≤ kind_0 ∧ kind_0 ≤ 4) : (1 ≤ fault_0) ∨ ((kind_0 = 0) ∨ ((gx + 1) ≤ pos_0)) := by
  first
    | omega
    | (have q1 := (hE_0_2_1 (r_0 + 2) (by omega)).2 (by omega)
       have q2 := (hE_0_2_2 (r_0 + 2) (by omega)).2 (by omega)
       omega)
    | (have q1 := (hE_0_2_1 (r_0 + 1) (by omega)).2 (by omega)
       have q2 := (hE_0_2_2 (r_0 + 1) (by omega)).2 (by omega)
       omega)
    | (have q1 := (hE_0_2_1 (r_0 + 2) (by omega)).2 (by omega)
       omega)
    | (have q1 := (hE_0_2_1 (r_0 + 1) (by omega)).2 (by omega)
       omega)
    | (have q1 := (hE_0_2_1 (r_0 + 2) (by omega)).2 (by omega)
       have q2 := (hE_0_2_2 (r_0 + 2) (by omega)).2 (by omega)
       have q3 := (hE_0_2_3 (r_0 + 2) (by omega)).1 (by omega)
       omega)
    | (have q1 := (hE_0_2_1 (r_0 + 2) (by omega)).2 (by omega)
       have q2 := (hE_0_2_2 (r_0 + 2) (by omega)).2 (by omega)
       have q3 := (hE_0_2_3 (r_0 + 2) (by omega)).2 (by omega)
       omega)
def o_Mo_item_at_k2_6 : or_T := (64, 18, [(0, (2, 0, 0, [165])), (1, (0, 0, 7, [])), (3, (0, 0, 2000, [])), (6, (0, 0, 2000, [])), (8, (0, 0, 2000, [])), (10, (0, -1, 23, [])), (12, (0, 99, 99, [])), (13, (0, 0, 2000, [])), (14, (0, -1, 48, [])), (15, (0, -2147483648, 2147483647, [])), (16, (0, 1, 5, []))], [(8, [16], [1]), (9, [16, 0], [8]), (23, [13, 3], [0, 1, -1]), (23, [13, 3], [0, -1, 1]), (23, [14, 10], [0, 1, -1]), (23, [14, 10], [0, -1, 1]), (23, [8, 3], [0, 1, -1]), (23, [8, 3], [0, -1, 1]), (23, [6, 3], [0, 1, -1]), (23, [6, 3], [0, -1, 1]), (20, [1, 0], [50, 1, 1, 1005, 1002, 0, 6, 4, 2, 1, 0, 0, 1, 3, 1, 2, 4, 3, 2, 1, 5, 0, 2]), (20, [0], [60, 1, 3, 199, 5, 2, 3, 4]), (20, [0, 0], [30, 0, 1, 1, 15, -1, 1, 11]), (20, [0], [50, 3, 0, 12, 11, 15, 2, 21, 4, 7, 1, 3, 2, 0, 12, 0, 1, 0, 3, 2, 0, 11, 4, 3, 2, 0, 15, 0, 8, 3, 7, 1, 3, 2, 0, 12, 0, 0, 0, 7, 4, 3, 2, 0, 15, 0, 1, 2, 0, 11]), (20, [13, 0], [30, 0, 1, 0, 0, -1, 1, 11]), (20, [0, 13], [50, 3, 0, 8, 12, 11, 3, 7, 0, 2, 0, 1, 2, 0, 8, 3, 7, 1, 3, 2, 0, 12, 0, 0, 0, 6, 4, 2, 1, 1, 0, 1, 2, 0, 11]), (20, [0, 14], [50, 1, 0, 8, 3, 7, 0, 2, 0, 1, 2, 0, 8, 0, 2, 0, 0, 1, 1]), (20, [15, 12], [30, 0, 1, 0, 0, -1, 0, 0]), (20, [15], [30, 0, -1, 0, 0]), (102, [14], [0, 165008, 165009, 165011, 165012, 165013, 165014, 165015]), (23, [13, 3], [0, 1, -1]), (23, [13, 3], [0, -1, 1]), (23, [14, 10], [0, 1, -1]), (23, [14, 10], [0, -1, 1]), (23, [8, 3], [0, 1, -1]), (23, [8, 3], [0, -1, 1]), (23, [6, 3], [0, 1, -1]), (23, [6, 3], [0, -1, 1]), (102, [9], [187072209578355573530071658587684226515959365500928, 165008, 165009, 165011, 165012, 165013, 165014, 165015]), (23, [8, 3], [0, 1, -1]), (23, [8, 3], [0, -1, 1]), (23, [6, 3], [0, 1, -1]), (23, [6, 3], [0, -1, 1]), (102, [6], [0, 165011, 165012, 165013, 165014, 165015]), (23, [6, 3], [0, 1, -1]), (23, [6, 3], [0, -1, 1])], [], [(0, 0, 2000, [])], [(23, [18, 3], [0, 1, -1]), (23, [18, 3], [0, -1, 1]), (20, [0, 0], [30, 0, 1, 1, 15, -1, 1, 11]), (20, [0], [50, 3, 0, 12, 11, 15, 2, 21, 4, 7, 1, 3, 2, 0, 12, 0, 1, 0, 3, 2, 0, 11, 4, 3, 2, 0, 15, 0, 8, 3, 7, 1, 3, 2, 0, 12, 0, 0, 0, 7, 4, 3, 2, 0, 15, 0, 1, 2, 0, 11]), (20, [18, 0], [30, 0, 1, 0, 0, -1, 1, 11]), (20, [0, 18], [50, 3, 0, 8, 12, 11, 3, 7, 0, 2, 0, 1, 2, 0, 8, 3, 7, 1, 3, 2, 0, 12, 0, 0, 0, 6, 4, 2, 1, 1, 0, 1, 2, 0, 11])], [], [])
theorem oo_Mo_item_at_k2_6 {kA : Nat → ClassId} : or_ok PRD kA GG o_Mo_item_at_k2_6 := by
  refine or_mk fun A ta ws vs hD hth hl => ?_
  intro t0 r0 t1 k1 t3 k3 t6 k6 t8 k8 t10 k10 t12 k12 t13 k13 t14 k14 t15 k15 t16 k16 f0 f1 f2 f3 f4 f5 f6 f7 f8 f9 f10 f11 f12 f13 f14 f15 f16 f17 f18 ta1 w1 le1 s1 f20 f21 f22 f23 f24 f25 f26 f27 ta2 w2 le2 s2 f29 f30 f31 f32 ta3 w3 le3 s3 f34 f35
  replace f1 := shm_143 f1
  replace f2 := shm_7 f2
  replace f3 := shm_22 f3
  replace f12 := shm_1397 f12
  replace f13 := shm_1398 f13
  replace f14 := shm_1395 f14
  have g1 : v_iv (n_v vs 16) = w_fi ws (n_v vs 0) 8 := congrArg v_iv f1
  have kz_0_8 := fdq_14 hD hth r0
  have kz_0_11 := fdq_273 hD hth r0
  have kz_0_12 := fdq_186 hD hth r0
  have kz_0_15 := fdq_274 hD hth r0
  obtain ⟨x, ex, hx⟩ := iv_ex (ta := ta) (lo := 0) (hi := 2000) (z := v_iv (n_v vs 3)) (by omega) (by omega) (by omega) (by omega)
  have ex2 : v_iv (Value.int x) = v_iv (n_v vs 3) := ex
  have ex3 : 0 ≤ v_iv (Value.int x) ∧ v_iv (Value.int x) ≤ 2000 := tv_rng hx
  have e_0 : n_v (vs ++ [Value.int x]) 0 = n_v vs 0 := n_v_old (by rw [hl]; decide)
  have e_3 : n_v (vs ++ [Value.int x]) 3 = n_v vs 3 := n_v_old (by rw [hl]; decide)
  have e_18 : n_v (vs ++ [Value.int x]) 18 = Value.int x := n_v_new hl
  have nf0 : fc_1 PRD (23, [18, 3], [0, 1, -1]) ws (vs ++ [Value.int x]) := by
    refine ⟨nf_inA hl rfl, sgq_7 ?_⟩
    · show 1 * v_iv (n_v (vs ++ [Value.int x]) 18) + ((-1) * v_iv (n_v (vs ++ [Value.int x]) 3) + 0) ≤ 0
      simp only [e_3, e_18]
      exact vc_Mo_item_at_k2_6_0 (v_iv (n_v vs 3)) (v_iv (n_v vs 13)) (w_fi ws (n_v vs 0) 5) (v_iv (Value.int x)) k3 k13 f2 f3 ex2
  have nf1 : fc_1 PRD (23, [18, 3], [0, -1, 1]) ws (vs ++ [Value.int x]) := by
    refine ⟨nf_inA hl rfl, sgq_22 ?_⟩
    · show (-1) * v_iv (n_v (vs ++ [Value.int x]) 18) + (1 * v_iv (n_v (vs ++ [Value.int x]) 3) + 0) ≤ 0
      simp only [e_3, e_18]
      exact vc_Mo_item_at_k2_6_1 (v_iv (n_v vs 3)) (v_iv (n_v vs 13)) (w_fi ws (n_v vs 0) 5) (v_iv (Value.int x)) k3 k13 f2 f3 ex2
  have nf2 : fc_1 PRD (20, [0, 0], [30, 0, 1, 1, 15, -1, 1, 11]) ws (vs ++ [Value.int x]) := by
    refine ⟨nf_inA hl rfl, sgq_1397 ?_⟩
    · show 1 * w_fi ws (n_v (vs ++ [Value.int x]) 0) 15 + ((-1) * w_fi ws (n_v (vs ++ [Value.int x]) 0) 11 + 0) ≤ 0
      rw [e_0]
      exact vc_Mo_item_at_k2_6_2 (w_fi ws (n_v vs 0) 5) (w_fi ws (n_v vs 0) 15) (w_fi ws (n_v vs 0) 11) f12 kz_0_11 kz_0_15
  have nf3 : fc_1 PRD (20, [0], [50, 3, 0, 12, 11, 15, 2, 21, 4, 7, 1, 3, 2, 0, 12, 0, 1, 0, 3, 2, 0, 11, 4, 3, 2, 0, 15, 0, 8, 3, 7, 1, 3, 2, 0, 12, 0, 0, 0, 7, 4, 3, 2, 0, 15, 0, 1, 2, 0, 11]) ws (vs ++ [Value.int x]) := by
    refine ⟨nf_inA hl rfl, sgq_1398 ?_⟩
    · show ((w_fi ws (n_v (vs ++ [Value.int x]) 0) 12 = 1) → (w_fi ws (n_v (vs ++ [Value.int x]) 0) 11 ≤ (w_fi ws (n_v (vs ++ [Value.int x]) 0) 15 + 8))) ∧ ((w_fi ws (n_v (vs ++ [Value.int x]) 0) 12 = 0) ∨ ((w_fi ws (n_v (vs ++ [Value.int x]) 0) 15 + 1) ≤ w_fi ws (n_v (vs ++ [Value.int x]) 0) 11))
      rw [e_0]
      exact vc_Mo_item_at_k2_6_3 (w_fi ws (n_v vs 0) 5) (w_fi ws (n_v vs 0) 15) (w_fi ws (n_v vs 0) 11) (w_fi ws (n_v vs 0) 12) f13 kz_0_11 kz_0_12 kz_0_15
  have nf4 : fc_1 PRD (20, [18, 0], [30, 0, 1, 0, 0, -1, 1, 11]) ws (vs ++ [Value.int x]) := by
    refine ⟨nf_inA hl rfl, sgq_1395 ?_⟩
    · show 1 * v_iv (n_v (vs ++ [Value.int x]) 18) + ((-1) * w_fi ws (n_v (vs ++ [Value.int x]) 0) 11 + 0) ≤ 0
      simp only [e_0, e_18]
      exact vc_Mo_item_at_k2_6_4 (v_iv (n_v vs 3)) (v_iv (n_v vs 13)) (w_fi ws (n_v vs 0) 5) (w_fi ws (n_v vs 0) 11) (v_iv (Value.int x)) k3 k13 f2 f3 f14 kz_0_11 ex2
  have nf5 : fc_1 PRD (20, [0, 18], [50, 3, 0, 8, 12, 11, 3, 7, 0, 2, 0, 1, 2, 0, 8, 3, 7, 1, 3, 2, 0, 12, 0, 0, 0, 6, 4, 2, 1, 1, 0, 1, 2, 0, 11]) ws (vs ++ [Value.int x]) := by
    refine ⟨nf_inA hl rfl, sgq_1660 ?_⟩
    · show (1 ≤ w_fi ws (n_v (vs ++ [Value.int x]) 0) 8) ∨ ((w_fi ws (n_v (vs ++ [Value.int x]) 0) 12 = 0) ∨ ((v_iv (n_v (vs ++ [Value.int x]) 18) + 1) ≤ w_fi ws (n_v (vs ++ [Value.int x]) 0) 11))
      simp only [e_0, e_18]
      exact vc_Mo_item_at_k2_6_5 (v_iv (n_v vs 16)) (w_fi ws (n_v vs 0) 8) (w_fi ws (n_v vs 0) 5) (w_fi ws (n_v vs 0) 11) (w_fi ws (n_v vs 0) 12) (v_iv (Value.int x)) k16 g1 kz_0_8 kz_0_11 kz_0_12
  exact ⟨(fun _ h => (by cases h)), [Value.int x], ag_one hx, List.forall_mem_cons.mpr ⟨⟨show (23 : Nat) < 100 from by decide, nf0⟩, List.forall_mem_cons.mpr ⟨⟨show (23 : Nat) < 100 from by decide, nf1⟩, List.forall_mem_cons.mpr ⟨⟨show (20 : Nat) < 100 from by decide, nf2⟩, List.forall_mem_cons.mpr ⟨⟨show (20 : Nat) < 100 from by decide, nf3⟩, List.forall_mem_cons.mpr ⟨⟨show (20 : Nat) < 100 from by decide, nf4⟩, List.forall_mem_cons.mpr ⟨⟨show (20 : Nat) < 100 from by decide, nf5⟩, (fun _ h => (by cases h))⟩⟩⟩⟩⟩⟩, (fun _ h => (by cases h))⟩
set_option maxHeartbeats 4000000 in
theorem vc_Mo_item_at_k2_7_0 (x3 : Int) (x18 : Int) (r_0 : Int) (pos_0 : Int) (k3 : 0 ≤ x3 ∧ x3 ≤ 2000) (k18 : 0 ≤ x18 ∧ x18 ≤ 2000) (f0 : 1 * x18 + ((-1) * x3 + 0) ≤ 0) (f1 : (-1) * x18 + (1 * x3 + 0) ≤ 0) (f14 : 1 * x18 + ((-1) * pos_0 + 0) ≤ 0) (kz_0_11 : 0 ≤ pos_0 ∧ pos_0 ≤ 2000) : 1 * x3 + ((-1) * pos_0 + 0) ≤ 0 := by
  first
    | omega
    | (have q1 := (hE_0_2_1 (r_0 + 2) (by omega)).2 (by omega)
       have q2 := (hE_0_2_2 (r_0 + 2) (by omega)).2 (by omega)
       omega)
    | (have q1 := (hE_0_2_1 (r_0 + 1) (by omega)).2 (by omega)
       have q2 := (hE_0_2_2 (r_0 + 1) (by omega)).2 (by omega)
       omega)
    | (have q1 := (hE_0_2_1 (r_0 + 2) (by omega)).2 (by omega)
       omega)
    | (have q1 := (hE_0_2_1 (r_0 + 1) (by omega)).2 (by omega)
       omega)
    | (have q1 := (hE_0_2_1 (r_0 + 2) (by omega)).2 (by omega)
       have q2 := (hE_0_2_2 (r_0 + 2) (by omega)).2 (by omega)
       have q3 := (hE_0_2_3 (r_0 + 2) (by omega)).1 (by omega)
       omega)
    | (have q1 := (hE_0_2_1 (r_0 + 2) (by omega)).2 (by omega)
       have q2 := (hE_0_2_2 (r_0 + 2) (by omega)).2 (by omega)
       have q3 := (hE_0_2_3 (r_0 + 2) (by omega)).2 (by omega)
       omega)
set_option maxHeartbeats 4000000 in
theorem vc_Mo_item_at_k2_7_1 (x3 : Int) (x18 : Int) (r_0 : Int) (pos_0 : Int) (fault_0 : Int) (k3 : 0 ≤ x3 ∧ x3 ≤ 2000) (k18 : 0 ≤ x18 ∧ x18 ≤ 2000) (f0 : 1 * x18 + ((-1) * x3 + 0) ≤ 0) (f1 : (-1) * x18 + (1 * x3 + 0) ≤ 0) (f14 : 1 * x18 + ((-1) * pos_0 + 0) ≤ 0) (f15 : (1 ≤ fault_0) ∨ ((x18 + 1) ≤ pos_0)) (kz_0_8 : 0 ≤ fault_0 ∧ fault_0 ≤ 5) (kz_0_11 : 0 ≤ pos_0 ∧ pos_0 ≤ 2000) : (1 ≤ fault_0) ∨ ((x3 + 1) ≤ pos_0) := by
  first
    | omega
    | (have q1 := (hE_0_2_1 (r_0 + 2) (by omega)).2 (by omega)
       have q2 := (hE_0_2_2 (r_0 + 2) (by omega)).2 (by omega)
       omega)
    | (have q1 := (hE_0_2_1 (r_0 + 1) (by omega)).2 (by omega)
       have q2 := (hE_0_2_2 (r_0 + 1) (by omega)).2 (by omega)
       omega)
    | (have q1 := (hE_0_2_1 (r_0 + 2) (by omega)).2 (by omega)
       omega)
    | (have q1 := (hE_0_2_1 (r_0 + 1) (by omega)).2 (by omega)
       omega)
    | (have q1 := (hE_0_2_1 (r_0 + 2) (by omega)).2 (by omega)
       have q2 := (hE_0_2_2 (r_0 + 2) (by omega)).2 (by omega)
       have q3 := (hE_0_2_3 (r_0 + 2) (by omega)).1 (by omega)
       omega)
    | (have q1 := (hE_0_2_1 (r_0 + 2) (by omega)).2 (by omega)
       have q2 := (hE_0_2_2 (r_0 + 2) (by omega)).2 (by omega)
       have q3 := (hE_0_2_3 (r_0 + 2) (by omega)).2 (by omega)
       omega)
def o_Mo_item_at_k2_7 : or_T := (94, 19, [(0, (2, 0, 0, [165])), (1, (0, 0, 7, [])), (3, (0, 0, 2000, [])), (6, (0, 0, 2000, [])), (8, (0, 0, 2000, [])), (12, (0, 99, 99, [])), (13, (0, 0, 2000, [])), (15, (0, -2147483648, 2147483647, [])), (18, (0, 0, 2000, []))], [(23, [18, 3], [0, 1, -1]), (23, [18, 3], [0, -1, 1]), (23, [13, 3], [0, 1, -1]), (23, [13, 3], [0, -1, 1]), (23, [8, 3], [0, 1, -1]), (23, [8, 3], [0, -1, 1]), (23, [6, 3], [0, 1, -1]), (23, [6, 3], [0, -1, 1]), (20, [1, 0], [50, 1, 1, 1005, 1002, 0, 6, 4, 2, 1, 0, 0, 1, 3, 1, 2, 4, 3, 2, 1, 5, 0, 2]), (20, [0], [60, 1, 3, 199, 5, 2, 3, 4]), (20, [15, 12], [30, 0, 1, 0, 0, -1, 0, 0]), (20, [15], [30, 0, -1, 0, 0]), (20, [0, 0], [30, 0, 1, 1, 15, -1, 1, 11]), (20, [0], [50, 3, 0, 12, 11, 15, 2, 21, 4, 7, 1, 3, 2, 0, 12, 0, 1, 0, 3, 2, 0, 11, 4, 3, 2, 0, 15, 0, 8, 3, 7, 1, 3, 2, 0, 12, 0, 0, 0, 7, 4, 3, 2, 0, 15, 0, 1, 2, 0, 11]), (20, [18, 0], [30, 0, 1, 0, 0, -1, 1, 11]), (20, [0, 18], [50, 2, 0, 8, 11, 3, 7, 0, 2, 0, 1, 2, 0, 8, 0, 6, 4, 2, 1, 1, 0, 1, 2, 0, 11]), (102, [18], [0, 165008, 165009, 165011, 165012, 165013, 165014, 165015]), (23, [18, 3], [0, 1, -1]), (23, [18, 3], [0, -1, 1]), (23, [13, 3], [0, 1, -1]), (23, [13, 3], [0, -1, 1]), (23, [8, 3], [0, 1, -1]), (23, [8, 3], [0, -1, 1]), (23, [6, 3], [0, 1, -1]), (23, [6, 3], [0, -1, 1]), (102, [14], [0, 165008, 165009, 165011, 165012, 165013, 165014, 165015]), (23, [13, 3], [0, 1, -1]), (23, [13, 3], [0, -1, 1]), (23, [8, 3], [0, 1, -1]), (23, [8, 3], [0, -1, 1]), (23, [6, 3], [0, 1, -1]), (23, [6, 3], [0, -1, 1]), (102, [9], [187072209578355573530071658587684226515959365500928, 165008, 165009, 165011, 165012, 165013, 165014, 165015]), (23, [8, 3], [0, 1, -1]), (23, [8, 3], [0, -1, 1]), (23, [6, 3], [0, 1, -1]), (23, [6, 3], [0, -1, 1]), (102, [6], [0, 165011, 165012, 165013, 165014, 165015]), (23, [6, 3], [0, 1, -1]), (23, [6, 3], [0, -1, 1])], [], [], [(20, [3, 0], [30, 0, 1, 0, 0, -1, 1, 11]), (20, [0, 3], [50, 2, 0, 8, 11, 3, 7, 0, 2, 0, 1, 2, 0, 8, 0, 6, 4, 2, 1, 1, 0, 1, 2, 0, 11])], [], [])
theorem oo_Mo_item_at_k2_7 {kA : Nat → ClassId} : or_ok PRD kA GG o_Mo_item_at_k2_7 := by
  refine or_mk fun A ta ws vs hD hth hl => ?_
  intro t0 r0 t1 k1 t3 k3 t6 k6 t8 k8 t12 k12 t13 k13 t15 k15 t18 k18 f0 f1 f2 f3 f4 f5 f6 f7 f8 f9 f10 f11 f12 f13 f14 f15 ta1 w1 le1 s1 f17 f18 f19 f20 f21 f22 f23 f24 ta2 w2 le2 s2 f26 f27 f28 f29 f30 f31 ta3 w3 le3 s3 f33 f34 f35 f36 ta4 w4 le4 s4 f38 f39
  have kz_0_8 := fdq_14 hD hth r0
  have kz_0_11 := fdq_273 hD hth r0
  have nf0 : fc_1 PRD (20, [3, 0], [30, 0, 1, 0, 0, -1, 1, 11]) ws (vs) := ⟨nf_in hl rfl, sgq_1395 (vc_Mo_item_at_k2_7_0 (v_iv (n_v vs 3)) (v_iv (n_v vs 18)) (w_fi ws (n_v vs 0) 5) (w_fi ws (n_v vs 0) 11) k3 k18 (shm_7 f0) (shm_22 f1) (shm_1395 f14) kz_0_11)⟩
  have nf1 : fc_1 PRD (20, [0, 3], [50, 2, 0, 8, 11, 3, 7, 0, 2, 0, 1, 2, 0, 8, 0, 6, 4, 2, 1, 1, 0, 1, 2, 0, 11]) ws (vs) := ⟨nf_in hl rfl, sgq_1659 (vc_Mo_item_at_k2_7_1 (v_iv (n_v vs 3)) (v_iv (n_v vs 18)) (w_fi ws (n_v vs 0) 5) (w_fi ws (n_v vs 0) 11) (w_fi ws (n_v vs 0) 8) k3 k18 (shm_7 f0) (shm_22 f1) (shm_1395 f14) (shm_1659 f15) kz_0_8 kz_0_11)⟩
  refine ⟨(fun _ h => (by cases h)), [], trivial, ?_, (fun _ h => (by cases h))⟩
  rw [List.append_nil]
  exact List.forall_mem_cons.mpr ⟨⟨show (20 : Nat) < 100 from by decide, nf0⟩, List.forall_mem_cons.mpr ⟨⟨show (20 : Nat) < 100 from by decide, nf1⟩, (fun _ h => (by cases h))⟩⟩
set_option maxHeartbeats 4000000 in
theorem vc_Mo_item_at_k2_8_0 (x3 : Int) (x13 : Int) (r_0 : Int) (gx : Int) (k3 : 0 ≤ x3 ∧ x3 ≤ 2000) (k13 : 0 ≤ x13 ∧ x13 ≤ 2000) (f3 : 1 * x13 + ((-1) * x3 + 0) ≤ 0) (f4 : (-1) * x13 + (1 * x3 + 0) ≤ 0) (ex2 : gx = x3) : 1 * gx + ((-1) * x3 + 0) ≤ 0 := by
  first
    | omega
    | (have q1 := (hE_0_2_1 (r_0 + 2) (by omega)).2 (by omega)
       have q2 := (hE_0_2_2 (r_0 + 2) (by omega)).2 (by omega)
       omega)
    | (have q1 := (hE_0_2_1 (r_0 + 1) (by omega)).2 (by omega)
       have q2 := (hE_0_2_2 (r_0 + 1) (by omega)).2 (by omega)
       omega)
    | (have q1 := (hE_0_2_1 (r_0 + 2) (by omega)).2 (by omega)
       omega)
    | (have q1 := (hE_0_2_1 (r_0 + 1) (by omega)).2 (by omega)
       omega)
    | (have q1 := (hE_0_2_1 (r_0 + 2) (by omega)).2 (by omega)
       have q2 := (hE_0_2_2 (r_0 + 2) (by omega)).2 (by omega)
       have q3 := (hE_0_2_3 (r_0 + 2) (by omega)).1 (by omega)
       omega)
    | (have q1 := (hE_0_2_1 (r_0 + 2) (by omega)).2 (by omega)
       have q2 := (hE_0_2_2 (r_0 + 2) (by omega)).2 (by omega)
       have q3 := (hE_0_2_3 (r_0 + 2) (by omega)).2 (by omega)
       omega)
set_option maxHeartbeats 4000000 in
theorem vc_Mo_item_at_k2_8_1 (x3 : Int) (x13 : Int) (r_0 : Int) (gx : Int) (k3 : 0 ≤ x3 ∧ x3 ≤ 2000) (k13 : 0 ≤ x13 ∧ x13 ≤ 2000) (f3 : 1 * x13 + ((-1) * x3 + 0) ≤ 0) (f4 : (-1) * x13 + (1 * x3 + 0) ≤ 0) (ex2 : gx = x3) : (-1) * gx + (1 * x3 + 0) ≤ 0 := by
  first
    | omega
    | (have q1 := (hE_0_2_1 (r_0 + 2) (by omega)).2 (by omega)
       have q2 := (hE_0_2_2 (r_0 + 2) (by omega)).2 (by omega)
       omega)
    | (have q1 := (hE_0_2_1 (r_0 + 1) (by omega)).2 (by omega)
       have q2 := (hE_0_2_2 (r_0 + 1) (by omega)).2 (by omega)
       omega)
    | (have q1 := (hE_0_2_1 (r_0 + 2) (by omega)).2 (by omega)
       omega)
    | (have q1 := (hE_0_2_1 (r_0 + 1) (by omega)).2 (by omega)
       omega)
    | (have q1 := (hE_0_2_1 (r_0 + 2) (by omega)).2 (by omega)
       have q2 := (hE_0_2_2 (r_0 + 2) (by omega)).2 (by omega)
       have q3 := (hE_0_2_3 (r_0 + 2) (by omega)).1 (by omega)
       omega)
    | (have q1 := (hE_0_2_1 (r_0 + 2) (by omega)).2 (by omega)
       have q2 := (hE_0_2_2 (r_0 + 2) (by omega)).2 (by omega)
       have q3 := (hE_0_2_3 (r_0 + 2) (by omega)).2 (by omega)
       omega)
set_option maxHeartbeats 4000000 in
theorem vc_Mo_item_at_k2_8_2 (r_0 : Int) (from_0 : Int) (pos_0 : Int) (f13 : 1 * from_0 + ((-1) * pos_0 + 0) ≤ 0) (kz_0_11 : 0 ≤ pos_0 ∧ pos_0 ≤ 2000) (kz_0_15 : 0 ≤ from_0 ∧ from_0 ≤ 2000) : 1 * from_0 + ((-1) * pos_0 + 0) ≤ 0 := by
  first
    | omega
    | (have q1 := (hE_0_2_1 (r_0 + 2) (by omega)).2 (by omega)
       have q2 := (hE_0_2_2 (r_0 + 2) (by omega)).2 (by omega)
       omega)
    | (have q1 := (hE_0_2_1 (r_0 + 1) (by omega)).2 (by omega)
       have q2 := (hE_0_2_2 (r_0 + 1) (by omega)).2 (by omega)
       omega)
    | (have q1 := (hE_0_2_1 (r_0 + 2) (by omega)).2 (by omega)
       omega)
    | (have q1 := (hE_0_2_1 (r_0 + 1) (by omega)).2 (by omega)
       omega)
    | (have q1 := (hE_0_2_1 (r_0 + 2) (by omega)).2 (by omega)
       have q2 := (hE_0_2_2 (r_0 + 2) (by omega)).2 (by omega)
       have q3 := (hE_0_2_3 (r_0 + 2) (by omega)).1 (by omega)
       omega)
    | (have q1 := (hE_0_2_1 (r_0 + 2) (by omega)).2 (by omega)
       have q2 := (hE_0_2_2 (r_0 + 2) (by omega)).2 (by omega)
       have q3 := (hE_0_2_3 (r_0 + 2) (by omega)).2 (by omega)
       omega)
set_option maxHeartbeats 4000000 in
theorem vc_Mo_item_at_k2_8_3 (r_0 : Int) (from_0 : Int) (pos_0 : Int) (kind_0 : Int) (f14 : ((kind_0 = 1) → (pos_0 ≤ (from_0 + 8))) ∧ ((kind_0 = 0) ∨ ((from_0 + 1) ≤ pos_0))) (kz_0_11 : 0 ≤ pos_0 ∧ pos_0 ≤ 2000) (kz_0_12 : 0 ≤ kind_0 ∧ kind_0 ≤ 4) (kz_0_15 : 0 ≤ from_0 ∧ from_0 ≤ 2000) : ((kind_0 = 1) → (pos_0 ≤ (from_0 + 8))) ∧ ((kind_0 = 0) ∨ ((from_0 + 1) ≤ pos_0)) := by
  first
    | omega
    | (have q1 := (hE_0_2_1 (r_0 + 2) (by omega)).2 (by omega)
       have q2 := (hE_0_2_2 (r_0 + 2) (by omega)).2 (by omega)
       omega)
    | (have q1 := (hE_0_2_1 (r_0 + 1) (by omega)).2 (by omega)
       have q2 := (hE_0_2_2 (r_0 + 1) (by omega)).2 (by omega)
       omega)
    | (have q1 := (hE_0_2_1 (r_0 + 2) (by omega)).2 (by omega)
       omega)
    | (have q1 := (hE_0_2_1 (r_0 + 1) (by omega)).2 (by omega)
       omega)
    | (have q1 := (hE_0_2_1 (r_0 + 2) (by omega)).2 (by omega)
       have q2 := (hE_0_2_2 (r_0 + 2) (by omega)).2 (by omega)
       have q3 := (hE_0_2_3 (r_0 + 2) (by omega)).1 (by omega)
       omega)
    | (have q1 := (hE_0_2_1 (r_0 + 2) (by omega)).2 (by omega)
       have q2 := (hE_0_2_2 (r_0 + 2) (by omega)).2 (by omega)
       have q3 := (hE_0_2_3 (r_0 + 2) (by omega)).2 (by omega)
       omega)
set_option maxHeartbeats 4000000 in
theorem vc_Mo_item_at_k2_8_4 (x3 : Int) (x13 : Int) (r_0 : Int) (pos_0 : Int) (gx : Int) (k3 : 0 ≤ x3 ∧ x3 ≤ 2000) (k13 : 0 ≤ x13 ∧ x13 ≤ 2000) (f3 : 1 * x13 + ((-1) * x3 + 0) ≤ 0) (f4 : (-1) * x13 + (1 * x3 + 0) ≤ 0) (f15 : 1 * x13 + ((-1) * pos_0 + 0) ≤ 0) (kz_0_11 : 0 ≤ pos_0 ∧ pos_0 ≤ 2000) (ex2 : gx = x3) : 1 * gx + ((-1) * pos_0 + 0) ≤ 0 := by
  first
    | omega
    | (have q1 := (hE_0_2_1 (r_0 + 2) (by omega)).2 (by omega)
       have q2 := (hE_0_2_2 (r_0 + 2) (by omega)).2 (by omega)
       omega)
    | (have q1 := (hE_0_2_1 (r_0 + 1) (by omega)).2 (by omega)
       have q2 := (hE_0_2_2 (r_0 + 1) (by omega)).2 (by omega)
       omega)
    | (have q1 := (hE_0_2_1 (r_0 + 2) (by omega)).2 (by omega)
       omega)
    | (have q1 := (hE_0_2_1 (r_0 + 1) (by omega)).2 (by omega)
       omega)
    | (have q1 := (hE_0_2_1 (r_0 + 2) (by omega)).2 (by omega)
       have q2 := (hE_0_2_2 (r_0 + 2) (by omega)).2 (by omega)
       have q3 := (hE_0_2_3 (r_0 + 2) (by omega)).1 (by omega)
       omega)
    | (have q1 := (hE_0_2_1 (r_0 + 2) (by omega)).2 (by omega)
       have q2 := (hE_0_2_2 (r_0 + 2) (by omega)).2 (by omega)
       have q3 := (hE_0_2_3 (r_0 + 2) (by omega)).2 (by omega)
       omega)
set_option maxHeartbeats 4000000 in
theorem vc_Mo_item_at_k2_8_5 (x3 : Int) (x13 : Int) (x14 : Int) (x16 : Int) (fault_0 : Int) (r_0 : Int) (pos_0 : Int) (kind_0 : Int) (gx : Int) (k3 : 0 ≤ x3 ∧ x3 ≤ 2000) (k13 : 0 ≤ x13 ∧ x13 ≤ 2000) (k14 : (-1) ≤ x14 ∧ x14 ≤ 48) (k16 : 0 ≤ x16 ∧ x16 ≤ 0) (g2 : x16 = fault_0) (f3 : 1 * x13 + ((-1) * x3 + 0) ≤ 0) (f4 : (-1) * x13 + (1 * x3 + 0) ≤ 0) (f15 : 1 * x13 + ((-1) * pos_0 + 0) ≤ 0) (f16 : (1 ≤ fault_0) ∨ ((kind_0 = 0) ∨ ((x13 + 1) ≤ pos_0))) (f17 : (1 ≤ fault_0) ∨ (0 ≤ x14)) (kz_0_8 : 0 ≤ fault_0 ∧ fault_0 ≤ 5) (kz_0_11 : 0 ≤ pos_0 ∧ pos_0 ≤ 2000) (kz_0_12 : 0 ≤ kind_0 ∧ kind_0 ≤ 4) (ex2 : gx = x3) : (1 ≤ fault_0) ∨ ((kind_0 = 0) ∨ ((gx + 1) ≤ pos_0)) := by
  first
    | omega
    | (have q1 := (hE_0_2_1 (r_0 + 2) (by omega)).2 (by omega)
       have q2 := (hE_0_2_2 (r_0 + 2) (by omega)).2 (by omega)
       omega)
    | (have q1 := (hE_0_2_1 (r_0 + 1) (by omega)).2 (by omega)
       have q2 := (hE_0_2_2 (r_0 + 1) (by omega)).2 (by omega)
       omega)
    | (have q1 := (hE_0_2_1 (r_0 + 2) (by omega)).2 (by omega)
       omega)
    | (have q1 := (hE_0_2_1 (r_0 + 1) (by omega)).2 (by omega)
       omega)
    | (have q1 := (hE_0_2_1 (r_0 + 2) (by omega)).2 (by omega)
       have q2 := (hE_0_2_2 (r_0 + 2) (by omega)).2 (by omega)
       have q3 := (hE_0_2_3 (r_0 + 2) (by omega)).1 (by omega)
       omega)
    | (have q1 := (hE_0_2_1 (r_0 + 2) (by omega)).2 (by omega)
       have q2 := (hE_0_2_2 (r_0 + 2) (by omega)).2 (by omega)
       have q3 := (hE_0_2_3 (r_0 + 2) (by omega)).2 (by omega)
       omega)
def o_Mo_item_at_k2_8 : or_T := (64, 18, [(0, (2, 0, 0, [165])), (1, (0, 0, 7, [])), (3, (0, 0, 2000, [])), (6, (0, 0, 2000, [])), (8, (0, 0, 2000, [])), (10, (0, -1, 23, [])), (12, (0, 99, 99, [])), (13, (0, 0, 2000, [])), (14, (0, -1, 48, [])), (15, (0, -2147483648, 0, [])), (16, (0, 0, 0, []))], [(8, [15], [5]), (8, [16], [0]), (9, [16, 0], [8]), (23, [13, 3], [0, 1, -1]), (23, [13, 3], [0, -1, 1]), (23, [14, 10], [0, 1, -1]), (23, [14, 10], [0, -1, 1]), (23, [8, 3], [0, 1, -1]), (23, [8, 3], [0, -1, 1]), (23, [6, 3], [0, 1, -1]), (23, [6, 3], [0, -1, 1]), (20, [1, 0], [50, 1, 1, 1005, 1002, 0, 6, 4, 2, 1, 0, 0, 1, 3, 1, 2, 4, 3, 2, 1, 5, 0, 2]), (20, [0], [60, 1, 3, 199, 5, 2, 3, 4]), (20, [0, 0], [30, 0, 1, 1, 15, -1, 1, 11]), (20, [0], [50, 3, 0, 12, 11, 15, 2, 21, 4, 7, 1, 3, 2, 0, 12, 0, 1, 0, 3, 2, 0, 11, 4, 3, 2, 0, 15, 0, 8, 3, 7, 1, 3, 2, 0, 12, 0, 0, 0, 7, 4, 3, 2, 0, 15, 0, 1, 2, 0, 11]), (20, [13, 0], [30, 0, 1, 0, 0, -1, 1, 11]), (20, [0, 13], [50, 3, 0, 8, 12, 11, 3, 7, 0, 2, 0, 1, 2, 0, 8, 3, 7, 1, 3, 2, 0, 12, 0, 0, 0, 6, 4, 2, 1, 1, 0, 1, 2, 0, 11]), (20, [0, 14], [50, 1, 0, 8, 3, 7, 0, 2, 0, 1, 2, 0, 8, 0, 2, 0, 0, 1, 1]), (20, [15, 12], [30, 0, 1, 0, 0, -1, 0, 0]), (20, [15], [30, 0, -1, 0, 0]), (102, [14], [0, 165008, 165009, 165011, 165012, 165013, 165014, 165015]), (23, [13, 3], [0, 1, -1]), (23, [13, 3], [0, -1, 1]), (23, [14, 10], [0, 1, -1]), (23, [14, 10], [0, -1, 1]), (23, [8, 3], [0, 1, -1]), (23, [8, 3], [0, -1, 1]), (23, [6, 3], [0, 1, -1]), (23, [6, 3], [0, -1, 1]), (102, [9], [187072209578355573530071658587684226515959365500928, 165008, 165009, 165011, 165012, 165013, 165014, 165015]), (23, [8, 3], [0, 1, -1]), (23, [8, 3], [0, -1, 1]), (23, [6, 3], [0, 1, -1]), (23, [6, 3], [0, -1, 1]), (102, [6], [0, 165011, 165012, 165013, 165014, 165015]), (23, [6, 3], [0, 1, -1]), (23, [6, 3], [0, -1, 1])], [], [(0, 0, 2000, [])], [(23, [18, 3], [0, 1, -1]), (23, [18, 3], [0, -1, 1]), (20, [0, 0], [30, 0, 1, 1, 15, -1, 1, 11]), (20, [0], [50, 3, 0, 12, 11, 15, 2, 21, 4, 7, 1, 3, 2, 0, 12, 0, 1, 0, 3, 2, 0, 11, 4, 3, 2, 0, 15, 0, 8, 3, 7, 1, 3, 2, 0, 12, 0, 0, 0, 7, 4, 3, 2, 0, 15, 0, 1, 2, 0, 11]), (20, [18, 0], [30, 0, 1, 0, 0, -1, 1, 11]), (20, [0, 18], [50, 3, 0, 8, 12, 11, 3, 7, 0, 2, 0, 1, 2, 0, 8, 3, 7, 1, 3, 2, 0, 12, 0, 0, 0, 6, 4, 2, 1, 1, 0, 1, 2, 0, 11])], [], [])
theorem oo_Mo_item_at_k2_8 {kA : Nat → ClassId} : or_ok PRD kA GG o_Mo_item_at_k2_8 := by
  refine or_mk fun A ta ws vs hD hth hl => ?_
  intro t0 r0 t1 k1 t3 k3 t6 k6 t8 k8 t10 k10 t12 k12 t13 k13 t14 k14 t15 k15 t16 k16 f0 f1 f2 f3 f4 f5 f6 f7 f8 f9 f10 f11 f12 f13 f14 f15 f16 f17 f18 f19 ta1 w1 le1 s1 f21 f22 f23 f24 f25 f26 f27 f28 ta2 w2 le2 s2 f30 f31 f32 f33 ta3 w3 le3 s3 f35 f36
  replace f2 := shm_143 f2
  replace f3 := shm_7 f3
  replace f4 := shm_22 f4
  replace f13 := shm_1397 f13
  replace f14 := shm_1398 f14
  replace f15 := shm_1395 f15
  replace f16 := shm_1660 f16
  replace f17 := shm_1889 f17
  have g2 : v_iv (n_v vs 16) = w_fi ws (n_v vs 0) 8 := congrArg v_iv f2
  have kz_0_8 := fdq_14 hD hth r0
  have kz_0_11 := fdq_273 hD hth r0
  have kz_0_12 := fdq_186 hD hth r0
  have kz_0_15 := fdq_274 hD hth r0
  obtain ⟨x, ex, hx⟩ := iv_ex (ta := ta) (lo := 0) (hi := 2000) (z := v_iv (n_v vs 3)) (by omega) (by omega) (by omega) (by omega)
  have ex2 : v_iv (Value.int x) = v_iv (n_v vs 3) := ex
  have ex3 : 0 ≤ v_iv (Value.int x) ∧ v_iv (Value.int x) ≤ 2000 := tv_rng hx
  have e_0 : n_v (vs ++ [Value.int x]) 0 = n_v vs 0 := n_v_old (by rw [hl]; decide)
  have e_3 : n_v (vs ++ [Value.int x]) 3 = n_v vs 3 := n_v_old (by rw [hl]; decide)
  have e_18 : n_v (vs ++ [Value.int x]) 18 = Value.int x := n_v_new hl
  have nf0 : fc_1 PRD (23, [18, 3], [0, 1, -1]) ws (vs ++ [Value.int x]) := by
    refine ⟨nf_inA hl rfl, sgq_7 ?_⟩
    · show 1 * v_iv (n_v (vs ++ [Value.int x]) 18) + ((-1) * v_iv (n_v (vs ++ [Value.int x]) 3) + 0) ≤ 0
      simp only [e_3, e_18]
      exact vc_Mo_item_at_k2_8_0 (v_iv (n_v vs 3)) (v_iv (n_v vs 13)) (w_fi ws (n_v vs 0) 5) (v_iv (Value.int x)) k3 k13 f3 f4 ex2
  have nf1 : fc_1 PRD (23, [18, 3], [0, -1, 1]) ws (vs ++ [Value.int x]) := by
    refine ⟨nf_inA hl rfl, sgq_22 ?_⟩
    · show (-1) * v_iv (n_v (vs ++ [Value.int x]) 18) + (1 * v_iv (n_v (vs ++ [Value.int x]) 3) + 0) ≤ 0
      simp only [e_3, e_18]
      exact vc_Mo_item_at_k2_8_1 (v_iv (n_v vs 3)) (v_iv (n_v vs 13)) (w_fi ws (n_v vs 0) 5) (v_iv (Value.int x)) k3 k13 f3 f4 ex2
  have nf2 : fc_1 PRD (20, [0, 0], [30, 0, 1, 1, 15, -1, 1, 11]) ws (vs ++ [Value.int x]) := by
    refine ⟨nf_inA hl rfl, sgq_1397 ?_⟩
    · show 1 * w_fi ws (n_v (vs ++ [Value.int x]) 0) 15 + ((-1) * w_fi ws (n_v (vs ++ [Value.int x]) 0) 11 + 0) ≤ 0
      rw [e_0]
      exact vc_Mo_item_at_k2_8_2 (w_fi ws (n_v vs 0) 5) (w_fi ws (n_v vs 0) 15) (w_fi ws (n_v vs 0) 11) f13 kz_0_11 kz_0_15
  have nf3 : fc_1 PRD (20, [0], [50, 3, 0, 12, 11, 15, 2, 21, 4, 7, 1, 3, 2, 0, 12, 0, 1, 0, 3, 2, 0, 11, 4, 3, 2, 0, 15, 0, 8, 3, 7, 1, 3, 2, 0, 12, 0, 0, 0, 7, 4, 3, 2, 0, 15, 0, 1, 2, 0, 11]) ws (vs ++ [Value.int x]) := by
    refine ⟨nf_inA hl rfl, sgq_1398 ?_⟩
    · show ((w_fi ws (n_v (vs ++ [Value.int x]) 0) 12 = 1) → (w_fi ws (n_v (vs ++ [Value.int x]) 0) 11 ≤ (w_fi ws (n_v (vs ++ [Value.int x]) 0) 15 + 8))) ∧ ((w_fi ws (n_v (vs ++ [Value.int x]) 0) 12 = 0) ∨ ((w_fi ws (n_v (vs ++ [Value.int x]) 0) 15 + 1) ≤ w_fi ws (n_v (vs ++ [Value.int x]) 0) 11))
      rw [e_0]
      exact vc_Mo_item_at_k2_8_3 (w_fi ws (n_v vs 0) 5) (w_fi ws (n_v vs 0) 15) (w_fi ws (n_v vs 0) 11) (w_fi ws (n_v vs 0) 12) f14 kz_0_11 kz_0_12 kz_0_15
  have nf4 : fc_1 PRD (20, [18, 0], [30, 0, 1, 0, 0, -1, 1, 11]) ws (vs ++ [Value.int x]) := by
    refine ⟨nf_inA hl rfl, sgq_1395 ?_⟩
    · show 1 * v_iv (n_v (vs ++ [Value.int x]) 18) + ((-1) * w_fi ws (n_v (vs ++ [Value.int x]) 0) 11 + 0) ≤ 0
      simp only [e_0, e_18]
      exact vc_Mo_item_at_k2_8_4 (v_iv (n_v vs 3)) (v_iv (n_v vs 13)) (w_fi ws (n_v vs 0) 5) (w_fi ws (n_v vs 0) 11) (v_iv (Value.int x)) k3 k13 f3 f4 f15 kz_0_11 ex2
  have nf5 : fc_1 PRD (20, [0, 18], [50, 3, 0, 8, 12, 11, 3, 7, 0, 2, 0, 1, 2, 0, 8, 3, 7, 1, 3, 2, 0, 12, 0, 0, 0, 6, 4, 2, 1, 1, 0, 1, 2, 0, 11]) ws (vs ++ [Value.int x]) := by
    refine ⟨nf_inA hl rfl, sgq_1660 ?_⟩
    · show (1 ≤ w_fi ws (n_v (vs ++ [Value.int x]) 0) 8) ∨ ((w_fi ws (n_v (vs ++ [Value.int x]) 0) 12 = 0) ∨ ((v_iv (n_v (vs ++ [Value.int x]) 18) + 1) ≤ w_fi ws (n_v (vs ++ [Value.int x]) 0) 11))
      simp only [e_0, e_18]
      exact vc_Mo_item_at_k2_8_5 (v_iv (n_v vs 3)) (v_iv (n_v vs 13)) (v_iv (n_v vs 14)) (v_iv (n_v vs 16)) (w_fi ws (n_v vs 0) 8) (w_fi ws (n_v vs 0) 5) (w_fi ws (n_v vs 0) 11) (w_fi ws (n_v vs 0) 12) (v_iv (Value.int x)) k3 k13 k14 k16 g2 f3 f4 f15 f16 f17 kz_0_8 kz_0_11 kz_0_12 ex2
  exact ⟨(fun _ h => (by cases h)), [Value.int x], ag_one hx, List.forall_mem_cons.mpr ⟨⟨show (23 : Nat) < 100 from by decide, nf0⟩, List.forall_mem_cons.mpr ⟨⟨show (23 : Nat) < 100 from by decide, nf1⟩, List.forall_mem_cons.mpr ⟨⟨show (20 : Nat) < 100 from by decide, nf2⟩, List.forall_mem_cons.mpr ⟨⟨show (20 : Nat) < 100 from by decide, nf3⟩, List.forall_mem_cons.mpr ⟨⟨show (20 : Nat) < 100 from by decide, nf4⟩, List.forall_mem_cons.mpr ⟨⟨show (20 : Nat) < 100 from by decide, nf5⟩, (fun _ h => (by cases h))⟩⟩⟩⟩⟩⟩, (fun _ h => (by cases h))⟩
set_option maxHeartbeats 4000000 in
theorem vc_Mo_item_at_k2_9_0 (x3 : Int) (x18 : Int) (r_0 : Int) (pos_0 : Int) (k3 : 0 ≤ x3 ∧ x3 ≤ 2000) (k18 : 0 ≤ x18 ∧ x18 ≤ 2000) (f0 : 1 * x18 + ((-1) * x3 + 0) ≤ 0) (f1 : (-1) * x18 + (1 * x3 + 0) ≤ 0) (f14 : 1 * x18 + ((-1) * pos_0 + 0) ≤ 0) (kz_0_11 : 0 ≤ pos_0 ∧ pos_0 ≤ 2000) : 1 * x3 + ((-1) * pos_0 + 0) ≤ 0 := by
  first
    | omega
    | (have q1 := (hE_0_2_1 (r_0 + 2) (by omega)).2 (by omega)
       have q2 := (hE_0_2_2 (r_0 + 2) (by omega)).2 (by omega)
       omega)
    | (have q1 := (hE_0_2_1 (r_0 + 1) (by omega)).2 (by omega)
       have q2 := (hE_0_2_2 (r_0 + 1) (by omega)).2 (by omega)
       omega)
    | (have q1 := (hE_0_2_1 (r_0 + 2) (by omega)).2 (by omega)
       omega)
    | (have q1 := (hE_0_2_1 (r_0 + 1) (by omega)).2 (by omega)
       omega)
    | (have q1 := (hE_0_2_1 (r_0 + 2) (by omega)).2 (by omega)
       have q2 := (hE_0_2_2 (r_0 + 2) (by omega)).2 (by omega)
       have q3 := (hE_0_2_3 (r_0 + 2) (by omega)).1 (by omega)
       omega)
    | (have q1 := (hE_0_2_1 (r_0 + 2) (by omega)).2 (by omega)
       have q2 := (hE_0_2_2 (r_0 + 2) (by omega)).2 (by omega)
       have q3 := (hE_0_2_3 (r_0 + 2) (by omega)).2 (by omega)
       omega)
set_option maxHeartbeats 4000000 in
theorem vc_Mo_item_at_k2_9_1 (x3 : Int) (x18 : Int) (r_0 : Int) (pos_0 : Int) (fault_0 : Int) (k3 : 0 ≤ x3 ∧ x3 ≤ 2000) (k18 : 0 ≤ x18 ∧ x18 ≤ 2000) (f0 : 1 * x18 + ((-1) * x3 + 0) ≤ 0) (f1 : (-1) * x18 + (1 * x3 + 0) ≤ 0) (f14 : 1 * x18 + ((-1) * pos_0 + 0) ≤ 0) (f15 : (1 ≤ fault_0) ∨ ((x18 + 1) ≤ pos_0)) (kz_0_8 : 0 ≤ fault_0 ∧ fault_0 ≤ 5) (kz_0_11 : 0 ≤ pos_0 ∧ pos_0 ≤ 2000) : (1 ≤ fault_0) ∨ ((x3 + 1) ≤ pos_0) := by
  first
    | omega
    | (have q1 := (hE_0_2_1 (r_0 + 2) (by omega)).2 (by omega)
       have q2 := (hE_0_2_2 (r_0 + 2) (by omega)).2 (by omega)
       omega)
    | (have q1 := (hE_0_2_1 (r_0 + 1) (by omega)).2 (by omega)
       have q2 := (hE_0_2_2 (r_0 + 1) (by omega)).2 (by omega)
       omega)
    | (have q1 := (hE_0_2_1 (r_0 + 2) (by omega)).2 (by omega)
       omega)
    | (have q1 := (hE_0_2_1 (r_0 + 1) (by omega)).2 (by omega)
       omega)
    | (have q1 := (hE_0_2_1 (r_0 + 2) (by omega)).2 (by omega)
       have q2 := (hE_0_2_2 (r_0 + 2) (by omega)).2 (by omega)
       have q3 := (hE_0_2_3 (r_0 + 2) (by omega)).1 (by omega)
       omega)
    | (have q1 := (hE_0_2_1 (r_0 + 2) (by omega)).2 (by omega)
       have q2 := (hE_0_2_2 (r_0 + 2) (by omega)).2 (by omega)
       have q3 := (hE_0_2_3 (r_0 + 2) (by omega)).2 (by omega)
       omega)
def o_Mo_item_at_k2_9 : or_T := (94, 19, [(0, (2, 0, 0, [165])), (1, (0, 0, 7, [])), (3, (0, 0, 2000, [])), (6, (0, 0, 2000, [])), (8, (0, 0, 2000, [])), (12, (0, 99, 99, [])), (13, (0, 0, 2000, [])), (15, (0, -2147483648, 0, [])), (18, (0, 0, 2000, []))], [(23, [18, 3], [0, 1, -1]), (23, [18, 3], [0, -1, 1]), (23, [13, 3], [0, 1, -1]), (23, [13, 3], [0, -1, 1]), (23, [8, 3], [0, 1, -1]), (23, [8, 3], [0, -1, 1]), (23, [6, 3], [0, 1, -1]), (23, [6, 3], [0, -1, 1]), (20, [1, 0], [50, 1, 1, 1005, 1002, 0, 6, 4, 2, 1, 0, 0, 1, 3, 1, 2, 4, 3, 2, 1, 5, 0, 2]), (20, [0], [60, 1, 3, 199, 5, 2, 3, 4]), (20, [15, 12], [30, 0, 1, 0, 0, -1, 0, 0]), (20, [15], [30, 0, -1, 0, 0]), (20, [0, 0], [30, 0, 1, 1, 15, -1, 1, 11]), (20, [0], [50, 3, 0, 12, 11, 15, 2, 21, 4, 7, 1, 3, 2, 0, 12, 0, 1, 0, 3, 2, 0, 11, 4, 3, 2, 0, 15, 0, 8, 3, 7, 1, 3, 2, 0, 12, 0, 0, 0, 7, 4, 3, 2, 0, 15, 0, 1, 2, 0, 11]), (20, [18, 0], [30, 0, 1, 0, 0, -1, 1, 11]), (20, [0, 18], [50, 2, 0, 8, 11, 3, 7, 0, 2, 0, 1, 2, 0, 8, 0, 6, 4, 2, 1, 1, 0, 1, 2, 0, 11]), (102, [18], [0, 165008, 165009, 165011, 165012, 165013, 165014, 165015]), (23, [18, 3], [0, 1, -1]), (23, [18, 3], [0, -1, 1]), (8, [15], [5]), (23, [13, 3], [0, 1, -1]), (23, [13, 3], [0, -1, 1]), (23, [8, 3], [0, 1, -1]), (23, [8, 3], [0, -1, 1]), (23, [6, 3], [0, 1, -1]), (23, [6, 3], [0, -1, 1]), (102, [14], [0, 165008, 165009, 165011, 165012, 165013, 165014, 165015]), (23, [13, 3], [0, 1, -1]), (23, [13, 3], [0, -1, 1]), (23, [8, 3], [0, 1, -1]), (23, [8, 3], [0, -1, 1]), (23, [6, 3], [0, 1, -1]), (23, [6, 3], [0, -1, 1]), (102, [9], [187072209578355573530071658587684226515959365500928, 165008, 165009, 165011, 165012, 165013, 165014, 165015]), (23, [8, 3], [0, 1, -1]), (23, [8, 3], [0, -1, 1]), (23, [6, 3], [0, 1, -1]), (23, [6, 3], [0, -1, 1]), (102, [6], [0, 165011, 165012, 165013, 165014, 165015]), (23, [6, 3], [0, 1, -1]), (23, [6, 3], [0, -1, 1])], [], [], [(20, [3, 0], [30, 0, 1, 0, 0, -1, 1, 11]), (20, [0, 3], [50, 2, 0, 8, 11, 3, 7, 0, 2, 0, 1, 2, 0, 8, 0, 6, 4, 2, 1, 1, 0, 1, 2, 0, 11])], [], [])
theorem oo_Mo_item_at_k2_9 {kA : Nat → ClassId} : or_ok PRD kA GG o_Mo_item_at_k2_9 := by
  refine or_mk fun A ta ws vs hD hth hl => ?_
  intro t0 r0 t1 k1 t3 k3 t6 k6 t8 k8 t12 k12 t13 k13 t15 k15 t18 k18 f0 f1 f2 f3 f4 f5 f6 f7 f8 f9 f10 f11 f12 f13 f14 f15 ta1 w1 le1 s1 f17 f18 f19 f20 f21 f22 f23 f24 f25 ta2 w2 le2 s2 f27 f28 f29 f30 f31 f32 ta3 w3 le3 s3 f34 f35 f36 f37 ta4 w4 le4 s4 f39 f40
  have kz_0_8 := fdq_14 hD hth r0
  have kz_0_11 := fdq_273 hD hth r0
  have nf0 : fc_1 PRD (20, [3, 0], [30, 0, 1, 0, 0, -1, 1, 11]) ws (vs) := ⟨nf_in hl rfl, sgq_1395 (vc_Mo_item_at_k2_9_0 (v_iv (n_v vs 3)) (v_iv (n_v vs 18)) (w_fi ws (n_v vs 0) 5) (w_fi ws (n_v vs 0) 11) k3 k18 (shm_7 f0) (shm_22 f1) (shm_1395 f14) kz_0_11)⟩
  have nf1 : fc_1 PRD (20, [0, 3], [50, 2, 0, 8, 11, 3, 7, 0, 2, 0, 1, 2, 0, 8, 0, 6, 4, 2, 1, 1, 0, 1, 2, 0, 11]) ws (vs) := ⟨nf_in hl rfl, sgq_1659 (vc_Mo_item_at_k2_9_1 (v_iv (n_v vs 3)) (v_iv (n_v vs 18)) (w_fi ws (n_v vs 0) 5) (w_fi ws (n_v vs 0) 11) (w_fi ws (n_v vs 0) 8) k3 k18 (shm_7 f0) (shm_22 f1) (shm_1395 f14) (shm_1659 f15) kz_0_8 kz_0_11)⟩
  refine ⟨(fun _ h => (by cases h)), [], trivial, ?_, (fun _ h => (by cases h))⟩
  rw [List.append_nil]
  exact List.forall_mem_cons.mpr ⟨⟨show (20 : Nat) < 100 from by decide, nf0⟩, List.forall_mem_cons.mpr ⟨⟨show (20 : Nat) < 100 from by decide, nf1⟩, (fun _ h => (by cases h))⟩⟩
set_option maxHeartbeats 4000000 in
theorem vc_Mo_item_at_k2_10_r0 (x10 : Int) (x14 : Int) (x16 : Int) (r_0 : Int) (fault_0 : Int) (k10 : (-1) ≤ x10 ∧ x10 ≤ 23) (k14 : (-1) ≤ x14 ∧ x14 ≤ 48) (k16 : 0 ≤ x16 ∧ x16 ≤ 0) (g5 : x16 = fault_0) (f8 : 1 * x14 + ((-1) * x10 + 0) ≤ 0) (f9 : (-1) * x14 + (1 * x10 + 0) ≤ 0) (f20 : (1 ≤ fault_0) ∨ (0 ≤ x14)) (kz_0_8 : 0 ≤ fault_0 ∧ fault_0 ≤ 5) : 0 ≤ x10 ∧ x10 ≤ 23 := by
  first
    | omega
    | (have q1 := (hE_0_2_1 (r_0 + 2) (by omega)).2 (by omega)
       have q2 := (hE_0_2_2 (r_0 + 2) (by omega)).2 (by omega)
       omega)
    | (have q1 := (hE_0_2_1 (r_0 + 1) (by omega)).2 (by omega)
       have q2 := (hE_0_2_2 (r_0 + 1) (by omega)).2 (by omega)
       omega)
    | (have q1 := (hE_0_2_1 (r_0 + 2) (by omega)).2 (by omega)
       omega)
    | (have q1 := (hE_0_2_1 (r_0 + 1) (by omega)).2 (by omega)
       omega)
    | (have q1 := (hE_0_2_1 (r_0 + 2) (by omega)).2 (by omega)
       have q2 := (hE_0_2_2 (r_0 + 2) (by omega)).2 (by omega)
       have q3 := (hE_0_2_3 (r_0 + 2) (by omega)).1 (by omega)
       omega)
    | (have q1 := (hE_0_2_1 (r_0 + 2) (by omega)).2 (by omega)
       have q2 := (hE_0_2_2 (r_0 + 2) (by omega)).2 (by omega)
       have q3 := (hE_0_2_3 (r_0 + 2) (by omega)).2 (by omega)
       omega)
def o_Mo_item_at_k2_10 : or_T := (57, 21, [(0, (2, 0, 0, [165])), (1, (0, 0, 7, [])), (3, (0, 0, 2000, [])), (6, (0, 0, 2000, [])), (8, (0, 0, 2000, [])), (10, (0, -1, 23, [])), (12, (0, 99, 99, [])), (13, (0, 0, 2000, [])), (14, (0, -1, 48, [])), (15, (0, 1, 2147483647, [])), (16, (0, 0, 0, [])), (17, (2, 0, 0, [167])), (18, (0, 0, 66297, [])), (19, (0, 219, 219, [])), (20, (0, 219, 66516, []))], [(1, [20, 18, 19], []), (9, [18, 0], [5]), (9, [17, 0], [2]), (8, [15], [4]), (8, [16], [0]), (9, [16, 0], [8]), (23, [13, 3], [0, 1, -1]), (23, [13, 3], [0, -1, 1]), (23, [14, 10], [0, 1, -1]), (23, [14, 10], [0, -1, 1]), (23, [8, 3], [0, 1, -1]), (23, [8, 3], [0, -1, 1]), (23, [6, 3], [0, 1, -1]), (23, [6, 3], [0, -1, 1]), (20, [1, 0], [50, 1, 1, 1005, 1002, 0, 6, 4, 2, 1, 0, 0, 1, 3, 1, 2, 4, 3, 2, 1, 5, 0, 2]), (20, [0], [60, 1, 3, 199, 5, 2, 3, 4]), (20, [0, 0], [30, 0, 1, 1, 15, -1, 1, 11]), (20, [0], [50, 3, 0, 12, 11, 15, 2, 21, 4, 7, 1, 3, 2, 0, 12, 0, 1, 0, 3, 2, 0, 11, 4, 3, 2, 0, 15, 0, 8, 3, 7, 1, 3, 2, 0, 12, 0, 0, 0, 7, 4, 3, 2, 0, 15, 0, 1, 2, 0, 11]), (20, [13, 0], [30, 0, 1, 0, 0, -1, 1, 11]), (20, [0, 13], [50, 3, 0, 8, 12, 11, 3, 7, 0, 2, 0, 1, 2, 0, 8, 3, 7, 1, 3, 2, 0, 12, 0, 0, 0, 6, 4, 2, 1, 1, 0, 1, 2, 0, 11]), (20, [0, 14], [50, 1, 0, 8, 3, 7, 0, 2, 0, 1, 2, 0, 8, 0, 2, 0, 0, 1, 1]), (20, [15, 12], [30, 0, 1, 0, 0, -1, 0, 0]), (20, [15], [30, 0, -1, 0, 0]), (102, [14], [0, 165008, 165009, 165011, 165012, 165013, 165014, 165015]), (23, [13, 3], [0, 1, -1]), (23, [13, 3], [0, -1, 1]), (23, [14, 10], [0, 1, -1]), (23, [14, 10], [0, -1, 1]), (23, [8, 3], [0, 1, -1]), (23, [8, 3], [0, -1, 1]), (23, [6, 3], [0, 1, -1]), (23, [6, 3], [0, -1, 1]), (102, [9], [187072209578355573530071658587684226515959365500928, 165008, 165009, 165011, 165012, 165013, 165014, 165015]), (23, [8, 3], [0, 1, -1]), (23, [8, 3], [0, -1, 1]), (23, [6, 3], [0, 1, -1]), (23, [6, 3], [0, -1, 1]), (102, [6], [0, 165011, 165012, 165013, 165014, 165015]), (23, [6, 3], [0, 1, -1]), (23, [6, 3], [0, -1, 1])], [(10, (0, 0, 23, []))], [], [], [], [(20, 18, 219, 219)])
theorem oo_Mo_item_at_k2_10 {kA : Nat → ClassId} : or_ok PRD kA GG o_Mo_item_at_k2_10 := by
  refine or_mk fun A ta ws vs hD hth hl => ?_
  intro t0 r0 t1 k1 t3 k3 t6 k6 t8 k8 t10 k10 t12 k12 t13 k13 t14 k14 t15 k15 t16 k16 t17 r17 t18 k18 t19 k19 t20 k20 d0 f0 f1 f2 f3 f4 f5 f6 f7 f8 f9 f10 f11 f12 f13 f14 f15 f16 f17 f18 f19 f20 f21 f22 ta1 w1 le1 s1 f24 f25 f26 f27 f28 f29 f30 f31 ta2 w2 le2 s2 f33 f34 f35 f36 ta3 w3 le3 s3 f38 f39
  replace f5 := shm_143 f5
  have g5 : v_iv (n_v vs 16) = w_fi ws (n_v vs 0) 8 := congrArg v_iv f5
  have kz_0_8 := fdq_14 hD hth r0
  have hrf0 : 0 ≤ v_iv (n_v vs 10) ∧ v_iv (n_v vs 10) ≤ 23 := vc_Mo_item_at_k2_10_r0 (v_iv (n_v vs 10)) (v_iv (n_v vs 14)) (v_iv (n_v vs 16)) (w_fi ws (n_v vs 0) 5) (w_fi ws (n_v vs 0) 8) k10 k14 k16 g5 (shm_7 f8) (shm_22 f9) (shm_1889 f20) kz_0_8
  have rf10 : tv_ok ta (0, 0, 23, []) (n_v vs 10) := tv_in t10 (by first | omega | grind) (by first | omega | grind)
  refine ⟨List.forall_mem_cons.mpr ⟨rf10, (fun _ h => (by cases h))⟩, [], trivial, ?_, (fun _ h => (by cases h))⟩
  rw [List.append_nil]
  exact (fun _ h => (by cases h))
set_option maxHeartbeats 4000000 in
theorem vc_Mo_item_at_k2_11_r0 (x12 : Int) (x15 : Int) (r_0 : Int) (k12 : 99 ≤ x12 ∧ x12 ≤ 99) (k15 : 1 ≤ x15 ∧ x15 ≤ 2147483647) (f22 : 1 * x15 + ((-1) * x12 + 0) ≤ 0) : 1 ≤ x15 ∧ x15 ≤ 99 := by
  first
    | omega
    | (have q1 := (hE_0_2_1 (r_0 + 2) (by omega)).2 (by omega)
       have q2 := (hE_0_2_2 (r_0 + 2) (by omega)).2 (by omega)
       omega)
    | (have q1 := (hE_0_2_1 (r_0 + 1) (by omega)).2 (by omega)
       have q2 := (hE_0_2_2 (r_0 + 1) (by omega)).2 (by omega)
       omega)
    | (have q1 := (hE_0_2_1 (r_0 + 2) (by omega)).2 (by omega)
       omega)
    | (have q1 := (hE_0_2_1 (r_0 + 1) (by omega)).2 (by omega)
       omega)
    | (have q1 := (hE_0_2_1 (r_0 + 2) (by omega)).2 (by omega)
       have q2 := (hE_0_2_2 (r_0 + 2) (by omega)).2 (by omega)
       have q3 := (hE_0_2_3 (r_0 + 2) (by omega)).1 (by omega)
       omega)
    | (have q1 := (hE_0_2_1 (r_0 + 2) (by omega)).2 (by omega)
       have q2 := (hE_0_2_2 (r_0 + 2) (by omega)).2 (by omega)
       have q3 := (hE_0_2_3 (r_0 + 2) (by omega)).2 (by omega)
       omega)
def o_Mo_item_at_k2_11 : or_T := (60, 22, [(0, (2, 0, 0, [165])), (1, (0, 0, 7, [])), (3, (0, 0, 2000, [])), (6, (0, 0, 2000, [])), (8, (0, 0, 2000, [])), (10, (0, 0, 23, [])), (12, (0, 99, 99, [])), (13, (0, 0, 2000, [])), (14, (0, -1, 48, [])), (15, (0, 1, 2147483647, [])), (16, (0, 0, 0, [])), (17, (2, 0, 0, [167])), (18, (0, 0, 66297, [])), (19, (0, 219, 219, [])), (20, (0, 219, 66516, [])), (21, (0, 219, 66539, []))], [(1, [21, 20, 10], []), (1, [20, 18, 19], []), (9, [18, 0], [5]), (9, [17, 0], [2]), (8, [15], [4]), (8, [16], [0]), (9, [16, 0], [8]), (23, [13, 3], [0, 1, -1]), (23, [13, 3], [0, -1, 1]), (23, [14, 10], [0, 1, -1]), (23, [14, 10], [0, -1, 1]), (23, [8, 3], [0, 1, -1]), (23, [8, 3], [0, -1, 1]), (23, [6, 3], [0, 1, -1]), (23, [6, 3], [0, -1, 1]), (20, [1, 0], [50, 1, 1, 1005, 1002, 0, 6, 4, 2, 1, 0, 0, 1, 3, 1, 2, 4, 3, 2, 1, 5, 0, 2]), (20, [0], [60, 1, 3, 199, 5, 2, 3, 4]), (20, [0, 0], [30, 0, 1, 1, 15, -1, 1, 11]), (20, [0], [50, 3, 0, 12, 11, 15, 2, 21, 4, 7, 1, 3, 2, 0, 12, 0, 1, 0, 3, 2, 0, 11, 4, 3, 2, 0, 15, 0, 8, 3, 7, 1, 3, 2, 0, 12, 0, 0, 0, 7, 4, 3, 2, 0, 15, 0, 1, 2, 0, 11]), (20, [13, 0], [30, 0, 1, 0, 0, -1, 1, 11]), (20, [0, 13], [50, 3, 0, 8, 12, 11, 3, 7, 0, 2, 0, 1, 2, 0, 8, 3, 7, 1, 3, 2, 0, 12, 0, 0, 0, 6, 4, 2, 1, 1, 0, 1, 2, 0, 11]), (20, [0, 14], [50, 1, 0, 8, 3, 7, 0, 2, 0, 1, 2, 0, 8, 0, 2, 0, 0, 1, 1]), (20, [15, 12], [30, 0, 1, 0, 0, -1, 0, 0]), (20, [15], [30, 0, -1, 0, 0]), (102, [14], [0, 165008, 165009, 165011, 165012, 165013, 165014, 165015]), (23, [13, 3], [0, 1, -1]), (23, [13, 3], [0, -1, 1]), (23, [14, 10], [0, 1, -1]), (23, [14, 10], [0, -1, 1]), (23, [8, 3], [0, 1, -1]), (23, [8, 3], [0, -1, 1]), (23, [6, 3], [0, 1, -1]), (23, [6, 3], [0, -1, 1]), (102, [9], [187072209578355573530071658587684226515959365500928, 165008, 165009, 165011, 165012, 165013, 165014, 165015]), (23, [8, 3], [0, 1, -1]), (23, [8, 3], [0, -1, 1]), (23, [6, 3], [0, 1, -1]), (23, [6, 3], [0, -1, 1]), (102, [6], [0, 165011, 165012, 165013, 165014, 165015]), (23, [6, 3], [0, 1, -1]), (23, [6, 3], [0, -1, 1])], [(15, (0, 1, 99, []))], [], [], [], [(21, 10, 219, 66516), (21, 20, 0, 23), (21, 18, 219, 242), (20, 18, 219, 219)])
theorem oo_Mo_item_at_k2_11 {kA : Nat → ClassId} : or_ok PRD kA GG o_Mo_item_at_k2_11 := by
  refine or_mk fun A ta ws vs hD hth hl => ?_
  intro t0 r0 t1 k1 t3 k3 t6 k6 t8 k8 t10 k10 t12 k12 t13 k13 t14 k14 t15 k15 t16 k16 t17 r17 t18 k18 t19 k19 t20 k20 t21 k21 d0 d1 d2 d3 f0 f1 f2 f3 f4 f5 f6 f7 f8 f9 f10 f11 f12 f13 f14 f15 f16 f17 f18 f19 f20 f21 f22 f23 ta1 w1 le1 s1 f25 f26 f27 f28 f29 f30 f31 f32 ta2 w2 le2 s2 f34 f35 f36 f37 ta3 w3 le3 s3 f39 f40
  have hrf0 : 1 ≤ v_iv (n_v vs 15) ∧ v_iv (n_v vs 15) ≤ 99 := vc_Mo_item_at_k2_11_r0 (v_iv (n_v vs 12)) (v_iv (n_v vs 15)) (w_fi ws (n_v vs 0) 5) k12 k15 (shm_219 f22)
  have rf15 : tv_ok ta (0, 1, 99, []) (n_v vs 15) := tv_in t15 (by first | omega | grind) (by first | omega | grind)
  refine ⟨List.forall_mem_cons.mpr ⟨rf15, (fun _ h => (by cases h))⟩, [], trivial, ?_, (fun _ h => (by cases h))⟩
  rw [List.append_nil]
  exact (fun _ h => (by cases h))
set_option maxHeartbeats 4000000 in
theorem vc_Mo_item_at_k2_12_0 (x1 : Int) (x10 : Int) (x14 : Int) (x15 : Int) (x18 : Int) (x20 : Int) (x21 : Int) (from_0 : Int) (pos_0 : Int) (kind_0 : Int) (fault_0 : Int) (r_1 : Int) (fault_1 : Int) (all_1 : Int → Int) (now_1 : Int → Int) (latest_1 : Int → Int) (from_1 : Int) (pos_1 : Int) (kind_1 : Int) (r_0 : Int) (all_0 : Int → Int) (now_0 : Int → Int) (latest_0 : Int → Int) (k1 : 0 ≤ x1 ∧ x1 ≤ 7) (k10 : 0 ≤ x10 ∧ x10 ≤ 23) (k14 : (-1) ≤ x14 ∧ x14 ≤ 48) (k15 : 1 ≤ x15 ∧ x15 ≤ 99) (k18 : 0 ≤ x18 ∧ x18 ≤ 66297) (k20 : 219 ≤ x20 ∧ x20 ≤ 66516) (k21 : 219 ≤ x21 ∧ x21 ≤ 66539) (d0 : x10 + 219 ≤ x21 ∧ x21 ≤ x10 + 66516) (d3 : x18 + 219 ≤ x20 ∧ x20 ≤ x18 + 219) (f2 : 1 * x14 + ((-1) * x10 + 0) ≤ 0) (f3 : (-1) * x14 + (1 * x10 + 0) ≤ 0) (f16 : x21 = x20 + x10) (g18 : x18 = r_1) (f31 : (x1 + 1) ≤ all_1 ((r_1 + 2))) (fe_0_5_1 : r_0 = r_1) (fe_0_8_1 : fault_0 = fault_1) (fe_0_11_1 : pos_0 = pos_1) (fe_0_12_1 : kind_0 = kind_1) (fe_0_15_1 : from_0 = from_1) (hE_0_2_1 : ∀ j : Int, 0 ≤ j → (j = x21 → all_0 j = x15) ∧ (j ≠ x21 → all_0 j = all_1 j)) (hE_0_3_1 : ∀ j : Int, now_0 j = now_1 j) (hE_0_4_1 : ∀ j : Int, latest_0 j = latest_1 j) (kz_0_8 : 0 ≤ fault_0 ∧ fault_0 ≤ 5) (kz_0_11 : 0 ≤ pos_0 ∧ pos_0 ≤ 2000) (kz_0_12 : 0 ≤ kind_0 ∧ kind_0 ≤ 4) (kz_0_15 : 0 ≤ from_0 ∧ from_0 ≤ 2000) : (x1 + 1) ≤ all_0 ((r_0 + 2)) := by
  subst fe_0_5_1
  subst fe_0_8_1
  subst fe_0_11_1
  subst fe_0_12_1
  subst fe_0_15_1
  have e_hE_0_3_1 := funext hE_0_3_1; subst e_hE_0_3_1
  have e_hE_0_4_1 := funext hE_0_4_1; subst e_hE_0_4_1
  first
    | omega
    | (have q1 := (hE_0_2_1 (r_0 + 2) (by omega)).2 (by omega)
       have q2 := (hE_0_2_2 (r_0 + 2) (by omega)).2 (by omega)
       omega)
    | (have q1 := (hE_0_2_1 (r_0 + 1) (by omega)).2 (by omega)
       have q2 := (hE_0_2_2 (r_0 + 1) (by omega)).2 (by omega)
       omega)
    | (have q1 := (hE_0_2_1 (r_0 + 2) (by omega)).2 (by omega)
       omega)
    | (have q1 := (hE_0_2_1 (r_0 + 1) (by omega)).2 (by omega)
       omega)
    | (have q1 := (hE_0_2_1 (r_0 + 2) (by omega)).2 (by omega)
       have q2 := (hE_0_2_2 (r_0 + 2) (by omega)).2 (by omega)
       have q3 := (hE_0_2_3 (r_0 + 2) (by omega)).1 (by omega)
       omega)
    | (have q1 := (hE_0_2_1 (r_0 + 2) (by omega)).2 (by omega)
       have q2 := (hE_0_2_2 (r_0 + 2) (by omega)).2 (by omega)
       have q3 := (hE_0_2_3 (r_0 + 2) (by omega)).2 (by omega)
       omega)
set_option maxHeartbeats 4000000 in
theorem vc_Mo_item_at_k2_12_1 (x10 : Int) (x14 : Int) (x15 : Int) (x18 : Int) (x20 : Int) (x21 : Int) (from_0 : Int) (pos_0 : Int) (kind_0 : Int) (fault_0 : Int) (r_1 : Int) (fault_1 : Int) (all_1 : Int → Int) (now_1 : Int → Int) (latest_1 : Int → Int) (from_1 : Int) (pos_1 : Int) (kind_1 : Int) (r_0 : Int) (all_0 : Int → Int) (now_0 : Int → Int) (latest_0 : Int → Int) (k10 : 0 ≤ x10 ∧ x10 ≤ 23) (k14 : (-1) ≤ x14 ∧ x14 ≤ 48) (k15 : 1 ≤ x15 ∧ x15 ≤ 99) (k18 : 0 ≤ x18 ∧ x18 ≤ 66297) (k20 : 219 ≤ x20 ∧ x20 ≤ 66516) (k21 : 219 ≤ x21 ∧ x21 ≤ 66539) (d3 : x18 + 219 ≤ x20 ∧ x20 ≤ x18 + 219) (f2 : 1 * x14 + ((-1) * x10 + 0) ≤ 0) (f3 : (-1) * x14 + (1 * x10 + 0) ≤ 0) (f16 : x21 = x20 + x10) (g18 : x18 = r_1) (f32 : RWS (r_1) (all_1) (now_1) (latest_1)) (fe_0_5_1 : r_0 = r_1) (fe_0_8_1 : fault_0 = fault_1) (fe_0_11_1 : pos_0 = pos_1) (fe_0_12_1 : kind_0 = kind_1) (fe_0_15_1 : from_0 = from_1) (hE_0_2_1 : ∀ j : Int, 0 ≤ j → (j = x21 → all_0 j = x15) ∧ (j ≠ x21 → all_0 j = all_1 j)) (hE_0_3_1 : ∀ j : Int, now_0 j = now_1 j) (hE_0_4_1 : ∀ j : Int, latest_0 j = latest_1 j) (kz_0_8 : 0 ≤ fault_0 ∧ fault_0 ≤ 5) (kz_0_11 : 0 ≤ pos_0 ∧ pos_0 ≤ 2000) (kz_0_12 : 0 ≤ kind_0 ∧ kind_0 ≤ 4) (kz_0_15 : 0 ≤ from_0 ∧ from_0 ≤ 2000) : RWS (r_0) (all_0) (now_0) (latest_0) := by
  subst fe_0_5_1
  subst fe_0_8_1
  subst fe_0_11_1
  subst fe_0_12_1
  subst fe_0_15_1
  have e_hE_0_3_1 := funext hE_0_3_1; subst e_hE_0_3_1
  have e_hE_0_4_1 := funext hE_0_4_1; subst e_hE_0_4_1
  first
    | assumption
    | (have hr := rws_r ‹RWS _ _ _ _›
       have hc := (rws_sg ‹RWS _ _ _ _›).1
       exact rws_off ‹RWS _ _ _ _› (by assumption) (by omega))
set_option maxHeartbeats 4000000 in
theorem vc_Mo_item_at_k2_12_2 (x3 : Int) (x13 : Int) (x15 : Int) (x21 : Int) (from_0 : Int) (pos_0 : Int) (kind_0 : Int) (fault_0 : Int) (r_1 : Int) (fault_1 : Int) (all_1 : Int → Int) (now_1 : Int → Int) (latest_1 : Int → Int) (from_1 : Int) (pos_1 : Int) (kind_1 : Int) (r_0 : Int) (all_0 : Int → Int) (now_0 : Int → Int) (latest_0 : Int → Int) (gx : Int) (k3 : 0 ≤ x3 ∧ x3 ≤ 2000) (k13 : 0 ≤ x13 ∧ x13 ≤ 2000) (k15 : 1 ≤ x15 ∧ x15 ≤ 99) (k21 : 219 ≤ x21 ∧ x21 ≤ 66539) (f0 : 1 * x13 + ((-1) * x3 + 0) ≤ 0) (f1 : (-1) * x13 + (1 * x3 + 0) ≤ 0) (fe_0_5_1 : r_0 = r_1) (fe_0_8_1 : fault_0 = fault_1) (fe_0_11_1 : pos_0 = pos_1) (fe_0_12_1 : kind_0 = kind_1) (fe_0_15_1 : from_0 = from_1) (hE_0_2_1 : ∀ j : Int, 0 ≤ j → (j = x21 → all_0 j = x15) ∧ (j ≠ x21 → all_0 j = all_1 j)) (hE_0_3_1 : ∀ j : Int, now_0 j = now_1 j) (hE_0_4_1 : ∀ j : Int, latest_0 j = latest_1 j) (kz_0_8 : 0 ≤ fault_0 ∧ fault_0 ≤ 5) (kz_0_11 : 0 ≤ pos_0 ∧ pos_0 ≤ 2000) (kz_0_12 : 0 ≤ kind_0 ∧ kind_0 ≤ 4) (kz_0_15 : 0 ≤ from_0 ∧ from_0 ≤ 2000) (ex2 : gx = x3) : 1 * gx + ((-1) * x3 + 0) ≤ 0 := by
  subst fe_0_5_1
  subst fe_0_8_1
  subst fe_0_11_1
  subst fe_0_12_1
  subst fe_0_15_1
  have e_hE_0_3_1 := funext hE_0_3_1; subst e_hE_0_3_1
  have e_hE_0_4_1 := funext hE_0_4_1; subst e_hE_0_4_1
  first
    | omega
    | (have q1 := (hE_0_2_1 (r_0 + 2) (by omega)).2 (by omega)
       have q2 := (hE_0_2_2 (r_0 + 2) (by omega)).2 (by omega)
       omega)
    | (have q1 := (hE_0_2_1 (r_0 + 1) (by omega)).2 (by omega)
       have q2 := (hE_0_2_2 (r_0 + 1) (by omega)).2 (by omega)
       omega)
    | (have q1 := (hE_0_2_1 (r_0 + 2) (by omega)).2 (by omega)
       omega)
    | (have q1 := (hE_0_2_1 (r_0 + 1) (by omega)).2 (by omega)
       omega)
    | (have q1 := (hE_0_2_1 (r_0 + 2) (by omega)).2 (by omega)
       have q2 := (hE_0_2_2 (r_0 + 2) (by omega)).2 (by omega)
       have q3 := (hE_0_2_3 (r_0 + 2) (by omega)).1 (by omega)
       omega)
    | (have q1 := (hE_0_2_1 (r_0 + 2) (by omega)).2 (by omega)
       have q2 := (hE_0_2_2 (r_0 + 2) (by omega)).2 (by omega)
       have q3 := (hE_0_2_3 (r_0 + 2) (by omega)).2 (by omega)
       omega)
set_option maxHeartbeats 4000000 in
theorem vc_Mo_item_at_k2_12_3 (x3 : Int) (x13 : Int) (x15 : Int) (x21 : Int) (from_0 : Int) (pos_0 : Int) (kind_0 : Int) (fault_0 : Int) (r_1 : Int) (fault_1 : Int) (all_1 : Int → Int) (now_1 : Int → Int) (latest_1 : Int → Int) (from_1 : Int) (pos_1 : Int) (kind_1 : Int) (r_0 : Int) (all_0 : Int → Int) (now_0 : Int → Int) (latest_0 : Int → Int) (gx : Int) (k3 : 0 ≤ x3 ∧ x3 ≤ 2000) (k13 : 0 ≤ x13 ∧ x13 ≤ 2000) (k15 : 1 ≤ x15 ∧ x15 ≤ 99) (k21 : 219 ≤ x21 ∧ x21 ≤ 66539) (f0 : 1 * x13 + ((-1) * x3 + 0) ≤ 0) (f1 : (-1) * x13 + (1 * x3 + 0) ≤ 0) (fe_0_5_1 : r_0 = r_1) (fe_0_8_1 : fault_0 = fault_1) (fe_0_11_1 : pos_0 = pos_1) (fe_0_12_1 : kind_0 = kind_1) (fe_0_15_1 : from_0 = from_1) (hE_0_2_1 : ∀ j : Int, 0 ≤ j → (j = x21 → all_0 j = x15) ∧ (j ≠ x21 → all_0 j = all_1 j)) (hE_0_3_1 : ∀ j : Int, now_0 j = now_1 j) (hE_0_4_1 : ∀ j : Int, latest_0 j = latest_1 j) (kz_0_8 : 0 ≤ fault_0 ∧ fault_0 ≤ 5) (kz_0_11 : 0 ≤ pos_0 ∧ pos_0 ≤ 2000) (kz_0_12 : 0 ≤ kind_0 ∧ kind_0 ≤ 4) (kz_0_15 : 0 ≤ from_0 ∧ from_0 ≤ 2000) (ex2 : gx = x3) : (-1) * gx + (1 * x3 + 0) ≤ 0 := by
  subst fe_0_5_1
  subst fe_0_8_1
  subst fe_0_11_1
  subst fe_0_12_1
  subst fe_0_15_1
  have e_hE_0_3_1 := funext hE_0_3_1; subst e_hE_0_3_1
  have e_hE_0_4_1 := funext hE_0_4_1; subst e_hE_0_4_1
  first
    | omega
    | (have q1 := (hE_0_2_1 (r_0 + 2) (by omega)).2 (by omega)
       have q2 := (hE_0_2_2 (r_0 + 2) (by omega)).2 (by omega)
       omega)
    | (have q1 := (hE_0_2_1 (r_0 + 1) (by omega)).2 (by omega)
       have q2 := (hE_0_2_2 (r_0 + 1) (by omega)).2 (by omega)
       omega)
    | (have q1 := (hE_0_2_1 (r_0 + 2) (by omega)).2 (by omega)
       omega)
    | (have q1 := (hE_0_2_1 (r_0 + 1) (by omega)).2 (by omega)
       omega)
    | (have q1 := (hE_0_2_1 (r_0 + 2) (by omega)).2 (by omega)
       have q2 := (hE_0_2_2 (r_0 + 2) (by omega)).2 (by omega)
       have q3 := (hE_0_2_3 (r_0 + 2) (by omega)).1 (by omega)
       omega)
    | (have q1 := (hE_0_2_1 (r_0 + 2) (by omega)).2 (by omega)
       have q2 := (hE_0_2_2 (r_0 + 2) (by omega)).2 (by omega)
       have q3 := (hE_0_2_3 (r_0 + 2) (by omega)).2 (by omega)
       omega)
set_option maxHeartbeats 4000000 in
theorem vc_Mo_item_at_k2_12_4 (x15 : Int) (x21 : Int) (from_0 : Int) (pos_0 : Int) (kind_0 : Int) (fault_0 : Int) (r_1 : Int) (fault_1 : Int) (all_1 : Int → Int) (now_1 : Int → Int) (latest_1 : Int → Int) (from_1 : Int) (pos_1 : Int) (kind_1 : Int) (r_0 : Int) (all_0 : Int → Int) (now_0 : Int → Int) (latest_0 : Int → Int) (k15 : 1 ≤ x15 ∧ x15 ≤ 99) (k21 : 219 ≤ x21 ∧ x21 ≤ 66539) (f33 : 1 * from_1 + ((-1) * pos_1 + 0) ≤ 0) (fe_0_5_1 : r_0 = r_1) (fe_0_8_1 : fault_0 = fault_1) (fe_0_11_1 : pos_0 = pos_1) (fe_0_12_1 : kind_0 = kind_1) (fe_0_15_1 : from_0 = from_1) (hE_0_2_1 : ∀ j : Int, 0 ≤ j → (j = x21 → all_0 j = x15) ∧ (j ≠ x21 → all_0 j = all_1 j)) (hE_0_3_1 : ∀ j : Int, now_0 j = now_1 j) (hE_0_4_1 : ∀ j : Int, latest_0 j = latest_1 j) (kz_0_8 : 0 ≤ fault_0 ∧ fault_0 ≤ 5) (kz_0_11 : 0 ≤ pos_0 ∧ pos_0 ≤ 2000) (kz_0_12 : 0 ≤ kind_0 ∧ kind_0 ≤ 4) (kz_0_15 : 0 ≤ from_0 ∧ from_0 ≤ 2000) : 1 * from_0 + ((-1) * pos_0 + 0) ≤ 0 := by
  subst fe_0_5_1
  subst fe_0_8_1
  subst fe_0_11_1
  subst fe_0_12_1
  subst fe_0_15_1
  have e_hE_0_3_1 := funext hE_0_3_1; subst e_hE_0_3_1
  have e_hE_0_4_1 := funext hE_0_4_1; subst e_hE_0_4_1
  first
    | omega
    | (have q1 := (hE_0_2_1 (r_0 + 2) (by omega)).2 (by omega)
       have q2 := (hE_0_2_2 (r_0 + 2) (by omega)).2 (by omega)
       omega)
    | (have q1 := (hE_0_2_1 (r_0 + 1) (by omega)).2 (by omega)
       have q2 := (hE_0_2_2 (r_0 + 1) (by omega)).2 (by omega)
       omega)
    | (have q1 := (hE_0_2_1 (r_0 + 2) (by omega)).2 (by omega)
       omega)
    | (have q1 := (hE_0_2_1 (r_0 + 1) (by omega)).2 (by omega)
       omega)
    | (have q1 := (hE_0_2_1 (r_0 + 2) (by omega)).2 (by omega)
       have q2 := (hE_0_2_2 (r_0 + 2) (by omega)).2 (by omega)
       have q3 := (hE_0_2_3 (r_0 + 2) (by omega)).1 (by omega)
       omega)
    | (have q1 := (hE_0_2_1 (r_0 + 2) (by omega)).2 (by omega)
       have q2 := (hE_0_2_2 (r_0 + 2) (by omega)).2 (by omega)
       have q3 := (hE_0_2_3 (r_0 + 2) (by omega)).2 (by omega)
       omega)
set_option maxHeartbeats 4000000 in
theorem vc_Mo_item_at_k2_12_5 (x15 : Int) (x21 : Int) (from_0 : Int) (pos_0 : Int) (kind_0 : Int) (fault_0 : Int) (r_1 : Int) (fault_1 : Int) (all_1 : Int → Int) (now_1 : Int → Int) (latest_1 : Int → Int) (from_1 : Int) (pos_1 : Int) (kind_1 : Int) (r_0 : Int) (all_0 : Int → Int) (now_0 : Int → Int) (latest_0 : Int → Int) (k15 : 1 ≤ x15 ∧ x15 ≤ 99) (k21 : 219 ≤ x21 ∧ x21 ≤ 66539) (f34 : ((kind_1 = 1) → (pos_1 ≤ (from_1 + 8))) ∧ ((kind_1 = 0) ∨ ((from_1 + 1) ≤ pos_1))) (fe_0_5_1 : r_0 = r_1) (fe_0_8_1 : fault_0 = fault_1) (fe_0_11_1 : pos_0 = pos_1) (fe_0_12_1 : kind_0 = kind_1) (fe_0_15_1 : from_0 = from_1) (hE_0_2_1 : ∀ j : Int, 0 ≤ j → (j = x21 → all_0 j = x15) ∧ (j ≠ x21 → all_0 j = all_1 j)) (hE_0_3_1 : ∀ j : Int, now_0 j = now_1 j) (hE_0_4_1 : ∀ j : Int, latest_0 j = latest_1 j) (kz_0_8 : 0 ≤ fault_0 ∧ fault_0 ≤ 5) (kz_0_11 : 0 ≤ pos_0 ∧ pos_0 ≤ 2000) (kz_0_12 : 0 ≤ kind_0 ∧ kind_0 ≤ 4) (kz_0_15 : 0 ≤ from_0 ∧ from_0 ≤ 2000) : ((kind_0 = 1) → (pos_0 ≤ (from_0 + 8))) ∧ ((kind_0 = 0) ∨ ((from_0 + 1) ≤ pos_0)) := by
  subst fe_0_5_1
  subst fe_0_8_1
  subst fe_0_11_1
  subst fe_0_12_1
  subst fe_0_15_1
  have e_hE_0_3_1 := funext hE_0_3_1; subst e_hE_0_3_1
  have e_hE_0_4_1 := funext hE_0_4_1; subst e_hE_0_4_1
  first
    | omega
    | (have q1 := (hE_0_2_1 (r_0 + 2) (by omega)).2 (by omega)
       have q2 := (hE_0_2_2 (r_0 + 2) (by omega)).2 (by omega)
       omega)
    | (have q1 := (hE_0_2_1 (r_0 + 1) (by omega)).2 (by omega)
       have q2 := (hE_0_2_2 (r_0 + 1) (by omega)).2 (by omega)
       omega)
    | (have q1 := (hE_0_2_1 (r_0 + 2) (by omega)).2 (by omega)
       omega)
    | (have q1 := (hE_0_2_1 (r_0 + 1) (by omega)).2 (by omega)
       omega)
    | (have q1 := (hE_0_2_1 (r_0 + 2) (by omega)).2 (by omega)
       have q2 := (hE_0_2_2 (r_0 + 2) (by omega)).2 (by omega)
       have q3 := (hE_0_2_3 (r_0 + 2) (by omega)).1 (by omega)
       omega)
    | (have q1 := (hE_0_2_1 (r_0 + 2) (by omega)).2 (by omega)
       have q2 := (hE_0_2_2 (r_0 + 2) (by omega)).2 (by omega)
       have q3 := (hE_0_2_3 (r_0 + 2) (by omega)).2 (by omega)
       omega)
set_option maxHeartbeats 4000000 in
theorem vc_Mo_item_at_k2_12_6 (x3 : Int) (x13 : Int) (x15 : Int) (x21 : Int) (from_0 : Int) (pos_0 : Int) (kind_0 : Int) (fault_0 : Int) (r_1 : Int) (fault_1 : Int) (all_1 : Int → Int) (now_1 : Int → Int) (latest_1 : Int → Int) (from_1 : Int) (pos_1 : Int) (kind_1 : Int) (r_0 : Int) (all_0 : Int → Int) (now_0 : Int → Int) (latest_0 : Int → Int) (gx : Int) (k3 : 0 ≤ x3 ∧ x3 ≤ 2000) (k13 : 0 ≤ x13 ∧ x13 ≤ 2000) (k15 : 1 ≤ x15 ∧ x15 ≤ 99) (k21 : 219 ≤ x21 ∧ x21 ≤ 66539) (f0 : 1 * x13 + ((-1) * x3 + 0) ≤ 0) (f1 : (-1) * x13 + (1 * x3 + 0) ≤ 0) (f10 : 1 * x13 + ((-1) * pos_0 + 0) ≤ 0) (fe_0_5_1 : r_0 = r_1) (fe_0_8_1 : fault_0 = fault_1) (fe_0_11_1 : pos_0 = pos_1) (fe_0_12_1 : kind_0 = kind_1) (fe_0_15_1 : from_0 = from_1) (hE_0_2_1 : ∀ j : Int, 0 ≤ j → (j = x21 → all_0 j = x15) ∧ (j ≠ x21 → all_0 j = all_1 j)) (hE_0_3_1 : ∀ j : Int, now_0 j = now_1 j) (hE_0_4_1 : ∀ j : Int, latest_0 j = latest_1 j) (kz_0_8 : 0 ≤ fault_0 ∧ fault_0 ≤ 5) (kz_0_11 : 0 ≤ pos_0 ∧ pos_0 ≤ 2000) (kz_0_12 : 0 ≤ kind_0 ∧ kind_0 ≤ 4) (kz_0_15 : 0 ≤ from_0 ∧ from_0 ≤ 2000) (ex2 : gx = x3) : 1 * gx + ((-1) * pos_0 + 0) ≤ 0 := by
  subst fe_0_5_1
  subst fe_0_8_1
  subst fe_0_11_1
  subst fe_0_12_1
  subst fe_0_15_1
  have e_hE_0_3_1 := funext hE_0_3_1; subst e_hE_0_3_1
  have e_hE_0_4_1 := funext hE_0_4_1; subst e_hE_0_4_1
  first
    | omega
    | (have q1 := (hE_0_2_1 (r_0 + 2) (by omega)).2 (by omega)
       have q2 := (hE_0_2_2 (r_0 + 2) (by omega)).2 (by omega)
       omega)
    | (have q1 := (hE_0_2_1 (r_0 + 1) (by omega)).2 (by omega)
       have q2 := (hE_0_2_2 (r_0 + 1) (by omega)).2 (by omega)
       omega)
    | (have q1 := (hE_0_2_1 (r_0 + 2) (by omega)).2 (by omega)
       omega)
    | (have q1 := (hE_0_2_1 (r_0 + 1) (by omega)).2 (by omega)
       omega)
    | (have q1 := (hE_0_2_1 (r_0 + 2) (by omega)).2 (by omega)
       have q2 := (hE_0_2_2 (r_0 + 2) (by omega)).2 (by omega)
       have q3 := (hE_0_2_3 (r_0 + 2) (by omega)).1 (by omega)
       omega)
    | (have q1 := (hE_0_2_1 (r_0 + 2) (by omega)).2 (by omega)
       have q2 := (hE_0_2_2 (r_0 + 2) (by omega)).2 (by omega)
       have q3 := (hE_0_2_3 (r_0 + 2) (by omega)).2 (by omega)
       omega)
set_option maxHeartbeats 4000000 in
theorem vc_Mo_item_at_k2_12_7 (x3 : Int) (x13 : Int) (x15 : Int) (x16 : Int) (x21 : Int) (from_0 : Int) (pos_0 : Int) (kind_0 : Int) (fault_0 : Int) (r_1 : Int) (fault_1 : Int) (all_1 : Int → Int) (now_1 : Int → Int) (latest_1 : Int → Int) (from_1 : Int) (pos_1 : Int) (kind_1 : Int) (r_0 : Int) (all_0 : Int → Int) (now_0 : Int → Int) (latest_0 : Int → Int) (gx : Int) (k3 : 0 ≤ x3 ∧ x3 ≤ 2000) (k13 : 0 ≤ x13 ∧ x13 ≤ 2000) (k15 : 1 ≤ x15 ∧ x15 ≤ 99) (k16 : 0 ≤ x16 ∧ x16 ≤ 0) (k21 : 219 ≤ x21 ∧ x21 ≤ 66539) (f0 : 1 * x13 + ((-1) * x3 + 0) ≤ 0) (f1 : (-1) * x13 + (1 * x3 + 0) ≤ 0) (f10 : 1 * x13 + ((-1) * pos_0 + 0) ≤ 0) (g22 : x16 = fault_1) (f34 : ((kind_1 = 1) → (pos_1 ≤ (from_1 + 8))) ∧ ((kind_1 = 0) ∨ ((from_1 + 1) ≤ pos_1))) (f36 : (1 ≤ fault_1) ∨ ((kind_1 = 0) ∨ ((x13 + 1) ≤ pos_1))) (fe_0_5_1 : r_0 = r_1) (fe_0_8_1 : fault_0 = fault_1) (fe_0_11_1 : pos_0 = pos_1) (fe_0_12_1 : kind_0 = kind_1) (fe_0_15_1 : from_0 = from_1) (hE_0_2_1 : ∀ j : Int, 0 ≤ j → (j = x21 → all_0 j = x15) ∧ (j ≠ x21 → all_0 j = all_1 j)) (hE_0_3_1 : ∀ j : Int, now_0 j = now_1 j) (hE_0_4_1 : ∀ j : Int, latest_0 j = latest_1 j) (kz_0_8 : 0 ≤ fault_0 ∧ fault_0 ≤ 5) (kz_0_11 : 0 ≤ pos_0 ∧ pos_0 ≤ 2000) (kz_0_12 : 0 ≤ kind_0 ∧ kind_0 ≤ 4) (kz_0_15 : 0 ≤ from_0 ∧ from_0 ≤ 2000) (ex2 : gx = x3) : (1 ≤ fault_0) ∨ ((kind_0 = 0) ∨ ((gx + 1) ≤ pos_0)) := by
  subst fe_0_5_1
  subst fe_0_8_1
  subst fe_0_11_1
  subst fe_0_12_1
  subst fe_0_15_1
  have e_hE_0_3_1 := funext hE_0_3_1; subst e_hE_0_3_1
  have e_hE_0_4_1 := funext hE_0_4_1; subst e_hE_0_4_1
  first
    | omega
    | (have q1 := (hE_0_2_1 (r_0 + 2) (by omega)).2 (by omega)
       have q2 := (hE_0_2_2 (r_0 + 2) (by omega)).2 (by omega)
       omega)
    | (have q1 := (hE_0_2_1 (r_0 + 1) (by omega)).2 (by omega)
       have q2 := (hE_0_2_2 (r_0 + 1) (by omega)).2 (by omega)
       omega)
    | (have q1 := (hE_0_2_1 (r_0 + 2) (by omega)).2 (by omega)
       omega)
    | (have q1 := (hE_0_2_1 (r_0 + 1) (by omega)).2 (by omega)
       omega)
    | (have q1 := (hE_0_2_1 (r_0 + 2) (by omega)).2 (by omega)
       have q2 := (hE_0_2_2 (r_0 + 2) (by omega)).2 (by omega)
       have q3 := (hE_0_2_3 (r_0 + 2) (by omega)).1 (by omega)
       omega)
    | (have q1 := (hE_0_2_1 (r_0 + 2) (by omega)).2 (by omega)
       have q2 := (hE_0_2_2 (r_0 + 2) (by omega)).2 (by omega)
       have q3 := (hE_0_2_3 (r_0 + 2) (by omega)).2 (by omega)
       omega)
def o_Mo_item_at_k2_12 : or_T := (64, 23, [(0, (2, 0, 0, [165])), (1, (0, 0, 7, [])), (3, (0, 0, 2000, [])), (6, (0, 0, 2000, [])), (8, (0, 0, 2000, [])), (10, (0, 0, 23, [])), (12, (0, 99, 99, [])), (13, (0, 0, 2000, [])), (14, (0, -1, 48, [])), (15, (0, 1, 99, [])), (16, (0, 0, 0, [])), (17, (2, 0, 0, [167])), (18, (0, 0, 66297, [])), (19, (0, 219, 219, [])), (20, (0, 219, 66516, [])), (21, (0, 219, 66539, []))], [(23, [13, 3], [0, 1, -1]), (23, [13, 3], [0, -1, 1]), (23, [14, 10], [0, 1, -1]), (23, [14, 10], [0, -1, 1]), (23, [8, 3], [0, 1, -1]), (23, [8, 3], [0, -1, 1]), (23, [6, 3], [0, 1, -1]), (23, [6, 3], [0, -1, 1]), (20, [0, 0], [30, 0, 1, 1, 15, -1, 1, 11]), (20, [0], [50, 3, 0, 12, 11, 15, 2, 21, 4, 7, 1, 3, 2, 0, 12, 0, 1, 0, 3, 2, 0, 11, 4, 3, 2, 0, 15, 0, 8, 3, 7, 1, 3, 2, 0, 12, 0, 0, 0, 7, 4, 3, 2, 0, 15, 0, 1, 2, 0, 11]), (20, [13, 0], [30, 0, 1, 0, 0, -1, 1, 11]), (20, [0, 13], [50, 3, 0, 8, 12, 11, 3, 7, 0, 2, 0, 1, 2, 0, 8, 3, 7, 1, 3, 2, 0, 12, 0, 0, 0, 6, 4, 2, 1, 1, 0, 1, 2, 0, 11]), (20, [0, 14], [50, 1, 0, 8, 3, 7, 0, 2, 0, 1, 2, 0, 8, 0, 2, 0, 0, 1, 1]), (20, [15, 12], [30, 0, 1, 0, 0, -1, 0, 0]), (20, [15], [30, 0, -1, 0, 0]), (100, [17, 21, 15], []), (1, [21, 20, 10], []), (1, [20, 18, 19], []), (9, [18, 0], [5]), (9, [17, 0], [2]), (8, [15], [4]), (8, [16], [0]), (9, [16, 0], [8]), (23, [13, 3], [0, 1, -1]), (23, [13, 3], [0, -1, 1]), (23, [14, 10], [0, 1, -1]), (23, [14, 10], [0, -1, 1]), (23, [8, 3], [0, 1, -1]), (23, [8, 3], [0, -1, 1]), (23, [6, 3], [0, 1, -1]), (23, [6, 3], [0, -1, 1]), (20, [1, 0], [50, 1, 1, 1005, 1002, 0, 6, 4, 2, 1, 0, 0, 1, 3, 1, 2, 4, 3, 2, 1, 5, 0, 2]), (20, [0], [60, 1, 3, 199, 5, 2, 3, 4]), (20, [0, 0], [30, 0, 1, 1, 15, -1, 1, 11]), (20, [0], [50, 3, 0, 12, 11, 15, 2, 21, 4, 7, 1, 3, 2, 0, 12, 0, 1, 0, 3, 2, 0, 11, 4, 3, 2, 0, 15, 0, 8, 3, 7, 1, 3, 2, 0, 12, 0, 0, 0, 7, 4, 3, 2, 0, 15, 0, 1, 2, 0, 11]), (20, [13, 0], [30, 0, 1, 0, 0, -1, 1, 11]), (20, [0, 13], [50, 3, 0, 8, 12, 11, 3, 7, 0, 2, 0, 1, 2, 0, 8, 3, 7, 1, 3, 2, 0, 12, 0, 0, 0, 6, 4, 2, 1, 1, 0, 1, 2, 0, 11]), (20, [0, 14], [50, 1, 0, 8, 3, 7, 0, 2, 0, 1, 2, 0, 8, 0, 2, 0, 0, 1, 1]), (20, [15, 12], [30, 0, 1, 0, 0, -1, 0, 0]), (20, [15], [30, 0, -1, 0, 0]), (102, [14], [0, 165008, 165009, 165011, 165012, 165013, 165014, 165015]), (23, [13, 3], [0, 1, -1]), (23, [13, 3], [0, -1, 1]), (23, [14, 10], [0, 1, -1]), (23, [14, 10], [0, -1, 1]), (23, [8, 3], [0, 1, -1]), (23, [8, 3], [0, -1, 1]), (23, [6, 3], [0, 1, -1]), (23, [6, 3], [0, -1, 1]), (102, [9], [187072209578355573530071658587684226515959365500928, 165008, 165009, 165011, 165012, 165013, 165014, 165015]), (23, [8, 3], [0, 1, -1]), (23, [8, 3], [0, -1, 1]), (23, [6, 3], [0, 1, -1]), (23, [6, 3], [0, -1, 1]), (102, [6], [0, 165011, 165012, 165013, 165014, 165015]), (23, [6, 3], [0, 1, -1]), (23, [6, 3], [0, -1, 1])], [], [(0, 0, 2000, [])], [(20, [1, 0], [50, 1, 1, 1005, 1002, 0, 6, 4, 2, 1, 0, 0, 1, 3, 1, 2, 4, 3, 2, 1, 5, 0, 2]), (20, [0], [60, 1, 3, 199, 5, 2, 3, 4]), (23, [23, 3], [0, 1, -1]), (23, [23, 3], [0, -1, 1]), (20, [0, 0], [30, 0, 1, 1, 15, -1, 1, 11]), (20, [0], [50, 3, 0, 12, 11, 15, 2, 21, 4, 7, 1, 3, 2, 0, 12, 0, 1, 0, 3, 2, 0, 11, 4, 3, 2, 0, 15, 0, 8, 3, 7, 1, 3, 2, 0, 12, 0, 0, 0, 7, 4, 3, 2, 0, 15, 0, 1, 2, 0, 11]), (20, [23, 0], [30, 0, 1, 0, 0, -1, 1, 11]), (20, [0, 23], [50, 3, 0, 8, 12, 11, 3, 7, 0, 2, 0, 1, 2, 0, 8, 3, 7, 1, 3, 2, 0, 12, 0, 0, 0, 6, 4, 2, 1, 1, 0, 1, 2, 0, 11])], [], [(21, 10, 219, 66516), (21, 20, 0, 23), (21, 18, 219, 242), (20, 18, 219, 219)])
theorem oo_Mo_item_at_k2_12 {kA : Nat → ClassId} : or_ok PRD kA GG o_Mo_item_at_k2_12 := by
  refine or_mk fun A ta ws vs hD hth hl => ?_
  intro t0 r0 t1 k1 t3 k3 t6 k6 t8 k8 t10 k10 t12 k12 t13 k13 t14 k14 t15 k15 t16 k16 t17 r17 t18 k18 t19 k19 t20 k20 t21 k21 d0 d1 d2 d3 f0 f1 f2 f3 f4 f5 f6 f7 f8 f9 f10 f11 f12 f13 f14 ta1 w1 le1 s1 f16 f17 f18 f19 f20 f21 f22 f23 f24 f25 f26 f27 f28 f29 f30 f31 f32 f33 f34 f35 f36 f37 f38 f39 ta2 w2 le2 s2 f41 f42 f43 f44 f45 f46 f47 f48 ta3 w3 le3 s3 f50 f51 f52 f53 ta4 w4 le4 s4 f55 f56
  replace f0 := shm_7 f0
  replace f1 := shm_22 f1
  replace f2 := shm_7 f2
  replace f3 := shm_22 f3
  replace f4 := shm_7 f4
  replace f5 := shm_22 f5
  replace f6 := shm_7 f6
  replace f7 := shm_22 f7
  replace f8 := shm_1397 f8
  replace f9 := shm_1398 f9
  replace f10 := shm_1395 f10
  replace f11 := shm_1660 f11
  replace f12 := shm_1889 f12
  replace f13 := shm_219 f13
  replace f14 := shm_1890 f14
  have s1 : (∀ b j, w_el ws b j = if b = v_ad (n_v vs 17) ∧ j = (v_iv (n_v vs 21)).toNat then v_iv (n_v vs 15) else w_el w1 b j) ∧ ∀ b k, w_fd ws b k = w_fd w1 b k := s1.2
  replace f16 := shm_12 f16
  replace f17 := shm_12 f17
  replace f18 := shm_109 f18
  replace f19 := shm_129 f19
  replace f20 := shm_145 f20
  replace f21 := shm_210 f21
  replace f22 := shm_143 f22
  replace f23 := shm_7 f23
  replace f24 := shm_22 f24
  replace f25 := shm_7 f25
  replace f26 := shm_22 f26
  replace f27 := shm_7 f27
  replace f28 := shm_22 f28
  replace f29 := shm_7 f29
  replace f30 := shm_22 f30
  replace f31 := shm_981 f31
  replace f32 := shm_952 f32
  replace f33 := shm_1397 f33
  replace f34 := shm_1398 f34
  replace f35 := shm_1395 f35
  replace f36 := shm_1660 f36
  replace f37 := shm_1889 f37
  replace f38 := shm_219 f38
  replace f39 := shm_1890 f39
  replace f41 := shm_7 f41
  replace f42 := shm_22 f42
  replace f43 := shm_7 f43
  replace f44 := shm_22 f44
  replace f45 := shm_7 f45
  replace f46 := shm_22 f46
  replace f47 := shm_7 f47
  replace f48 := shm_22 f48
  replace f50 := shm_7 f50
  replace f51 := shm_22 f51
  replace f52 := shm_7 f52
  replace f53 := shm_22 f53
  replace f55 := shm_7 f55
  replace f56 := shm_22 f56
  have ar_0_2_1 : w_ar w1 (n_v vs 0) 2 = w_ar ws (n_v vs 0) 2 := congrArg v_ad (s1.2 _ _).symm
  have cr_0_2 := fdq_12 hD hth r0
  have ar_0_3_1 : w_ar w1 (n_v vs 0) 3 = w_ar ws (n_v vs 0) 3 := congrArg v_ad (s1.2 _ _).symm
  have cr_0_3 := fdq_141 hD hth r0
  have ar_0_4_1 : w_ar w1 (n_v vs 0) 4 = w_ar ws (n_v vs 0) 4 := congrArg v_ad (s1.2 _ _).symm
  have cr_0_4 := fdq_142 hD hth r0
  have ad_17 : v_ad (n_v vs 17) = w_ar ws (n_v vs 0) 2 := (congrArg v_ad f19).trans ar_0_2_1
  have g18 : v_iv (n_v vs 18) = w_fi w1 (n_v vs 0) 5 := congrArg v_iv f18
  have g22 : v_iv (n_v vs 16) = w_fi w1 (n_v vs 0) 8 := congrArg v_iv f22
  simp only [ar_0_2_1, ar_0_3_1, ar_0_4_1] at f31 f32
  have fe_0_5_1 : w_fi ws (n_v vs 0) 5 = w_fi w1 (n_v vs 0) 5 := congrArg v_iv (s1.2 _ _)
  have fe_0_8_1 : w_fi ws (n_v vs 0) 8 = w_fi w1 (n_v vs 0) 8 := congrArg v_iv (s1.2 _ _)
  have fe_0_11_1 : w_fi ws (n_v vs 0) 11 = w_fi w1 (n_v vs 0) 11 := congrArg v_iv (s1.2 _ _)
  have fe_0_12_1 : w_fi ws (n_v vs 0) 12 = w_fi w1 (n_v vs 0) 12 := congrArg v_iv (s1.2 _ _)
  have fe_0_15_1 : w_fi ws (n_v vs 0) 15 = w_fi w1 (n_v vs 0) 15 := congrArg v_iv (s1.2 _ _)
  have hE_0_2_1 : ∀ j : Int, 0 ≤ j → (j = v_iv (n_v vs 21) → w_ei ws (w_ar ws (n_v vs 0) 2) j = v_iv (n_v vs 15)) ∧ (j ≠ v_iv (n_v vs 21) → w_ei ws (w_ar ws (n_v vs 0) 2) j = w_ei w1 (w_ar ws (n_v vs 0) 2) j) := fun j hj => ⟨fun h => by unfold w_ei; rw [s1.1, if_pos ⟨ad_17.symm, by rw [h]⟩], fun h => by unfold w_ei; rw [s1.1, if_neg (fun e => h (by have := e.2; omega))]⟩
  have hE_0_3_1 : ∀ j : Int, w_ei ws (w_ar ws (n_v vs 0) 3) j = w_ei w1 (w_ar ws (n_v vs 0) 3) j := el_kp s1.1 r17 cr_0_3 (by decide)
  have hK_0_3 := elq_77 hD hth cr_0_3
  have hE_0_4_1 : ∀ j : Int, w_ei ws (w_ar ws (n_v vs 0) 4) j = w_ei w1 (w_ar ws (n_v vs 0) 4) j := el_kp s1.1 r17 cr_0_4 (by decide)
  have hK_0_4 := elq_78 hD hth cr_0_4
  have kz_0_8 := fdq_14 hD hth r0
  have kz_0_11 := fdq_273 hD hth r0
  have kz_0_12 := fdq_186 hD hth r0
  have kz_0_15 := fdq_274 hD hth r0
  first | have hJ0 : w_ei w1 (w_ar ws (n_v vs 0) 2) ((w_fi w1 (n_v vs 0) 5 + 2)) = w_ei w1 (w_ar ws (n_v vs 0) 2) ((w_fi ws (n_v vs 0) 5 + 2)) := congrArg _ (show ((w_fi w1 (n_v vs 0) 5 + 2) : Int) = (w_fi ws (n_v vs 0) 5 + 2) from by omega) | skip
  first | have hI1 := (hE_0_2_1 ((w_fi ws (n_v vs 0) 5 + 2)) (by omega)).2 (by omega) | have hI1 := (hE_0_2_1 ((w_fi ws (n_v vs 0) 5 + 2)) (by omega)).1 (by omega) | skip
  obtain ⟨x, ex, hx⟩ := iv_ex (ta := ta) (lo := 0) (hi := 2000) (z := v_iv (n_v vs 3)) (by omega) (by omega) (by omega) (by omega)
  have ex2 : v_iv (Value.int x) = v_iv (n_v vs 3) := ex
  have ex3 : 0 ≤ v_iv (Value.int x) ∧ v_iv (Value.int x) ≤ 2000 := tv_rng hx
  have e_0 : n_v (vs ++ [Value.int x]) 0 = n_v vs 0 := n_v_old (by rw [hl]; decide)
  have e_1 : n_v (vs ++ [Value.int x]) 1 = n_v vs 1 := n_v_old (by rw [hl]; decide)
  have e_3 : n_v (vs ++ [Value.int x]) 3 = n_v vs 3 := n_v_old (by rw [hl]; decide)
  have e_23 : n_v (vs ++ [Value.int x]) 23 = Value.int x := n_v_new hl
  have nf0 : fc_1 PRD (20, [1, 0], [50, 1, 1, 1005, 1002, 0, 6, 4, 2, 1, 0, 0, 1, 3, 1, 2, 4, 3, 2, 1, 5, 0, 2]) ws (vs ++ [Value.int x]) := by
    refine ⟨nf_inA hl rfl, sgq_981 ?_⟩
    · show (v_iv (n_v (vs ++ [Value.int x]) 1) + 1) ≤ w_ei ws (w_ar ws (n_v (vs ++ [Value.int x]) 0) 2) ((w_fi ws (n_v (vs ++ [Value.int x]) 0) 5 + 2))
      simp only [e_0, e_1]
      exact vc_Mo_item_at_k2_12_0 (v_iv (n_v vs 1)) (v_iv (n_v vs 10)) (v_iv (n_v vs 14)) (v_iv (n_v vs 15)) (v_iv (n_v vs 18)) (v_iv (n_v vs 20)) (v_iv (n_v vs 21)) (w_fi ws (n_v vs 0) 15) (w_fi ws (n_v vs 0) 11) (w_fi ws (n_v vs 0) 12) (w_fi ws (n_v vs 0) 8) (w_fi w1 (n_v vs 0) 5) (w_fi w1 (n_v vs 0) 8) (w_ei w1 (w_ar ws (n_v vs 0) 2)) (w_ei w1 (w_ar ws (n_v vs 0) 3)) (w_ei w1 (w_ar ws (n_v vs 0) 4)) (w_fi w1 (n_v vs 0) 15) (w_fi w1 (n_v vs 0) 11) (w_fi w1 (n_v vs 0) 12) (w_fi ws (n_v vs 0) 5) (w_ei ws (w_ar ws (n_v vs 0) 2)) (w_ei ws (w_ar ws (n_v vs 0) 3)) (w_ei ws (w_ar ws (n_v vs 0) 4)) k1 k10 k14 k15 k18 k20 k21 d0 d3 f2 f3 f16 g18 f31 fe_0_5_1 fe_0_8_1 fe_0_11_1 fe_0_12_1 fe_0_15_1 hE_0_2_1 hE_0_3_1 hE_0_4_1 kz_0_8 kz_0_11 kz_0_12 kz_0_15
  have nf1 : fc_1 PRD (20, [0], [60, 1, 3, 199, 5, 2, 3, 4]) ws (vs ++ [Value.int x]) := by
    refine ⟨nf_inA hl rfl, sgq_952 ?_⟩
    · show RWS (w_fi ws (n_v (vs ++ [Value.int x]) 0) 5) (w_ei ws (w_ar ws (n_v (vs ++ [Value.int x]) 0) 2)) (w_ei ws (w_ar ws (n_v (vs ++ [Value.int x]) 0) 3)) (w_ei ws (w_ar ws (n_v (vs ++ [Value.int x]) 0) 4))
      rw [e_0]
      exact vc_Mo_item_at_k2_12_1 (v_iv (n_v vs 10)) (v_iv (n_v vs 14)) (v_iv (n_v vs 15)) (v_iv (n_v vs 18)) (v_iv (n_v vs 20)) (v_iv (n_v vs 21)) (w_fi ws (n_v vs 0) 15) (w_fi ws (n_v vs 0) 11) (w_fi ws (n_v vs 0) 12) (w_fi ws (n_v vs 0) 8) (w_fi w1 (n_v vs 0) 5) (w_fi w1 (n_v vs 0) 8) (w_ei w1 (w_ar ws (n_v vs 0) 2)) (w_ei w1 (w_ar ws (n_v vs 0) 3)) (w_ei w1 (w_ar ws (n_v vs 0) 4)) (w_fi w1 (n_v vs 0) 15) (w_fi w1 (n_v vs 0) 11) (w_fi w1 (n_v vs 0) 12) (w_fi ws (n_v vs 0) 5) (w_ei ws (w_ar ws (n_v vs 0) 2)) (w_ei ws (w_ar ws (n_v vs 0) 3)) (w_ei ws (w_ar ws (n_v vs 0) 4)) k10 k14 k15 k18 k20 k21 d3 f2 f3 f16 g18 f32 fe_0_5_1 fe_0_8_1 fe_0_11_1 fe_0_12_1 fe_0_15_1 hE_0_2_1 hE_0_3_1 hE_0_4_1 kz_0_8 kz_0_11 kz_0_12 kz_0_15
  have nf2 : fc_1 PRD (23, [23, 3], [0, 1, -1]) ws (vs ++ [Value.int x]) := by
    refine ⟨nf_inA hl rfl, sgq_7 ?_⟩
    · show 1 * v_iv (n_v (vs ++ [Value.int x]) 23) + ((-1) * v_iv (n_v (vs ++ [Value.int x]) 3) + 0) ≤ 0
      simp only [e_3, e_23]
      exact vc_Mo_item_at_k2_12_2 (v_iv (n_v vs 3)) (v_iv (n_v vs 13)) (v_iv (n_v vs 15)) (v_iv (n_v vs 21)) (w_fi ws (n_v vs 0) 15) (w_fi ws (n_v vs 0) 11) (w_fi ws (n_v vs 0) 12) (w_fi ws (n_v vs 0) 8) (w_fi w1 (n_v vs 0) 5) (w_fi w1 (n_v vs 0) 8) (w_ei w1 (w_ar ws (n_v vs 0) 2)) (w_ei w1 (w_ar ws (n_v vs 0) 3)) (w_ei w1 (w_ar ws (n_v vs 0) 4)) (w_fi w1 (n_v vs 0) 15) (w_fi w1 (n_v vs 0) 11) (w_fi w1 (n_v vs 0) 12) (w_fi ws (n_v vs 0) 5) (w_ei ws (w_ar ws (n_v vs 0) 2)) (w_ei ws (w_ar ws (n_v vs 0) 3)) (w_ei ws (w_ar ws (n_v vs 0) 4)) (v_iv (Value.int x)) k3 k13 k15 k21 f0 f1 fe_0_5_1 fe_0_8_1 fe_0_11_1 fe_0_12_1 fe_0_15_1 hE_0_2_1 hE_0_3_1 hE_0_4_1 kz_0_8 kz_0_11 kz_0_12 kz_0_15 ex2
  have nf3 : fc_1 PRD (23, [23, 3], [0, -1, 1]) ws (vs ++ [Value.int x]) := by
    refine ⟨nf_inA hl rfl, sgq_22 ?_⟩
    · show (-1) * v_iv (n_v (vs ++ [Value.int x]) 23) + (1 * v_iv (n_v (vs ++ [Value.int x]) 3) + 0) ≤ 0
      simp only [e_3, e_23]
      exact vc_Mo_item_at_k2_12_3 (v_iv (n_v vs 3)) (v_iv (n_v vs 13)) (v_iv (n_v vs 15)) (v_iv (n_v vs 21)) (w_fi ws (n_v vs 0) 15) (w_fi ws (n_v vs 0) 11) (w_fi ws (n_v vs 0) 12) (w_fi ws (n_v vs 0) 8) (w_fi w1 (n_v vs 0) 5) (w_fi w1 (n_v vs 0) 8) (w_ei w1 (w_ar ws (n_v vs 0) 2)) (w_ei w1 (w_ar ws (n_v vs 0) 3)) (w_ei w1 (w_ar ws (n_v vs 0) 4)) (w_fi w1 (n_v vs 0) 15) (w_fi w1 (n_v vs 0) 11) (w_fi w1 (n_v vs 0) 12) (w_fi ws (n_v vs 0) 5) (w_ei ws (w_ar ws (n_v vs 0) 2)) (w_ei ws (w_ar ws (n_v vs 0) 3)) (w_ei ws (w_ar ws (n_v vs 0) 4)) (v_iv (Value.int x)) k3 k13 k15 k21 f0 f1 fe_0_5_1 fe_0_8_1 fe_0_11_1 fe_0_12_1 fe_0_15_1 hE_0_2_1 hE_0_3_1 hE_0_4_1 kz_0_8 kz_0_11 kz_0_12 kz_0_15 ex2
  have nf4 : fc_1 PRD (20, [0, 0], [30, 0, 1, 1, 15, -1, 1, 11]) ws (vs ++ [Value.int x]) := by
    refine ⟨nf_inA hl rfl, sgq_1397 ?_⟩
    · show 1 * w_fi ws (n_v (vs ++ [Value.int x]) 0) 15 + ((-1) * w_fi ws (n_v (vs ++ [Value.int x]) 0) 11 + 0) ≤ 0
      rw [e_0]
      exact vc_Mo_item_at_k2_12_4 (v_iv (n_v vs 15)) (v_iv (n_v vs 21)) (w_fi ws (n_v vs 0) 15) (w_fi ws (n_v vs 0) 11) (w_fi ws (n_v vs 0) 12) (w_fi ws (n_v vs 0) 8) (w_fi w1 (n_v vs 0) 5) (w_fi w1 (n_v vs 0) 8) (w_ei w1 (w_ar ws (n_v vs 0) 2)) (w_ei w1 (w_ar ws (n_v vs 0) 3)) (w_ei w1 (w_ar ws (n_v vs 0) 4)) (w_fi w1 (n_v vs 0) 15) (w_fi w1 (n_v vs 0) 11) (w_fi w1 (n_v vs 0) 12) (w_fi ws (n_v vs 0) 5) (w_ei ws (w_ar ws (n_v vs 0) 2)) (w_ei ws (w_ar ws (n_v vs 0) 3)) (w_ei ws (w_ar ws (n_v vs 0) 4)) k15 k21 f33 fe_0_5_1 fe_0_8_1 fe_0_11_1 fe_0_12_1 fe_0_15_1 hE_0_2_1 hE_0_3_1 hE_0_4_1 kz_0_8 kz_0_11 kz_0_12 kz_0_15
  have nf5 : fc_1 PRD (20, [0], [50, 3, 0, 12, 11, 15, 2, 21, 4, 7, 1, 3, 2, 0, 12, 0, 1, 0, 3, 2, 0, 11, 4, 3, 2, 0, 15, 0, 8, 3, 7, 1, 3, 2, 0, 12, 0, 0, 0, 7, 4, 3, 2, 0, 15, 0, 1, 2, 0, 11]) ws (vs ++ [Value.int x]) := by
    refine ⟨nf_inA hl rfl, sgq_1398 ?_⟩
    · show ((w_fi ws (n_v (vs ++ [Value.int x]) 0) 12 = 1) → (w_fi ws (n_v (vs ++ [Value.int x]) 0) 11 ≤ (w_fi ws (n_v (vs ++ [Value.int x]) 0) 15 + 8))) ∧ ((w_fi ws (n_v (vs ++ [Value.int x]) 0) 12 = 0) ∨ ((w_fi ws (n_v (vs ++ [Value.int x]) 0) 15 + 1) ≤ w_fi ws (n_v (vs ++ [Value.int x]) 0) 11))
      rw [e_0]
      exact vc_Mo_item_at_k2_12_5 (v_iv (n_v vs 15)) (v_iv (n_v vs 21)) (w_fi ws (n_v vs 0) 15) (w_fi ws (n_v vs 0) 11) (w_fi ws (n_v vs 0) 12) (w_fi ws (n_v vs 0) 8) (w_fi w1 (n_v vs 0) 5) (w_fi w1 (n_v vs 0) 8) (w_ei w1 (w_ar ws (n_v vs 0) 2)) (w_ei w1 (w_ar ws (n_v vs 0) 3)) (w_ei w1 (w_ar ws (n_v vs 0) 4)) (w_fi w1 (n_v vs 0) 15) (w_fi w1 (n_v vs 0) 11) (w_fi w1 (n_v vs 0) 12) (w_fi ws (n_v vs 0) 5) (w_ei ws (w_ar ws (n_v vs 0) 2)) (w_ei ws (w_ar ws (n_v vs 0) 3)) (w_ei ws (w_ar ws (n_v vs 0) 4)) k15 k21 f34 fe_0_5_1 fe_0_8_1 fe_0_11_1 fe_0_12_1 fe_0_15_1 hE_0_2_1 hE_0_3_1 hE_0_4_1 kz_0_8 kz_0_11 kz_0_12 kz_0_15
  have nf6 : fc_1 PRD (20, [23, 0], [30, 0, 1, 0, 0, -1, 1, 11]) ws (vs ++ [Value.int x]) := by
    refine ⟨nf_inA hl rfl, sgq_1395 ?_⟩
    · show 1 * v_iv (n_v (vs ++ [Value.int x]) 23) + ((-1) * w_fi ws (n_v (vs ++ [Value.int x]) 0) 11 + 0) ≤ 0
      simp only [e_0, e_23]
      exact vc_Mo_item_at_k2_12_6 (v_iv (n_v vs 3)) (v_iv (n_v vs 13)) (v_iv (n_v vs 15)) (v_iv (n_v vs 21)) (w_fi ws (n_v vs 0) 15) (w_fi ws (n_v vs 0) 11) (w_fi ws (n_v vs 0) 12) (w_fi ws (n_v vs 0) 8) (w_fi w1 (n_v vs 0) 5) (w_fi w1 (n_v vs 0) 8) (w_ei w1 (w_ar ws (n_v vs 0) 2)) (w_ei w1 (w_ar ws (n_v vs 0) 3)) (w_ei w1 (w_ar ws (n_v vs 0) 4)) (w_fi w1 (n_v vs 0) 15) (w_fi w1 (n_v vs 0) 11) (w_fi w1 (n_v vs 0) 12) (w_fi ws (n_v vs 0) 5) (w_ei ws (w_ar ws (n_v vs 0) 2)) (w_ei ws (w_ar ws (n_v vs 0) 3)) (w_ei ws (w_ar ws (n_v vs 0) 4)) (v_iv (Value.int x)) k3 k13 k15 k21 f0 f1 f10 fe_0_5_1 fe_0_8_1 fe_0_11_1 fe_0_12_1 fe_0_15_1 hE_0_2_1 hE_0_3_1 hE_0_4_1 kz_0_8 kz_0_11 kz_0_12 kz_0_15 ex2
  have nf7 : fc_1 PRD (20, [0, 23], [50, 3, 0, 8, 12, 11, 3, 7, 0, 2, 0, 1, 2, 0, 8, 3, 7, 1, 3, 2, 0, 12, 0, 0, 0, 6, 4, 2, 1, 1, 0, 1, 2, 0, 11]) ws (vs ++ [Value.int x]) := by
    refine ⟨nf_inA hl rfl, sgq_1660 ?_⟩
    · show (1 ≤ w_fi ws (n_v (vs ++ [Value.int x]) 0) 8) ∨ ((w_fi ws (n_v (vs ++ [Value.int x]) 0) 12 = 0) ∨ ((v_iv (n_v (vs ++ [Value.int x]) 23) + 1) ≤ w_fi ws (n_v (vs ++ [Value.int x]) 0) 11))
      simp only [e_0, e_23]
      exact vc_Mo_item_at_k2_12_7 (v_iv (n_v vs 3)) (v_iv (n_v vs 13)) (v_iv (n_v vs 15)) (v_iv (n_v vs 16)) (v_iv (n_v vs 21)) (w_fi ws (n_v vs 0) 15) (w_fi ws (n_v vs 0) 11) (w_fi ws (n_v vs 0) 12) (w_fi ws (n_v vs 0) 8) (w_fi w1 (n_v vs 0) 5) (w_fi w1 (n_v vs 0) 8) (w_ei w1 (w_ar ws (n_v vs 0) 2)) (w_ei w1 (w_ar ws (n_v vs 0) 3)) (w_ei w1 (w_ar ws (n_v vs 0) 4)) (w_fi w1 (n_v vs 0) 15) (w_fi w1 (n_v vs 0) 11) (w_fi w1 (n_v vs 0) 12) (w_fi ws (n_v vs 0) 5) (w_ei ws (w_ar ws (n_v vs 0) 2)) (w_ei ws (w_ar ws (n_v vs 0) 3)) (w_ei ws (w_ar ws (n_v vs 0) 4)) (v_iv (Value.int x)) k3 k13 k15 k16 k21 f0 f1 f10 g22 f34 f36 fe_0_5_1 fe_0_8_1 fe_0_11_1 fe_0_12_1 fe_0_15_1 hE_0_2_1 hE_0_3_1 hE_0_4_1 kz_0_8 kz_0_11 kz_0_12 kz_0_15 ex2
  exact ⟨(fun _ h => (by cases h)), [Value.int x], ag_one hx, List.forall_mem_cons.mpr ⟨⟨show (20 : Nat) < 100 from by decide, nf0⟩, List.forall_mem_cons.mpr ⟨⟨show (20 : Nat) < 100 from by decide, nf1⟩, List.forall_mem_cons.mpr ⟨⟨show (23 : Nat) < 100 from by decide, nf2⟩, List.forall_mem_cons.mpr ⟨⟨show (23 : Nat) < 100 from by decide, nf3⟩, List.forall_mem_cons.mpr ⟨⟨show (20 : Nat) < 100 from by decide, nf4⟩, List.forall_mem_cons.mpr ⟨⟨show (20 : Nat) < 100 from by decide, nf5⟩, List.forall_mem_cons.mpr ⟨⟨show (20 : Nat) < 100 from by decide, nf6⟩, List.forall_mem_cons.mpr ⟨⟨show (20 : Nat) < 100 from by decide, nf7⟩, (fun _ h => (by cases h))⟩⟩⟩⟩⟩⟩⟩⟩, (fun _ h => (by cases h))⟩
set_option maxHeartbeats 4000000 in
theorem vc_Mo_item_at_k2_13_0 (x3 : Int) (x23 : Int) (r_0 : Int) (pos_0 : Int) (k3 : 0 ≤ x3 ∧ x3 ≤ 2000) (k23 : 0 ≤ x23 ∧ x23 ≤ 2000) (f2 : 1 * x23 + ((-1) * x3 + 0) ≤ 0) (f3 : (-1) * x23 + (1 * x3 + 0) ≤ 0) (f14 : 1 * x23 + ((-1) * pos_0 + 0) ≤ 0) (kz_0_11 : 0 ≤ pos_0 ∧ pos_0 ≤ 2000) : 1 * x3 + ((-1) * pos_0 + 0) ≤ 0 := by
  first
    | omega
    | (have q1 := (hE_0_2_1 (r_0 + 2) (by omega)).2 (by omega)
       have q2 := (hE_0_2_2 (r_0 + 2) (by omega)).2 (by omega)
       omega)
    | (have q1 := (hE_0_2_1 (r_0 + 1) (by omega)).2 (by omega)
       have q2 := (hE_0_2_2 (r_0 + 1) (by omega)).2 (by omega)
       omega)
    | (have q1 := (hE_0_2_1 (r_0 + 2) (by omega)).2 (by omega)
       omega)
    | (have q1 := (hE_0_2_1 (r_0 + 1) (by omega)).2 (by omega)
       omega)
    | (have q1 := (hE_0_2_1 (r_0 + 2) (by omega)).2 (by omega)
       have q2 := (hE_0_2_2 (r_0 + 2) (by omega)).2 (by omega)
       have q3 := (hE_0_2_3 (r_0 + 2) (by omega)).1 (by omega)
       omega)
    | (have q1 := (hE_0_2_1 (r_0 + 2) (by omega)).2 (by omega)
       have q2 := (hE_0_2_2 (r_0 + 2) (by omega)).2 (by omega)
       have q3 := (hE_0_2_3 (r_0 + 2) (by omega)).2 (by omega)
       omega)
set_option maxHeartbeats 4000000 in
theorem vc_Mo_item_at_k2_13_1 (x3 : Int) (x23 : Int) (r_0 : Int) (pos_0 : Int) (fault_0 : Int) (k3 : 0 ≤ x3 ∧ x3 ≤ 2000) (k23 : 0 ≤ x23 ∧ x23 ≤ 2000) (f2 : 1 * x23 + ((-1) * x3 + 0) ≤ 0) (f3 : (-1) * x23 + (1 * x3 + 0) ≤ 0) (f14 : 1 * x23 + ((-1) * pos_0 + 0) ≤ 0) (f15 : (1 ≤ fault_0) ∨ ((x23 + 1) ≤ pos_0)) (kz_0_8 : 0 ≤ fault_0 ∧ fault_0 ≤ 5) (kz_0_11 : 0 ≤ pos_0 ∧ pos_0 ≤ 2000) : (1 ≤ fault_0) ∨ ((x3 + 1) ≤ pos_0) := by
  first
    | omega
    | (have q1 := (hE_0_2_1 (r_0 + 2) (by omega)).2 (by omega)
       have q2 := (hE_0_2_2 (r_0 + 2) (by omega)).2 (by omega)
       omega)
    | (have q1 := (hE_0_2_1 (r_0 + 1) (by omega)).2 (by omega)
       have q2 := (hE_0_2_2 (r_0 + 1) (by omega)).2 (by omega)
       omega)
    | (have q1 := (hE_0_2_1 (r_0 + 2) (by omega)).2 (by omega)
       omega)
    | (have q1 := (hE_0_2_1 (r_0 + 1) (by omega)).2 (by omega)
       omega)
    | (have q1 := (hE_0_2_1 (r_0 + 2) (by omega)).2 (by omega)
       have q2 := (hE_0_2_2 (r_0 + 2) (by omega)).2 (by omega)
       have q3 := (hE_0_2_3 (r_0 + 2) (by omega)).1 (by omega)
       omega)
    | (have q1 := (hE_0_2_1 (r_0 + 2) (by omega)).2 (by omega)
       have q2 := (hE_0_2_2 (r_0 + 2) (by omega)).2 (by omega)
       have q3 := (hE_0_2_3 (r_0 + 2) (by omega)).2 (by omega)
       omega)
def o_Mo_item_at_k2_13 : or_T := (94, 24, [(0, (2, 0, 0, [165])), (3, (0, 0, 2000, [])), (23, (0, 0, 2000, []))], [(23, [23, 3], [0, 1, -1]), (23, [23, 3], [0, -1, 1]), (20, [23, 0], [30, 0, 1, 0, 0, -1, 1, 11]), (20, [0, 23], [50, 2, 0, 8, 11, 3, 7, 0, 2, 0, 1, 2, 0, 8, 0, 6, 4, 2, 1, 1, 0, 1, 2, 0, 11])], [], [], [(20, [3, 0], [30, 0, 1, 0, 0, -1, 1, 11]), (20, [0, 3], [50, 2, 0, 8, 11, 3, 7, 0, 2, 0, 1, 2, 0, 8, 0, 6, 4, 2, 1, 1, 0, 1, 2, 0, 11])], [], [])
theorem oo_Mo_item_at_k2_13 {kA : Nat → ClassId} : or_ok PRD kA GG o_Mo_item_at_k2_13 := by
  refine or_mk fun A ta ws vs hD hth hl => ?_
  intro t0 r0 t3 k3 t23 k23 f2 f3 f14 f15
  have kz_0_8 := fdq_14 hD hth r0
  have kz_0_11 := fdq_273 hD hth r0
  have nf0 : fc_1 PRD (20, [3, 0], [30, 0, 1, 0, 0, -1, 1, 11]) ws (vs) := ⟨nf_in hl rfl, sgq_1395 (vc_Mo_item_at_k2_13_0 (v_iv (n_v vs 3)) (v_iv (n_v vs 23)) (w_fi ws (n_v vs 0) 5) (w_fi ws (n_v vs 0) 11) k3 k23 (shm_7 f2) (shm_22 f3) (shm_1395 f14) kz_0_11)⟩
  have nf1 : fc_1 PRD (20, [0, 3], [50, 2, 0, 8, 11, 3, 7, 0, 2, 0, 1, 2, 0, 8, 0, 6, 4, 2, 1, 1, 0, 1, 2, 0, 11]) ws (vs) := ⟨nf_in hl rfl, sgq_1659 (vc_Mo_item_at_k2_13_1 (v_iv (n_v vs 3)) (v_iv (n_v vs 23)) (w_fi ws (n_v vs 0) 5) (w_fi ws (n_v vs 0) 11) (w_fi ws (n_v vs 0) 8) k3 k23 (shm_7 f2) (shm_22 f3) (shm_1395 f14) (shm_1659 f15) kz_0_8 kz_0_11)⟩
  refine ⟨(fun _ h => (by cases h)), [], trivial, ?_, (fun _ h => (by cases h))⟩
  rw [List.append_nil]
  exact List.forall_mem_cons.mpr ⟨⟨show (20 : Nat) < 100 from by decide, nf0⟩, List.forall_mem_cons.mpr ⟨⟨show (20 : Nat) < 100 from by decide, nf1⟩, (fun _ h => (by cases h))⟩⟩
def n_Mo_item_at_k2_an : List an_T := []
def t_Mo_item_at_k2_ct : ct_L := [(1, 460, e_Mo_next), (1, 491, e_Mo_need), (1, 494, e_Mo_met), (1, 506, e_Mo_edgeItem), (16, 469, e_Mo_isWord_at_s5000), (85, 499, e_Mo_of_at_s5002), (226, 469, e_Mo_isWord_at_s5001), (253, 503, e_Mo_groupItem_at_k2), (1000001, 467, en_ro [] (2, 0, 0, [5000])), (1000001, 473, en_ro [] (2, 0, 0, [5001])), (1000001, 497, en_ro [] (2, 0, 0, [5002]))]
set_option maxRecDepth 100000 in
theorem c_Mo_item_at_k2 {l : Launch} {D : va_G} {kA : Nat → ClassId} (h_Mo_edgeItem : ct_ok PRD l D kA GG y_Mo_edgeItem z_Mo_edgeItem e_Mo_edgeItem) (h_Mo_groupItem_at_k2 : ct_ok PRD l D kA GG y_Mo_groupItem_at_k2 z_Mo_groupItem_at_k2 e_Mo_groupItem_at_k2) (h_Mo_isWord_at_s5000 : ct_ok PRD l D kA GG y_Mo_isWord_at_s5000 z_Mo_isWord_at_s5000 e_Mo_isWord_at_s5000) (h_Mo_isWord_at_s5001 : ct_ok PRD l D kA GG y_Mo_isWord_at_s5001 z_Mo_isWord_at_s5001 e_Mo_isWord_at_s5001) (h_Mo_met : ct_ok PRD l D kA GG y_Mo_met z_Mo_met e_Mo_met) (h_Mo_need : ct_ok PRD l D kA GG y_Mo_need z_Mo_need e_Mo_need) (h_Mo_next : ct_ok PRD l D kA GG y_Mo_next z_Mo_next e_Mo_next) (h_Mo_of_at_s5002 : ct_ok PRD l D kA GG y_Mo_of_at_s5002 z_Mo_of_at_s5002 e_Mo_of_at_s5002) : ct_ok PRD l D kA GG y_Mo_item_at_k2 z_Mo_item_at_k2 e_Mo_item_at_k2 := chk_all_ok (FT := [(16, 13, 2), (391, 13, 5), (413, 13, 8)]) (PT := []) (CT := t_Mo_item_at_k2_ct) (KT := []) (NT := []) (AN := n_Mo_item_at_k2_an) (OT := [o_Mo_item_at_k2_0, o_Mo_item_at_k2_1, o_Mo_item_at_k2_2, o_Mo_item_at_k2_3, o_Mo_item_at_k2_4, o_Mo_item_at_k2_5, o_Mo_item_at_k2_6, o_Mo_item_at_k2_7, o_Mo_item_at_k2_8, o_Mo_item_at_k2_9, o_Mo_item_at_k2_10, o_Mo_item_at_k2_11, o_Mo_item_at_k2_12, o_Mo_item_at_k2_13]) 0 240 (List.forall_mem_cons.mpr ⟨oo_Mo_item_at_k2_0, List.forall_mem_cons.mpr ⟨oo_Mo_item_at_k2_1, List.forall_mem_cons.mpr ⟨oo_Mo_item_at_k2_2, List.forall_mem_cons.mpr ⟨oo_Mo_item_at_k2_3, List.forall_mem_cons.mpr ⟨oo_Mo_item_at_k2_4, List.forall_mem_cons.mpr ⟨oo_Mo_item_at_k2_5, List.forall_mem_cons.mpr ⟨oo_Mo_item_at_k2_6, List.forall_mem_cons.mpr ⟨oo_Mo_item_at_k2_7, List.forall_mem_cons.mpr ⟨oo_Mo_item_at_k2_8, List.forall_mem_cons.mpr ⟨oo_Mo_item_at_k2_9, List.forall_mem_cons.mpr ⟨oo_Mo_item_at_k2_10, List.forall_mem_cons.mpr ⟨oo_Mo_item_at_k2_11, List.forall_mem_cons.mpr ⟨oo_Mo_item_at_k2_12, List.forall_mem_cons.mpr ⟨oo_Mo_item_at_k2_13, List.forall_mem_nil _⟩⟩⟩⟩⟩⟩⟩⟩⟩⟩⟩⟩⟩⟩) (by decide +kernel) ⟨List.forall_mem_cons.mpr ⟨gf_Mo_16, List.forall_mem_cons.mpr ⟨gf_Mo_391, List.forall_mem_cons.mpr ⟨gf_Mo_413, List.forall_mem_nil _⟩⟩⟩, List.forall_mem_nil _, List.forall_mem_cons.mpr ⟨cl_virtual (y := y_Mo_next) (ci := 13) rfl rfl ⟨_, _, rfl⟩ (by decide +kernel) h_Mo_next wm_2982 wm_9 wm_2979 wm_2981 wv_12_11 ⟨by decide, by decide, by decide +kernel⟩ (by decide), List.forall_mem_cons.mpr ⟨cl_virtual (y := y_Mo_need) (ci := 13) rfl rfl ⟨_, _, rfl⟩ (by decide +kernel) h_Mo_need wm_3062 wm_9 wm_3059 wm_3061 wv_13_12 ⟨by decide, by decide, by decide +kernel⟩ (by decide), List.forall_mem_cons.mpr ⟨cl_virtual (y := y_Mo_met) (ci := 13) rfl rfl ⟨_, _, rfl⟩ (by decide +kernel) h_Mo_met wm_3008 wm_9 wm_3005 wm_3007 wv_12_15 ⟨by decide, by decide, by decide +kernel⟩ (by decide), List.forall_mem_cons.mpr ⟨cl_virtual (y := y_Mo_edgeItem) (ci := 13) rfl rfl ⟨_, _, rfl⟩ (by decide +kernel) h_Mo_edgeItem wm_3074 wm_9 wm_3071 wm_3073 wv_13_15 ⟨by decide, by decide, by decide +kernel⟩ (by decide), List.forall_mem_cons.mpr ⟨cl_virtual (y := y_Mo_isWord_at_s5000) (ci := 13) rfl rfl ⟨_, _, rfl⟩ (by decide +kernel) h_Mo_isWord_at_s5000 wm_3002 wm_9 wm_2999 wm_3001 wv_12_14 ⟨by decide, by decide, by decide +kernel⟩ (by decide), List.forall_mem_cons.mpr ⟨cl_virtual (y := y_Mo_of_at_s5002) (ci := 13) rfl rfl ⟨_, _, rfl⟩ (by decide +kernel) h_Mo_of_at_s5002 wm_3054 wm_9 wm_3051 wm_3053 wv_13_10 ⟨by decide, by decide, by decide +kernel⟩ (by decide), List.forall_mem_cons.mpr ⟨cl_virtual (y := y_Mo_isWord_at_s5001) (ci := 13) rfl rfl ⟨_, _, rfl⟩ (by decide +kernel) h_Mo_isWord_at_s5001 wm_3002 wm_9 wm_2999 wm_3001 wv_12_14 ⟨by decide, by decide, by decide +kernel⟩ (by decide), List.forall_mem_cons.mpr ⟨cl_virtual (y := y_Mo_groupItem_at_k2) (ci := 13) rfl rfl ⟨_, _, rfl⟩ (by decide +kernel) h_Mo_groupItem_at_k2 wm_3066 wm_9 wm_3063 wm_3065 wv_13_13 ⟨by decide, by decide, by decide +kernel⟩ (by decide), List.forall_mem_cons.mpr ⟨cl_ldcw (own := "DrawingHouseModel") (idx := 467) (i := 0) (tx := "node") (by decide +kernel) (by decide +kernel) (by decide +kernel), List.forall_mem_cons.mpr ⟨cl_ldcw (own := "DrawingHouseModel") (idx := 473) (i := 1) (tx := "group") (by decide +kernel) (by decide +kernel) (by decide +kernel), List.forall_mem_cons.mpr ⟨cl_ldcw (own := "DrawingHouseModel") (idx := 497) (i := 2) (tx := "size") (by decide +kernel) (by decide +kernel) (by decide +kernel), List.forall_mem_nil _⟩⟩⟩⟩⟩⟩⟩⟩⟩⟩⟩, List.forall_mem_nil _, List.forall_mem_nil _, GG_pl⟩ (by decide +kernel)

set_option maxHeartbeats 4000000 in
theorem vc_Mo_item_at_k3_0_0 (x3 : Int) (r_0 : Int) (gx : Int) (k3 : 0 ≤ x3 ∧ x3 ≤ 2000) (ex2 : gx = x3) : 1 * gx + ((-1) * x3 + 0) ≤ 0 := by
  first
    | omega
    | (have q1 := (hE_0_2_1 (r_0 + 2) (by omega)).2 (by omega)
       have q2 := (hE_0_2_2 (r_0 + 2) (by omega)).2 (by omega)
       omega)
    | (have q1 := (hE_0_2_1 (r_0 + 1) (by omega)).2 (by omega)
       have q2 := (hE_0_2_2 (r_0 + 1) (by omega)).2 (by omega)
       omega)
    | (have q1 := (hE_0_2_1 (r_0 + 2) (by omega)).2 (by omega)
       omega)
    | (have q1 := (hE_0_2_1 (r_0 + 1) (by omega)).2 (by omega)
       omega)
    | (have q1 := (hE_0_2_1 (r_0 + 2) (by omega)).2 (by omega)
       have q2 := (hE_0_2_2 (r_0 + 2) (by omega)).2 (by omega)
       have q3 := (hE_0_2_3 (r_0 + 2) (by omega)).1 (by omega)
       omega)
    | (have q1 := (hE_0_2_1 (r_0 + 2) (by omega)).2 (by omega)
       have q2 := (hE_0_2_2 (r_0 + 2) (by omega)).2 (by omega)
       have q3 := (hE_0_2_3 (r_0 + 2) (by omega)).2 (by omega)
       omega)
set_option maxHeartbeats 4000000 in
theorem vc_Mo_item_at_k3_0_1 (x3 : Int) (r_0 : Int) (gx : Int) (k3 : 0 ≤ x3 ∧ x3 ≤ 2000) (ex2 : gx = x3) : (-1) * gx + (1 * x3 + 0) ≤ 0 := by
  first
    | omega
    | (have q1 := (hE_0_2_1 (r_0 + 2) (by omega)).2 (by omega)
       have q2 := (hE_0_2_2 (r_0 + 2) (by omega)).2 (by omega)
       omega)
    | (have q1 := (hE_0_2_1 (r_0 + 1) (by omega)).2 (by omega)
       have q2 := (hE_0_2_2 (r_0 + 1) (by omega)).2 (by omega)
       omega)
    | (have q1 := (hE_0_2_1 (r_0 + 2) (by omega)).2 (by omega)
       omega)
    | (have q1 := (hE_0_2_1 (r_0 + 1) (by omega)).2 (by omega)
       omega)
    | (have q1 := (hE_0_2_1 (r_0 + 2) (by omega)).2 (by omega)
       have q2 := (hE_0_2_2 (r_0 + 2) (by omega)).2 (by omega)
       have q3 := (hE_0_2_3 (r_0 + 2) (by omega)).1 (by omega)
       omega)
    | (have q1 := (hE_0_2_1 (r_0 + 2) (by omega)).2 (by omega)
       have q2 := (hE_0_2_2 (r_0 + 2) (by omega)).2 (by omega)
       have q3 := (hE_0_2_3 (r_0 + 2) (by omega)).2 (by omega)
       omega)
set_option maxHeartbeats 4000000 in
theorem vc_Mo_item_at_k3_0_2 (from_0 : Int) (pos_0 : Int) (r_0 : Int) (f1 : 1 * from_0 + ((-1) * pos_0 + 0) ≤ 0) (kz_0_11 : 0 ≤ pos_0 ∧ pos_0 ≤ 2000) (kz_0_15 : 0 ≤ from_0 ∧ from_0 ≤ 2000) : 1 * from_0 + ((-1) * pos_0 + 0) ≤ 0 := by
  first
    | omega
    | (have q1 := (hE_0_2_1 (r_0 + 2) (by omega)).2 (by omega)
       have q2 := (hE_0_2_2 (r_0 + 2) (by omega)).2 (by omega)
       omega)
    | (have q1 := (hE_0_2_1 (r_0 + 1) (by omega)).2 (by omega)
       have q2 := (hE_0_2_2 (r_0 + 1) (by omega)).2 (by omega)
       omega)
    | (have q1 := (hE_0_2_1 (r_0 + 2) (by omega)).2 (by omega)
       omega)
    | (have q1 := (hE_0_2_1 (r_0 + 1) (by omega)).2 (by omega)
       omega)
    | (have q1 := (hE_0_2_1 (r_0 + 2) (by omega)).2 (by omega)
       have q2 := (hE_0_2_2 (r_0 + 2) (by omega)).2 (by omega)
       have q3 := (hE_0_2_3 (r_0 + 2) (by omega)).1 (by omega)
       omega)
    | (have q1 := (hE_0_2_1 (r_0 + 2) (by omega)).2 (by omega)
       have q2 := (hE_0_2_2 (r_0 + 2) (by omega)).2 (by omega)
       have q3 := (hE_0_2_3 (r_0 + 2) (by omega)).2 (by omega)
       omega)
set_option maxHeartbeats 4000000 in
theorem vc_Mo_item_at_k3_0_3 (from_0 : Int) (pos_0 : Int) (kind_0 : Int) (r_0 : Int) (f2 : ((kind_0 = 1) → (pos_0 ≤ (from_0 + 8))) ∧ ((kind_0 = 0) ∨ ((from_0 + 1) ≤ pos_0))) (kz_0_11 : 0 ≤ pos_0 ∧ pos_0 ≤ 2000) (kz_0_12 : 0 ≤ kind_0 ∧ kind_0 ≤ 4) (kz_0_15 : 0 ≤ from_0 ∧ from_0 ≤ 2000) : ((kind_0 = 1) → (pos_0 ≤ (from_0 + 8))) ∧ ((kind_0 = 0) ∨ ((from_0 + 1) ≤ pos_0)) := by
  first
    | omega
    | (have q1 := (hE_0_2_1 (r_0 + 2) (by omega)).2 (by omega)
       have q2 := (hE_0_2_2 (r_0 + 2) (by omega)).2 (by omega)
       omega)
    | (have q1 := (hE_0_2_1 (r_0 + 1) (by omega)).2 (by omega)
       have q2 := (hE_0_2_2 (r_0 + 1) (by omega)).2 (by omega)
       omega)
    | (have q1 := (hE_0_2_1 (r_0 + 2) (by omega)).2 (by omega)
       omega)
    | (have q1 := (hE_0_2_1 (r_0 + 1) (by omega)).2 (by omega)
       omega)
    | (have q1 := (hE_0_2_1 (r_0 + 2) (by omega)).2 (by omega)
       have q2 := (hE_0_2_2 (r_0 + 2) (by omega)).2 (by omega)
       have q3 := (hE_0_2_3 (r_0 + 2) (by omega)).1 (by omega)
       omega)
    | (have q1 := (hE_0_2_1 (r_0 + 2) (by omega)).2 (by omega)
       have q2 := (hE_0_2_2 (r_0 + 2) (by omega)).2 (by omega)
       have q3 := (hE_0_2_3 (r_0 + 2) (by omega)).2 (by omega)
       omega)
set_option maxHeartbeats 4000000 in
theorem vc_Mo_item_at_k3_0_4 (x3 : Int) (pos_0 : Int) (r_0 : Int) (gx : Int) (k3 : 0 ≤ x3 ∧ x3 ≤ 2000) (f3 : 1 * x3 + ((-1) * pos_0 + 0) ≤ 0) (kz_0_11 : 0 ≤ pos_0 ∧ pos_0 ≤ 2000) (ex2 : gx = x3) : 1 * gx + ((-1) * pos_0 + 0) ≤ 0 := by
  first
    | omega
    | (have q1 := (hE_0_2_1 (r_0 + 2) (by omega)).2 (by omega)
       have q2 := (hE_0_2_2 (r_0 + 2) (by omega)).2 (by omega)
       omega)
    | (have q1 := (hE_0_2_1 (r_0 + 1) (by omega)).2 (by omega)
       have q2 := (hE_0_2_2 (r_0 + 1) (by omega)).2 (by omega)
       omega)
    | (have q1 := (hE_0_2_1 (r_0 + 2) (by omega)).2 (by omega)
       omega)
    | (have q1 := (hE_0_2_1 (r_0 + 1) (by omega)).2 (by omega)
       omega)
    | (have q1 := (hE_0_2_1 (r_0 + 2) (by omega)).2 (by omega)
       have q2 := (hE_0_2_2 (r_0 + 2) (by omega)).2 (by omega)
       have q3 := (hE_0_2_3 (r_0 + 2) (by omega)).1 (by omega)
       omega)
    | (have q1 := (hE_0_2_1 (r_0 + 2) (by omega)).2 (by omega)
       have q2 := (hE_0_2_2 (r_0 + 2) (by omega)).2 (by omega)
       have q3 := (hE_0_2_3 (r_0 + 2) (by omega)).2 (by omega)
       omega)
set_option maxHeartbeats 4000000 in
theorem vc_Mo_item_at_k3_0_5 (x1 : Int) (all_0 : Int → Int) (r_0 : Int) (k1 : 0 ≤ x1 ∧ x1 ≤ 7) (f4 : (x1 + 1) ≤ all_0 ((r_0 + 2))) : (x1 + 1) ≤ all_0 ((r_0 + 2)) := by
  first
    | omega
    | (have q1 := (hE_0_2_1 (r_0 + 2) (by omega)).2 (by omega)
       have q2 := (hE_0_2_2 (r_0 + 2) (by omega)).2 (by omega)
       omega)
    | (have q1 := (hE_0_2_1 (r_0 + 1) (by omega)).2 (by omega)
       have q2 := (hE_0_2_2 (r_0 + 1) (by omega)).2 (by omega)
       omega)
    | (have q1 := (hE_0_2_1 (r_0 + 2) (by omega)).2 (by omega)
       omega)
    | (have q1 := (hE_0_2_1 (r_0 + 1) (by omega)).2 (by omega)
       omega)
    | (have q1 := (hE_0_2_1 (r_0 + 2) (by omega)).2 (by omega)
       have q2 := (hE_0_2_2 (r_0 + 2) (by omega)).2 (by omega)
       have q3 := (hE_0_2_3 (r_0 + 2) (by omega)).1 (by omega)
       omega)
    | (have q1 := (hE_0_2_1 (r_0 + 2) (by omega)).2 (by omega)
       have q2 := (hE_0_2_2 (r_0 + 2) (by omega)).2 (by omega)
       have q3 := (hE_0_2_3 (r_0 + 2) (by omega)).2 (by omega)
       omega)
set_option maxHeartbeats 4000000 in
theorem vc_Mo_item_at_k3_0_6 (all_0 : Int → Int) (r_0 : Int) (now_0 : Int → Int) (latest_0 : Int → Int) (f5 : RWS (r_0) (all_0) (now_0) (latest_0)) : RWS (r_0) (all_0) (now_0) (latest_0) := by
  first
    | assumption
def o_Mo_item_at_k3_0 : or_T := (91, 8, [(0, (2, 0, 0, [165])), (1, (0, 0, 7, [])), (3, (0, 0, 2000, []))], [(20, [0, 0], [30, 0, 1, 1, 15, -1, 1, 11]), (20, [0], [50, 3, 0, 12, 11, 15, 2, 21, 4, 7, 1, 3, 2, 0, 12, 0, 1, 0, 3, 2, 0, 11, 4, 3, 2, 0, 15, 0, 8, 3, 7, 1, 3, 2, 0, 12, 0, 0, 0, 7, 4, 3, 2, 0, 15, 0, 1, 2, 0, 11]), (20, [3, 0], [30, 0, 1, 0, 0, -1, 1, 11]), (20, [1, 0], [50, 1, 1, 1005, 1002, 0, 6, 4, 2, 1, 0, 0, 1, 3, 1, 2, 4, 3, 2, 1, 5, 0, 2]), (20, [0], [60, 1, 3, 199, 5, 2, 3, 4])], [], [(0, 0, 2000, [])], [(23, [8, 3], [0, 1, -1]), (23, [8, 3], [0, -1, 1]), (20, [0, 0], [30, 0, 1, 1, 15, -1, 1, 11]), (20, [0], [50, 3, 0, 12, 11, 15, 2, 21, 4, 7, 1, 3, 2, 0, 12, 0, 1, 0, 3, 2, 0, 11, 4, 3, 2, 0, 15, 0, 8, 3, 7, 1, 3, 2, 0, 12, 0, 0, 0, 7, 4, 3, 2, 0, 15, 0, 1, 2, 0, 11]), (20, [8, 0], [30, 0, 1, 0, 0, -1, 1, 11]), (20, [1, 0], [50, 1, 1, 1005, 1002, 0, 6, 4, 2, 1, 0, 0, 1, 3, 1, 2, 4, 3, 2, 1, 5, 0, 2]), (20, [0], [60, 1, 3, 199, 5, 2, 3, 4])], [], [])
theorem oo_Mo_item_at_k3_0 {kA : Nat → ClassId} : or_ok PRD kA GG o_Mo_item_at_k3_0 := by
  refine or_mk fun A ta ws vs hD hth hl => ?_
  intro t0 r0 t1 k1 t3 k3 f1 f2 f3 f4 f5
  replace f1 := shm_1397 f1
  replace f2 := shm_1398 f2
  replace f3 := shm_1395 f3
  replace f4 := shm_981 f4
  replace f5 := shm_952 f5
  have kz_0_11 := fdq_273 hD hth r0
  have kz_0_12 := fdq_186 hD hth r0
  have kz_0_15 := fdq_274 hD hth r0
  obtain ⟨x, ex, hx⟩ := iv_ex (ta := ta) (lo := 0) (hi := 2000) (z := v_iv (n_v vs 3)) (by omega) (by omega) (by omega) (by omega)
  have ex2 : v_iv (Value.int x) = v_iv (n_v vs 3) := ex
  have ex3 : 0 ≤ v_iv (Value.int x) ∧ v_iv (Value.int x) ≤ 2000 := tv_rng hx
  have e_0 : n_v (vs ++ [Value.int x]) 0 = n_v vs 0 := n_v_old (by rw [hl]; decide)
  have e_1 : n_v (vs ++ [Value.int x]) 1 = n_v vs 1 := n_v_old (by rw [hl]; decide)
  have e_3 : n_v (vs ++ [Value.int x]) 3 = n_v vs 3 := n_v_old (by rw [hl]; decide)
  have e_8 : n_v (vs ++ [Value.int x]) 8 = Value.int x := n_v_new hl
  have nf0 : fc_1 PRD (23, [8, 3], [0, 1, -1]) ws (vs ++ [Value.int x]) := by
    refine ⟨nf_inA hl rfl, sgq_7 ?_⟩
    · show 1 * v_iv (n_v (vs ++ [Value.int x]) 8) + ((-1) * v_iv (n_v (vs ++ [Value.int x]) 3) + 0) ≤ 0
      simp only [e_3, e_8]
      exact vc_Mo_item_at_k3_0_0 (v_iv (n_v vs 3)) (w_fi ws (n_v vs 0) 5) (v_iv (Value.int x)) k3 ex2
  have nf1 : fc_1 PRD (23, [8, 3], [0, -1, 1]) ws (vs ++ [Value.int x]) := by
    refine ⟨nf_inA hl rfl, sgq_22 ?_⟩
    · show (-1) * v_iv (n_v (vs ++ [Value.int x]) 8) + (1 * v_iv (n_v (vs ++ [Value.int x]) 3) + 0) ≤ 0
      simp only [e_3, e_8]
      exact vc_Mo_item_at_k3_0_1 (v_iv (n_v vs 3)) (w_fi ws (n_v vs 0) 5) (v_iv (Value.int x)) k3 ex2
  have nf2 : fc_1 PRD (20, [0, 0], [30, 0, 1, 1, 15, -1, 1, 11]) ws (vs ++ [Value.int x]) := by
    refine ⟨nf_inA hl rfl, sgq_1397 ?_⟩
    · show 1 * w_fi ws (n_v (vs ++ [Value.int x]) 0) 15 + ((-1) * w_fi ws (n_v (vs ++ [Value.int x]) 0) 11 + 0) ≤ 0
      rw [e_0]
      exact vc_Mo_item_at_k3_0_2 (w_fi ws (n_v vs 0) 15) (w_fi ws (n_v vs 0) 11) (w_fi ws (n_v vs 0) 5) f1 kz_0_11 kz_0_15
  have nf3 : fc_1 PRD (20, [0], [50, 3, 0, 12, 11, 15, 2, 21, 4, 7, 1, 3, 2, 0, 12, 0, 1, 0, 3, 2, 0, 11, 4, 3, 2, 0, 15, 0, 8, 3, 7, 1, 3, 2, 0, 12, 0, 0, 0, 7, 4, 3, 2, 0, 15, 0, 1, 2, 0, 11]) ws (vs ++ [Value.int x]) := by
    refine ⟨nf_inA hl rfl, sgq_1398 ?_⟩
    · show ((w_fi ws (n_v (vs ++ [Value.int x]) 0) 12 = 1) → (w_fi ws (n_v (vs ++ [Value.int x]) 0) 11 ≤ (w_fi ws (n_v (vs ++ [Value.int x]) 0) 15 + 8))) ∧ ((w_fi ws (n_v (vs ++ [Value.int x]) 0) 12 = 0) ∨ ((w_fi ws (n_v (vs ++ [Value.int x]) 0) 15 + 1) ≤ w_fi ws (n_v (vs ++ [Value.int x]) 0) 11))
      rw [e_0]
      exact vc_Mo_item_at_k3_0_3 (w_fi ws (n_v vs 0) 15) (w_fi ws (n_v vs 0) 11) (w_fi ws (n_v vs 0) 12) (w_fi ws (n_v vs 0) 5) f2 kz_0_11 kz_0_12 kz_0_15
  have nf4 : fc_1 PRD (20, [8, 0], [30, 0, 1, 0, 0, -1, 1, 11]) ws (vs ++ [Value.int x]) := by
    refine ⟨nf_inA hl rfl, sgq_1395 ?_⟩
    · show 1 * v_iv (n_v (vs ++ [Value.int x]) 8) + ((-1) * w_fi ws (n_v (vs ++ [Value.int x]) 0) 11 + 0) ≤ 0
      simp only [e_0, e_8]
      exact vc_Mo_item_at_k3_0_4 (v_iv (n_v vs 3)) (w_fi ws (n_v vs 0) 11) (w_fi ws (n_v vs 0) 5) (v_iv (Value.int x)) k3 f3 kz_0_11 ex2
  have nf5 : fc_1 PRD (20, [1, 0], [50, 1, 1, 1005, 1002, 0, 6, 4, 2, 1, 0, 0, 1, 3, 1, 2, 4, 3, 2, 1, 5, 0, 2]) ws (vs ++ [Value.int x]) := by
    refine ⟨nf_inA hl rfl, sgq_981 ?_⟩
    · show (v_iv (n_v (vs ++ [Value.int x]) 1) + 1) ≤ w_ei ws (w_ar ws (n_v (vs ++ [Value.int x]) 0) 2) ((w_fi ws (n_v (vs ++ [Value.int x]) 0) 5 + 2))
      simp only [e_0, e_1]
      exact vc_Mo_item_at_k3_0_5 (v_iv (n_v vs 1)) (w_ei ws (w_ar ws (n_v vs 0) 2)) (w_fi ws (n_v vs 0) 5) k1 f4
  have nf6 : fc_1 PRD (20, [0], [60, 1, 3, 199, 5, 2, 3, 4]) ws (vs ++ [Value.int x]) := by
    refine ⟨nf_inA hl rfl, sgq_952 ?_⟩
    · show RWS (w_fi ws (n_v (vs ++ [Value.int x]) 0) 5) (w_ei ws (w_ar ws (n_v (vs ++ [Value.int x]) 0) 2)) (w_ei ws (w_ar ws (n_v (vs ++ [Value.int x]) 0) 3)) (w_ei ws (w_ar ws (n_v (vs ++ [Value.int x]) 0) 4))
      rw [e_0]
      exact vc_Mo_item_at_k3_0_6 (w_ei ws (w_ar ws (n_v vs 0) 2)) (w_fi ws (n_v vs 0) 5) (w_ei ws (w_ar ws (n_v vs 0) 3)) (w_ei ws (w_ar ws (n_v vs 0) 4)) f5
  exact ⟨(fun _ h => (by cases h)), [Value.int x], ag_one hx, List.forall_mem_cons.mpr ⟨⟨show (23 : Nat) < 100 from by decide, nf0⟩, List.forall_mem_cons.mpr ⟨⟨show (23 : Nat) < 100 from by decide, nf1⟩, List.forall_mem_cons.mpr ⟨⟨show (20 : Nat) < 100 from by decide, nf2⟩, List.forall_mem_cons.mpr ⟨⟨show (20 : Nat) < 100 from by decide, nf3⟩, List.forall_mem_cons.mpr ⟨⟨show (20 : Nat) < 100 from by decide, nf4⟩, List.forall_mem_cons.mpr ⟨⟨show (20 : Nat) < 100 from by decide, nf5⟩, List.forall_mem_cons.mpr ⟨⟨show (20 : Nat) < 100 from by decide, nf6⟩, (fun _ h => (by cases h))⟩⟩⟩⟩⟩⟩⟩, (fun _ h => (by cases h))⟩
set_option maxHeartbeats 4000000 in
theorem vc_Mo_item_at_k3_1_0 (x3 : Int) (x8 : Int) (pos_0 : Int) (r_0 : Int) (k3 : 0 ≤ x3 ∧ x3 ≤ 2000) (k8 : 0 ≤ x8 ∧ x8 ≤ 2000) (f0 : 1 * x8 + ((-1) * x3 + 0) ≤ 0) (f1 : (-1) * x8 + (1 * x3 + 0) ≤ 0) (f4 : 1 * x8 + ((-1) * pos_0 + 0) ≤ 0) (kz_0_11 : 0 ≤ pos_0 ∧ pos_0 ≤ 2000) : 1 * x3 + ((-1) * pos_0 + 0) ≤ 0 := by
  first
    | omega
    | (have q1 := (hE_0_2_1 (r_0 + 2) (by omega)).2 (by omega)
       have q2 := (hE_0_2_2 (r_0 + 2) (by omega)).2 (by omega)
       omega)
    | (have q1 := (hE_0_2_1 (r_0 + 1) (by omega)).2 (by omega)
       have q2 := (hE_0_2_2 (r_0 + 1) (by omega)).2 (by omega)
       omega)
    | (have q1 := (hE_0_2_1 (r_0 + 2) (by omega)).2 (by omega)
       omega)
    | (have q1 := (hE_0_2_1 (r_0 + 1) (by omega)).2 (by omega)
       omega)
    | (have q1 := (hE_0_2_1 (r_0 + 2) (by omega)).2 (by omega)
       have q2 := (hE_0_2_2 (r_0 + 2) (by omega)).2 (by omega)
       have q3 := (hE_0_2_3 (r_0 + 2) (by omega)).1 (by omega)
       omega)
    | (have q1 := (hE_0_2_1 (r_0 + 2) (by omega)).2 (by omega)
       have q2 := (hE_0_2_2 (r_0 + 2) (by omega)).2 (by omega)
       have q3 := (hE_0_2_3 (r_0 + 2) (by omega)).2 (by omega)
       omega)
set_option maxHeartbeats 4000000 in
theorem vc_Mo_item_at_k3_1_1 (x3 : Int) (x8 : Int) (pos_0 : Int) (fault_0 : Int) (r_0 : Int) (k3 : 0 ≤ x3 ∧ x3 ≤ 2000) (k8 : 0 ≤ x8 ∧ x8 ≤ 2000) (f0 : 1 * x8 + ((-1) * x3 + 0) ≤ 0) (f1 : (-1) * x8 + (1 * x3 + 0) ≤ 0) (f4 : 1 * x8 + ((-1) * pos_0 + 0) ≤ 0) (f5 : (1 ≤ fault_0) ∨ ((x8 + 1) ≤ pos_0)) (kz_0_8 : 0 ≤ fault_0 ∧ fault_0 ≤ 5) (kz_0_11 : 0 ≤ pos_0 ∧ pos_0 ≤ 2000) : (1 ≤ fault_0) ∨ ((x3 + 1) ≤ pos_0) := by
  first
    | omega
    | (have q1 := (hE_0_2_1 (r_0 + 2) (by omega)).2 (by omega)
       have q2 := (hE_0_2_2 (r_0 + 2) (by omega)).2 (by omega)
       omega)
    | (have q1 := (hE_0_2_1 (r_0 + 1) (by omega)).2 (by omega)
       have q2 := (hE_0_2_2 (r_0 + 1) (by omega)).2 (by omega)
       omega)
    | (have q1 := (hE_0_2_1 (r_0 + 2) (by omega)).2 (by omega)
       omega)
    | (have q1 := (hE_0_2_1 (r_0 + 1) (by omega)).2 (by omega)
       omega)
    | (have q1 := (hE_0_2_1 (r_0 + 2) (by omega)).2 (by omega)
       have q2 := (hE_0_2_2 (r_0 + 2) (by omega)).2 (by omega)
       have q3 := (hE_0_2_3 (r_0 + 2) (by omega)).1 (by omega)
       omega)
    | (have q1 := (hE_0_2_1 (r_0 + 2) (by omega)).2 (by omega)
       have q2 := (hE_0_2_2 (r_0 + 2) (by omega)).2 (by omega)
       have q3 := (hE_0_2_3 (r_0 + 2) (by omega)).2 (by omega)
       omega)
def o_Mo_item_at_k3_1 : or_T := (94, 9, [(0, (2, 0, 0, [165])), (3, (0, 0, 2000, [])), (8, (0, 0, 2000, []))], [(23, [8, 3], [0, 1, -1]), (23, [8, 3], [0, -1, 1]), (20, [8, 0], [30, 0, 1, 0, 0, -1, 1, 11]), (20, [0, 8], [50, 2, 0, 8, 11, 3, 7, 0, 2, 0, 1, 2, 0, 8, 0, 6, 4, 2, 1, 1, 0, 1, 2, 0, 11])], [], [], [(20, [3, 0], [30, 0, 1, 0, 0, -1, 1, 11]), (20, [0, 3], [50, 2, 0, 8, 11, 3, 7, 0, 2, 0, 1, 2, 0, 8, 0, 6, 4, 2, 1, 1, 0, 1, 2, 0, 11])], [], [])
theorem oo_Mo_item_at_k3_1 {kA : Nat → ClassId} : or_ok PRD kA GG o_Mo_item_at_k3_1 := by
  refine or_mk fun A ta ws vs hD hth hl => ?_
  intro t0 r0 t3 k3 t8 k8 f0 f1 f4 f5
  have kz_0_8 := fdq_14 hD hth r0
  have kz_0_11 := fdq_273 hD hth r0
  have nf0 : fc_1 PRD (20, [3, 0], [30, 0, 1, 0, 0, -1, 1, 11]) ws (vs) := ⟨nf_in hl rfl, sgq_1395 (vc_Mo_item_at_k3_1_0 (v_iv (n_v vs 3)) (v_iv (n_v vs 8)) (w_fi ws (n_v vs 0) 11) (w_fi ws (n_v vs 0) 5) k3 k8 (shm_7 f0) (shm_22 f1) (shm_1395 f4) kz_0_11)⟩
  have nf1 : fc_1 PRD (20, [0, 3], [50, 2, 0, 8, 11, 3, 7, 0, 2, 0, 1, 2, 0, 8, 0, 6, 4, 2, 1, 1, 0, 1, 2, 0, 11]) ws (vs) := ⟨nf_in hl rfl, sgq_1659 (vc_Mo_item_at_k3_1_1 (v_iv (n_v vs 3)) (v_iv (n_v vs 8)) (w_fi ws (n_v vs 0) 11) (w_fi ws (n_v vs 0) 8) (w_fi ws (n_v vs 0) 5) k3 k8 (shm_7 f0) (shm_22 f1) (shm_1395 f4) (shm_1659 f5) kz_0_8 kz_0_11)⟩
  refine ⟨(fun _ h => (by cases h)), [], trivial, ?_, (fun _ h => (by cases h))⟩
  rw [List.append_nil]
  exact List.forall_mem_cons.mpr ⟨⟨show (20 : Nat) < 100 from by decide, nf0⟩, List.forall_mem_cons.mpr ⟨⟨show (20 : Nat) < 100 from by decide, nf1⟩, (fun _ h => (by cases h))⟩⟩
set_option maxHeartbeats 4000000 in
theorem vc_Mo_item_at_k3_2_0 (x3 : Int) (r_0 : Int) (gx : Int) (k3 : 0 ≤ x3 ∧ x3 ≤ 2000) (ex2 : gx = x3) : 1 * gx + ((-1) * x3 + 0) ≤ 0 := by
  first
    | omega
    | (have q1 := (hE_0_2_1 (r_0 + 2) (by omega)).2 (by omega)
       have q2 := (hE_0_2_2 (r_0 + 2) (by omega)).2 (by omega)
       omega)
    | (have q1 := (hE_0_2_1 (r_0 + 1) (by omega)).2 (by omega)
       have q2 := (hE_0_2_2 (r_0 + 1) (by omega)).2 (by omega)
       omega)
    | (have q1 := (hE_0_2_1 (r_0 + 2) (by omega)).2 (by omega)
       omega)
    | (have q1 := (hE_0_2_1 (r_0 + 1) (by omega)).2 (by omega)
       omega)
    | (have q1 := (hE_0_2_1 (r_0 + 2) (by omega)).2 (by omega)
       have q2 := (hE_0_2_2 (r_0 + 2) (by omega)).2 (by omega)
       have q3 := (hE_0_2_3 (r_0 + 2) (by omega)).1 (by omega)
       omega)
    | (have q1 := (hE_0_2_1 (r_0 + 2) (by omega)).2 (by omega)
       have q2 := (hE_0_2_2 (r_0 + 2) (by omega)).2 (by omega)
       have q3 := (hE_0_2_3 (r_0 + 2) (by omega)).2 (by omega)
       omega)
set_option maxHeartbeats 4000000 in
theorem vc_Mo_item_at_k3_2_1 (x3 : Int) (r_0 : Int) (gx : Int) (k3 : 0 ≤ x3 ∧ x3 ≤ 2000) (ex2 : gx = x3) : (-1) * gx + (1 * x3 + 0) ≤ 0 := by
  first
    | omega
    | (have q1 := (hE_0_2_1 (r_0 + 2) (by omega)).2 (by omega)
       have q2 := (hE_0_2_2 (r_0 + 2) (by omega)).2 (by omega)
       omega)
    | (have q1 := (hE_0_2_1 (r_0 + 1) (by omega)).2 (by omega)
       have q2 := (hE_0_2_2 (r_0 + 1) (by omega)).2 (by omega)
       omega)
    | (have q1 := (hE_0_2_1 (r_0 + 2) (by omega)).2 (by omega)
       omega)
    | (have q1 := (hE_0_2_1 (r_0 + 1) (by omega)).2 (by omega)
       omega)
    | (have q1 := (hE_0_2_1 (r_0 + 2) (by omega)).2 (by omega)
       have q2 := (hE_0_2_2 (r_0 + 2) (by omega)).2 (by omega)
       have q3 := (hE_0_2_3 (r_0 + 2) (by omega)).1 (by omega)
       omega)
    | (have q1 := (hE_0_2_1 (r_0 + 2) (by omega)).2 (by omega)
       have q2 := (hE_0_2_2 (r_0 + 2) (by omega)).2 (by omega)
       have q3 := (hE_0_2_3 (r_0 + 2) (by omega)).2 (by omega)
       omega)
set_option maxHeartbeats 4000000 in
theorem vc_Mo_item_at_k3_2_2 (from_0 : Int) (pos_0 : Int) (r_0 : Int) (f1 : 1 * from_0 + ((-1) * pos_0 + 0) ≤ 0) (kz_0_11 : 0 ≤ pos_0 ∧ pos_0 ≤ 2000) (kz_0_15 : 0 ≤ from_0 ∧ from_0 ≤ 2000) : 1 * from_0 + ((-1) * pos_0 + 0) ≤ 0 := by
  first
    | omega
    | (have q1 := (hE_0_2_1 (r_0 + 2) (by omega)).2 (by omega)
       have q2 := (hE_0_2_2 (r_0 + 2) (by omega)).2 (by omega)
       omega)
    | (have q1 := (hE_0_2_1 (r_0 + 1) (by omega)).2 (by omega)
       have q2 := (hE_0_2_2 (r_0 + 1) (by omega)).2 (by omega)
       omega)
    | (have q1 := (hE_0_2_1 (r_0 + 2) (by omega)).2 (by omega)
       omega)
    | (have q1 := (hE_0_2_1 (r_0 + 1) (by omega)).2 (by omega)
       omega)
    | (have q1 := (hE_0_2_1 (r_0 + 2) (by omega)).2 (by omega)
       have q2 := (hE_0_2_2 (r_0 + 2) (by omega)).2 (by omega)
       have q3 := (hE_0_2_3 (r_0 + 2) (by omega)).1 (by omega)
       omega)
    | (have q1 := (hE_0_2_1 (r_0 + 2) (by omega)).2 (by omega)
       have q2 := (hE_0_2_2 (r_0 + 2) (by omega)).2 (by omega)
       have q3 := (hE_0_2_3 (r_0 + 2) (by omega)).2 (by omega)
       omega)
set_option maxHeartbeats 4000000 in
theorem vc_Mo_item_at_k3_2_3 (from_0 : Int) (pos_0 : Int) (kind_0 : Int) (r_0 : Int) (f2 : ((kind_0 = 1) → (pos_0 ≤ (from_0 + 8))) ∧ ((kind_0 = 0) ∨ ((from_0 + 1) ≤ pos_0))) (kz_0_11 : 0 ≤ pos_0 ∧ pos_0 ≤ 2000) (kz_0_12 : 0 ≤ kind_0 ∧ kind_0 ≤ 4) (kz_0_15 : 0 ≤ from_0 ∧ from_0 ≤ 2000) : ((kind_0 = 1) → (pos_0 ≤ (from_0 + 8))) ∧ ((kind_0 = 0) ∨ ((from_0 + 1) ≤ pos_0)) := by
  first
    | omega
    | (have q1 := (hE_0_2_1 (r_0 + 2) (by omega)).2 (by omega)
       have q2 := (hE_0_2_2 (r_0 + 2) (by omega)).2 (by omega)
       omega)
    | (have q1 := (hE_0_2_1 (r_0 + 1) (by omega)).2 (by omega)
       have q2 := (hE_0_2_2 (r_0 + 1) (by omega)).2 (by omega)
       omega)
    | (have q1 := (hE_0_2_1 (r_0 + 2) (by omega)).2 (by omega)
       omega)
    | (have q1 := (hE_0_2_1 (r_0 + 1) (by omega)).2 (by omega)
       omega)
    | (have q1 := (hE_0_2_1 (r_0 + 2) (by omega)).2 (by omega)
       have q2 := (hE_0_2_2 (r_0 + 2) (by omega)).2 (by omega)
       have q3 := (hE_0_2_3 (r_0 + 2) (by omega)).1 (by omega)
       omega)
    | (have q1 := (hE_0_2_1 (r_0 + 2) (by omega)).2 (by omega)
       have q2 := (hE_0_2_2 (r_0 + 2) (by omega)).2 (by omega)
       have q3 := (hE_0_2_3 (r_0 + 2) (by omega)).2 (by omega)
       omega)
set_option maxHeartbeats 4000000 in
theorem vc_Mo_item_at_k3_2_4 (x3 : Int) (pos_0 : Int) (r_0 : Int) (gx : Int) (k3 : 0 ≤ x3 ∧ x3 ≤ 2000) (f3 : 1 * x3 + ((-1) * pos_0 + 0) ≤ 0) (kz_0_11 : 0 ≤ pos_0 ∧ pos_0 ≤ 2000) (ex2 : gx = x3) : 1 * gx + ((-1) * pos_0 + 0) ≤ 0 := by
  first
    | omega
    | (have q1 := (hE_0_2_1 (r_0 + 2) (by omega)).2 (by omega)
       have q2 := (hE_0_2_2 (r_0 + 2) (by omega)).2 (by omega)
       omega)
    | (have q1 := (hE_0_2_1 (r_0 + 1) (by omega)).2 (by omega)
       have q2 := (hE_0_2_2 (r_0 + 1) (by omega)).2 (by omega)
       omega)
    | (have q1 := (hE_0_2_1 (r_0 + 2) (by omega)).2 (by omega)
       omega)
    | (have q1 := (hE_0_2_1 (r_0 + 1) (by omega)).2 (by omega)
       omega)
    | (have q1 := (hE_0_2_1 (r_0 + 2) (by omega)).2 (by omega)
       have q2 := (hE_0_2_2 (r_0 + 2) (by omega)).2 (by omega)
       have q3 := (hE_0_2_3 (r_0 + 2) (by omega)).1 (by omega)
       omega)
    | (have q1 := (hE_0_2_1 (r_0 + 2) (by omega)).2 (by omega)
       have q2 := (hE_0_2_2 (r_0 + 2) (by omega)).2 (by omega)
       have q3 := (hE_0_2_3 (r_0 + 2) (by omega)).2 (by omega)
       omega)
set_option maxHeartbeats 4000000 in
theorem vc_Mo_item_at_k3_2_5 (x1 : Int) (all_0 : Int → Int) (r_0 : Int) (k1 : 0 ≤ x1 ∧ x1 ≤ 7) (f4 : (x1 + 1) ≤ all_0 ((r_0 + 2))) : (x1 + 1) ≤ all_0 ((r_0 + 2)) := by
  first
    | omega
    | (have q1 := (hE_0_2_1 (r_0 + 2) (by omega)).2 (by omega)
       have q2 := (hE_0_2_2 (r_0 + 2) (by omega)).2 (by omega)
       omega)
    | (have q1 := (hE_0_2_1 (r_0 + 1) (by omega)).2 (by omega)
       have q2 := (hE_0_2_2 (r_0 + 1) (by omega)).2 (by omega)
       omega)
    | (have q1 := (hE_0_2_1 (r_0 + 2) (by omega)).2 (by omega)
       omega)
    | (have q1 := (hE_0_2_1 (r_0 + 1) (by omega)).2 (by omega)
       omega)
    | (have q1 := (hE_0_2_1 (r_0 + 2) (by omega)).2 (by omega)
       have q2 := (hE_0_2_2 (r_0 + 2) (by omega)).2 (by omega)
       have q3 := (hE_0_2_3 (r_0 + 2) (by omega)).1 (by omega)
       omega)
    | (have q1 := (hE_0_2_1 (r_0 + 2) (by omega)).2 (by omega)
       have q2 := (hE_0_2_2 (r_0 + 2) (by omega)).2 (by omega)
       have q3 := (hE_0_2_3 (r_0 + 2) (by omega)).2 (by omega)
       omega)
set_option maxHeartbeats 4000000 in
theorem vc_Mo_item_at_k3_2_6 (all_0 : Int → Int) (r_0 : Int) (now_0 : Int → Int) (latest_0 : Int → Int) (f5 : RWS (r_0) (all_0) (now_0) (latest_0)) : RWS (r_0) (all_0) (now_0) (latest_0) := by
  first
    | assumption
def o_Mo_item_at_k3_2 : or_T := (83, 8, [(0, (2, 0, 0, [165])), (1, (0, 0, 7, [])), (3, (0, 0, 2000, []))], [(20, [0, 0], [30, 0, 1, 1, 15, -1, 1, 11]), (20, [0], [50, 3, 0, 12, 11, 15, 2, 21, 4, 7, 1, 3, 2, 0, 12, 0, 1, 0, 3, 2, 0, 11, 4, 3, 2, 0, 15, 0, 8, 3, 7, 1, 3, 2, 0, 12, 0, 0, 0, 7, 4, 3, 2, 0, 15, 0, 1, 2, 0, 11]), (20, [3, 0], [30, 0, 1, 0, 0, -1, 1, 11]), (20, [1, 0], [50, 1, 1, 1005, 1002, 0, 6, 4, 2, 1, 0, 0, 1, 3, 1, 2, 4, 3, 2, 1, 5, 0, 2]), (20, [0], [60, 1, 3, 199, 5, 2, 3, 4])], [], [(0, 0, 2000, [])], [(23, [8, 3], [0, 1, -1]), (23, [8, 3], [0, -1, 1]), (20, [0, 0], [30, 0, 1, 1, 15, -1, 1, 11]), (20, [0], [50, 3, 0, 12, 11, 15, 2, 21, 4, 7, 1, 3, 2, 0, 12, 0, 1, 0, 3, 2, 0, 11, 4, 3, 2, 0, 15, 0, 8, 3, 7, 1, 3, 2, 0, 12, 0, 0, 0, 7, 4, 3, 2, 0, 15, 0, 1, 2, 0, 11]), (20, [8, 0], [30, 0, 1, 0, 0, -1, 1, 11]), (20, [1, 0], [50, 1, 1, 1005, 1002, 0, 6, 4, 2, 1, 0, 0, 1, 3, 1, 2, 4, 3, 2, 1, 5, 0, 2]), (20, [0], [60, 1, 3, 199, 5, 2, 3, 4])], [], [])
theorem oo_Mo_item_at_k3_2 {kA : Nat → ClassId} : or_ok PRD kA GG o_Mo_item_at_k3_2 := by
  refine or_mk fun A ta ws vs hD hth hl => ?_
  intro t0 r0 t1 k1 t3 k3 f1 f2 f3 f4 f5
  replace f1 := shm_1397 f1
  replace f2 := shm_1398 f2
  replace f3 := shm_1395 f3
  replace f4 := shm_981 f4
  replace f5 := shm_952 f5
  have kz_0_11 := fdq_273 hD hth r0
  have kz_0_12 := fdq_186 hD hth r0
  have kz_0_15 := fdq_274 hD hth r0
  obtain ⟨x, ex, hx⟩ := iv_ex (ta := ta) (lo := 0) (hi := 2000) (z := v_iv (n_v vs 3)) (by omega) (by omega) (by omega) (by omega)
  have ex2 : v_iv (Value.int x) = v_iv (n_v vs 3) := ex
  have ex3 : 0 ≤ v_iv (Value.int x) ∧ v_iv (Value.int x) ≤ 2000 := tv_rng hx
  have e_0 : n_v (vs ++ [Value.int x]) 0 = n_v vs 0 := n_v_old (by rw [hl]; decide)
  have e_1 : n_v (vs ++ [Value.int x]) 1 = n_v vs 1 := n_v_old (by rw [hl]; decide)
  have e_3 : n_v (vs ++ [Value.int x]) 3 = n_v vs 3 := n_v_old (by rw [hl]; decide)
  have e_8 : n_v (vs ++ [Value.int x]) 8 = Value.int x := n_v_new hl
  have nf0 : fc_1 PRD (23, [8, 3], [0, 1, -1]) ws (vs ++ [Value.int x]) := by
    refine ⟨nf_inA hl rfl, sgq_7 ?_⟩
    · show 1 * v_iv (n_v (vs ++ [Value.int x]) 8) + ((-1) * v_iv (n_v (vs ++ [Value.int x]) 3) + 0) ≤ 0
      simp only [e_3, e_8]
      exact vc_Mo_item_at_k3_2_0 (v_iv (n_v vs 3)) (w_fi ws (n_v vs 0) 5) (v_iv (Value.int x)) k3 ex2
  have nf1 : fc_1 PRD (23, [8, 3], [0, -1, 1]) ws (vs ++ [Value.int x]) := by
    refine ⟨nf_inA hl rfl, sgq_22 ?_⟩
    · show (-1) * v_iv (n_v (vs ++ [Value.int x]) 8) + (1 * v_iv (n_v (vs ++ [Value.int x]) 3) + 0) ≤ 0
      simp only [e_3, e_8]
      exact vc_Mo_item_at_k3_2_1 (v_iv (n_v vs 3)) (w_fi ws (n_v vs 0) 5) (v_iv (Value.int x)) k3 ex2
  have nf2 : fc_1 PRD (20, [0, 0], [30, 0, 1, 1, 15, -1, 1, 11]) ws (vs ++ [Value.int x]) := by
    refine ⟨nf_inA hl rfl, sgq_1397 ?_⟩
    · show 1 * w_fi ws (n_v (vs ++ [Value.int x]) 0) 15 + ((-1) * w_fi ws (n_v (vs ++ [Value.int x]) 0) 11 + 0) ≤ 0
      rw [e_0]
      exact vc_Mo_item_at_k3_2_2 (w_fi ws (n_v vs 0) 15) (w_fi ws (n_v vs 0) 11) (w_fi ws (n_v vs 0) 5) f1 kz_0_11 kz_0_15
  have nf3 : fc_1 PRD (20, [0], [50, 3, 0, 12, 11, 15, 2, 21, 4, 7, 1, 3, 2, 0, 12, 0, 1, 0, 3, 2, 0, 11, 4, 3, 2, 0, 15, 0, 8, 3, 7, 1, 3, 2, 0, 12, 0, 0, 0, 7, 4, 3, 2, 0, 15, 0, 1, 2, 0, 11]) ws (vs ++ [Value.int x]) := by
    refine ⟨nf_inA hl rfl, sgq_1398 ?_⟩
    · show ((w_fi ws (n_v (vs ++ [Value.int x]) 0) 12 = 1) → (w_fi ws (n_v (vs ++ [Value.int x]) 0) 11 ≤ (w_fi ws (n_v (vs ++ [Value.int x]) 0) 15 + 8))) ∧ ((w_fi ws (n_v (vs ++ [Value.int x]) 0) 12 = 0) ∨ ((w_fi ws (n_v (vs ++ [Value.int x]) 0) 15 + 1) ≤ w_fi ws (n_v (vs ++ [Value.int x]) 0) 11))
      rw [e_0]
      exact vc_Mo_item_at_k3_2_3 (w_fi ws (n_v vs 0) 15) (w_fi ws (n_v vs 0) 11) (w_fi ws (n_v vs 0) 12) (w_fi ws (n_v vs 0) 5) f2 kz_0_11 kz_0_12 kz_0_15
  have nf4 : fc_1 PRD (20, [8, 0], [30, 0, 1, 0, 0, -1, 1, 11]) ws (vs ++ [Value.int x]) := by
    refine ⟨nf_inA hl rfl, sgq_1395 ?_⟩
    · show 1 * v_iv (n_v (vs ++ [Value.int x]) 8) + ((-1) * w_fi ws (n_v (vs ++ [Value.int x]) 0) 11 + 0) ≤ 0
      simp only [e_0, e_8]
      exact vc_Mo_item_at_k3_2_4 (v_iv (n_v vs 3)) (w_fi ws (n_v vs 0) 11) (w_fi ws (n_v vs 0) 5) (v_iv (Value.int x)) k3 f3 kz_0_11 ex2
  have nf5 : fc_1 PRD (20, [1, 0], [50, 1, 1, 1005, 1002, 0, 6, 4, 2, 1, 0, 0, 1, 3, 1, 2, 4, 3, 2, 1, 5, 0, 2]) ws (vs ++ [Value.int x]) := by
    refine ⟨nf_inA hl rfl, sgq_981 ?_⟩
    · show (v_iv (n_v (vs ++ [Value.int x]) 1) + 1) ≤ w_ei ws (w_ar ws (n_v (vs ++ [Value.int x]) 0) 2) ((w_fi ws (n_v (vs ++ [Value.int x]) 0) 5 + 2))
      simp only [e_0, e_1]
      exact vc_Mo_item_at_k3_2_5 (v_iv (n_v vs 1)) (w_ei ws (w_ar ws (n_v vs 0) 2)) (w_fi ws (n_v vs 0) 5) k1 f4
  have nf6 : fc_1 PRD (20, [0], [60, 1, 3, 199, 5, 2, 3, 4]) ws (vs ++ [Value.int x]) := by
    refine ⟨nf_inA hl rfl, sgq_952 ?_⟩
    · show RWS (w_fi ws (n_v (vs ++ [Value.int x]) 0) 5) (w_ei ws (w_ar ws (n_v (vs ++ [Value.int x]) 0) 2)) (w_ei ws (w_ar ws (n_v (vs ++ [Value.int x]) 0) 3)) (w_ei ws (w_ar ws (n_v (vs ++ [Value.int x]) 0) 4))
      rw [e_0]
      exact vc_Mo_item_at_k3_2_6 (w_ei ws (w_ar ws (n_v vs 0) 2)) (w_fi ws (n_v vs 0) 5) (w_ei ws (w_ar ws (n_v vs 0) 3)) (w_ei ws (w_ar ws (n_v vs 0) 4)) f5
  exact ⟨(fun _ h => (by cases h)), [Value.int x], ag_one hx, List.forall_mem_cons.mpr ⟨⟨show (23 : Nat) < 100 from by decide, nf0⟩, List.forall_mem_cons.mpr ⟨⟨show (23 : Nat) < 100 from by decide, nf1⟩, List.forall_mem_cons.mpr ⟨⟨show (20 : Nat) < 100 from by decide, nf2⟩, List.forall_mem_cons.mpr ⟨⟨show (20 : Nat) < 100 from by decide, nf3⟩, List.forall_mem_cons.mpr ⟨⟨show (20 : Nat) < 100 from by decide, nf4⟩, List.forall_mem_cons.mpr ⟨⟨show (20 : Nat) < 100 from by decide, nf5⟩, List.forall_mem_cons.mpr ⟨⟨show (20 : Nat) < 100 from by decide, nf6⟩, (fun _ h => (by cases h))⟩⟩⟩⟩⟩⟩⟩, (fun _ h => (by cases h))⟩
set_option maxHeartbeats 4000000 in
theorem vc_Mo_item_at_k3_3_0 (x3 : Int) (r_0 : Int) (gx : Int) (k3 : 0 ≤ x3 ∧ x3 ≤ 2000) (ex2 : gx = x3) : 1 * gx + ((-1) * x3 + 0) ≤ 0 := by
  first
    | omega
    | (have q1 := (hE_0_2_1 (r_0 + 2) (by omega)).2 (by omega)
       have q2 := (hE_0_2_2 (r_0 + 2) (by omega)).2 (by omega)
       omega)
    | (have q1 := (hE_0_2_1 (r_0 + 1) (by omega)).2 (by omega)
       have q2 := (hE_0_2_2 (r_0 + 1) (by omega)).2 (by omega)
       omega)
    | (have q1 := (hE_0_2_1 (r_0 + 2) (by omega)).2 (by omega)
       omega)
    | (have q1 := (hE_0_2_1 (r_0 + 1) (by omega)).2 (by omega)
       omega)
    | (have q1 := (hE_0_2_1 (r_0 + 2) (by omega)).2 (by omega)
       have q2 := (hE_0_2_2 (r_0 + 2) (by omega)).2 (by omega)
       have q3 := (hE_0_2_3 (r_0 + 2) (by omega)).1 (by omega)
       omega)
    | (have q1 := (hE_0_2_1 (r_0 + 2) (by omega)).2 (by omega)
       have q2 := (hE_0_2_2 (r_0 + 2) (by omega)).2 (by omega)
       have q3 := (hE_0_2_3 (r_0 + 2) (by omega)).2 (by omega)
       omega)
set_option maxHeartbeats 4000000 in
theorem vc_Mo_item_at_k3_3_1 (x3 : Int) (r_0 : Int) (gx : Int) (k3 : 0 ≤ x3 ∧ x3 ≤ 2000) (ex2 : gx = x3) : (-1) * gx + (1 * x3 + 0) ≤ 0 := by
  first
    | omega
    | (have q1 := (hE_0_2_1 (r_0 + 2) (by omega)).2 (by omega)
       have q2 := (hE_0_2_2 (r_0 + 2) (by omega)).2 (by omega)
       omega)
    | (have q1 := (hE_0_2_1 (r_0 + 1) (by omega)).2 (by omega)
       have q2 := (hE_0_2_2 (r_0 + 1) (by omega)).2 (by omega)
       omega)
    | (have q1 := (hE_0_2_1 (r_0 + 2) (by omega)).2 (by omega)
       omega)
    | (have q1 := (hE_0_2_1 (r_0 + 1) (by omega)).2 (by omega)
       omega)
    | (have q1 := (hE_0_2_1 (r_0 + 2) (by omega)).2 (by omega)
       have q2 := (hE_0_2_2 (r_0 + 2) (by omega)).2 (by omega)
       have q3 := (hE_0_2_3 (r_0 + 2) (by omega)).1 (by omega)
       omega)
    | (have q1 := (hE_0_2_1 (r_0 + 2) (by omega)).2 (by omega)
       have q2 := (hE_0_2_2 (r_0 + 2) (by omega)).2 (by omega)
       have q3 := (hE_0_2_3 (r_0 + 2) (by omega)).2 (by omega)
       omega)
set_option maxHeartbeats 4000000 in
theorem vc_Mo_item_at_k3_3_2 (x3 : Int) (pos_0 : Int) (r_0 : Int) (gx : Int) (k3 : 0 ≤ x3 ∧ x3 ≤ 2000) (f3 : 1 * x3 + ((-1) * pos_0 + 0) ≤ 0) (kz_0_11 : 0 ≤ pos_0 ∧ pos_0 ≤ 2000) (ex2 : gx = x3) : 1 * gx + ((-1) * pos_0 + 0) ≤ 0 := by
  first
    | omega
    | (have q1 := (hE_0_2_1 (r_0 + 2) (by omega)).2 (by omega)
       have q2 := (hE_0_2_2 (r_0 + 2) (by omega)).2 (by omega)
       omega)
    | (have q1 := (hE_0_2_1 (r_0 + 1) (by omega)).2 (by omega)
       have q2 := (hE_0_2_2 (r_0 + 1) (by omega)).2 (by omega)
       omega)
    | (have q1 := (hE_0_2_1 (r_0 + 2) (by omega)).2 (by omega)
       omega)
    | (have q1 := (hE_0_2_1 (r_0 + 1) (by omega)).2 (by omega)
       omega)
    | (have q1 := (hE_0_2_1 (r_0 + 2) (by omega)).2 (by omega)
       have q2 := (hE_0_2_2 (r_0 + 2) (by omega)).2 (by omega)
       have q3 := (hE_0_2_3 (r_0 + 2) (by omega)).1 (by omega)
       omega)
    | (have q1 := (hE_0_2_1 (r_0 + 2) (by omega)).2 (by omega)
       have q2 := (hE_0_2_2 (r_0 + 2) (by omega)).2 (by omega)
       have q3 := (hE_0_2_3 (r_0 + 2) (by omega)).2 (by omega)
       omega)
def o_Mo_item_at_k3_3 : or_T := (11, 6, [(0, (2, 0, 0, [165])), (3, (0, 0, 2000, []))], [(20, [3, 0], [30, 0, 1, 0, 0, -1, 1, 11])], [], [(0, 0, 2000, [])], [(23, [6, 3], [0, 1, -1]), (23, [6, 3], [0, -1, 1]), (20, [6, 0], [30, 0, 1, 0, 0, -1, 1, 11])], [], [])
theorem oo_Mo_item_at_k3_3 {kA : Nat → ClassId} : or_ok PRD kA GG o_Mo_item_at_k3_3 := by
  refine or_mk fun A ta ws vs hD hth hl => ?_
  intro t0 r0 t3 k3 f3
  replace f3 := shm_1395 f3
  have kz_0_11 := fdq_273 hD hth r0
  obtain ⟨x, ex, hx⟩ := iv_ex (ta := ta) (lo := 0) (hi := 2000) (z := v_iv (n_v vs 3)) (by omega) (by omega) (by omega) (by omega)
  have ex2 : v_iv (Value.int x) = v_iv (n_v vs 3) := ex
  have ex3 : 0 ≤ v_iv (Value.int x) ∧ v_iv (Value.int x) ≤ 2000 := tv_rng hx
  have e_0 : n_v (vs ++ [Value.int x]) 0 = n_v vs 0 := n_v_old (by rw [hl]; decide)
  have e_3 : n_v (vs ++ [Value.int x]) 3 = n_v vs 3 := n_v_old (by rw [hl]; decide)
  have e_6 : n_v (vs ++ [Value.int x]) 6 = Value.int x := n_v_new hl
  have nf0 : fc_1 PRD (23, [6, 3], [0, 1, -1]) ws (vs ++ [Value.int x]) := by
    refine ⟨nf_inA hl rfl, sgq_7 ?_⟩
    · show 1 * v_iv (n_v (vs ++ [Value.int x]) 6) + ((-1) * v_iv (n_v (vs ++ [Value.int x]) 3) + 0) ≤ 0
      simp only [e_3, e_6]
      exact vc_Mo_item_at_k3_3_0 (v_iv (n_v vs 3)) (w_fi ws (n_v vs 0) 5) (v_iv (Value.int x)) k3 ex2
  have nf1 : fc_1 PRD (23, [6, 3], [0, -1, 1]) ws (vs ++ [Value.int x]) := by
    refine ⟨nf_inA hl rfl, sgq_22 ?_⟩
    · show (-1) * v_iv (n_v (vs ++ [Value.int x]) 6) + (1 * v_iv (n_v (vs ++ [Value.int x]) 3) + 0) ≤ 0
      simp only [e_3, e_6]
      exact vc_Mo_item_at_k3_3_1 (v_iv (n_v vs 3)) (w_fi ws (n_v vs 0) 5) (v_iv (Value.int x)) k3 ex2
  have nf2 : fc_1 PRD (20, [6, 0], [30, 0, 1, 0, 0, -1, 1, 11]) ws (vs ++ [Value.int x]) := by
    refine ⟨nf_inA hl rfl, sgq_1395 ?_⟩
    · show 1 * v_iv (n_v (vs ++ [Value.int x]) 6) + ((-1) * w_fi ws (n_v (vs ++ [Value.int x]) 0) 11 + 0) ≤ 0
      simp only [e_0, e_6]
      exact vc_Mo_item_at_k3_3_2 (v_iv (n_v vs 3)) (w_fi ws (n_v vs 0) 11) (w_fi ws (n_v vs 0) 5) (v_iv (Value.int x)) k3 f3 kz_0_11 ex2
  exact ⟨(fun _ h => (by cases h)), [Value.int x], ag_one hx, List.forall_mem_cons.mpr ⟨⟨show (23 : Nat) < 100 from by decide, nf0⟩, List.forall_mem_cons.mpr ⟨⟨show (23 : Nat) < 100 from by decide, nf1⟩, List.forall_mem_cons.mpr ⟨⟨show (20 : Nat) < 100 from by decide, nf2⟩, (fun _ h => (by cases h))⟩⟩⟩, (fun _ h => (by cases h))⟩
set_option maxHeartbeats 4000000 in
theorem vc_Mo_item_at_k3_4_0 (x3 : Int) (x6 : Int) (r_0 : Int) (gx : Int) (k3 : 0 ≤ x3 ∧ x3 ≤ 2000) (k6 : 0 ≤ x6 ∧ x6 ≤ 2000) (f0 : 1 * x6 + ((-1) * x3 + 0) ≤ 0) (f1 : (-1) * x6 + (1 * x3 + 0) ≤ 0) (ex2 : gx = x3) : 1 * gx + ((-1) * x3 + 0) ≤ 0 := by
  first
    | omega
    | (have q1 := (hE_0_2_1 (r_0 + 2) (by omega)).2 (by omega)
       have q2 := (hE_0_2_2 (r_0 + 2) (by omega)).2 (by omega)
       omega)
    | (have q1 := (hE_0_2_1 (r_0 + 1) (by omega)).2 (by omega)
       have q2 := (hE_0_2_2 (r_0 + 1) (by omega)).2 (by omega)
       omega)
    | (have q1 := (hE_0_2_1 (r_0 + 2) (by omega)).2 (by omega)
       omega)
    | (have q1 := (hE_0_2_1 (r_0 + 1) (by omega)).2 (by omega)
       omega)
    | (have q1 := (hE_0_2_1 (r_0 + 2) (by omega)).2 (by omega)
       have q2 := (hE_0_2_2 (r_0 + 2) (by omega)).2 (by omega)
       have q3 := (hE_0_2_3 (r_0 + 2) (by omega)).1 (by omega)
       omega)
    | (have q1 := (hE_0_2_1 (r_0 + 2) (by omega)).2 (by omega)
       have q2 := (hE_0_2_2 (r_0 + 2) (by omega)).2 (by omega)
       have q3 := (hE_0_2_3 (r_0 + 2) (by omega)).2 (by omega)
       omega)
set_option maxHeartbeats 4000000 in
theorem vc_Mo_item_at_k3_4_1 (x3 : Int) (x6 : Int) (r_0 : Int) (gx : Int) (k3 : 0 ≤ x3 ∧ x3 ≤ 2000) (k6 : 0 ≤ x6 ∧ x6 ≤ 2000) (f0 : 1 * x6 + ((-1) * x3 + 0) ≤ 0) (f1 : (-1) * x6 + (1 * x3 + 0) ≤ 0) (ex2 : gx = x3) : (-1) * gx + (1 * x3 + 0) ≤ 0 := by
  first
    | omega
    | (have q1 := (hE_0_2_1 (r_0 + 2) (by omega)).2 (by omega)
       have q2 := (hE_0_2_2 (r_0 + 2) (by omega)).2 (by omega)
       omega)
    | (have q1 := (hE_0_2_1 (r_0 + 1) (by omega)).2 (by omega)
       have q2 := (hE_0_2_2 (r_0 + 1) (by omega)).2 (by omega)
       omega)
    | (have q1 := (hE_0_2_1 (r_0 + 2) (by omega)).2 (by omega)
       omega)
    | (have q1 := (hE_0_2_1 (r_0 + 1) (by omega)).2 (by omega)
       omega)
    | (have q1 := (hE_0_2_1 (r_0 + 2) (by omega)).2 (by omega)
       have q2 := (hE_0_2_2 (r_0 + 2) (by omega)).2 (by omega)
       have q3 := (hE_0_2_3 (r_0 + 2) (by omega)).1 (by omega)
       omega)
    | (have q1 := (hE_0_2_1 (r_0 + 2) (by omega)).2 (by omega)
       have q2 := (hE_0_2_2 (r_0 + 2) (by omega)).2 (by omega)
       have q3 := (hE_0_2_3 (r_0 + 2) (by omega)).2 (by omega)
       omega)
set_option maxHeartbeats 4000000 in
theorem vc_Mo_item_at_k3_4_2 (r_0 : Int) (from_0 : Int) (pos_0 : Int) (f4 : 1 * from_0 + ((-1) * pos_0 + 0) ≤ 0) (kz_0_11 : 0 ≤ pos_0 ∧ pos_0 ≤ 2000) (kz_0_15 : 0 ≤ from_0 ∧ from_0 ≤ 2000) : 1 * from_0 + ((-1) * pos_0 + 0) ≤ 0 := by
  first
    | omega
    | (have q1 := (hE_0_2_1 (r_0 + 2) (by omega)).2 (by omega)
       have q2 := (hE_0_2_2 (r_0 + 2) (by omega)).2 (by omega)
       omega)
    | (have q1 := (hE_0_2_1 (r_0 + 1) (by omega)).2 (by omega)
       have q2 := (hE_0_2_2 (r_0 + 1) (by omega)).2 (by omega)
       omega)
    | (have q1 := (hE_0_2_1 (r_0 + 2) (by omega)).2 (by omega)
       omega)
    | (have q1 := (hE_0_2_1 (r_0 + 1) (by omega)).2 (by omega)
       omega)
    | (have q1 := (hE_0_2_1 (r_0 + 2) (by omega)).2 (by omega)
       have q2 := (hE_0_2_2 (r_0 + 2) (by omega)).2 (by omega)
       have q3 := (hE_0_2_3 (r_0 + 2) (by omega)).1 (by omega)
       omega)
    | (have q1 := (hE_0_2_1 (r_0 + 2) (by omega)).2 (by omega)
       have q2 := (hE_0_2_2 (r_0 + 2) (by omega)).2 (by omega)
       have q3 := (hE_0_2_3 (r_0 + 2) (by omega)).2 (by omega)
       omega)
set_option maxHeartbeats 4000000 in
theorem vc_Mo_item_at_k3_4_3 (r_0 : Int) (from_0 : Int) (pos_0 : Int) (kind_0 : Int) (f5 : ((kind_0 = 1) → (pos_0 ≤ (from_0 + 8))) ∧ ((kind_0 = 0) ∨ ((from_0 + 1) ≤ pos_0))) (kz_0_11 : 0 ≤ pos_0 ∧ pos_0 ≤ 2000) (kz_0_12 : 0 ≤ kind_0 ∧ kind_0 ≤ 4) (kz_0_15 : 0 ≤ from_0 ∧ from_0 ≤ 2000) : ((kind_0 = 1) → (pos_0 ≤ (from_0 + 8))) ∧ ((kind_0 = 0) ∨ ((from_0 + 1) ≤ pos_0)) := by
  first
    | omega
    | (have q1 := (hE_0_2_1 (r_0 + 2) (by omega)).2 (by omega)
       have q2 := (hE_0_2_2 (r_0 + 2) (by omega)).2 (by omega)
       omega)
    | (have q1 := (hE_0_2_1 (r_0 + 1) (by omega)).2 (by omega)
       have q2 := (hE_0_2_2 (r_0 + 1) (by omega)).2 (by omega)
       omega)
    | (have q1 := (hE_0_2_1 (r_0 + 2) (by omega)).2 (by omega)
       omega)
    | (have q1 := (hE_0_2_1 (r_0 + 1) (by omega)).2 (by omega)
       omega)
    | (have q1 := (hE_0_2_1 (r_0 + 2) (by omega)).2 (by omega)
       have q2 := (hE_0_2_2 (r_0 + 2) (by omega)).2 (by omega)
       have q3 := (hE_0_2_3 (r_0 + 2) (by omega)).1 (by omega)
       omega)
    | (have q1 := (hE_0_2_1 (r_0 + 2) (by omega)).2 (by omega)
       have q2 := (hE_0_2_2 (r_0 + 2) (by omega)).2 (by omega)
       have q3 := (hE_0_2_3 (r_0 + 2) (by omega)).2 (by omega)
       omega)
set_option maxHeartbeats 4000000 in
theorem vc_Mo_item_at_k3_4_4 (x3 : Int) (x6 : Int) (r_0 : Int) (from_0 : Int) (pos_0 : Int) (gx : Int) (gy : Int) (k3 : 0 ≤ x3 ∧ x3 ≤ 2000) (k6 : 0 ≤ x6 ∧ x6 ≤ 2000) (f0 : 1 * x6 + ((-1) * x3 + 0) ≤ 0) (f1 : (-1) * x6 + (1 * x3 + 0) ≤ 0) (f4 : 1 * from_0 + ((-1) * pos_0 + 0) ≤ 0) (f6 : 1 * x6 + ((-1) * from_0 + 0) ≤ 0) (kz_0_11 : 0 ≤ pos_0 ∧ pos_0 ≤ 2000) (kz_0_15 : 0 ≤ from_0 ∧ from_0 ≤ 2000) (ex2 : gx = x3) (ey2 : gy = from_0) : 1 * gx + ((-1) * pos_0 + 0) ≤ 0 := by
  first
    | omega
    | (have q1 := (hE_0_2_1 (r_0 + 2) (by omega)).2 (by omega)
       have q2 := (hE_0_2_2 (r_0 + 2) (by omega)).2 (by omega)
       omega)
    | (have q1 := (hE_0_2_1 (r_0 + 1) (by omega)).2 (by omega)
       have q2 := (hE_0_2_2 (r_0 + 1) (by omega)).2 (by omega)
       omega)
    | (have q1 := (hE_0_2_1 (r_0 + 2) (by omega)).2 (by omega)
       omega)
    | (have q1 := (hE_0_2_1 (r_0 + 1) (by omega)).2 (by omega)
       omega)
    | (have q1 := (hE_0_2_1 (r_0 + 2) (by omega)).2 (by omega)
       have q2 := (hE_0_2_2 (r_0 + 2) (by omega)).2 (by omega)
       have q3 := (hE_0_2_3 (r_0 + 2) (by omega)).1 (by omega)
       omega)
    | (have q1 := (hE_0_2_1 (r_0 + 2) (by omega)).2 (by omega)
       have q2 := (hE_0_2_2 (r_0 + 2) (by omega)).2 (by omega)
       have q3 := (hE_0_2_3 (r_0 + 2) (by omega)).2 (by omega)
       omega)
set_option maxHeartbeats 4000000 in
theorem vc_Mo_item_at_k3_4_5 (r_0 : Int) (from_0 : Int) (pos_0 : Int) (kind_0 : Int) (gy : Int) (f4 : 1 * from_0 + ((-1) * pos_0 + 0) ≤ 0) (f5 : ((kind_0 = 1) → (pos_0 ≤ (from_0 + 8))) ∧ ((kind_0 = 0) ∨ ((from_0 + 1) ≤ pos_0))) (kz_0_11 : 0 ≤ pos_0 ∧ pos_0 ≤ 2000) (kz_0_12 : 0 ≤ kind_0 ∧ kind_0 ≤ 4) (kz_0_15 : 0 ≤ from_0 ∧ from_0 ≤ 2000) (ey2 : gy = from_0) : (kind_0 = 0) ∨ ((gy + 1) ≤ pos_0) := by
  first
    | omega
    | (have q1 := (hE_0_2_1 (r_0 + 2) (by omega)).2 (by omega)
       have q2 := (hE_0_2_2 (r_0 + 2) (by omega)).2 (by omega)
       omega)
    | (have q1 := (hE_0_2_1 (r_0 + 1) (by omega)).2 (by omega)
       have q2 := (hE_0_2_2 (r_0 + 1) (by omega)).2 (by omega)
       omega)
    | (have q1 := (hE_0_2_1 (r_0 + 2) (by omega)).2 (by omega)
       omega)
    | (have q1 := (hE_0_2_1 (r_0 + 1) (by omega)).2 (by omega)
       omega)
    | (have q1 := (hE_0_2_1 (r_0 + 2) (by omega)).2 (by omega)
       have q2 := (hE_0_2_2 (r_0 + 2) (by omega)).2 (by omega)
       have q3 := (hE_0_2_3 (r_0 + 2) (by omega)).1 (by omega)
       omega)
    | (have q1 := (hE_0_2_1 (r_0 + 2) (by omega)).2 (by omega)
       have q2 := (hE_0_2_2 (r_0 + 2) (by omega)).2 (by omega)
       have q3 := (hE_0_2_3 (r_0 + 2) (by omega)).2 (by omega)
       omega)
set_option maxHeartbeats 4000000 in
theorem vc_Mo_item_at_k3_4_6 (x1 : Int) (all_0 : Int → Int) (r_0 : Int) (k1 : 0 ≤ x1 ∧ x1 ≤ 7) (f2 : (x1 + 1) ≤ all_0 ((r_0 + 2))) : (x1 + 1) ≤ all_0 ((r_0 + 2)) := by
  first
    | omega
    | (have q1 := (hE_0_2_1 (r_0 + 2) (by omega)).2 (by omega)
       have q2 := (hE_0_2_2 (r_0 + 2) (by omega)).2 (by omega)
       omega)
    | (have q1 := (hE_0_2_1 (r_0 + 1) (by omega)).2 (by omega)
       have q2 := (hE_0_2_2 (r_0 + 1) (by omega)).2 (by omega)
       omega)
    | (have q1 := (hE_0_2_1 (r_0 + 2) (by omega)).2 (by omega)
       omega)
    | (have q1 := (hE_0_2_1 (r_0 + 1) (by omega)).2 (by omega)
       omega)
    | (have q1 := (hE_0_2_1 (r_0 + 2) (by omega)).2 (by omega)
       have q2 := (hE_0_2_2 (r_0 + 2) (by omega)).2 (by omega)
       have q3 := (hE_0_2_3 (r_0 + 2) (by omega)).1 (by omega)
       omega)
    | (have q1 := (hE_0_2_1 (r_0 + 2) (by omega)).2 (by omega)
       have q2 := (hE_0_2_2 (r_0 + 2) (by omega)).2 (by omega)
       have q3 := (hE_0_2_3 (r_0 + 2) (by omega)).2 (by omega)
       omega)
set_option maxHeartbeats 4000000 in
theorem vc_Mo_item_at_k3_4_7 (all_0 : Int → Int) (r_0 : Int) (now_0 : Int → Int) (latest_0 : Int → Int) (f3 : RWS (r_0) (all_0) (now_0) (latest_0)) : RWS (r_0) (all_0) (now_0) (latest_0) := by
  first
    | assumption
set_option maxHeartbeats 4000000 in
theorem vc_Mo_item_at_k3_4_8 (x7 : Int) (all_0 : Int → Int) (r_0 : Int) (k7 : (-1) ≤ x7 ∧ x7 ≤ (-1)) : MEB (r_0) (all_0) (x7) := by
  intro q; exfalso; omega
def o_Mo_item_at_k3_4 : or_T := (17, 8, [(0, (2, 0, 0, [165])), (1, (0, 0, 7, [])), (3, (0, 0, 2000, [])), (6, (0, 0, 2000, [])), (7, (0, -1, -1, []))], [(23, [6, 3], [0, 1, -1]), (23, [6, 3], [0, -1, 1]), (20, [1, 0], [50, 1, 1, 1005, 1002, 0, 6, 4, 2, 1, 0, 0, 1, 3, 1, 2, 4, 3, 2, 1, 5, 0, 2]), (20, [0], [60, 1, 3, 199, 5, 2, 3, 4]), (20, [0, 0], [30, 0, 1, 1, 15, -1, 1, 11]), (20, [0], [50, 3, 0, 12, 11, 15, 2, 21, 4, 7, 1, 3, 2, 0, 12, 0, 1, 0, 3, 2, 0, 11, 4, 3, 2, 0, 15, 0, 8, 3, 7, 1, 3, 2, 0, 12, 0, 0, 0, 7, 4, 3, 2, 0, 15, 0, 1, 2, 0, 11]), (20, [6, 0], [30, 0, 1, 0, 0, -1, 1, 15])], [], [(0, 0, 2000, []), (0, 0, 2000, [])], [(23, [8, 3], [0, 1, -1]), (23, [8, 3], [0, -1, 1]), (20, [0, 0], [30, 0, 1, 1, 15, -1, 1, 11]), (20, [0], [50, 3, 0, 12, 11, 15, 2, 21, 4, 7, 1, 3, 2, 0, 12, 0, 1, 0, 3, 2, 0, 11, 4, 3, 2, 0, 15, 0, 8, 3, 7, 1, 3, 2, 0, 12, 0, 0, 0, 7, 4, 3, 2, 0, 15, 0, 1, 2, 0, 11]), (20, [8, 0], [30, 0, 1, 0, 0, -1, 1, 11]), (20, [0, 9], [50, 2, 0, 12, 11, 3, 7, 1, 3, 2, 0, 12, 0, 0, 0, 6, 4, 2, 1, 1, 0, 1, 2, 0, 11]), (20, [1, 0], [50, 1, 1, 1005, 1002, 0, 6, 4, 2, 1, 0, 0, 1, 3, 1, 2, 4, 3, 2, 1, 5, 0, 2]), (20, [0], [60, 1, 3, 199, 5, 2, 3, 4]), (20, [0, 7], [60, 1, 1, 241, 5, 2])], [], [])
theorem oo_Mo_item_at_k3_4 {kA : Nat → ClassId} : or_ok PRD kA GG o_Mo_item_at_k3_4 := by
  refine or_mk fun A ta ws vs hD hth hl => ?_
  intro t0 r0 t1 k1 t3 k3 t6 k6 t7 k7 f0 f1 f2 f3 f4 f5 f6
  replace f0 := shm_7 f0
  replace f1 := shm_22 f1
  replace f2 := shm_981 f2
  replace f3 := shm_952 f3
  replace f4 := shm_1397 f4
  replace f5 := shm_1398 f5
  replace f6 := shm_1396 f6
  have kz_0_11 := fdq_273 hD hth r0
  have kz_0_12 := fdq_186 hD hth r0
  have kz_0_15 := fdq_274 hD hth r0
  obtain ⟨x, ex, hx⟩ := iv_ex (ta := ta) (lo := 0) (hi := 2000) (z := v_iv (n_v vs 3)) (by omega) (by omega) (by omega) (by omega)
  have ex2 : v_iv (Value.int x) = v_iv (n_v vs 3) := ex
  have ex3 : 0 ≤ v_iv (Value.int x) ∧ v_iv (Value.int x) ≤ 2000 := tv_rng hx
  obtain ⟨y, ey, hy⟩ := iv_ex (ta := ta) (lo := 0) (hi := 2000) (z := w_fi ws (n_v vs 0) 15) (by omega) (by omega) (by omega) (by omega)
  have ey2 : v_iv (Value.int y) = w_fi ws (n_v vs 0) 15 := ey
  have ey3 : 0 ≤ v_iv (Value.int y) ∧ v_iv (Value.int y) ≤ 2000 := tv_rng hy
  have e_0 : n_v (vs ++ [Value.int x, Value.int y]) 0 = n_v vs 0 := n_v_old (by rw [hl]; decide)
  have e_1 : n_v (vs ++ [Value.int x, Value.int y]) 1 = n_v vs 1 := n_v_old (by rw [hl]; decide)
  have e_3 : n_v (vs ++ [Value.int x, Value.int y]) 3 = n_v vs 3 := n_v_old (by rw [hl]; decide)
  have e_7 : n_v (vs ++ [Value.int x, Value.int y]) 7 = n_v vs 7 := n_v_old (by rw [hl]; decide)
  have e_8 : n_v (vs ++ [Value.int x, Value.int y]) 8 = Value.int x := n_v_new0 hl
  have e_9 : n_v (vs ++ [Value.int x, Value.int y]) 9 = Value.int y := n_v_new1 hl
  have nf0 : fc_1 PRD (23, [8, 3], [0, 1, -1]) ws (vs ++ [Value.int x, Value.int y]) := by
    refine ⟨nf_inA hl rfl, sgq_7 ?_⟩
    · show 1 * v_iv (n_v (vs ++ [Value.int x, Value.int y]) 8) + ((-1) * v_iv (n_v (vs ++ [Value.int x, Value.int y]) 3) + 0) ≤ 0
      simp only [e_3, e_8]
      exact vc_Mo_item_at_k3_4_0 (v_iv (n_v vs 3)) (v_iv (n_v vs 6)) (w_fi ws (n_v vs 0) 5) (v_iv (Value.int x)) k3 k6 f0 f1 ex2
  have nf1 : fc_1 PRD (23, [8, 3], [0, -1, 1]) ws (vs ++ [Value.int x, Value.int y]) := by
    refine ⟨nf_inA hl rfl, sgq_22 ?_⟩
    · show (-1) * v_iv (n_v (vs ++ [Value.int x, Value.int y]) 8) + (1 * v_iv (n_v (vs ++ [Value.int x, Value.int y]) 3) + 0) ≤ 0
      simp only [e_3, e_8]
      exact vc_Mo_item_at_k3_4_1 (v_iv (n_v vs 3)) (v_iv (n_v vs 6)) (w_fi ws (n_v vs 0) 5) (v_iv (Value.int x)) k3 k6 f0 f1 ex2
  have nf2 : fc_1 PRD (20, [0, 0], [30, 0, 1, 1, 15, -1, 1, 11]) ws (vs ++ [Value.int x, Value.int y]) := by
    refine ⟨nf_inA hl rfl, sgq_1397 ?_⟩
    · show 1 * w_fi ws (n_v (vs ++ [Value.int x, Value.int y]) 0) 15 + ((-1) * w_fi ws (n_v (vs ++ [Value.int x, Value.int y]) 0) 11 + 0) ≤ 0
      rw [e_0]
      exact vc_Mo_item_at_k3_4_2 (w_fi ws (n_v vs 0) 5) (w_fi ws (n_v vs 0) 15) (w_fi ws (n_v vs 0) 11) f4 kz_0_11 kz_0_15
  have nf3 : fc_1 PRD (20, [0], [50, 3, 0, 12, 11, 15, 2, 21, 4, 7, 1, 3, 2, 0, 12, 0, 1, 0, 3, 2, 0, 11, 4, 3, 2, 0, 15, 0, 8, 3, 7, 1, 3, 2, 0, 12, 0, 0, 0, 7, 4, 3, 2, 0, 15, 0, 1, 2, 0, 11]) ws (vs ++ [Value.int x, Value.int y]) := by
    refine ⟨nf_inA hl rfl, sgq_1398 ?_⟩
    · show ((w_fi ws (n_v (vs ++ [Value.int x, Value.int y]) 0) 12 = 1) → (w_fi ws (n_v (vs ++ [Value.int x, Value.int y]) 0) 11 ≤ (w_fi ws (n_v (vs ++ [Value.int x, Value.int y]) 0) 15 + 8))) ∧ ((w_fi ws (n_v (vs ++ [Value.int x, Value.int y]) 0) 12 = 0) ∨ ((w_fi ws (n_v (vs ++ [Value.int x, Value.int y]) 0) 15 + 1) ≤ w_fi ws (n_v (vs ++ [Value.int x, Value.int y]) 0) 11))
      rw [e_0]
      exact vc_Mo_item_at_k3_4_3 (w_fi ws (n_v vs 0) 5) (w_fi ws (n_v vs 0) 15) (w_fi ws (n_v vs 0) 11) (w_fi ws (n_v vs 0) 12) f5 kz_0_11 kz_0_12 kz_0_15
  have nf4 : fc_1 PRD (20, [8, 0], [30, 0, 1, 0, 0, -1, 1, 11]) ws (vs ++ [Value.int x, Value.int y]) := by
    refine ⟨nf_inA hl rfl, sgq_1395 ?_⟩
    · show 1 * v_iv (n_v (vs ++ [Value.int x, Value.int y]) 8) + ((-1) * w_fi ws (n_v (vs ++ [Value.int x, Value.int y]) 0) 11 + 0) ≤ 0
      simp only [e_0, e_8]
      exact vc_Mo_item_at_k3_4_4 (v_iv (n_v vs 3)) (v_iv (n_v vs 6)) (w_fi ws (n_v vs 0) 5) (w_fi ws (n_v vs 0) 15) (w_fi ws (n_v vs 0) 11) (v_iv (Value.int x)) (v_iv (Value.int y)) k3 k6 f0 f1 f4 f6 kz_0_11 kz_0_15 ex2 ey2
  have nf5 : fc_1 PRD (20, [0, 9], [50, 2, 0, 12, 11, 3, 7, 1, 3, 2, 0, 12, 0, 0, 0, 6, 4, 2, 1, 1, 0, 1, 2, 0, 11]) ws (vs ++ [Value.int x, Value.int y]) := by
    refine ⟨nf_inA hl rfl, sgq_1978 ?_⟩
    · show (w_fi ws (n_v (vs ++ [Value.int x, Value.int y]) 0) 12 = 0) ∨ ((v_iv (n_v (vs ++ [Value.int x, Value.int y]) 9) + 1) ≤ w_fi ws (n_v (vs ++ [Value.int x, Value.int y]) 0) 11)
      simp only [e_0, e_9]
      exact vc_Mo_item_at_k3_4_5 (w_fi ws (n_v vs 0) 5) (w_fi ws (n_v vs 0) 15) (w_fi ws (n_v vs 0) 11) (w_fi ws (n_v vs 0) 12) (v_iv (Value.int y)) f4 f5 kz_0_11 kz_0_12 kz_0_15 ey2
  have nf6 : fc_1 PRD (20, [1, 0], [50, 1, 1, 1005, 1002, 0, 6, 4, 2, 1, 0, 0, 1, 3, 1, 2, 4, 3, 2, 1, 5, 0, 2]) ws (vs ++ [Value.int x, Value.int y]) := by
    refine ⟨nf_inA hl rfl, sgq_981 ?_⟩
    · show (v_iv (n_v (vs ++ [Value.int x, Value.int y]) 1) + 1) ≤ w_ei ws (w_ar ws (n_v (vs ++ [Value.int x, Value.int y]) 0) 2) ((w_fi ws (n_v (vs ++ [Value.int x, Value.int y]) 0) 5 + 2))
      simp only [e_0, e_1]
      exact vc_Mo_item_at_k3_4_6 (v_iv (n_v vs 1)) (w_ei ws (w_ar ws (n_v vs 0) 2)) (w_fi ws (n_v vs 0) 5) k1 f2
  have nf7 : fc_1 PRD (20, [0], [60, 1, 3, 199, 5, 2, 3, 4]) ws (vs ++ [Value.int x, Value.int y]) := by
    refine ⟨nf_inA hl rfl, sgq_952 ?_⟩
    · show RWS (w_fi ws (n_v (vs ++ [Value.int x, Value.int y]) 0) 5) (w_ei ws (w_ar ws (n_v (vs ++ [Value.int x, Value.int y]) 0) 2)) (w_ei ws (w_ar ws (n_v (vs ++ [Value.int x, Value.int y]) 0) 3)) (w_ei ws (w_ar ws (n_v (vs ++ [Value.int x, Value.int y]) 0) 4))
      rw [e_0]
      exact vc_Mo_item_at_k3_4_7 (w_ei ws (w_ar ws (n_v vs 0) 2)) (w_fi ws (n_v vs 0) 5) (w_ei ws (w_ar ws (n_v vs 0) 3)) (w_ei ws (w_ar ws (n_v vs 0) 4)) f3
  have nf8 : fc_1 PRD (20, [0, 7], [60, 1, 1, 241, 5, 2]) ws (vs ++ [Value.int x, Value.int y]) := by
    refine ⟨nf_inA hl rfl, sgq_1979 ?_⟩
    · show MEB (w_fi ws (n_v (vs ++ [Value.int x, Value.int y]) 0) 5) (w_ei ws (w_ar ws (n_v (vs ++ [Value.int x, Value.int y]) 0) 2)) (v_iv (n_v (vs ++ [Value.int x, Value.int y]) 7))
      simp only [e_0, e_7]
      exact vc_Mo_item_at_k3_4_8 (v_iv (n_v vs 7)) (w_ei ws (w_ar ws (n_v vs 0) 2)) (w_fi ws (n_v vs 0) 5) k7
  exact ⟨(fun _ h => (by cases h)), [Value.int x, Value.int y], ag_two hx hy, List.forall_mem_cons.mpr ⟨⟨show (23 : Nat) < 100 from by decide, nf0⟩, List.forall_mem_cons.mpr ⟨⟨show (23 : Nat) < 100 from by decide, nf1⟩, List.forall_mem_cons.mpr ⟨⟨show (20 : Nat) < 100 from by decide, nf2⟩, List.forall_mem_cons.mpr ⟨⟨show (20 : Nat) < 100 from by decide, nf3⟩, List.forall_mem_cons.mpr ⟨⟨show (20 : Nat) < 100 from by decide, nf4⟩, List.forall_mem_cons.mpr ⟨⟨show (20 : Nat) < 100 from by decide, nf5⟩, List.forall_mem_cons.mpr ⟨⟨show (20 : Nat) < 100 from by decide, nf6⟩, List.forall_mem_cons.mpr ⟨⟨show (20 : Nat) < 100 from by decide, nf7⟩, List.forall_mem_cons.mpr ⟨⟨show (20 : Nat) < 100 from by decide, nf8⟩, (fun _ h => (by cases h))⟩⟩⟩⟩⟩⟩⟩⟩⟩, (fun _ h => (by cases h))⟩
set_option maxHeartbeats 4000000 in
theorem vc_Mo_item_at_k3_5_0 (x3 : Int) (x8 : Int) (r_0 : Int) (gx : Int) (k3 : 0 ≤ x3 ∧ x3 ≤ 2000) (k8 : 0 ≤ x8 ∧ x8 ≤ 2000) (f0 : 1 * x8 + ((-1) * x3 + 0) ≤ 0) (f1 : (-1) * x8 + (1 * x3 + 0) ≤ 0) (ex2 : gx = x3) : 1 * gx + ((-1) * x3 + 0) ≤ 0 := by
  first
    | omega
    | (have q1 := (hE_0_2_1 (r_0 + 2) (by omega)).2 (by omega)
       have q2 := (hE_0_2_2 (r_0 + 2) (by omega)).2 (by omega)
       omega)
    | (have q1 := (hE_0_2_1 (r_0 + 1) (by omega)).2 (by omega)
       have q2 := (hE_0_2_2 (r_0 + 1) (by omega)).2 (by omega)
       omega)
    | (have q1 := (hE_0_2_1 (r_0 + 2) (by omega)).2 (by omega)
       omega)
    | (have q1 := (hE_0_2_1 (r_0 + 1) (by omega)).2 (by omega)
       omega)
    | (have q1 := (hE_0_2_1 (r_0 + 2) (by omega)).2 (by omega)
       have q2 := (hE_0_2_2 (r_0 + 2) (by omega)).2 (by omega)
       have q3 := (hE_0_2_3 (r_0 + 2) (by omega)).1 (by omega)
       omega)
    | (have q1 := (hE_0_2_1 (r_0 + 2) (by omega)).2 (by omega)
       have q2 := (hE_0_2_2 (r_0 + 2) (by omega)).2 (by omega)
       have q3 := (hE_0_2_3 (r_0 + 2) (by omega)).2 (by omega)
       omega)
set_option maxHeartbeats 4000000 in
theorem vc_Mo_item_at_k3_5_1 (x3 : Int) (x8 : Int) (r_0 : Int) (gx : Int) (k3 : 0 ≤ x3 ∧ x3 ≤ 2000) (k8 : 0 ≤ x8 ∧ x8 ≤ 2000) (f0 : 1 * x8 + ((-1) * x3 + 0) ≤ 0) (f1 : (-1) * x8 + (1 * x3 + 0) ≤ 0) (ex2 : gx = x3) : (-1) * gx + (1 * x3 + 0) ≤ 0 := by
  first
    | omega
    | (have q1 := (hE_0_2_1 (r_0 + 2) (by omega)).2 (by omega)
       have q2 := (hE_0_2_2 (r_0 + 2) (by omega)).2 (by omega)
       omega)
    | (have q1 := (hE_0_2_1 (r_0 + 1) (by omega)).2 (by omega)
       have q2 := (hE_0_2_2 (r_0 + 1) (by omega)).2 (by omega)
       omega)
    | (have q1 := (hE_0_2_1 (r_0 + 2) (by omega)).2 (by omega)
       omega)
    | (have q1 := (hE_0_2_1 (r_0 + 1) (by omega)).2 (by omega)
       omega)
    | (have q1 := (hE_0_2_1 (r_0 + 2) (by omega)).2 (by omega)
       have q2 := (hE_0_2_2 (r_0 + 2) (by omega)).2 (by omega)
       have q3 := (hE_0_2_3 (r_0 + 2) (by omega)).1 (by omega)
       omega)
    | (have q1 := (hE_0_2_1 (r_0 + 2) (by omega)).2 (by omega)
       have q2 := (hE_0_2_2 (r_0 + 2) (by omega)).2 (by omega)
       have q3 := (hE_0_2_3 (r_0 + 2) (by omega)).2 (by omega)
       omega)
set_option maxHeartbeats 4000000 in
theorem vc_Mo_item_at_k3_5_2 (x10 : Int) (r_0 : Int) (gy : Int) (k10 : (-1) ≤ x10 ∧ x10 ≤ 23) (ey2 : gy = x10) : 1 * gy + ((-1) * x10 + 0) ≤ 0 := by
  first
    | omega
    | (have q1 := (hE_0_2_1 (r_0 + 2) (by omega)).2 (by omega)
       have q2 := (hE_0_2_2 (r_0 + 2) (by omega)).2 (by omega)
       omega)
    | (have q1 := (hE_0_2_1 (r_0 + 1) (by omega)).2 (by omega)
       have q2 := (hE_0_2_2 (r_0 + 1) (by omega)).2 (by omega)
       omega)
    | (have q1 := (hE_0_2_1 (r_0 + 2) (by omega)).2 (by omega)
       omega)
    | (have q1 := (hE_0_2_1 (r_0 + 1) (by omega)).2 (by omega)
       omega)
    | (have q1 := (hE_0_2_1 (r_0 + 2) (by omega)).2 (by omega)
       have q2 := (hE_0_2_2 (r_0 + 2) (by omega)).2 (by omega)
       have q3 := (hE_0_2_3 (r_0 + 2) (by omega)).1 (by omega)
       omega)
    | (have q1 := (hE_0_2_1 (r_0 + 2) (by omega)).2 (by omega)
       have q2 := (hE_0_2_2 (r_0 + 2) (by omega)).2 (by omega)
       have q3 := (hE_0_2_3 (r_0 + 2) (by omega)).2 (by omega)
       omega)
set_option maxHeartbeats 4000000 in
theorem vc_Mo_item_at_k3_5_3 (x10 : Int) (r_0 : Int) (gy : Int) (k10 : (-1) ≤ x10 ∧ x10 ≤ 23) (ey2 : gy = x10) : (-1) * gy + (1 * x10 + 0) ≤ 0 := by
  first
    | omega
    | (have q1 := (hE_0_2_1 (r_0 + 2) (by omega)).2 (by omega)
       have q2 := (hE_0_2_2 (r_0 + 2) (by omega)).2 (by omega)
       omega)
    | (have q1 := (hE_0_2_1 (r_0 + 1) (by omega)).2 (by omega)
       have q2 := (hE_0_2_2 (r_0 + 1) (by omega)).2 (by omega)
       omega)
    | (have q1 := (hE_0_2_1 (r_0 + 2) (by omega)).2 (by omega)
       omega)
    | (have q1 := (hE_0_2_1 (r_0 + 1) (by omega)).2 (by omega)
       omega)
    | (have q1 := (hE_0_2_1 (r_0 + 2) (by omega)).2 (by omega)
       have q2 := (hE_0_2_2 (r_0 + 2) (by omega)).2 (by omega)
       have q3 := (hE_0_2_3 (r_0 + 2) (by omega)).1 (by omega)
       omega)
    | (have q1 := (hE_0_2_1 (r_0 + 2) (by omega)).2 (by omega)
       have q2 := (hE_0_2_2 (r_0 + 2) (by omega)).2 (by omega)
       have q3 := (hE_0_2_3 (r_0 + 2) (by omega)).2 (by omega)
       omega)
set_option maxHeartbeats 4000000 in
theorem vc_Mo_item_at_k3_5_4 (from_0 : Int) (pos_0 : Int) (r_0 : Int) (f4 : 1 * from_0 + ((-1) * pos_0 + 0) ≤ 0) (kz_0_11 : 0 ≤ pos_0 ∧ pos_0 ≤ 2000) (kz_0_15 : 0 ≤ from_0 ∧ from_0 ≤ 2000) : 1 * from_0 + ((-1) * pos_0 + 0) ≤ 0 := by
  first
    | omega
    | (have q1 := (hE_0_2_1 (r_0 + 2) (by omega)).2 (by omega)
       have q2 := (hE_0_2_2 (r_0 + 2) (by omega)).2 (by omega)
       omega)
    | (have q1 := (hE_0_2_1 (r_0 + 1) (by omega)).2 (by omega)
       have q2 := (hE_0_2_2 (r_0 + 1) (by omega)).2 (by omega)
       omega)
    | (have q1 := (hE_0_2_1 (r_0 + 2) (by omega)).2 (by omega)
       omega)
    | (have q1 := (hE_0_2_1 (r_0 + 1) (by omega)).2 (by omega)
       omega)
    | (have q1 := (hE_0_2_1 (r_0 + 2) (by omega)).2 (by omega)
       have q2 := (hE_0_2_2 (r_0 + 2) (by omega)).2 (by omega)
       have q3 := (hE_0_2_3 (r_0 + 2) (by omega)).1 (by omega)
       omega)
    | (have q1 := (hE_0_2_1 (r_0 + 2) (by omega)).2 (by omega)
       have q2 := (hE_0_2_2 (r_0 + 2) (by omega)).2 (by omega)
       have q3 := (hE_0_2_3 (r_0 + 2) (by omega)).2 (by omega)
       omega)
set_option maxHeartbeats 4000000 in
theorem vc_Mo_item_at_k3_5_5 (from_0 : Int) (pos_0 : Int) (kind_0 : Int) (r_0 : Int) (f5 : ((kind_0 = 1) → (pos_0 ≤ (from_0 + 8))) ∧ ((kind_0 = 0) ∨ ((from_0 + 1) ≤ pos_0))) (kz_0_11 : 0 ≤ pos_0 ∧ pos_0 ≤ 2000) (kz_0_12 : 0 ≤ kind_0 ∧ kind_0 ≤ 4) (kz_0_15 : 0 ≤ from_0 ∧ from_0 ≤ 2000) : ((kind_0 = 1) → (pos_0 ≤ (from_0 + 8))) ∧ ((kind_0 = 0) ∨ ((from_0 + 1) ≤ pos_0)) := by
  first
    | omega
    | (have q1 := (hE_0_2_1 (r_0 + 2) (by omega)).2 (by omega)
       have q2 := (hE_0_2_2 (r_0 + 2) (by omega)).2 (by omega)
       omega)
    | (have q1 := (hE_0_2_1 (r_0 + 1) (by omega)).2 (by omega)
       have q2 := (hE_0_2_2 (r_0 + 1) (by omega)).2 (by omega)
       omega)
    | (have q1 := (hE_0_2_1 (r_0 + 2) (by omega)).2 (by omega)
       omega)
    | (have q1 := (hE_0_2_1 (r_0 + 1) (by omega)).2 (by omega)
       omega)
    | (have q1 := (hE_0_2_1 (r_0 + 2) (by omega)).2 (by omega)
       have q2 := (hE_0_2_2 (r_0 + 2) (by omega)).2 (by omega)
       have q3 := (hE_0_2_3 (r_0 + 2) (by omega)).1 (by omega)
       omega)
    | (have q1 := (hE_0_2_1 (r_0 + 2) (by omega)).2 (by omega)
       have q2 := (hE_0_2_2 (r_0 + 2) (by omega)).2 (by omega)
       have q3 := (hE_0_2_3 (r_0 + 2) (by omega)).2 (by omega)
       omega)
set_option maxHeartbeats 4000000 in
theorem vc_Mo_item_at_k3_5_6 (x3 : Int) (x8 : Int) (pos_0 : Int) (r_0 : Int) (gx : Int) (k3 : 0 ≤ x3 ∧ x3 ≤ 2000) (k8 : 0 ≤ x8 ∧ x8 ≤ 2000) (f0 : 1 * x8 + ((-1) * x3 + 0) ≤ 0) (f1 : (-1) * x8 + (1 * x3 + 0) ≤ 0) (f6 : 1 * x8 + ((-1) * pos_0 + 0) ≤ 0) (kz_0_11 : 0 ≤ pos_0 ∧ pos_0 ≤ 2000) (ex2 : gx = x3) : 1 * gx + ((-1) * pos_0 + 0) ≤ 0 := by
  first
    | omega
    | (have q1 := (hE_0_2_1 (r_0 + 2) (by omega)).2 (by omega)
       have q2 := (hE_0_2_2 (r_0 + 2) (by omega)).2 (by omega)
       omega)
    | (have q1 := (hE_0_2_1 (r_0 + 1) (by omega)).2 (by omega)
       have q2 := (hE_0_2_2 (r_0 + 1) (by omega)).2 (by omega)
       omega)
    | (have q1 := (hE_0_2_1 (r_0 + 2) (by omega)).2 (by omega)
       omega)
    | (have q1 := (hE_0_2_1 (r_0 + 1) (by omega)).2 (by omega)
       omega)
    | (have q1 := (hE_0_2_1 (r_0 + 2) (by omega)).2 (by omega)
       have q2 := (hE_0_2_2 (r_0 + 2) (by omega)).2 (by omega)
       have q3 := (hE_0_2_3 (r_0 + 2) (by omega)).1 (by omega)
       omega)
    | (have q1 := (hE_0_2_1 (r_0 + 2) (by omega)).2 (by omega)
       have q2 := (hE_0_2_2 (r_0 + 2) (by omega)).2 (by omega)
       have q3 := (hE_0_2_3 (r_0 + 2) (by omega)).2 (by omega)
       omega)
set_option maxHeartbeats 4000000 in
theorem vc_Mo_item_at_k3_5_7 (x3 : Int) (x7 : Int) (x8 : Int) (x9 : Int) (x10 : Int) (pos_0 : Int) (kind_0 : Int) (fault_0 : Int) (all_0 : Int → Int) (r_0 : Int) (gx : Int) (k3 : 0 ≤ x3 ∧ x3 ≤ 2000) (k7 : (-1) ≤ x7 ∧ x7 ≤ (-1)) (k8 : 0 ≤ x8 ∧ x8 ≤ 2000) (k9 : 0 ≤ x9 ∧ x9 ≤ 2000) (k10 : (-1) ≤ x10 ∧ x10 ≤ 23) (f0 : 1 * x8 + ((-1) * x3 + 0) ≤ 0) (f1 : (-1) * x8 + (1 * x3 + 0) ≤ 0) (f6 : 1 * x8 + ((-1) * pos_0 + 0) ≤ 0) (f7 : (1 ≤ fault_0) ∨ ((kind_0 = 0) ∨ ((x8 + 1) ≤ pos_0))) (f8 : (1 ≤ fault_0) ∨ ((x9 + 1) ≤ pos_0)) (f9 : ((-1) * fault_0 + 0 ≤ (-1)) ∨ ((-1) * x10 + 0 ≤ 0)) (f10 : (1 ≤ fault_0) ∨ ((x7 ≤ (-1)) ∨ (all_0 ((r_0 + 1)) ≤ 47))) (kz_0_8 : 0 ≤ fault_0 ∧ fault_0 ≤ 5) (kz_0_11 : 0 ≤ pos_0 ∧ pos_0 ≤ 2000) (kz_0_12 : 0 ≤ kind_0 ∧ kind_0 ≤ 4) (ex2 : gx = x3) : (1 ≤ fault_0) ∨ ((kind_0 = 0) ∨ ((gx + 1) ≤ pos_0)) := by
  first
    | omega
    | (have q1 := (hE_0_2_1 (r_0 + 2) (by omega)).2 (by omega)
       have q2 := (hE_0_2_2 (r_0 + 2) (by omega)).2 (by omega)
       omega)
    | (have q1 := (hE_0_2_1 (r_0 + 1) (by omega)).2 (by omega)
       have q2 := (hE_0_2_2 (r_0 + 1) (by omega)).2 (by omega)
       omega)
    | (have q1 := (hE_0_2_1 (r_0 + 2) (by omega)).2 (by omega)
       omega)
    | (have q1 := (hE_0_2_1 (r_0 + 1) (by omega)).2 (by omega)
       omega)
    | (have q1 := (hE_0_2_1 (r_0 + 2) (by omega)).2 (by omega)
       have q2 := (hE_0_2_2 (r_0 + 2) (by omega)).2 (by omega)
       have q3 := (hE_0_2_3 (r_0 + 2) (by omega)).1 (by omega)
       omega)
    | (have q1 := (hE_0_2_1 (r_0 + 2) (by omega)).2 (by omega)
       have q2 := (hE_0_2_2 (r_0 + 2) (by omega)).2 (by omega)
       have q3 := (hE_0_2_3 (r_0 + 2) (by omega)).2 (by omega)
       omega)
set_option maxHeartbeats 4000000 in
theorem vc_Mo_item_at_k3_5_8 (x7 : Int) (x10 : Int) (fault_0 : Int) (all_0 : Int → Int) (r_0 : Int) (gy : Int) (k7 : (-1) ≤ x7 ∧ x7 ≤ (-1)) (k10 : (-1) ≤ x10 ∧ x10 ≤ 23) (f9 : ((-1) * fault_0 + 0 ≤ (-1)) ∨ ((-1) * x10 + 0 ≤ 0)) (f10 : (1 ≤ fault_0) ∨ ((x7 ≤ (-1)) ∨ (all_0 ((r_0 + 1)) ≤ 47))) (kz_0_8 : 0 ≤ fault_0 ∧ fault_0 ≤ 5) (ey2 : gy = x10) : (1 ≤ fault_0) ∨ (0 ≤ gy) := by
  first
    | omega
    | (have q1 := (hE_0_2_1 (r_0 + 2) (by omega)).2 (by omega)
       have q2 := (hE_0_2_2 (r_0 + 2) (by omega)).2 (by omega)
       omega)
    | (have q1 := (hE_0_2_1 (r_0 + 1) (by omega)).2 (by omega)
       have q2 := (hE_0_2_2 (r_0 + 1) (by omega)).2 (by omega)
       omega)
    | (have q1 := (hE_0_2_1 (r_0 + 2) (by omega)).2 (by omega)
       omega)
    | (have q1 := (hE_0_2_1 (r_0 + 1) (by omega)).2 (by omega)
       omega)
    | (have q1 := (hE_0_2_1 (r_0 + 2) (by omega)).2 (by omega)
       have q2 := (hE_0_2_2 (r_0 + 2) (by omega)).2 (by omega)
       have q3 := (hE_0_2_3 (r_0 + 2) (by omega)).1 (by omega)
       omega)
    | (have q1 := (hE_0_2_1 (r_0 + 2) (by omega)).2 (by omega)
       have q2 := (hE_0_2_2 (r_0 + 2) (by omega)).2 (by omega)
       have q3 := (hE_0_2_3 (r_0 + 2) (by omega)).2 (by omega)
       omega)
def o_Mo_item_at_k3_5 : or_T := (27, 13, [(0, (2, 0, 0, [165])), (3, (0, 0, 2000, [])), (7, (0, -1, -1, [])), (8, (0, 0, 2000, [])), (9, (0, 0, 2000, [])), (10, (0, -1, 23, []))], [(23, [8, 3], [0, 1, -1]), (23, [8, 3], [0, -1, 1]), (20, [0, 0], [30, 0, 1, 1, 15, -1, 1, 11]), (20, [0], [50, 3, 0, 12, 11, 15, 2, 21, 4, 7, 1, 3, 2, 0, 12, 0, 1, 0, 3, 2, 0, 11, 4, 3, 2, 0, 15, 0, 8, 3, 7, 1, 3, 2, 0, 12, 0, 0, 0, 7, 4, 3, 2, 0, 15, 0, 1, 2, 0, 11]), (20, [8, 0], [30, 0, 1, 0, 0, -1, 1, 11]), (20, [0, 8], [50, 3, 0, 8, 12, 11, 3, 7, 0, 2, 0, 1, 2, 0, 8, 3, 7, 1, 3, 2, 0, 12, 0, 0, 0, 6, 4, 2, 1, 1, 0, 1, 2, 0, 11]), (20, [0, 9], [50, 2, 0, 8, 11, 3, 7, 0, 2, 0, 1, 2, 0, 8, 0, 6, 4, 2, 1, 1, 0, 1, 2, 0, 11]), (20, [0, 10], [31, 1, -1, -1, 1, 8, 0, -1, 0, 0]), (20, [0, 7], [50, 2, 1, 8, 5, 2, 3, 7, 0, 2, 0, 1, 2, 0, 8, 3, 6, 0, 2, 1, 1, 0, -1, 0, 10, 3, 0, 2, 4, 3, 2, 0, 5, 0, 1, 0, 47])], [], [(0, 0, 2000, []), (0, -1, 48, [])], [(23, [13, 3], [0, 1, -1]), (23, [13, 3], [0, -1, 1]), (23, [14, 10], [0, 1, -1]), (23, [14, 10], [0, -1, 1]), (20, [0, 0], [30, 0, 1, 1, 15, -1, 1, 11]), (20, [0], [50, 3, 0, 12, 11, 15, 2, 21, 4, 7, 1, 3, 2, 0, 12, 0, 1, 0, 3, 2, 0, 11, 4, 3, 2, 0, 15, 0, 8, 3, 7, 1, 3, 2, 0, 12, 0, 0, 0, 7, 4, 3, 2, 0, 15, 0, 1, 2, 0, 11]), (20, [13, 0], [30, 0, 1, 0, 0, -1, 1, 11]), (20, [0, 13], [50, 3, 0, 8, 12, 11, 3, 7, 0, 2, 0, 1, 2, 0, 8, 3, 7, 1, 3, 2, 0, 12, 0, 0, 0, 6, 4, 2, 1, 1, 0, 1, 2, 0, 11]), (20, [0, 14], [50, 1, 0, 8, 3, 7, 0, 2, 0, 1, 2, 0, 8, 0, 2, 0, 0, 1, 1])], [], [])
theorem oo_Mo_item_at_k3_5 {kA : Nat → ClassId} : or_ok PRD kA GG o_Mo_item_at_k3_5 := by
  refine or_mk fun A ta ws vs hD hth hl => ?_
  intro t0 r0 t3 k3 t7 k7 t8 k8 t9 k9 t10 k10 f0 f1 f4 f5 f6 f7 f8 f9 f10
  replace f0 := shm_7 f0
  replace f1 := shm_22 f1
  replace f4 := shm_1397 f4
  replace f5 := shm_1398 f5
  replace f6 := shm_1395 f6
  replace f7 := shm_1660 f7
  replace f8 := shm_1659 f8
  replace f9 := shm_1982 f9
  replace f10 := shm_1983 f10
  have kz_0_8 := fdq_14 hD hth r0
  have kz_0_11 := fdq_273 hD hth r0
  have kz_0_12 := fdq_186 hD hth r0
  have kz_0_15 := fdq_274 hD hth r0
  obtain ⟨x, ex, hx⟩ := iv_ex (ta := ta) (lo := 0) (hi := 2000) (z := v_iv (n_v vs 3)) (by omega) (by omega) (by omega) (by omega)
  have ex2 : v_iv (Value.int x) = v_iv (n_v vs 3) := ex
  have ex3 : 0 ≤ v_iv (Value.int x) ∧ v_iv (Value.int x) ≤ 2000 := tv_rng hx
  obtain ⟨y, ey, hy⟩ := iv_ex (ta := ta) (lo := (-1)) (hi := 48) (z := v_iv (n_v vs 10)) (by omega) (by omega) (by omega) (by omega)
  have ey2 : v_iv (Value.int y) = v_iv (n_v vs 10) := ey
  have ey3 : (-1) ≤ v_iv (Value.int y) ∧ v_iv (Value.int y) ≤ 48 := tv_rng hy
  have e_0 : n_v (vs ++ [Value.int x, Value.int y]) 0 = n_v vs 0 := n_v_old (by rw [hl]; decide)
  have e_3 : n_v (vs ++ [Value.int x, Value.int y]) 3 = n_v vs 3 := n_v_old (by rw [hl]; decide)
  have e_10 : n_v (vs ++ [Value.int x, Value.int y]) 10 = n_v vs 10 := n_v_old (by rw [hl]; decide)
  have e_13 : n_v (vs ++ [Value.int x, Value.int y]) 13 = Value.int x := n_v_new0 hl
  have e_14 : n_v (vs ++ [Value.int x, Value.int y]) 14 = Value.int y := n_v_new1 hl
  have nf0 : fc_1 PRD (23, [13, 3], [0, 1, -1]) ws (vs ++ [Value.int x, Value.int y]) := by
    refine ⟨nf_inA hl rfl, sgq_7 ?_⟩
    · show 1 * v_iv (n_v (vs ++ [Value.int x, Value.int y]) 13) + ((-1) * v_iv (n_v (vs ++ [Value.int x, Value.int y]) 3) + 0) ≤ 0
      simp only [e_3, e_13]
      exact vc_Mo_item_at_k3_5_0 (v_iv (n_v vs 3)) (v_iv (n_v vs 8)) (w_fi ws (n_v vs 0) 5) (v_iv (Value.int x)) k3 k8 f0 f1 ex2
  have nf1 : fc_1 PRD (23, [13, 3], [0, -1, 1]) ws (vs ++ [Value.int x, Value.int y]) := by
    refine ⟨nf_inA hl rfl, sgq_22 ?_⟩
    · show (-1) * v_iv (n_v (vs ++ [Value.int x, Value.int y]) 13) + (1 * v_iv (n_v (vs ++ [Value.int x, Value.int y]) 3) + 0) ≤ 0
      simp only [e_3, e_13]
      exact vc_Mo_item_at_k3_5_1 (v_iv (n_v vs 3)) (v_iv (n_v vs 8)) (w_fi ws (n_v vs 0) 5) (v_iv (Value.int x)) k3 k8 f0 f1 ex2
  have nf2 : fc_1 PRD (23, [14, 10], [0, 1, -1]) ws (vs ++ [Value.int x, Value.int y]) := by
    refine ⟨nf_inA hl rfl, sgq_7 ?_⟩
    · show 1 * v_iv (n_v (vs ++ [Value.int x, Value.int y]) 14) + ((-1) * v_iv (n_v (vs ++ [Value.int x, Value.int y]) 10) + 0) ≤ 0
      simp only [e_10, e_14]
      exact vc_Mo_item_at_k3_5_2 (v_iv (n_v vs 10)) (w_fi ws (n_v vs 0) 5) (v_iv (Value.int y)) k10 ey2
  have nf3 : fc_1 PRD (23, [14, 10], [0, -1, 1]) ws (vs ++ [Value.int x, Value.int y]) := by
    refine ⟨nf_inA hl rfl, sgq_22 ?_⟩
    · show (-1) * v_iv (n_v (vs ++ [Value.int x, Value.int y]) 14) + (1 * v_iv (n_v (vs ++ [Value.int x, Value.int y]) 10) + 0) ≤ 0
      simp only [e_10, e_14]
      exact vc_Mo_item_at_k3_5_3 (v_iv (n_v vs 10)) (w_fi ws (n_v vs 0) 5) (v_iv (Value.int y)) k10 ey2
  have nf4 : fc_1 PRD (20, [0, 0], [30, 0, 1, 1, 15, -1, 1, 11]) ws (vs ++ [Value.int x, Value.int y]) := by
    refine ⟨nf_inA hl rfl, sgq_1397 ?_⟩
    · show 1 * w_fi ws (n_v (vs ++ [Value.int x, Value.int y]) 0) 15 + ((-1) * w_fi ws (n_v (vs ++ [Value.int x, Value.int y]) 0) 11 + 0) ≤ 0
      rw [e_0]
      exact vc_Mo_item_at_k3_5_4 (w_fi ws (n_v vs 0) 15) (w_fi ws (n_v vs 0) 11) (w_fi ws (n_v vs 0) 5) f4 kz_0_11 kz_0_15
  have nf5 : fc_1 PRD (20, [0], [50, 3, 0, 12, 11, 15, 2, 21, 4, 7, 1, 3, 2, 0, 12, 0, 1, 0, 3, 2, 0, 11, 4, 3, 2, 0, 15, 0, 8, 3, 7, 1, 3, 2, 0, 12, 0, 0, 0, 7, 4, 3, 2, 0, 15, 0, 1, 2, 0, 11]) ws (vs ++ [Value.int x, Value.int y]) := by
    refine ⟨nf_inA hl rfl, sgq_1398 ?_⟩
    · show ((w_fi ws (n_v (vs ++ [Value.int x, Value.int y]) 0) 12 = 1) → (w_fi ws (n_v (vs ++ [Value.int x, Value.int y]) 0) 11 ≤ (w_fi ws (n_v (vs ++ [Value.int x, Value.int y]) 0) 15 + 8))) ∧ ((w_fi ws (n_v (vs ++ [Value.int x, Value.int y]) 0) 12 = 0) ∨ ((w_fi ws (n_v (vs ++ [Value.int x, Value.int y]) 0) 15 + 1) ≤ w_fi ws (n_v (vs ++ [Value.int x, Value.int y]) 0) 11))
      rw [e_0]
      exact vc_Mo_item_at_k3_5_5 (w_fi ws (n_v vs 0) 15) (w_fi ws (n_v vs 0) 11) (w_fi ws (n_v vs 0) 12) (w_fi ws (n_v vs 0) 5) f5 kz_0_11 kz_0_12 kz_0_15
  have nf6 : fc_1 PRD (20, [13, 0], [30, 0, 1, 0, 0, -1, 1, 11]) ws (vs ++ [Value.int x, Value.int y]) := by
    refine ⟨nf_inA hl rfl, sgq_1395 ?_⟩
    · show 1 * v_iv (n_v (vs ++ [Value.int x, Value.int y]) 13) + ((-1) * w_fi ws (n_v (vs ++ [Value.int x, Value.int y]) 0) 11 + 0) ≤ 0
      simp only [e_0, e_13]
      exact vc_Mo_item_at_k3_5_6 (v_iv (n_v vs 3)) (v_iv (n_v vs 8)) (w_fi ws (n_v vs 0) 11) (w_fi ws (n_v vs 0) 5) (v_iv (Value.int x)) k3 k8 f0 f1 f6 kz_0_11 ex2
  have nf7 : fc_1 PRD (20, [0, 13], [50, 3, 0, 8, 12, 11, 3, 7, 0, 2, 0, 1, 2, 0, 8, 3, 7, 1, 3, 2, 0, 12, 0, 0, 0, 6, 4, 2, 1, 1, 0, 1, 2, 0, 11]) ws (vs ++ [Value.int x, Value.int y]) := by
    refine ⟨nf_inA hl rfl, sgq_1660 ?_⟩
    · show (1 ≤ w_fi ws (n_v (vs ++ [Value.int x, Value.int y]) 0) 8) ∨ ((w_fi ws (n_v (vs ++ [Value.int x, Value.int y]) 0) 12 = 0) ∨ ((v_iv (n_v (vs ++ [Value.int x, Value.int y]) 13) + 1) ≤ w_fi ws (n_v (vs ++ [Value.int x, Value.int y]) 0) 11))
      simp only [e_0, e_13]
      exact vc_Mo_item_at_k3_5_7 (v_iv (n_v vs 3)) (v_iv (n_v vs 7)) (v_iv (n_v vs 8)) (v_iv (n_v vs 9)) (v_iv (n_v vs 10)) (w_fi ws (n_v vs 0) 11) (w_fi ws (n_v vs 0) 12) (w_fi ws (n_v vs 0) 8) (w_ei ws (w_ar ws (n_v vs 0) 2)) (w_fi ws (n_v vs 0) 5) (v_iv (Value.int x)) k3 k7 k8 k9 k10 f0 f1 f6 f7 f8 f9 f10 kz_0_8 kz_0_11 kz_0_12 ex2
  have nf8 : fc_1 PRD (20, [0, 14], [50, 1, 0, 8, 3, 7, 0, 2, 0, 1, 2, 0, 8, 0, 2, 0, 0, 1, 1]) ws (vs ++ [Value.int x, Value.int y]) := by
    refine ⟨nf_inA hl rfl, sgq_1889 ?_⟩
    · show (1 ≤ w_fi ws (n_v (vs ++ [Value.int x, Value.int y]) 0) 8) ∨ (0 ≤ v_iv (n_v (vs ++ [Value.int x, Value.int y]) 14))
      simp only [e_0, e_14]
      exact vc_Mo_item_at_k3_5_8 (v_iv (n_v vs 7)) (v_iv (n_v vs 10)) (w_fi ws (n_v vs 0) 8) (w_ei ws (w_ar ws (n_v vs 0) 2)) (w_fi ws (n_v vs 0) 5) (v_iv (Value.int y)) k7 k10 f9 f10 kz_0_8 ey2
  exact ⟨(fun _ h => (by cases h)), [Value.int x, Value.int y], ag_two hx hy, List.forall_mem_cons.mpr ⟨⟨show (23 : Nat) < 100 from by decide, nf0⟩, List.forall_mem_cons.mpr ⟨⟨show (23 : Nat) < 100 from by decide, nf1⟩, List.forall_mem_cons.mpr ⟨⟨show (23 : Nat) < 100 from by decide, nf2⟩, List.forall_mem_cons.mpr ⟨⟨show (23 : Nat) < 100 from by decide, nf3⟩, List.forall_mem_cons.mpr ⟨⟨show (20 : Nat) < 100 from by decide, nf4⟩, List.forall_mem_cons.mpr ⟨⟨show (20 : Nat) < 100 from by decide, nf5⟩, List.forall_mem_cons.mpr ⟨⟨show (20 : Nat) < 100 from by decide, nf6⟩, List.forall_mem_cons.mpr ⟨⟨show (20 : Nat) < 100 from by decide, nf7⟩, List.forall_mem_cons.mpr ⟨⟨show (20 : Nat) < 100 from by decide, nf8⟩, (fun _ h => (by cases h))⟩⟩⟩⟩⟩⟩⟩⟩⟩, (fun _ h => (by cases h))⟩
set_option maxHeartbeats 4000000 in
theorem vc_Mo_item_at_k3_6_0 (x3 : Int) (x13 : Int) (r_0 : Int) (gx : Int) (k3 : 0 ≤ x3 ∧ x3 ≤ 2000) (k13 : 0 ≤ x13 ∧ x13 ≤ 2000) (f2 : 1 * x13 + ((-1) * x3 + 0) ≤ 0) (f3 : (-1) * x13 + (1 * x3 + 0) ≤ 0) (ex2 : gx = x3) : 1 * gx + ((-1) * x3 + 0) ≤ 0 := by
  first
    | omega
    | (have q1 := (hE_0_2_1 (r_0 + 2) (by omega)).2 (by omega)
       have q2 := (hE_0_2_2 (r_0 + 2) (by omega)).2 (by omega)
       omega)
    | (have q1 := (hE_0_2_1 (r_0 + 1) (by omega)).2 (by omega)
       have q2 := (hE_0_2_2 (r_0 + 1) (by omega)).2 (by omega)
       omega)
    | (have q1 := (hE_0_2_1 (r_0 + 2) (by omega)).2 (by omega)
       omega)
    | (have q1 := (hE_0_2_1 (r_0 + 1) (by omega)).2 (by omega)
       omega)
    | (have q1 := (hE_0_2_1 (r_0 + 2) (by omega)).2 (by omega)
       have q2 := (hE_0_2_2 (r_0 + 2) (by omega)).2 (by omega)
       have q3 := (hE_0_2_3 (r_0 + 2) (by omega)).1 (by omega)
       omega)
    | (have q1 := (hE_0_2_1 (r_0 + 2) (by omega)).2 (by omega)
       have q2 := (hE_0_2_2 (r_0 + 2) (by omega)).2 (by omega)
       have q3 := (hE_0_2_3 (r_0 + 2) (by omega)).2 (by omega)
       omega)
set_option maxHeartbeats 4000000 in
theorem vc_Mo_item_at_k3_6_1 (x3 : Int) (x13 : Int) (r_0 : Int) (gx : Int) (k3 : 0 ≤ x3 ∧ x3 ≤ 2000) (k13 : 0 ≤ x13 ∧ x13 ≤ 2000) (f2 : 1 * x13 + ((-1) * x3 + 0) ≤ 0) (f3 : (-1) * x13 + (1 * x3 + 0) ≤ 0) (ex2 : gx = x3) : (-1) * gx + (1 * x3 + 0) ≤ 0 := by
  first
    | omega
    | (have q1 := (hE_0_2_1 (r_0 + 2) (by omega)).2 (by omega)
       have q2 := (hE_0_2_2 (r_0 + 2) (by omega)).2 (by omega)
       omega)
    | (have q1 := (hE_0_2_1 (r_0 + 1) (by omega)).2 (by omega)
       have q2 := (hE_0_2_2 (r_0 + 1) (by omega)).2 (by omega)
       omega)
    | (have q1 := (hE_0_2_1 (r_0 + 2) (by omega)).2 (by omega)
       omega)
    | (have q1 := (hE_0_2_1 (r_0 + 1) (by omega)).2 (by omega)
       omega)
    | (have q1 := (hE_0_2_1 (r_0 + 2) (by omega)).2 (by omega)
       have q2 := (hE_0_2_2 (r_0 + 2) (by omega)).2 (by omega)
       have q3 := (hE_0_2_3 (r_0 + 2) (by omega)).1 (by omega)
       omega)
    | (have q1 := (hE_0_2_1 (r_0 + 2) (by omega)).2 (by omega)
       have q2 := (hE_0_2_2 (r_0 + 2) (by omega)).2 (by omega)
       have q3 := (hE_0_2_3 (r_0 + 2) (by omega)).2 (by omega)
       omega)
set_option maxHeartbeats 4000000 in
theorem vc_Mo_item_at_k3_6_2 (r_0 : Int) (from_0 : Int) (pos_0 : Int) (f12 : 1 * from_0 + ((-1) * pos_0 + 0) ≤ 0) (kz_0_11 : 0 ≤ pos_0 ∧ pos_0 ≤ 2000) (kz_0_15 : 0 ≤ from_0 ∧ from_0 ≤ 2000) : 1 * from_0 + ((-1) * pos_0 + 0) ≤ 0 := by
  first
    | omega
    | (have q1 := (hE_0_2_1 (r_0 + 2) (by omega)).2 (by omega)
       have q2 := (hE_0_2_2 (r_0 + 2) (by omega)).2 (by omega)
       omega)
    | (have q1 := (hE_0_2_1 (r_0 + 1) (by omega)).2 (by omega)
       have q2 := (hE_0_2_2 (r_0 + 1) (by omega)).2 (by omega)
       omega)
    | (have q1 := (hE_0_2_1 (r_0 + 2) (by omega)).2 (by omega)
       omega)
    | (have q1 := (hE_0_2_1 (r_0 + 1) (by omega)).2 (by omega)
       omega)
    | (have q1 := (hE_0_2_1 (r_0 + 2) (by omega)).2 (by omega)
       have q2 := (hE_0_2_2 (r_0 + 2) (by omega)).2 (by omega)
       have q3 := (hE_0_2_3 (r_0 + 2) (by omega)).1 (by omega)
       omega)
    | (have q1 := (hE_0_2_1 (r_0 + 2) (by omega)).2 (by omega)
       have q2 := (hE_0_2_2 (r_0 + 2) (by omega)).2 (by omega)
       have q3 := (hE_0_2_3 (r_0 + 2) (by omega)).2 (by omega)
       omega)
set_option maxHeartbeats 4000000 in
theorem vc_Mo_item_at_k3_6_3 (r_0 : Int) (from_0 : Int) (pos_0 : Int) (kind_0 : Int) (f13 : ((kind_0 = 1) → (pos_0 ≤ (from_0 + 8))) ∧ ((kind_0 = 0) ∨ ((from_0 + 1) ≤ pos_0))) (kz_0_11 : 0 ≤ pos_0 ∧ pos_0 ≤ 2000) (kz_0_12 : 0 ≤ kind_0 ∧ kind_0 ≤ 4) (kz_0_15 : 0 ≤ from_0 ∧ from_0 ≤ 2000) : ((kind_0 = 1) → (pos_0 ≤ (from_0 + 8))) ∧ ((kind_0 = 0) ∨ ((from_0 + 1) ≤ pos_0)) := by
  first
    | omega
    | (have q1 := (hE_0_2_1 (r_0 + 2) (by omega)).2 (by omega)
       have q2 := (hE_0_2_2 (r_0 + 2) (by omega)).2 (by omega)
       omega)
    | (have q1 := (hE_0_2_1 (r_0 + 1) (by omega)).2 (by omega)
       have q2 := (hE_0_2_2 (r_0 + 1) (by omega)).2 (by omega)
       omega)
    | (have q1 := (hE_0_2_1 (r_0 + 2) (by omega)).2 (by omega)
       omega)
    | (have q1 := (hE_0_2_1 (r_0 + 1) (by omega)).2 (by omega)
       omega)
    | (have q1 := (hE_0_2_1 (r_0 + 2) (by omega)).2 (by omega)
       have q2 := (hE_0_2_2 (r_0 + 2) (by omega)).2 (by omega)
       have q3 := (hE_0_2_3 (r_0 + 2) (by omega)).1 (by omega)
       omega)
    | (have q1 := (hE_0_2_1 (r_0 + 2) (by omega)).2 (by omega)
       have q2 := (hE_0_2_2 (r_0 + 2) (by omega)).2 (by omega)
       have q3 := (hE_0_2_3 (r_0 + 2) (by omega)).2 (by omega)
       omega)
set_option maxHeartbeats 4000000 in
theorem vc_Mo_item_at_k3_6_4 (x3 : Int) (x13 : Int) (r_0 : Int) (pos_0 : Int) (gx : Int) (k3 : 0 ≤ x3 ∧ x3 ≤ 2000) (k13 : 0 ≤ x13 ∧ x13 ≤ 2000) (f2 : 1 * x13 + ((-1) * x3 + 0) ≤ 0) (f3 : (-1) * x13 + (1 * x3 + 0) ≤ 0) (f14 : 1 * x13 + ((-1) * pos_0 + 0) ≤ 0) (kz_0_11 : 0 ≤ pos_0 ∧ pos_0 ≤ 2000) (ex2 : gx = x3) : 1 * gx + ((-1) * pos_0 + 0) ≤ 0 := by
  first
    | omega
    | (have q1 := (hE_0_2_1 (r_0 + 2) (by omega)).2 (by omega)
       have q2 := (hE_0_2_2 (r_0 + 2) (by omega)).2 (by omega)
       omega)
    | (have q1 := (hE_0_2_1 (r_0 + 1) (by omega)).2 (by omega)
       have q2 := (hE_0_2_2 (r_0 + 1) (by omega)).2 (by omega)
       omega)
    | (have q1 := (hE_0_2_1 (r_0 + 2) (by omega)).2 (by omega)
       omega)
    | (have q1 := (hE_0_2_1 (r_0 + 1) (by omega)).2 (by omega)
       omega)
    | (have q1 := (hE_0_2_1 (r_0 + 2) (by omega)).2 (by omega)
       have q2 := (hE_0_2_2 (r_0 + 2) (by omega)).2 (by omega)
       have q3 := (hE_0_2_3 (r_0 + 2) (by omega)).1 (by omega)
       omega)
    | (have q1 := (hE_0_2_1 (r_0 + 2) (by omega)).2 (by omega)
       have q2 := (hE_0_2_2 (r_0 + 2) (by omega)).2 (by omega)
       have q3 := (hE_0_2_3 (r_0 + 2) (by omega)).2 (by omega)
       omega)
set_option maxHeartbeats 4000000 in
theorem vc_Mo_item_at_k3_6_5 (x16 : Int) (fault_0 : Int) (r_0 : Int) (pos_0 : Int) (kind_0 : Int) (gx : Int) (k16 : 1 ≤ x16 ∧ x16 ≤ 5) (g1 : x16 = fault_0) (kz_0_8 : 0 ≤ fault_0 ∧ fault_0 ≤ 5) (kz_0_11 : 0 ≤ pos_0 ∧ pos_0 ≤ 2000) (kz_0_12 : 0 ≤ kind_0 ∧ kind_0 ≤ 4) : (1 ≤ fault_0) ∨ ((kind_0 = 0) ∨ ((gx + 1) ≤ pos_0)) := by
  first
    | omega
    | (have q1 := (hE_0_2_1 (r_0 + 2) (by omega)).2 (by omega)
       have q2 := (hE_0_2_2 (r_0 + 2) (by omega)).2 (by omega)
       omega)
    | (have q1 := (hE_0_2_1 (r_0 + 1) (by omega)).2 (by omega)
       have q2 := (hE_0_2_2 (r_0 + 1) (by omega)).2 (by omega)
       omega)
    | (have q1 := (hE_0_2_1 (r_0 + 2) (by omega)).2 (by omega)
       omega)
    | (have q1 := (hE_0_2_1 (r_0 + 1) (by omega)).2 (by omega)
       omega)
    | (have q1 := (hE_0_2_1 (r_0 + 2) (by omega)).2 (by omega)
       have q2 := (hE_0_2_2 (r_0 + 2) (by omega)).2 (by omega)
       have q3 := (hE_0_2_3 (r_0 + 2) (by omega)).1 (by omega)
       omega)
    | (have q1 := (hE_0_2_1 (r_0 + 2) (by omega)).2 (by omega)
       have q2 := (hE_0_2_2 (r_0 + 2) (by omega)).2 (by omega)
       have q3 := (hE_0_2_3 (r_0 + 2) (by omega)).2 (by omega)
       omega)
def o_Mo_item_at_k3_6 : or_T := (64, 18, [(0, (2, 0, 0, [165])), (1, (0, 0, 7, [])), (3, (0, 0, 2000, [])), (6, (0, 0, 2000, [])), (8, (0, 0, 2000, [])), (10, (0, -1, 23, [])), (12, (0, 99, 99, [])), (13, (0, 0, 2000, [])), (14, (0, -1, 48, [])), (15, (0, -2147483648, 2147483647, [])), (16, (0, 1, 5, []))], [(8, [16], [1]), (9, [16, 0], [8]), (23, [13, 3], [0, 1, -1]), (23, [13, 3], [0, -1, 1]), (23, [14, 10], [0, 1, -1]), (23, [14, 10], [0, -1, 1]), (23, [8, 3], [0, 1, -1]), (23, [8, 3], [0, -1, 1]), (23, [6, 3], [0, 1, -1]), (23, [6, 3], [0, -1, 1]), (20, [1, 0], [50, 1, 1, 1005, 1002, 0, 6, 4, 2, 1, 0, 0, 1, 3, 1, 2, 4, 3, 2, 1, 5, 0, 2]), (20, [0], [60, 1, 3, 199, 5, 2, 3, 4]), (20, [0, 0], [30, 0, 1, 1, 15, -1, 1, 11]), (20, [0], [50, 3, 0, 12, 11, 15, 2, 21, 4, 7, 1, 3, 2, 0, 12, 0, 1, 0, 3, 2, 0, 11, 4, 3, 2, 0, 15, 0, 8, 3, 7, 1, 3, 2, 0, 12, 0, 0, 0, 7, 4, 3, 2, 0, 15, 0, 1, 2, 0, 11]), (20, [13, 0], [30, 0, 1, 0, 0, -1, 1, 11]), (20, [0, 13], [50, 3, 0, 8, 12, 11, 3, 7, 0, 2, 0, 1, 2, 0, 8, 3, 7, 1, 3, 2, 0, 12, 0, 0, 0, 6, 4, 2, 1, 1, 0, 1, 2, 0, 11]), (20, [0, 14], [50, 1, 0, 8, 3, 7, 0, 2, 0, 1, 2, 0, 8, 0, 2, 0, 0, 1, 1]), (20, [15, 12], [30, 0, 1, 0, 0, -1, 0, 0]), (20, [15], [30, 0, -1, 0, 0]), (102, [14], [0, 165008, 165009, 165011, 165012, 165013, 165014, 165015]), (23, [13, 3], [0, 1, -1]), (23, [13, 3], [0, -1, 1]), (23, [14, 10], [0, 1, -1]), (23, [14, 10], [0, -1, 1]), (23, [8, 3], [0, 1, -1]), (23, [8, 3], [0, -1, 1]), (23, [6, 3], [0, 1, -1]), (23, [6, 3], [0, -1, 1]), (102, [9], [187072209578355573530071658587684226515959365500928, 165008, 165009, 165011, 165012, 165013, 165014, 165015]), (23, [8, 3], [0, 1, -1]), (23, [8, 3], [0, -1, 1]), (23, [6, 3], [0, 1, -1]), (23, [6, 3], [0, -1, 1]), (102, [6], [0, 165011, 165012, 165013, 165014, 165015]), (23, [6, 3], [0, 1, -1]), (23, [6, 3], [0, -1, 1])], [], [(0, 0, 2000, [])], [(23, [18, 3], [0, 1, -1]), (23, [18, 3], [0, -1, 1]), (20, [0, 0], [30, 0, 1, 1, 15, -1, 1, 11]), (20, [0], [50, 3, 0, 12, 11, 15, 2, 21, 4, 7, 1, 3, 2, 0, 12, 0, 1, 0, 3, 2, 0, 11, 4, 3, 2, 0, 15, 0, 8, 3, 7, 1, 3, 2, 0, 12, 0, 0, 0, 7, 4, 3, 2, 0, 15, 0, 1, 2, 0, 11]), (20, [18, 0], [30, 0, 1, 0, 0, -1, 1, 11]), (20, [0, 18], [50, 3, 0, 8, 12, 11, 3, 7, 0, 2, 0, 1, 2, 0, 8, 3, 7, 1, 3, 2, 0, 12, 0, 0, 0, 6, 4, 2, 1, 1, 0, 1, 2, 0, 11])], [], [])
theorem oo_Mo_item_at_k3_6 {kA : Nat → ClassId} : or_ok PRD kA GG o_Mo_item_at_k3_6 := by
  refine or_mk fun A ta ws vs hD hth hl => ?_
  intro t0 r0 t1 k1 t3 k3 t6 k6 t8 k8 t10 k10 t12 k12 t13 k13 t14 k14 t15 k15 t16 k16 f0 f1 f2 f3 f4 f5 f6 f7 f8 f9 f10 f11 f12 f13 f14 f15 f16 f17 f18 ta1 w1 le1 s1 f20 f21 f22 f23 f24 f25 f26 f27 ta2 w2 le2 s2 f29 f30 f31 f32 ta3 w3 le3 s3 f34 f35
  replace f1 := shm_143 f1
  replace f2 := shm_7 f2
  replace f3 := shm_22 f3
  replace f12 := shm_1397 f12
  replace f13 := shm_1398 f13
  replace f14 := shm_1395 f14
  have g1 : v_iv (n_v vs 16) = w_fi ws (n_v vs 0) 8 := congrArg v_iv f1
  have kz_0_8 := fdq_14 hD hth r0
  have kz_0_11 := fdq_273 hD hth r0
  have kz_0_12 := fdq_186 hD hth r0
  have kz_0_15 := fdq_274 hD hth r0
  obtain ⟨x, ex, hx⟩ := iv_ex (ta := ta) (lo := 0) (hi := 2000) (z := v_iv (n_v vs 3)) (by omega) (by omega) (by omega) (by omega)
  have ex2 : v_iv (Value.int x) = v_iv (n_v vs 3) := ex
  have ex3 : 0 ≤ v_iv (Value.int x) ∧ v_iv (Value.int x) ≤ 2000 := tv_rng hx
  have e_0 : n_v (vs ++ [Value.int x]) 0 = n_v vs 0 := n_v_old (by rw [hl]; decide)
  have e_3 : n_v (vs ++ [Value.int x]) 3 = n_v vs 3 := n_v_old (by rw [hl]; decide)
  have e_18 : n_v (vs ++ [Value.int x]) 18 = Value.int x := n_v_new hl
  have nf0 : fc_1 PRD (23, [18, 3], [0, 1, -1]) ws (vs ++ [Value.int x]) := by
    refine ⟨nf_inA hl rfl, sgq_7 ?_⟩
    · show 1 * v_iv (n_v (vs ++ [Value.int x]) 18) + ((-1) * v_iv (n_v (vs ++ [Value.int x]) 3) + 0) ≤ 0
      simp only [e_3, e_18]
      exact vc_Mo_item_at_k3_6_0 (v_iv (n_v vs 3)) (v_iv (n_v vs 13)) (w_fi ws (n_v vs 0) 5) (v_iv (Value.int x)) k3 k13 f2 f3 ex2
  have nf1 : fc_1 PRD (23, [18, 3], [0, -1, 1]) ws (vs ++ [Value.int x]) := by
    refine ⟨nf_inA hl rfl, sgq_22 ?_⟩
    · show (-1) * v_iv (n_v (vs ++ [Value.int x]) 18) + (1 * v_iv (n_v (vs ++ [Value.int x]) 3) + 0) ≤ 0
      simp only [e_3, e_18]
      exact vc_Mo_item_at_k3_6_1 (v_iv (n_v vs 3)) (v_iv (n_v vs 13)) (w_fi ws (n_v vs 0) 5) (v_iv (Value.int x)) k3 k13 f2 f3 ex2
  have nf2 : fc_1 PRD (20, [0, 0], [30, 0, 1, 1, 15, -1, 1, 11]) ws (vs ++ [Value.int x]) := by
    refine ⟨nf_inA hl rfl, sgq_1397 ?_⟩
    · show 1 * w_fi ws (n_v (vs ++ [Value.int x]) 0) 15 + ((-1) * w_fi ws (n_v (vs ++ [Value.int x]) 0) 11 + 0) ≤ 0
      rw [e_0]
      exact vc_Mo_item_at_k3_6_2 (w_fi ws (n_v vs 0) 5) (w_fi ws (n_v vs 0) 15) (w_fi ws (n_v vs 0) 11) f12 kz_0_11 kz_0_15
  have nf3 : fc_1 PRD (20, [0], [50, 3, 0, 12, 11, 15, 2, 21, 4, 7, 1, 3, 2, 0, 12, 0, 1, 0, 3, 2, 0, 11, 4, 3, 2, 0, 15, 0, 8, 3, 7, 1, 3, 2, 0, 12, 0, 0, 0, 7, 4, 3, 2, 0, 15, 0, 1, 2, 0, 11]) ws (vs ++ [Value.int x]) := by
    refine ⟨nf_inA hl rfl, sgq_1398 ?_⟩
    · show ((w_fi ws (n_v (vs ++ [Value.int x]) 0) 12 = 1) → (w_fi ws (n_v (vs ++ [Value.int x]) 0) 11 ≤ (w_fi ws (n_v (vs ++ [Value.int x]) 0) 15 + 8))) ∧ ((w_fi ws (n_v (vs ++ [Value.int x]) 0) 12 = 0) ∨ ((w_fi ws (n_v (vs ++ [Value.int x]) 0) 15 + 1) ≤ w_fi ws (n_v (vs ++ [Value.int x]) 0) 11))
      rw [e_0]
      exact vc_Mo_item_at_k3_6_3 (w_fi ws (n_v vs 0) 5) (w_fi ws (n_v vs 0) 15) (w_fi ws (n_v vs 0) 11) (w_fi ws (n_v vs 0) 12) f13 kz_0_11 kz_0_12 kz_0_15
  have nf4 : fc_1 PRD (20, [18, 0], [30, 0, 1, 0, 0, -1, 1, 11]) ws (vs ++ [Value.int x]) := by
    refine ⟨nf_inA hl rfl, sgq_1395 ?_⟩
    · show 1 * v_iv (n_v (vs ++ [Value.int x]) 18) + ((-1) * w_fi ws (n_v (vs ++ [Value.int x]) 0) 11 + 0) ≤ 0
      simp only [e_0, e_18]
      exact vc_Mo_item_at_k3_6_4 (v_iv (n_v vs 3)) (v_iv (n_v vs 13)) (w_fi ws (n_v vs 0) 5) (w_fi ws (n_v vs 0) 11) (v_iv (Value.int x)) k3 k13 f2 f3 f14 kz_0_11 ex2
  have nf5 : fc_1 PRD (20, [0, 18], [50, 3, 0, 8, 12, 11, 3, 7, 0, 2, 0, 1, 2, 0, 8, 3, 7, 1, 3, 2, 0, 12, 0, 0, 0, 6, 4, 2, 1, 1, 0, 1, 2, 0, 11]) ws (vs ++ [Value.int x]) := by
    refine ⟨nf_inA hl rfl, sgq_1660 ?_⟩
    · show (1 ≤ w_fi ws (n_v (vs ++ [Value.int x]) 0) 8) ∨ ((w_fi ws (n_v (vs ++ [Value.int x]) 0) 12 = 0) ∨ ((v_iv (n_v (vs ++ [Value.int x]) 18) + 1) ≤ w_fi ws (n_v (vs ++ [Value.int x]) 0) 11))
      simp only [e_0, e_18]
      exact vc_Mo_item_at_k3_6_5 (v_iv (n_v vs 16)) (w_fi ws (n_v vs 0) 8) (w_fi ws (n_v vs 0) 5) (w_fi ws (n_v vs 0) 11) (w_fi ws (n_v vs 0) 12) (v_iv (Value.int x)) k16 g1 kz_0_8 kz_0_11 kz_0_12
  exact ⟨(fun _ h => (by cases h)), [Value.int x], ag_one hx, List.forall_mem_cons.mpr ⟨⟨show (23 : Nat) < 100 from by decide, nf0⟩, List.forall_mem_cons.mpr ⟨⟨show (23 : Nat) < 100 from by decide, nf1⟩, List.forall_mem_cons.mpr ⟨⟨show (20 : Nat) < 100 from by decide, nf2⟩, List.forall_mem_cons.mpr ⟨⟨show (20 : Nat) < 100 from by decide, nf3⟩, List.forall_mem_cons.mpr ⟨⟨show (20 : Nat) < 100 from by decide, nf4⟩, List.forall_mem_cons.mpr ⟨⟨show (20 : Nat) < 100 from by decide, nf5⟩, (fun _ h => (by cases h))⟩⟩⟩⟩⟩⟩, (fun _ h => (by cases h))⟩
set_option maxHeartbeats 4000000 in
theorem vc_Mo_item_at_k3_7_0 (x3 : Int) (x18 : Int) (r_0 : Int) (pos_0 : Int) (k3 : 0 ≤ x3 ∧ x3 ≤ 2000) (k18 : 0 ≤ x18 ∧ x18 ≤ 2000) (f0 : 1 * x18 + ((-1) * x3 + 0) ≤ 0) (f1 : (-1) * x18 + (1 * x3 + 0) ≤ 0) (f14 : 1 * x18 + ((-1) * pos_0 + 0) ≤ 0) (kz_0_11 : 0 ≤ pos_0 ∧ pos_0 ≤ 2000) : 1 * x3 + ((-1) * pos_0 + 0) ≤ 0 := by
  first
    | omega
    | (have q1 := (hE_0_2_1 (r_0 + 2) (by omega)).2 (by omega)
       have q2 := (hE_0_2_2 (r_0 + 2) (by omega)).2 (by omega)
       omega)
    | (have q1 := (hE_0_2_1 (r_0 + 1) (by omega)).2 (by omega)
       have q2 := (hE_0_2_2 (r_0 + 1) (by omega)).2 (by omega)
       omega)
    | (have q1 := (hE_0_2_1 (r_0 + 2) (by omega)).2 (by omega)
       omega)
    | (have q1 := (hE_0_2_1 (r_0 + 1) (by omega)).2 (by omega)
       omega)
    | (have q1 := (hE_0_2_1 (r_0 + 2) (by omega)).2 (by omega)
       have q2 := (hE_0_2_2 (r_0 + 2) (by omega)).2 (by omega)
       have q3 := (hE_0_2_3 (r_0 + 2) (by omega)).1 (by omega)
       omega)
    | (have q1 := (hE_0_2_1 (r_0 + 2) (by omega)).2 (by omega)
       have q2 := (hE_0_2_2 (r_0 + 2) (by omega)).2 (by omega)
       have q3 := (hE_0_2_3 (r_0 + 2) (by omega)).2 (by omega)
       omega)
set_option maxHeartbeats 4000000 in
theorem vc_Mo_item_at_k3_7_1 (x3 : Int) (x18 : Int) (r_0 : Int) (pos_0 : Int) (fault_0 : Int) (k3 : 0 ≤ x3 ∧ x3 ≤ 2000) (k18 : 0 ≤ x18 ∧ x18 ≤ 2000) (f0 : 1 * x18 + ((-1) * x3 + 0) ≤ 0) (f1 : (-1) * x18 + (1 * x3 + 0) ≤ 0) (f14 : 1 * x18 + ((-1) * pos_0 + 0) ≤ 0) (f15 : (1 ≤ fault_0) ∨ ((x18 + 1) ≤ pos_0)) (kz_0_8 : 0 ≤ fault_0 ∧ fault_0 ≤ 5) (kz_0_11 : 0 ≤ pos_0 ∧ pos_0 ≤ 2000) : (1 ≤ fault_0) ∨ ((x3 + 1) ≤ pos_0) := by
  first
    | omega
    | (have q1 := (hE_0_2_1 (r_0 + 2) (by omega)).2 (by omega)
       have q2 := (hE_0_2_2 (r_0 + 2) (by omega)).2 (by omega)
       omega)
    | (have q1 := (hE_0_2_1 (r_0 + 1) (by omega)).2 (by omega)
       have q2 := (hE_0_2_2 (r_0 + 1) (by omega)).2 (by omega)
       omega)
    | (have q1 := (hE_0_2_1 (r_0 + 2) (by omega)).2 (by omega)
       omega)
    | (have q1 := (hE_0_2_1 (r_0 + 1) (by omega)).2 (by omega)
       omega)
    | (have q1 := (hE_0_2_1 (r_0 + 2) (by omega)).2 (by omega)
       have q2 := (hE_0_2_2 (r_0 + 2) (by omega)).2 (by omega)
       have q3 := (hE_0_2_3 (r_0 + 2) (by omega)).1 (by omega)
       omega)
    | (have q1 := (hE_0_2_1 (r_0 + 2) (by omega)).2 (by omega)
       have q2 := (hE_0_2_2 (r_0 + 2) (by omega)).2 (by omega)
       have q3 := (hE_0_2_3 (r_0 + 2) (by omega)).2 (by omega)
       omega)
def o_Mo_item_at_k3_7 : or_T := (94, 19, [(0, (2, 0, 0, [165])), (1, (0, 0, 7, [])), (3, (0, 0, 2000, [])), (6, (0, 0, 2000, [])), (8, (0, 0, 2000, [])), (12, (0, 99, 99, [])), (13, (0, 0, 2000, [])), (15, (0, -2147483648, 2147483647, [])), (18, (0, 0, 2000, []))], [(23, [18, 3], [0, 1, -1]), (23, [18, 3], [0, -1, 1]), (23, [13, 3], [0, 1, -1]), (23, [13, 3], [0, -1, 1]), (23, [8, 3], [0, 1, -1]), (23, [8, 3], [0, -1, 1]), (23, [6, 3], [0, 1, -1]), (23, [6, 3], [0, -1, 1]), (20, [1, 0], [50, 1, 1, 1005, 1002, 0, 6, 4, 2, 1, 0, 0, 1, 3, 1, 2, 4, 3, 2, 1, 5, 0, 2]), (20, [0], [60, 1, 3, 199, 5, 2, 3, 4]), (20, [15, 12], [30, 0, 1, 0, 0, -1, 0, 0]), (20, [15], [30, 0, -1, 0, 0]), (20, [0, 0], [30, 0, 1, 1, 15, -1, 1, 11]), (20, [0], [50, 3, 0, 12, 11, 15, 2, 21, 4, 7, 1, 3, 2, 0, 12, 0, 1, 0, 3, 2, 0, 11, 4, 3, 2, 0, 15, 0, 8, 3, 7, 1, 3, 2, 0, 12, 0, 0, 0, 7, 4, 3, 2, 0, 15, 0, 1, 2, 0, 11]), (20, [18, 0], [30, 0, 1, 0, 0, -1, 1, 11]), (20, [0, 18], [50, 2, 0, 8, 11, 3, 7, 0, 2, 0, 1, 2, 0, 8, 0, 6, 4, 2, 1, 1, 0, 1, 2, 0, 11]), (102, [18], [0, 165008, 165009, 165011, 165012, 165013, 165014, 165015]), (23, [18, 3], [0, 1, -1]), (23, [18, 3], [0, -1, 1]), (23, [13, 3], [0, 1, -1]), (23, [13, 3], [0, -1, 1]), (23, [8, 3], [0, 1, -1]), (23, [8, 3], [0, -1, 1]), (23, [6, 3], [0, 1, -1]), (23, [6, 3], [0, -1, 1]), (102, [14], [0, 165008, 165009, 165011, 165012, 165013, 165014, 165015]), (23, [13, 3], [0, 1, -1]), (23, [13, 3], [0, -1, 1]), (23, [8, 3], [0, 1, -1]), (23, [8, 3], [0, -1, 1]), (23, [6, 3], [0, 1, -1]), (23, [6, 3], [0, -1, 1]), (102, [9], [187072209578355573530071658587684226515959365500928, 165008, 165009, 165011, 165012, 165013, 165014, 165015]), (23, [8, 3], [0, 1, -1]), (23, [8, 3], [0, -1, 1]), (23, [6, 3], [0, 1, -1]), (23, [6, 3], [0, -1, 1]), (102, [6], [0, 165011, 165012, 165013, 165014, 165015]), (23, [6, 3], [0, 1, -1]), (23, [6, 3], [0, -1, 1])], [], [], [(20, [3, 0], [30, 0, 1, 0, 0, -1, 1, 11]), (20, [0, 3], [50, 2, 0, 8, 11, 3, 7, 0, 2, 0, 1, 2, 0, 8, 0, 6, 4, 2, 1, 1, 0, 1, 2, 0, 11])], [], [])
theorem oo_Mo_item_at_k3_7 {kA : Nat → ClassId} : or_ok PRD kA GG o_Mo_item_at_k3_7 := by
  refine or_mk fun A ta ws vs hD hth hl => ?_
  intro t0 r0 t1 k1 t3 k3 t6 k6 t8 k8 t12 k12 t13 k13 t15 k15 t18 k18 f0 f1 f2 f3 f4 f5 f6 f7 f8 f9 f10 f11 f12 f13 f14 f15 ta1 w1 le1 s1 f17 f18 f19 f20 f21 f22 f23 f24 ta2 w2 le2 s2 f26 f27 f28 f29 f30 f31 ta3 w3 le3 s3 f33 f34 f35 f36 ta4 w4 le4 s4 f38 f39
  have kz_0_8 := fdq_14 hD hth r0
  have kz_0_11 := fdq_273 hD hth r0
  have nf0 : fc_1 PRD (20, [3, 0], [30, 0, 1, 0, 0, -1, 1, 11]) ws (vs) := ⟨nf_in hl rfl, sgq_1395 (vc_Mo_item_at_k3_7_0 (v_iv (n_v vs 3)) (v_iv (n_v vs 18)) (w_fi ws (n_v vs 0) 5) (w_fi ws (n_v vs 0) 11) k3 k18 (shm_7 f0) (shm_22 f1) (shm_1395 f14) kz_0_11)⟩
  have nf1 : fc_1 PRD (20, [0, 3], [50, 2, 0, 8, 11, 3, 7, 0, 2, 0, 1, 2, 0, 8, 0, 6, 4, 2, 1, 1, 0, 1, 2, 0, 11]) ws (vs) := ⟨nf_in hl rfl, sgq_1659 (vc_Mo_item_at_k3_7_1 (v_iv (n_v vs 3)) (v_iv (n_v vs 18)) (w_fi ws (n_v vs 0) 5) (w_fi ws (n_v vs 0) 11) (w_fi ws (n_v vs 0) 8) k3 k18 (shm_7 f0) (shm_22 f1) (shm_1395 f14) (shm_1659 f15) kz_0_8 kz_0_11)⟩
  refine ⟨(fun _ h => (by cases h)), [], trivial, ?_, (fun _ h => (by cases h))⟩
  rw [List.append_nil]
  exact List.forall_mem_cons.mpr ⟨⟨show (20 : Nat) < 100 from by decide, nf0⟩, List.forall_mem_cons.mpr ⟨⟨show (20 : Nat) < 100 from by decide, nf1⟩, (fun _ h => (by cases h))⟩⟩
set_option maxHeartbeats 4000000 in
theorem vc_Mo_item_at_k3_8_0 (x3 : Int) (x13 : Int) (r_0 : Int) (gx : Int) (k3 : 0 ≤ x3 ∧ x3 ≤ 2000) (k13 : 0 ≤ x13 ∧ x13 ≤ 2000) (f3 : 1 * x13 + ((-1) * x3 + 0) ≤ 0) (f4 : (-1) * x13 + (1 * x3 + 0) ≤ 0) (ex2 : gx = x3) : 1 * gx + ((-1) * x3 + 0) ≤ 0 := by
  first
    | omega
    | (have q1 := (hE_0_2_1 (r_0 + 2) (by omega)).2 (by omega)
       have q2 := (hE_0_2_2 (r_0 + 2) (by omega)).2 (by omega)
       omega)
    | (have q1 := (hE_0_2_1 (r_0 + 1) (by omega)).2 (by omega)
       have q2 := (hE_0_2_2 (r_0 + 1) (by omega)).2 (by omega)
       omega)
    | (have q1 := (hE_0_2_1 (r_0 + 2) (by omega)).2 (by omega)
       omega)
    | (have q1 := (hE_0_2_1 (r_0 + 1) (by omega)).2 (by omega)
       omega)
    | (have q1 := (hE_0_2_1 (r_0 + 2) (by omega)).2 (by omega)
       have q2 := (hE_0_2_2 (r_0 + 2) (by omega)).2 (by omega)
       have q3 := (hE_0_2_3 (r_0 + 2) (by omega)).1 (by omega)
       omega)
    | (have q1 := (hE_0_2_1 (r_0 + 2) (by omega)).2 (by omega)
       have q2 := (hE_0_2_2 (r_0 + 2) (by omega)).2 (by omega)
       have q3 := (hE_0_2_3 (r_0 + 2) (by omega)).2 (by omega)
       omega)
set_option maxHeartbeats 4000000 in
theorem vc_Mo_item_at_k3_8_1 (x3 : Int) (x13 : Int) (r_0 : Int) (gx : Int) (k3 : 0 ≤ x3 ∧ x3 ≤ 2000) (k13 : 0 ≤ x13 ∧ x13 ≤ 2000) (f3 : 1 * x13 + ((-1) * x3 + 0) ≤ 0) (f4 : (-1) * x13 + (1 * x3 + 0) ≤ 0) (ex2 : gx = x3) : (-1) * gx + (1 * x3 + 0) ≤ 0 := by
  first
    | omega
    | (have q1 := (hE_0_2_1 (r_0 + 2) (by omega)).2 (by omega)
       have q2 := (hE_0_2_2 (r_0 + 2) (by omega)).2 (by omega)
       omega)
    | (have q1 := (hE_0_2_1 (r_0 + 1) (by omega)).2 (by omega)
       have q2 := (hE_0_2_2 (r_0 + 1) (by omega)).2 (by omega)
       omega)
    | (have q1 := (hE_0_2_1 (r_0 + 2) (by omega)).2 (by omega)
       omega)
    | (have q1 := (hE_0_2_1 (r_0 + 1) (by omega)).2 (by omega)
       omega)
    | (have q1 := (hE_0_2_1 (r_0 + 2) (by omega)).2 (by omega)
       have q2 := (hE_0_2_2 (r_0 + 2) (by omega)).2 (by omega)
       have q3 := (hE_0_2_3 (r_0 + 2) (by omega)).1 (by omega)
       omega)
    | (have q1 := (hE_0_2_1 (r_0 + 2) (by omega)).2 (by omega)
       have q2 := (hE_0_2_2 (r_0 + 2) (by omega)).2 (by omega)
       have q3 := (hE_0_2_3 (r_0 + 2) (by omega)).2 (by omega)
       omega)
set_option maxHeartbeats 4000000 in
theorem vc_Mo_item_at_k3_8_2 (r_0 : Int) (from_0 : Int) (pos_0 : Int) (f13 : 1 * from_0 + ((-1) * pos_0 + 0) ≤ 0) (kz_0_11 : 0 ≤ pos_0 ∧ pos_0 ≤ 2000) (kz_0_15 : 0 ≤ from_0 ∧ from_0 ≤ 2000) : 1 * from_0 + ((-1) * pos_0 + 0) ≤ 0 := by
  first
    | omega
    | (have q1 := (hE_0_2_1 (r_0 + 2) (by omega)).2 (by omega)
       have q2 := (hE_0_2_2 (r_0 + 2) (by omega)).2 (by omega)
       omega)
    | (have q1 := (hE_0_2_1 (r_0 + 1) (by omega)).2 (by omega)
       have q2 := (hE_0_2_2 (r_0 + 1) (by omega)).2 (by omega)
       omega)
    | (have q1 := (hE_0_2_1 (r_0 + 2) (by omega)).2 (by omega)
       omega)
    | (have q1 := (hE_0_2_1 (r_0 + 1) (by omega)).2 (by omega)
       omega)
    | (have q1 := (hE_0_2_1 (r_0 + 2) (by omega)).2 (by omega)
       have q2 := (hE_0_2_2 (r_0 + 2) (by omega)).2 (by omega)
       have q3 := (hE_0_2_3 (r_0 + 2) (by omega)).1 (by omega)
       omega)
    | (have q1 := (hE_0_2_1 (r_0 + 2) (by omega)).2 (by omega)
       have q2 := (hE_0_2_2 (r_0 + 2) (by omega)).2 (by omega)
       have q3 := (hE_0_2_3 (r_0 + 2) (by omega)).2 (by omega)
       omega)
set_option maxHeartbeats 4000000 in
theorem vc_Mo_item_at_k3_8_3 (r_0 : Int) (from_0 : Int) (pos_0 : Int) (kind_0 : Int) (f14 : ((kind_0 = 1) → (pos_0 ≤ (from_0 + 8))) ∧ ((kind_0 = 0) ∨ ((from_0 + 1) ≤ pos_0))) (kz_0_11 : 0 ≤ pos_0 ∧ pos_0 ≤ 2000) (kz_0_12 : 0 ≤ kind_0 ∧ kind_0 ≤ 4) (kz_0_15 : 0 ≤ from_0 ∧ from_0 ≤ 2000) : ((kind_0 = 1) → (pos_0 ≤ (from_0 + 8))) ∧ ((kind_0 = 0) ∨ ((from_0 + 1) ≤ pos_0)) := by
  first
    | omega
    | (have q1 := (hE_0_2_1 (r_0 + 2) (by omega)).2 (by omega)
       have q2 := (hE_0_2_2 (r_0 + 2) (by omega)).2 (by omega)
       omega)
    | (have q1 := (hE_0_2_1 (r_0 + 1) (by omega)).2 (by omega)
       have q2 := (hE_0_2_2 (r_0 + 1) (by omega)).2 (by omega)
       omega)
    | (have q1 := (hE_0_2_1 (r_0 + 2) (by omega)).2 (by omega)
       omega)
    | (have q1 := (hE_0_2_1 (r_0 + 1) (by omega)).2 (by omega)
       omega)
    | (have q1 := (hE_0_2_1 (r_0 + 2) (by omega)).2 (by omega)
       have q2 := (hE_0_2_2 (r_0 + 2) (by omega)).2 (by omega)
       have q3 := (hE_0_2_3 (r_0 + 2) (by omega)).1 (by omega)
       omega)
    | (have q1 := (hE_0_2_1 (r_0 + 2) (by omega)).2 (by omega)
       have q2 := (hE_0_2_2 (r_0 + 2) (by omega)).2 (by omega)
       have q3 := (hE_0_2_3 (r_0 + 2) (by omega)).2 (by omega)
       omega)
set_option maxHeartbeats 4000000 in
theorem vc_Mo_item_at_k3_8_4 (x3 : Int) (x13 : Int) (r_0 : Int) (pos_0 : Int) (gx : Int) (k3 : 0 ≤ x3 ∧ x3 ≤ 2000) (k13 : 0 ≤ x13 ∧ x13 ≤ 2000) (f3 : 1 * x13 + ((-1) * x3 + 0) ≤ 0) (f4 : (-1) * x13 + (1 * x3 + 0) ≤ 0) (f15 : 1 * x13 + ((-1) * pos_0 + 0) ≤ 0) (kz_0_11 : 0 ≤ pos_0 ∧ pos_0 ≤ 2000) (ex2 : gx = x3) : 1 * gx + ((-1) * pos_0 + 0) ≤ 0 := by
  first
    | omega
    | (have q1 := (hE_0_2_1 (r_0 + 2) (by omega)).2 (by omega)
       have q2 := (hE_0_2_2 (r_0 + 2) (by omega)).2 (by omega)
       omega)
    | (have q1 := (hE_0_2_1 (r_0 + 1) (by omega)).2 (by omega)
       have q2 := (hE_0_2_2 (r_0 + 1) (by omega)).2 (by omega)
       omega)
    | (have q1 := (hE_0_2_1 (r_0 + 2) (by omega)).2 (by omega)
       omega)
    | (have q1 := (hE_0_2_1 (r_0 + 1) (by omega)).2 (by omega)
       omega)
    | (have q1 := (hE_0_2_1 (r_0 + 2) (by omega)).2 (by omega)
       have q2 := (hE_0_2_2 (r_0 + 2) (by omega)).2 (by omega)
       have q3 := (hE_0_2_3 (r_0 + 2) (by omega)).1 (by omega)
       omega)
    | (have q1 := (hE_0_2_1 (r_0 + 2) (by omega)).2 (by omega)
       have q2 := (hE_0_2_2 (r_0 + 2) (by omega)).2 (by omega)
       have q3 := (hE_0_2_3 (r_0 + 2) (by omega)).2 (by omega)
       omega)
set_option maxHeartbeats 4000000 in
theorem vc_Mo_item_at_k3_8_5 (x3 : Int) (x13 : Int) (x14 : Int) (x16 : Int) (fault_0 : Int) (r_0 : Int) (pos_0 : Int) (kind_0 : Int) (gx : Int) (k3 : 0 ≤ x3 ∧ x3 ≤ 2000) (k13 : 0 ≤ x13 ∧ x13 ≤ 2000) (k14 : (-1) ≤ x14 ∧ x14 ≤ 48) (k16 : 0 ≤ x16 ∧ x16 ≤ 0) (g2 : x16 = fault_0) (f3 : 1 * x13 + ((-1) * x3 + 0) ≤ 0) (f4 : (-1) * x13 + (1 * x3 + 0) ≤ 0) (f15 : 1 * x13 + ((-1) * pos_0 + 0) ≤ 0) (f16 : (1 ≤ fault_0) ∨ ((kind_0 = 0) ∨ ((x13 + 1) ≤ pos_0))) (f17 : (1 ≤ fault_0) ∨ (0 ≤ x14)) (kz_0_8 : 0 ≤ fault_0 ∧ fault_0 ≤ 5) (kz_0_11 : 0 ≤ pos_0 ∧ pos_0 ≤ 2000) (kz_0_12 : 0 ≤ kind_0 ∧ kind_0 ≤ 4) (ex2 : gx = x3) : (1 ≤ fault_0) ∨ ((kind_0 = 0) ∨ ((gx + 1) ≤ pos_0)) := by
  first
    | omega
    | (have q1 := (hE_0_2_1 (r_0 + 2) (by omega)).2 (by omega)
       have q2 := (hE_0_2_2 (r_0 + 2) (by omega)).2 (by omega)
       omega)
    | (have q1 := (hE_0_2_1 (r_0 + 1) (by omega)).2 (by omega)
       have q2 := (hE_0_2_2 (r_0 + 1) (by omega)).2 (by omega)
       omega)
    | (have q1 := (hE_0_2_1 (r_0 + 2) (by omega)).2 (by omega)
       omega)
    | (have q1 := (hE_0_2_1 (r_0 + 1) (by omega)).2 (by omega)
       omega)
    | (have q1 := (hE_0_2_1 (r_0 + 2) (by omega)).2 (by omega)
       have q2 := (hE_0_2_2 (r_0 + 2) (by omega)).2 (by omega)
       have q3 := (hE_0_2_3 (r_0 + 2) (by omega)).1 (by omega)
       omega)
    | (have q1 := (hE_0_2_1 (r_0 + 2) (by omega)).2 (by omega)
       have q2 := (hE_0_2_2 (r_0 + 2) (by omega)).2 (by omega)
       have q3 := (hE_0_2_3 (r_0 + 2) (by omega)).2 (by omega)
       omega)
def o_Mo_item_at_k3_8 : or_T := (64, 18, [(0, (2, 0, 0, [165])), (1, (0, 0, 7, [])), (3, (0, 0, 2000, [])), (6, (0, 0, 2000, [])), (8, (0, 0, 2000, [])), (10, (0, -1, 23, [])), (12, (0, 99, 99, [])), (13, (0, 0, 2000, [])), (14, (0, -1, 48, [])), (15, (0, -2147483648, 0, [])), (16, (0, 0, 0, []))], [(8, [15], [5]), (8, [16], [0]), (9, [16, 0], [8]), (23, [13, 3], [0, 1, -1]), (23, [13, 3], [0, -1, 1]), (23, [14, 10], [0, 1, -1]), (23, [14, 10], [0, -1, 1]), (23, [8, 3], [0, 1, -1]), (23, [8, 3], [0, -1, 1]), (23, [6, 3], [0, 1, -1]), (23, [6, 3], [0, -1, 1]), (20, [1, 0], [50, 1, 1, 1005, 1002, 0, 6, 4, 2, 1, 0, 0, 1, 3, 1, 2, 4, 3, 2, 1, 5, 0, 2]), (20, [0], [60, 1, 3, 199, 5, 2, 3, 4]), (20, [0, 0], [30, 0, 1, 1, 15, -1, 1, 11]), (20, [0], [50, 3, 0, 12, 11, 15, 2, 21, 4, 7, 1, 3, 2, 0, 12, 0, 1, 0, 3, 2, 0, 11, 4, 3, 2, 0, 15, 0, 8, 3, 7, 1, 3, 2, 0, 12, 0, 0, 0, 7, 4, 3, 2, 0, 15, 0, 1, 2, 0, 11]), (20, [13, 0], [30, 0, 1, 0, 0, -1, 1, 11]), (20, [0, 13], [50, 3, 0, 8, 12, 11, 3, 7, 0, 2, 0, 1, 2, 0, 8, 3, 7, 1, 3, 2, 0, 12, 0, 0, 0, 6, 4, 2, 1, 1, 0, 1, 2, 0, 11]), (20, [0, 14], [50, 1, 0, 8, 3, 7, 0, 2, 0, 1, 2, 0, 8, 0, 2, 0, 0, 1, 1]), (20, [15, 12], [30, 0, 1, 0, 0, -1, 0, 0]), (20, [15], [30, 0, -1, 0, 0]), (102, [14], [0, 165008, 165009, 165011, 165012, 165013, 165014, 165015]), (23, [13, 3], [0, 1, -1]), (23, [13, 3], [0, -1, 1]), (23, [14, 10], [0, 1, -1]), (23, [14, 10], [0, -1, 1]), (23, [8, 3], [0, 1, -1]), (23, [8, 3], [0, -1, 1]), (23, [6, 3], [0, 1, -1]), (23, [6, 3], [0, -1, 1]), (102, [9], [187072209578355573530071658587684226515959365500928, 165008, 165009, 165011, 165012, 165013, 165014, 165015]), (23, [8, 3], [0, 1, -1]), (23, [8, 3], [0, -1, 1]), (23, [6, 3], [0, 1, -1]), (23, [6, 3], [0, -1, 1]), (102, [6], [0, 165011, 165012, 165013, 165014, 165015]), (23, [6, 3], [0, 1, -1]), (23, [6, 3], [0, -1, 1])], [], [(0, 0, 2000, [])], [(23, [18, 3], [0, 1, -1]), (23, [18, 3], [0, -1, 1]), (20, [0, 0], [30, 0, 1, 1, 15, -1, 1, 11]), (20, [0], [50, 3, 0, 12, 11, 15, 2, 21, 4, 7, 1, 3, 2, 0, 12, 0, 1, 0, 3, 2, 0, 11, 4, 3, 2, 0, 15, 0, 8, 3, 7, 1, 3, 2, 0, 12, 0, 0, 0, 7, 4, 3, 2, 0, 15, 0, 1, 2, 0, 11]), (20, [18, 0], [30, 0, 1, 0, 0, -1, 1, 11]), (20, [0, 18], [50, 3, 0, 8, 12, 11, 3, 7, 0, 2, 0, 1, 2, 0, 8, 3, 7, 1, 3, 2, 0, 12, 0, 0, 0, 6, 4, 2, 1, 1, 0, 1, 2, 0, 11])], [], [])
theorem oo_Mo_item_at_k3_8 {kA : Nat → ClassId} : or_ok PRD kA GG o_Mo_item_at_k3_8 := by
  refine or_mk fun A ta ws vs hD hth hl => ?_
  intro t0 r0 t1 k1 t3 k3 t6 k6 t8 k8 t10 k10 t12 k12 t13 k13 t14 k14 t15 k15 t16 k16 f0 f1 f2 f3 f4 f5 f6 f7 f8 f9 f10 f11 f12 f13 f14 f15 f16 f17 f18 f19 ta1 w1 le1 s1 f21 f22 f23 f24 f25 f26 f27 f28 ta2 w2 le2 s2 f30 f31 f32 f33 ta3 w3 le3 s3 f35 f36
  replace f2 := shm_143 f2
  replace f3 := shm_7 f3
  replace f4 := shm_22 f4
  replace f13 := shm_1397 f13
  replace f14 := shm_1398 f14
  replace f15 := shm_1395 f15
  replace f16 := shm_1660 f16
  replace f17 := shm_1889 f17
  have g2 : v_iv (n_v vs 16) = w_fi ws (n_v vs 0) 8 := congrArg v_iv f2
  have kz_0_8 := fdq_14 hD hth r0
  have kz_0_11 := fdq_273 hD hth r0
  have kz_0_12 := fdq_186 hD hth r0
  have kz_0_15 := fdq_274 hD hth r0
  obtain ⟨x, ex, hx⟩ := iv_ex (ta := ta) (lo := 0) (hi := 2000) (z := v_iv (n_v vs 3)) (by omega) (by omega) (by omega) (by omega)
  have ex2 : v_iv (Value.int x) = v_iv (n_v vs 3) := ex
  have ex3 : 0 ≤ v_iv (Value.int x) ∧ v_iv (Value.int x) ≤ 2000 := tv_rng hx
  have e_0 : n_v (vs ++ [Value.int x]) 0 = n_v vs 0 := n_v_old (by rw [hl]; decide)
  have e_3 : n_v (vs ++ [Value.int x]) 3 = n_v vs 3 := n_v_old (by rw [hl]; decide)
  have e_18 : n_v (vs ++ [Value.int x]) 18 = Value.int x := n_v_new hl
  have nf0 : fc_1 PRD (23, [18, 3], [0, 1, -1]) ws (vs ++ [Value.int x]) := by
    refine ⟨nf_inA hl rfl, sgq_7 ?_⟩
    · show 1 * v_iv (n_v (vs ++ [Value.int x]) 18) + ((-1) * v_iv (n_v (vs ++ [Value.int x]) 3) + 0) ≤ 0
      simp only [e_3, e_18]
      exact vc_Mo_item_at_k3_8_0 (v_iv (n_v vs 3)) (v_iv (n_v vs 13)) (w_fi ws (n_v vs 0) 5) (v_iv (Value.int x)) k3 k13 f3 f4 ex2
  have nf1 : fc_1 PRD (23, [18, 3], [0, -1, 1]) ws (vs ++ [Value.int x]) := by
    refine ⟨nf_inA hl rfl, sgq_22 ?_⟩
    · show (-1) * v_iv (n_v (vs ++ [Value.int x]) 18) + (1 * v_iv (n_v (vs ++ [Value.int x]) 3) + 0) ≤ 0
      simp only [e_3, e_18]
      exact vc_Mo_item_at_k3_8_1 (v_iv (n_v vs 3)) (v_iv (n_v vs 13)) (w_fi ws (n_v vs 0) 5) (v_iv (Value.int x)) k3 k13 f3 f4 ex2
  have nf2 : fc_1 PRD (20, [0, 0], [30, 0, 1, 1, 15, -1, 1, 11]) ws (vs ++ [Value.int x]) := by
    refine ⟨nf_inA hl rfl, sgq_1397 ?_⟩
    · show 1 * w_fi ws (n_v (vs ++ [Value.int x]) 0) 15 + ((-1) * w_fi ws (n_v (vs ++ [Value.int x]) 0) 11 + 0) ≤ 0
      rw [e_0]
      exact vc_Mo_item_at_k3_8_2 (w_fi ws (n_v vs 0) 5) (w_fi ws (n_v vs 0) 15) (w_fi ws (n_v vs 0) 11) f13 kz_0_11 kz_0_15
  have nf3 : fc_1 PRD (20, [0], [50, 3, 0, 12, 11, 15, 2, 21, 4, 7, 1, 3, 2, 0, 12, 0, 1, 0, 3, 2, 0, 11, 4, 3, 2, 0, 15, 0, 8, 3, 7, 1, 3, 2, 0, 12, 0, 0, 0, 7, 4, 3, 2, 0, 15, 0, 1, 2, 0, 11]) ws (vs ++ [Value.int x]) := by
    refine ⟨nf_inA hl rfl, sgq_1398 ?_⟩
    · show ((w_fi ws (n_v (vs ++ [Value.int x]) 0) 12 = 1) → (w_fi ws (n_v (vs ++ [Value.int x]) 0) 11 ≤ (w_fi ws (n_v (vs ++ [Value.int x]) 0) 15 + 8))) ∧ ((w_fi ws (n_v (vs ++ [Value.int x]) 0) 12 = 0) ∨ ((w_fi ws (n_v (vs ++ [Value.int x]) 0) 15 + 1) ≤ w_fi ws (n_v (vs ++ [Value.int x]) 0) 11))
      rw [e_0]
      exact vc_Mo_item_at_k3_8_3 (w_fi ws (n_v vs 0) 5) (w_fi ws (n_v vs 0) 15) (w_fi ws (n_v vs 0) 11) (w_fi ws (n_v vs 0) 12) f14 kz_0_11 kz_0_12 kz_0_15
  have nf4 : fc_1 PRD (20, [18, 0], [30, 0, 1, 0, 0, -1, 1, 11]) ws (vs ++ [Value.int x]) := by
    refine ⟨nf_inA hl rfl, sgq_1395 ?_⟩
    · show 1 * v_iv (n_v (vs ++ [Value.int x]) 18) + ((-1) * w_fi ws (n_v (vs ++ [Value.int x]) 0) 11 + 0) ≤ 0
      simp only [e_0, e_18]
      exact vc_Mo_item_at_k3_8_4 (v_iv (n_v vs 3)) (v_iv (n_v vs 13)) (w_fi ws (n_v vs 0) 5) (w_fi ws (n_v vs 0) 11) (v_iv (Value.int x)) k3 k13 f3 f4 f15 kz_0_11 ex2
  have nf5 : fc_1 PRD (20, [0, 18], [50, 3, 0, 8, 12, 11, 3, 7, 0, 2, 0, 1, 2, 0, 8, 3, 7, 1, 3, 2, 0, 12, 0, 0, 0, 6, 4, 2, 1, 1, 0, 1, 2, 0, 11]) ws (vs ++ [Value.int x]) := by
    refine ⟨nf_inA hl rfl, sgq_1660 ?_⟩
    · show (1 ≤ w_fi ws (n_v (vs ++ [Value.int x]) 0) 8) ∨ ((w_fi ws (n_v (vs ++ [Value.int x]) 0) 12 = 0) ∨ ((v_iv (n_v (vs ++ [Value.int x]) 18) + 1) ≤ w_fi ws (n_v (vs ++ [Value.int x]) 0) 11))
      simp only [e_0, e_18]
      exact vc_Mo_item_at_k3_8_5 (v_iv (n_v vs 3)) (v_iv (n_v vs 13)) (v_iv (n_v vs 14)) (v_iv (n_v vs 16)) (w_fi ws (n_v vs 0) 8) (w_fi ws (n_v vs 0) 5) (w_fi ws (n_v vs 0) 11) (w_fi ws (n_v vs 0) 12) (v_iv (Value.int x)) k3 k13 k14 k16 g2 f3 f4 f15 f16 f17 kz_0_8 kz_0_11 kz_0_12 ex2
  exact ⟨(fun _ h => (by cases h)), [Value.int x], ag_one hx, List.forall_mem_cons.mpr ⟨⟨show (23 : Nat) < 100 from by decide, nf0⟩, List.forall_mem_cons.mpr ⟨⟨show (23 : Nat) < 100 from by decide, nf1⟩, List.forall_mem_cons.mpr ⟨⟨show (20 : Nat) < 100 from by decide, nf2⟩, List.forall_mem_cons.mpr ⟨⟨show (20 : Nat) < 100 from by decide, nf3⟩, List.forall_mem_cons.mpr ⟨⟨show (20 : Nat) < 100 from by decide, nf4⟩, List.forall_mem_cons.mpr ⟨⟨show (20 : Nat) < 100 from by decide, nf5⟩, (fun _ h => (by cases h))⟩⟩⟩⟩⟩⟩, (fun _ h => (by cases h))⟩
set_option maxHeartbeats 4000000 in
theorem vc_Mo_item_at_k3_9_0 (x3 : Int) (x18 : Int) (r_0 : Int) (pos_0 : Int) (k3 : 0 ≤ x3 ∧ x3 ≤ 2000) (k18 : 0 ≤ x18 ∧ x18 ≤ 2000) (f0 : 1 * x18 + ((-1) * x3 + 0) ≤ 0) (f1 : (-1) * x18 + (1 * x3 + 0) ≤ 0) (f14 : 1 * x18 + ((-1) * pos_0 + 0) ≤ 0) (kz_0_11 : 0 ≤ pos_0 ∧ pos_0 ≤ 2000) : 1 * x3 + ((-1) * pos_0 + 0) ≤ 0 := by
  first
    | omega
    | (have q1 := (hE_0_2_1 (r_0 + 2) (by omega)).2 (by omega)
       have q2 := (hE_0_2_2 (r_0 + 2) (by omega)).2 (by omega)
       omega)
    | (have q1 := (hE_0_2_1 (r_0 + 1) (by omega)).2 (by omega)
       have q2 := (hE_0_2_2 (r_0 + 1) (by omega)).2 (by omega)
       omega)
    | (have q1 := (hE_0_2_1 (r_0 + 2) (by omega)).2 (by omega)
       omega)
    | (have q1 := (hE_0_2_1 (r_0 + 1) (by omega)).2 (by omega)
       omega)
    | (have q1 := (hE_0_2_1 (r_0 + 2) (by omega)).2 (by omega)
       have q2 := (hE_0_2_2 (r_0 + 2) (by omega)).2 (by omega)
       have q3 := (hE_0_2_3 (r_0 + 2) (by omega)).1 (by omega)
       omega)
    | (have q1 := (hE_0_2_1 (r_0 + 2) (by omega)).2 (by omega)
       have q2 := (hE_0_2_2 (r_0 + 2) (by omega)).2 (by omega)
       have q3 := (hE_0_2_3 (r_0 + 2) (by omega)).2 (by omega)
       omega)
set_option maxHeartbeats 4000000 in
theorem vc_Mo_item_at_k3_9_1 (x3 : Int) (x18 : Int) (r_0 : Int) (pos_0 : Int) (fault_0 : Int) (k3 : 0 ≤ x3 ∧ x3 ≤ 2000) (k18 : 0 ≤ x18 ∧ x18 ≤ 2000) (f0 : 1 * x18 + ((-1) * x3 + 0) ≤ 0) (f1 : (-1) * x18 + (1 * x3 + 0) ≤ 0) (f14 : 1 * x18 + ((-1) * pos_0 + 0) ≤ 0) (f15 : (1 ≤ fault_0) ∨ ((x18 + 1) ≤ pos_0)) (kz_0_8 : 0 ≤ fault_0 ∧ fault_0 ≤ 5) (kz_0_11 : 0 ≤ pos_0 ∧ pos_0 ≤ 2000) : (1 ≤ fault_0) ∨ ((x3 + 1) ≤ pos_0) := by
  first
    | omega
    | (have q1 := (hE_0_2_1 (r_0 + 2) (by omega)).2 (by omega)
       have q2 := (hE_0_2_2 (r_0 + 2) (by omega)).2 (by omega)
       omega)
    | (have q1 := (hE_0_2_1 (r_0 + 1) (by omega)).2 (by omega)
       have q2 := (hE_0_2_2 (r_0 + 1) (by omega)).2 (by omega)
       omega)
    | (have q1 := (hE_0_2_1 (r_0 + 2) (by omega)).2 (by omega)
       omega)
    | (have q1 := (hE_0_2_1 (r_0 + 1) (by omega)).2 (by omega)
       omega)
    | (have q1 := (hE_0_2_1 (r_0 + 2) (by omega)).2 (by omega)
       have q2 := (hE_0_2_2 (r_0 + 2) (by omega)).2 (by omega)
       have q3 := (hE_0_2_3 (r_0 + 2) (by omega)).1 (by omega)
       omega)
    | (have q1 := (hE_0_2_1 (r_0 + 2) (by omega)).2 (by omega)
       have q2 := (hE_0_2_2 (r_0 + 2) (by omega)).2 (by omega)
       have q3 := (hE_0_2_3 (r_0 + 2) (by omega)).2 (by omega)
       omega)
def o_Mo_item_at_k3_9 : or_T := (94, 19, [(0, (2, 0, 0, [165])), (1, (0, 0, 7, [])), (3, (0, 0, 2000, [])), (6, (0, 0, 2000, [])), (8, (0, 0, 2000, [])), (12, (0, 99, 99, [])), (13, (0, 0, 2000, [])), (15, (0, -2147483648, 0, [])), (18, (0, 0, 2000, []))], [(23, [18, 3], [0, 1, -1]), (23, [18, 3], [0, -1, 1]), (23, [13, 3], [0, 1, -1]), (23, [13, 3], [0, -1, 1]), (23, [8, 3], [0, 1, -1]), (23, [8, 3], [0, -1, 1]), (23, [6, 3], [0, 1, -1]), (23, [6, 3], [0, -1, 1]), (20, [1, 0], [50, 1, 1, 1005, 1002, 0, 6, 4, 2, 1, 0, 0, 1, 3, 1, 2, 4, 3, 2, 1, 5, 0, 2]), (20, [0], [60, 1, 3, 199, 5, 2, 3, 4]), (20, [15, 12], [30, 0, 1, 0, 0, -1, 0, 0]), (20, [15], [30, 0, -1, 0, 0]), (20, [0, 0], [30, 0, 1, 1, 15, -1, 1, 11]), (20, [0], [50, 3, 0, 12, 11, 15, 2, 21, 4, 7, 1, 3, 2, 0, 12, 0, 1, 0, 3, 2, 0, 11, 4, 3, 2, 0, 15, 0, 8, 3, 7, 1, 3, 2, 0, 12, 0, 0, 0, 7, 4, 3, 2, 0, 15, 0, 1, 2, 0, 11]), (20, [18, 0], [30, 0, 1, 0, 0, -1, 1, 11]), (20, [0, 18], [50, 2, 0, 8, 11, 3, 7, 0, 2, 0, 1, 2, 0, 8, 0, 6, 4, 2, 1, 1, 0, 1, 2, 0, 11]), (102, [18], [0, 165008, 165009, 165011, 165012, 165013, 165014, 165015]), (23, [18, 3], [0, 1, -1]), (23, [18, 3], [0, -1, 1]), (8, [15], [5]), (23, [13, 3], [0, 1, -1]), (23, [13, 3], [0, -1, 1]), (23, [8, 3], [0, 1, -1]), (23, [8, 3], [0, -1, 1]), (23, [6, 3], [0, 1, -1]), (23, [6, 3], [0, -1, 1]), (102, [14], [0, 165008, 165009, 165011, 165012, 165013, 165014, 165015]), (23, [13, 3], [0, 1, -1]), (23, [13, 3], [0, -1, 1]), (23, [8, 3], [0, 1, -1]), (23, [8, 3], [0, -1, 1]), (23, [6, 3], [0, 1, -1]), (23, [6, 3], [0, -1, 1]), (102, [9], [187072209578355573530071658587684226515959365500928, 165008, 165009, 165011, 165012, 165013, 165014, 165015]), (23, [8, 3], [0, 1, -1]), (23, [8, 3], [0, -1, 1]), (23, [6, 3], [0, 1, -1]), (23, [6, 3], [0, -1, 1]), (102, [6], [0, 165011, 165012, 165013, 165014, 165015]), (23, [6, 3], [0, 1, -1]), (23, [6, 3], [0, -1, 1])], [], [], [(20, [3, 0], [30, 0, 1, 0, 0, -1, 1, 11]), (20, [0, 3], [50, 2, 0, 8, 11, 3, 7, 0, 2, 0, 1, 2, 0, 8, 0, 6, 4, 2, 1, 1, 0, 1, 2, 0, 11])], [], [])
theorem oo_Mo_item_at_k3_9 {kA : Nat → ClassId} : or_ok PRD kA GG o_Mo_item_at_k3_9 := by
  refine or_mk fun A ta ws vs hD hth hl => ?_
  intro t0 r0 t1 k1 t3 k3 t6 k6 t8 k8 t12 k12 t13 k13 t15 k15 t18 k18 f0 f1 f2 f3 f4 f5 f6 f7 f8 f9 f10 f11 f12 f13 f14 f15 ta1 w1 le1 s1 f17 f18 f19 f20 f21 f22 f23 f24 f25 ta2 w2 le2 s2 f27 f28 f29 f30 f31 f32 ta3 w3 le3 s3 f34 f35 f36 f37 ta4 w4 le4 s4 f39 f40
  have kz_0_8 := fdq_14 hD hth r0
  have kz_0_11 := fdq_273 hD hth r0
  have nf0 : fc_1 PRD (20, [3, 0], [30, 0, 1, 0, 0, -1, 1, 11]) ws (vs) := ⟨nf_in hl rfl, sgq_1395 (vc_Mo_item_at_k3_9_0 (v_iv (n_v vs 3)) (v_iv (n_v vs 18)) (w_fi ws (n_v vs 0) 5) (w_fi ws (n_v vs 0) 11) k3 k18 (shm_7 f0) (shm_22 f1) (shm_1395 f14) kz_0_11)⟩
  have nf1 : fc_1 PRD (20, [0, 3], [50, 2, 0, 8, 11, 3, 7, 0, 2, 0, 1, 2, 0, 8, 0, 6, 4, 2, 1, 1, 0, 1, 2, 0, 11]) ws (vs) := ⟨nf_in hl rfl, sgq_1659 (vc_Mo_item_at_k3_9_1 (v_iv (n_v vs 3)) (v_iv (n_v vs 18)) (w_fi ws (n_v vs 0) 5) (w_fi ws (n_v vs 0) 11) (w_fi ws (n_v vs 0) 8) k3 k18 (shm_7 f0) (shm_22 f1) (shm_1395 f14) (shm_1659 f15) kz_0_8 kz_0_11)⟩
  refine ⟨(fun _ h => (by cases h)), [], trivial, ?_, (fun _ h => (by cases h))⟩
  rw [List.append_nil]
  exact List.forall_mem_cons.mpr ⟨⟨show (20 : Nat) < 100 from by decide, nf0⟩, List.forall_mem_cons.mpr ⟨⟨show (20 : Nat) < 100 from by decide, nf1⟩, (fun _ h => (by cases h))⟩⟩
set_option maxHeartbeats 4000000 in
theorem vc_Mo_item_at_k3_10_r0 (x10 : Int) (x14 : Int) (x16 : Int) (r_0 : Int) (fault_0 : Int) (k10 : (-1) ≤ x10 ∧ x10 ≤ 23) (k14 : (-1) ≤ x14 ∧ x14 ≤ 48) (k16 : 0 ≤ x16 ∧ x16 ≤ 0) (g5 : x16 = fault_0) (f8 : 1 * x14 + ((-1) * x10 + 0) ≤ 0) (f9 : (-1) * x14 + (1 * x10 + 0) ≤ 0) (f20 : (1 ≤ fault_0) ∨ (0 ≤ x14)) (kz_0_8 : 0 ≤ fault_0 ∧ fault_0 ≤ 5) : 0 ≤ x10 ∧ x10 ≤ 23 := by
  first
    | omega
    | (have q1 := (hE_0_2_1 (r_0 + 2) (by omega)).2 (by omega)
       have q2 := (hE_0_2_2 (r_0 + 2) (by omega)).2 (by omega)
       omega)
    | (have q1 := (hE_0_2_1 (r_0 + 1) (by omega)).2 (by omega)
       have q2 := (hE_0_2_2 (r_0 + 1) (by omega)).2 (by omega)
       omega)
    | (have q1 := (hE_0_2_1 (r_0 + 2) (by omega)).2 (by omega)
       omega)
    | (have q1 := (hE_0_2_1 (r_0 + 1) (by omega)).2 (by omega)
       omega)
    | (have q1 := (hE_0_2_1 (r_0 + 2) (by omega)).2 (by omega)
       have q2 := (hE_0_2_2 (r_0 + 2) (by omega)).2 (by omega)
       have q3 := (hE_0_2_3 (r_0 + 2) (by omega)).1 (by omega)
       omega)
    | (have q1 := (hE_0_2_1 (r_0 + 2) (by omega)).2 (by omega)
       have q2 := (hE_0_2_2 (r_0 + 2) (by omega)).2 (by omega)
       have q3 := (hE_0_2_3 (r_0 + 2) (by omega)).2 (by omega)
       omega)
def o_Mo_item_at_k3_10 : or_T := (57, 21, [(0, (2, 0, 0, [165])), (1, (0, 0, 7, [])), (3, (0, 0, 2000, [])), (6, (0, 0, 2000, [])), (8, (0, 0, 2000, [])), (10, (0, -1, 23, [])), (12, (0, 99, 99, [])), (13, (0, 0, 2000, [])), (14, (0, -1, 48, [])), (15, (0, 1, 2147483647, [])), (16, (0, 0, 0, [])), (17, (2, 0, 0, [167])), (18, (0, 0, 66297, [])), (19, (0, 219, 219, [])), (20, (0, 219, 66516, []))], [(1, [20, 18, 19], []), (9, [18, 0], [5]), (9, [17, 0], [2]), (8, [15], [4]), (8, [16], [0]), (9, [16, 0], [8]), (23, [13, 3], [0, 1, -1]), (23, [13, 3], [0, -1, 1]), (23, [14, 10], [0, 1, -1]), (23, [14, 10], [0, -1, 1]), (23, [8, 3], [0, 1, -1]), (23, [8, 3], [0, -1, 1]), (23, [6, 3], [0, 1, -1]), (23, [6, 3], [0, -1, 1]), (20, [1, 0], [50, 1, 1, 1005, 1002, 0, 6, 4, 2, 1, 0, 0, 1, 3, 1, 2, 4, 3, 2, 1, 5, 0, 2]), (20, [0], [60, 1, 3, 199, 5, 2, 3, 4]), (20, [0, 0], [30, 0, 1, 1, 15, -1, 1, 11]), (20, [0], [50, 3, 0, 12, 11, 15, 2, 21, 4, 7, 1, 3, 2, 0, 12, 0, 1, 0, 3, 2, 0, 11, 4, 3, 2, 0, 15, 0, 8, 3, 7, 1, 3, 2, 0, 12, 0, 0, 0, 7, 4, 3, 2, 0, 15, 0, 1, 2, 0, 11]), (20, [13, 0], [30, 0, 1, 0, 0, -1, 1, 11]), (20, [0, 13], [50, 3, 0, 8, 12, 11, 3, 7, 0, 2, 0, 1, 2, 0, 8, 3, 7, 1, 3, 2, 0, 12, 0, 0, 0, 6, 4, 2, 1, 1, 0, 1, 2, 0, 11]), (20, [0, 14], [50, 1, 0, 8, 3, 7, 0, 2, 0, 1, 2, 0, 8, 0, 2, 0, 0, 1, 1]), (20, [15, 12], [30, 0, 1, 0, 0, -1, 0, 0]), (20, [15], [30, 0, -1, 0, 0]), (102, [14], [0, 165008, 165009, 165011, 165012, 165013, 165014, 165015]), (23, [13, 3], [0, 1, -1]), (23, [13, 3], [0, -1, 1]), (23, [14, 10], [0, 1, -1]), (23, [14, 10], [0, -1, 1]), (23, [8, 3], [0, 1, -1]), (23, [8, 3], [0, -1, 1]), (23, [6, 3], [0, 1, -1]), (23, [6, 3], [0, -1, 1]), (102, [9], [187072209578355573530071658587684226515959365500928, 165008, 165009, 165011, 165012, 165013, 165014, 165015]), (23, [8, 3], [0, 1, -1]), (23, [8, 3], [0, -1, 1]), (23, [6, 3], [0, 1, -1]), (23, [6, 3], [0, -1, 1]), (102, [6], [0, 165011, 165012, 165013, 165014, 165015]), (23, [6, 3], [0, 1, -1]), (23, [6, 3], [0, -1, 1])], [(10, (0, 0, 23, []))], [], [], [], [(20, 18, 219, 219)])
theorem oo_Mo_item_at_k3_10 {kA : Nat → ClassId} : or_ok PRD kA GG o_Mo_item_at_k3_10 := by
  refine or_mk fun A ta ws vs hD hth hl => ?_
  intro t0 r0 t1 k1 t3 k3 t6 k6 t8 k8 t10 k10 t12 k12 t13 k13 t14 k14 t15 k15 t16 k16 t17 r17 t18 k18 t19 k19 t20 k20 d0 f0 f1 f2 f3 f4 f5 f6 f7 f8 f9 f10 f11 f12 f13 f14 f15 f16 f17 f18 f19 f20 f21 f22 ta1 w1 le1 s1 f24 f25 f26 f27 f28 f29 f30 f31 ta2 w2 le2 s2 f33 f34 f35 f36 ta3 w3 le3 s3 f38 f39
  replace f5 := shm_143 f5
  have g5 : v_iv (n_v vs 16) = w_fi ws (n_v vs 0) 8 := congrArg v_iv f5
  have kz_0_8 := fdq_14 hD hth r0
  have hrf0 : 0 ≤ v_iv (n_v vs 10) ∧ v_iv (n_v vs 10) ≤ 23 := vc_Mo_item_at_k3_10_r0 (v_iv (n_v vs 10)) (v_iv (n_v vs 14)) (v_iv (n_v vs 16)) (w_fi ws (n_v vs 0) 5) (w_fi ws (n_v vs 0) 8) k10 k14 k16 g5 (shm_7 f8) (shm_22 f9) (shm_1889 f20) kz_0_8
  have rf10 : tv_ok ta (0, 0, 23, []) (n_v vs 10) := tv_in t10 (by first | omega | grind) (by first | omega | grind)
  refine ⟨List.forall_mem_cons.mpr ⟨rf10, (fun _ h => (by cases h))⟩, [], trivial, ?_, (fun _ h => (by cases h))⟩
  rw [List.append_nil]
  exact (fun _ h => (by cases h))
set_option maxHeartbeats 4000000 in
theorem vc_Mo_item_at_k3_11_r0 (x12 : Int) (x15 : Int) (r_0 : Int) (k12 : 99 ≤ x12 ∧ x12 ≤ 99) (k15 : 1 ≤ x15 ∧ x15 ≤ 2147483647) (f22 : 1 * x15 + ((-1) * x12 + 0) ≤ 0) : 1 ≤ x15 ∧ x15 ≤ 99 := by
  first
    | omega
    | (have q1 := (hE_0_2_1 (r_0 + 2) (by omega)).2 (by omega)
       have q2 := (hE_0_2_2 (r_0 + 2) (by omega)).2 (by omega)
       omega)
    | (have q1 := (hE_0_2_1 (r_0 + 1) (by omega)).2 (by omega)
       have q2 := (hE_0_2_2 (r_0 + 1) (by omega)).2 (by omega)
       omega)
    | (have q1 := (hE_0_2_1 (r_0 + 2) (by omega)).2 (by omega)
       omega)
    | (have q1 := (hE_0_2_1 (r_0 + 1) (by omega)).2 (by omega)
       omega)
    | (have q1 := (hE_0_2_1 (r_0 + 2) (by omega)).2 (by omega)
       have q2 := (hE_0_2_2 (r_0 + 2) (by omega)).2 (by omega)
       have q3 := (hE_0_2_3 (r_0 + 2) (by omega)).1 (by omega)
       omega)
    | (have q1 := (hE_0_2_1 (r_0 + 2) (by omega)).2 (by omega)
       have q2 := (hE_0_2_2 (r_0 + 2) (by omega)).2 (by omega)
       have q3 := (hE_0_2_3 (r_0 + 2) (by omega)).2 (by omega)
       omega)
def o_Mo_item_at_k3_11 : or_T := (60, 22, [(0, (2, 0, 0, [165])), (1, (0, 0, 7, [])), (3, (0, 0, 2000, [])), (6, (0, 0, 2000, [])), (8, (0, 0, 2000, [])), (10, (0, 0, 23, [])), (12, (0, 99, 99, [])), (13, (0, 0, 2000, [])), (14, (0, -1, 48, [])), (15, (0, 1, 2147483647, [])), (16, (0, 0, 0, [])), (17, (2, 0, 0, [167])), (18, (0, 0, 66297, [])), (19, (0, 219, 219, [])), (20, (0, 219, 66516, [])), (21, (0, 219, 66539, []))], [(1, [21, 20, 10], []), (1, [20, 18, 19], []), (9, [18, 0], [5]), (9, [17, 0], [2]), (8, [15], [4]), (8, [16], [0]), (9, [16, 0], [8]), (23, [13, 3], [0, 1, -1]), (23, [13, 3], [0, -1, 1]), (23, [14, 10], [0, 1, -1]), (23, [14, 10], [0, -1, 1]), (23, [8, 3], [0, 1, -1]), (23, [8, 3], [0, -1, 1]), (23, [6, 3], [0, 1, -1]), (23, [6, 3], [0, -1, 1]), (20, [1, 0], [50, 1, 1, 1005, 1002, 0, 6, 4, 2, 1, 0, 0, 1, 3, 1, 2, 4, 3, 2, 1, 5, 0, 2]), (20, [0], [60, 1, 3, 199, 5, 2, 3, 4]), (20, [0, 0], [30, 0, 1, 1, 15, -1, 1, 11]), (20, [0], [50, 3, 0, 12, 11, 15, 2, 21, 4, 7, 1, 3, 2, 0, 12, 0, 1, 0, 3, 2, 0, 11, 4, 3, 2, 0, 15, 0, 8, 3, 7, 1, 3, 2, 0, 12, 0, 0, 0, 7, 4, 3, 2, 0, 15, 0, 1, 2, 0, 11]), (20, [13, 0], [30, 0, 1, 0, 0, -1, 1, 11]), (20, [0, 13], [50, 3, 0, 8, 12, 11, 3, 7, 0, 2, 0, 1, 2, 0, 8, 3, 7, 1, 3, 2, 0, 12, 0, 0, 0, 6, 4, 2, 1, 1, 0, 1, 2, 0, 11]), (20, [0, 14], [50, 1, 0, 8, 3, 7, 0, 2, 0, 1, 2, 0, 8, 0, 2, 0, 0, 1, 1]), (20, [15, 12], [30, 0, 1, 0, 0, -1, 0, 0]), (20, [15], [30, 0, -1, 0, 0]), (102, [14], [0, 165008, 165009, 165011, 165012, 165013, 165014, 165015]), (23, [13, 3], [0, 1, -1]), (23, [13, 3], [0, -1, 1]), (23, [14, 10], [0, 1, -1]), (23, [14, 10], [0, -1, 1]), (23, [8, 3], [0, 1, -1]), (23, [8, 3], [0, -1, 1]), (23, [6, 3], [0, 1, -1]), (23, [6, 3], [0, -1, 1]), (102, [9], [187072209578355573530071658587684226515959365500928, 165008, 165009, 165011, 165012, 165013, 165014, 165015]), (23, [8, 3], [0, 1, -1]), (23, [8, 3], [0, -1, 1]), (23, [6, 3], [0, 1, -1]), (23, [6, 3], [0, -1, 1]), (102, [6], [0, 165011, 165012, 165013, 165014, 165015]), (23, [6, 3], [0, 1, -1]), (23, [6, 3], [0, -1, 1])], [(15, (0, 1, 99, []))], [], [], [], [(21, 10, 219, 66516), (21, 20, 0, 23), (21, 18, 219, 242), (20, 18, 219, 219)])
theorem oo_Mo_item_at_k3_11 {kA : Nat → ClassId} : or_ok PRD kA GG o_Mo_item_at_k3_11 := by
  refine or_mk fun A ta ws vs hD hth hl => ?_
  intro t0 r0 t1 k1 t3 k3 t6 k6 t8 k8 t10 k10 t12 k12 t13 k13 t14 k14 t15 k15 t16 k16 t17 r17 t18 k18 t19 k19 t20 k20 t21 k21 d0 d1 d2 d3 f0 f1 f2 f3 f4 f5 f6 f7 f8 f9 f10 f11 f12 f13 f14 f15 f16 f17 f18 f19 f20 f21 f22 f23 ta1 w1 le1 s1 f25 f26 f27 f28 f29 f30 f31 f32 ta2 w2 le2 s2 f34 f35 f36 f37 ta3 w3 le3 s3 f39 f40
  have hrf0 : 1 ≤ v_iv (n_v vs 15) ∧ v_iv (n_v vs 15) ≤ 99 := vc_Mo_item_at_k3_11_r0 (v_iv (n_v vs 12)) (v_iv (n_v vs 15)) (w_fi ws (n_v vs 0) 5) k12 k15 (shm_219 f22)
  have rf15 : tv_ok ta (0, 1, 99, []) (n_v vs 15) := tv_in t15 (by first | omega | grind) (by first | omega | grind)
  refine ⟨List.forall_mem_cons.mpr ⟨rf15, (fun _ h => (by cases h))⟩, [], trivial, ?_, (fun _ h => (by cases h))⟩
  rw [List.append_nil]
  exact (fun _ h => (by cases h))
set_option maxHeartbeats 4000000 in
theorem vc_Mo_item_at_k3_12_0 (x1 : Int) (x10 : Int) (x14 : Int) (x15 : Int) (x18 : Int) (x20 : Int) (x21 : Int) (from_0 : Int) (pos_0 : Int) (kind_0 : Int) (fault_0 : Int) (r_1 : Int) (fault_1 : Int) (all_1 : Int → Int) (now_1 : Int → Int) (latest_1 : Int → Int) (from_1 : Int) (pos_1 : Int) (kind_1 : Int) (r_0 : Int) (all_0 : Int → Int) (now_0 : Int → Int) (latest_0 : Int → Int) (k1 : 0 ≤ x1 ∧ x1 ≤ 7) (k10 : 0 ≤ x10 ∧ x10 ≤ 23) (k14 : (-1) ≤ x14 ∧ x14 ≤ 48) (k15 : 1 ≤ x15 ∧ x15 ≤ 99) (k18 : 0 ≤ x18 ∧ x18 ≤ 66297) (k20 : 219 ≤ x20 ∧ x20 ≤ 66516) (k21 : 219 ≤ x21 ∧ x21 ≤ 66539) (d0 : x10 + 219 ≤ x21 ∧ x21 ≤ x10 + 66516) (d3 : x18 + 219 ≤ x20 ∧ x20 ≤ x18 + 219) (f2 : 1 * x14 + ((-1) * x10 + 0) ≤ 0) (f3 : (-1) * x14 + (1 * x10 + 0) ≤ 0) (f16 : x21 = x20 + x10) (g18 : x18 = r_1) (f31 : (x1 + 1) ≤ all_1 ((r_1 + 2))) (fe_0_5_1 : r_0 = r_1) (fe_0_8_1 : fault_0 = fault_1) (fe_0_11_1 : pos_0 = pos_1) (fe_0_12_1 : kind_0 = kind_1) (fe_0_15_1 : from_0 = from_1) (hE_0_2_1 : ∀ j : Int, 0 ≤ j → (j = x21 → all_0 j = x15) ∧ (j ≠ x21 → all_0 j = all_1 j)) (hE_0_3_1 : ∀ j : Int, now_0 j = now_1 j) (hE_0_4_1 : ∀ j : Int, latest_0 j = latest_1 j) (kz_0_8 : 0 ≤ fault_0 ∧ fault_0 ≤ 5) (kz_0_11 : 0 ≤ pos_0 ∧ pos_0 ≤ 2000) (kz_0_12 : 0 ≤ kind_0 ∧ kind_0 ≤ 4) (kz_0_15 : 0 ≤ from_0 ∧ from_0 ≤ 2000) : (x1 + 1) ≤ all_0 ((r_0 + 2)) := by
  subst fe_0_5_1
  subst fe_0_8_1
  subst fe_0_11_1
  subst fe_0_12_1
  subst fe_0_15_1
  have e_hE_0_3_1 := funext hE_0_3_1; subst e_hE_0_3_1
  have e_hE_0_4_1 := funext hE_0_4_1; subst e_hE_0_4_1
  first
    | omega
    | (have q1 := (hE_0_2_1 (r_0 + 2) (by omega)).2 (by omega)
       have q2 := (hE_0_2_2 (r_0 + 2) (by omega)).2 (by omega)
       omega)
    | (have q1 := (hE_0_2_1 (r_0 + 1) (by omega)).2 (by omega)
       have q2 := (hE_0_2_2 (r_0 + 1) (by omega)).2 (by omega)
       omega)
    | (have q1 := (hE_0_2_1 (r_0 + 2) (by omega)).2 (by omega)
       omega)
    | (have q1 := (hE_0_2_1 (r_0 + 1) (by omega)).2 (by omega)
       omega)
    | (have q1 := (hE_0_2_1 (r_0 + 2) (by omega)).2 (by omega)
       have q2 := (hE_0_2_2 (r_0 + 2) (by omega)).2 (by omega)
       have q3 := (hE_0_2_3 (r_0 + 2) (by omega)).1 (by omega)
       omega)
    | (have q1 := (hE_0_2_1 (r_0 + 2) (by omega)).2 (by omega)
       have q2 := (hE_0_2_2 (r_0 + 2) (by omega)).2 (by omega)
       have q3 := (hE_0_2_3 (r_0 + 2) (by omega)).2 (by omega)
       omega)
set_option maxHeartbeats 4000000 in
theorem vc_Mo_item_at_k3_12_1 (x10 : Int) (x14 : Int) (x15 : Int) (x18 : Int) (x20 : Int) (x21 : Int) (from_0 : Int) (pos_0 : Int) (kind_0 : Int) (fault_0 : Int) (r_1 : Int) (fault_1 : Int) (all_1 : Int → Int) (now_1 : Int → Int) (latest_1 : Int → Int) (from_1 : Int) (pos_1 : Int) (kind_1 : Int) (r_0 : Int) (all_0 : Int → Int) (now_0 : Int → Int) (latest_0 : Int → Int) (k10 : 0 ≤ x10 ∧ x10 ≤ 23) (k14 : (-1) ≤ x14 ∧ x14 ≤ 48) (k15 : 1 ≤ x15 ∧ x15 ≤ 99) (k18 : 0 ≤ x18 ∧ x18 ≤ 66297) (k20 : 219 ≤ x20 ∧ x20 ≤ 66516) (k21 : 219 ≤ x21 ∧ x21 ≤ 66539) (d3 : x18 + 219 ≤ x20 ∧ x20 ≤ x18 + 219) (f2 : 1 * x14 + ((-1) * x10 + 0) ≤ 0) (f3 : (-1) * x14 + (1 * x10 + 0) ≤ 0) (f16 : x21 = x20 + x10) (g18 : x18 = r_1) (f32 : RWS (r_1) (all_1) (now_1) (latest_1)) (fe_0_5_1 : r_0 = r_1) (fe_0_8_1 : fault_0 = fault_1) (fe_0_11_1 : pos_0 = pos_1) (fe_0_12_1 : kind_0 = kind_1) (fe_0_15_1 : from_0 = from_1) (hE_0_2_1 : ∀ j : Int, 0 ≤ j → (j = x21 → all_0 j = x15) ∧ (j ≠ x21 → all_0 j = all_1 j)) (hE_0_3_1 : ∀ j : Int, now_0 j = now_1 j) (hE_0_4_1 : ∀ j : Int, latest_0 j = latest_1 j) (kz_0_8 : 0 ≤ fault_0 ∧ fault_0 ≤ 5) (kz_0_11 : 0 ≤ pos_0 ∧ pos_0 ≤ 2000) (kz_0_12 : 0 ≤ kind_0 ∧ kind_0 ≤ 4) (kz_0_15 : 0 ≤ from_0 ∧ from_0 ≤ 2000) : RWS (r_0) (all_0) (now_0) (latest_0) := by
  subst fe_0_5_1
  subst fe_0_8_1
  subst fe_0_11_1
  subst fe_0_12_1
  subst fe_0_15_1
  have e_hE_0_3_1 := funext hE_0_3_1; subst e_hE_0_3_1
  have e_hE_0_4_1 := funext hE_0_4_1; subst e_hE_0_4_1
  first
    | assumption
    | (have hr := rws_r ‹RWS _ _ _ _›
       have hc := (rws_sg ‹RWS _ _ _ _›).1
       exact rws_off ‹RWS _ _ _ _› (by assumption) (by omega))
set_option maxHeartbeats 4000000 in
theorem vc_Mo_item_at_k3_12_2 (x3 : Int) (x13 : Int) (x15 : Int) (x21 : Int) (from_0 : Int) (pos_0 : Int) (kind_0 : Int) (fault_0 : Int) (r_1 : Int) (fault_1 : Int) (all_1 : Int → Int) (now_1 : Int → Int) (latest_1 : Int → Int) (from_1 : Int) (pos_1 : Int) (kind_1 : Int) (r_0 : Int) (all_0 : Int → Int) (now_0 : Int → Int) (latest_0 : Int → Int) (gx : Int) (k3 : 0 ≤ x3 ∧ x3 ≤ 2000) (k13 : 0 ≤ x13 ∧ x13 ≤ 2000) (k15 : 1 ≤ x15 ∧ x15 ≤ 99) (k21 : 219 ≤ x21 ∧ x21 ≤ 66539) (f0 : 1 * x13 + ((-1) * x3 + 0) ≤ 0) (f1 : (-1) * x13 + (1 * x3 + 0) ≤ 0) (fe_0_5_1 : r_0 = r_1) (fe_0_8_1 : fault_0 = fault_1) (fe_0_11_1 : pos_0 = pos_1) (fe_0_12_1 : kind_0 = kind_1) (fe_0_15_1 : from_0 = from_1) (hE_0_2_1 : ∀ j : Int, 0 ≤ j → (j = x21 → all_0 j = x15) ∧ (j ≠ x21 → all_0 j = all_1 j)) (hE_0_3_1 : ∀ j : Int, now_0 j = now_1 j) (hE_0_4_1 : ∀ j : Int, latest_0 j = latest_1 j) (kz_0_8 : 0 ≤ fault_0 ∧ fault_0 ≤ 5) (kz_0_11 : 0 ≤ pos_0 ∧ pos_0 ≤ 2000) (kz_0_12 : 0 ≤ kind_0 ∧ kind_0 ≤ 4) (kz_0_15 : 0 ≤ from_0 ∧ from_0 ≤ 2000) (ex2 : gx = x3) : 1 * gx + ((-1) * x3 + 0) ≤ 0 := by
  subst fe_0_5_1
  subst fe_0_8_1
  subst fe_0_11_1
  subst fe_0_12_1
  subst fe_0_15_1
  have e_hE_0_3_1 := funext hE_0_3_1; subst e_hE_0_3_1
  have e_hE_0_4_1 := funext hE_0_4_1; subst e_hE_0_4_1
  first
    | omega
    | (have q1 := (hE_0_2_1 (r_0 + 2) (by omega)).2 (by omega)
       have q2 := (hE_0_2_2 (r_0 + 2) (by omega)).2 (by omega)
       omega)
    | (have q1 := (hE_0_2_1 (r_0 + 1) (by omega)).2 (by omega)
       have q2 := (hE_0_2_2 (r_0 + 1) (by omega)).2 (by omega)
       omega)
    | (have q1 := (hE_0_2_1 (r_0 + 2) (by omega)).2 (by omega)
       omega)
    | (have q1 := (hE_0_2_1 (r_0 + 1) (by omega)).2 (by omega)
       omega)
    | (have q1 := (hE_0_2_1 (r_0 + 2) (by omega)).2 (by omega)
       have q2 := (hE_0_2_2 (r_0 + 2) (by omega)).2 (by omega)
       have q3 := (hE_0_2_3 (r_0 + 2) (by omega)).1 (by omega)
       omega)
    | (have q1 := (hE_0_2_1 (r_0 + 2) (by omega)).2 (by omega)
       have q2 := (hE_0_2_2 (r_0 + 2) (by omega)).2 (by omega)
       have q3 := (hE_0_2_3 (r_0 + 2) (by omega)).2 (by omega)
       omega)
set_option maxHeartbeats 4000000 in
theorem vc_Mo_item_at_k3_12_3 (x3 : Int) (x13 : Int) (x15 : Int) (x21 : Int) (from_0 : Int) (pos_0 : Int) (kind_0 : Int) (fault_0 : Int) (r_1 : Int) (fault_1 : Int) (all_1 : Int → Int) (now_1 : Int → Int) (latest_1 : Int → Int) (from_1 : Int) (pos_1 : Int) (kind_1 : Int) (r_0 : Int) (all_0 : Int → Int) (now_0 : Int → Int) (latest_0 : Int → Int) (gx : Int) (k3 : 0 ≤ x3 ∧ x3 ≤ 2000) (k13 : 0 ≤ x13 ∧ x13 ≤ 2000) (k15 : 1 ≤ x15 ∧ x15 ≤ 99) (k21 : 219 ≤ x21 ∧ x21 ≤ 66539) (f0 : 1 * x13 + ((-1) * x3 + 0) ≤ 0) (f1 : (-1) * x13 + (1 * x3 + 0) ≤ 0) (fe_0_5_1 : r_0 = r_1) (fe_0_8_1 : fault_0 = fault_1) (fe_0_11_1 : pos_0 = pos_1) (fe_0_12_1 : kind_0 = kind_1) (fe_0_15_1 : from_0 = from_1) (hE_0_2_1 : ∀ j : Int, 0 ≤ j → (j = x21 → all_0 j = x15) ∧ (j ≠ x21 → all_0 j = all_1 j)) (hE_0_3_1 : ∀ j : Int, now_0 j = now_1 j) (hE_0_4_1 : ∀ j : Int, latest_0 j = latest_1 j) (kz_0_8 : 0 ≤ fault_0 ∧ fault_0 ≤ 5) (kz_0_11 : 0 ≤ pos_0 ∧ pos_0 ≤ 2000) (kz_0_12 : 0 ≤ kind_0 ∧ kind_0 ≤ 4) (kz_0_15 : 0 ≤ from_0 ∧ from_0 ≤ 2000) (ex2 : gx = x3) : (-1) * gx + (1 * x3 + 0) ≤ 0 := by
  subst fe_0_5_1
  subst fe_0_8_1
  subst fe_0_11_1
  subst fe_0_12_1
  subst fe_0_15_1
  have e_hE_0_3_1 := funext hE_0_3_1; subst e_hE_0_3_1
  have e_hE_0_4_1 := funext hE_0_4_1; subst e_hE_0_4_1
  first
    | omega
    | (have q1 := (hE_0_2_1 (r_0 + 2) (by omega)).2 (by omega)
       have q2 := (hE_0_2_2 (r_0 + 2) (by omega)).2 (by omega)
       omega)
    | (have q1 := (hE_0_2_1 (r_0 + 1) (by omega)).2 (by omega)
       have q2 := (hE_0_2_2 (r_0 + 1) (by omega)).2 (by omega)
       omega)
    | (have q1 := (hE_0_2_1 (r_0 + 2) (by omega)).2 (by omega)
       omega)
    | (have q1 := (hE_0_2_1 (r_0 + 1) (by omega)).2 (by omega)
       omega)
    | (have q1 := (hE_0_2_1 (r_0 + 2) (by omega)).2 (by omega)
       have q2 := (hE_0_2_2 (r_0 + 2) (by omega)).2 (by omega)
       have q3 := (hE_0_2_3 (r_0 + 2) (by omega)).1 (by omega)
       omega)
    | (have q1 := (hE_0_2_1 (r_0 + 2) (by omega)).2 (by omega)
       have q2 := (hE_0_2_2 (r_0 + 2) (by omega)).2 (by omega)
       have q3 := (hE_0_2_3 (r_0 + 2) (by omega)).2 (by omega)
       omega)
set_option maxHeartbeats 4000000 in
theorem vc_Mo_item_at_k3_12_4 (x15 : Int) (x21 : Int) (from_0 : Int) (pos_0 : Int) (kind_0 : Int) (fault_0 : Int) (r_1 : Int) (fault_1 : Int) (all_1 : Int → Int) (now_1 : Int → Int) (latest_1 : Int → Int) (from_1 : Int) (pos_1 : Int) (kind_1 : Int) (r_0 : Int) (all_0 : Int → Int) (now_0 : Int → Int) (latest_0 : Int → Int) (k15 : 1 ≤ x15 ∧ x15 ≤ 99) (k21 : 219 ≤ x21 ∧ x21 ≤ 66539) (f33 : 1 * from_1 + ((-1) * pos_1 + 0) ≤ 0) (fe_0_5_1 : r_0 = r_1) (fe_0_8_1 : fault_0 = fault_1) (fe_0_11_1 : pos_0 = pos_1) (fe_0_12_1 : kind_0 = kind_1) (fe_0_15_1 : from_0 = from_1) (hE_0_2_1 : ∀ j : Int, 0 ≤ j → (j = x21 → all_0 j = x15) ∧ (j ≠ x21 → all_0 j = all_1 j)) (hE_0_3_1 : ∀ j : Int, now_0 j = now_1 j) (hE_0_4_1 : ∀ j : Int, latest_0 j = latest_1 j) (kz_0_8 : 0 ≤ fault_0 ∧ fault_0 ≤ 5) (kz_0_11 : 0 ≤ pos_0 ∧ pos_0 ≤ 2000) (kz_0_12 : 0 ≤ kind_0 ∧ kind_0 ≤ 4) (kz_0_15 : 0 ≤ from_0 ∧ from_0 ≤ 2000) : 1 * from_0 + ((-1) * pos_0 + 0) ≤ 0 := by
  subst fe_0_5_1
  subst fe_0_8_1
  subst fe_0_11_1
  subst fe_0_12_1
  subst fe_0_15_1
  have e_hE_0_3_1 := funext hE_0_3_1; subst e_hE_0_3_1
  have e_hE_0_4_1 := funext hE_0_4_1; subst e_hE_0_4_1
  first
    | omega
    | (have q1 := (hE_0_2_1 (r_0 + 2) (by omega)).2 (by omega)
       have q2 := (hE_0_2_2 (r_0 + 2) (by omega)).2 (by omega)
       omega)
    | (have q1 := (hE_0_2_1 (r_0 + 1) (by omega)).2 (by omega)
       have q2 := (hE_0_2_2 (r_0 + 1) (by omega)).2 (by omega)
       omega)
    | (have q1 := (hE_0_2_1 (r_0 + 2) (by omega)).2 (by omega)
       omega)
    | (have q1 := (hE_0_2_1 (r_0 + 1) (by omega)).2 (by omega)
       omega)
    | (have q1 := (hE_0_2_1 (r_0 + 2) (by omega)).2 (by omega)
       have q2 := (hE_0_2_2 (r_0 + 2) (by omega)).2 (by omega)
       have q3 := (hE_0_2_3 (r_0 + 2) (by omega)).1 (by omega)
       omega)
    | (have q1 := (hE_0_2_1 (r_0 + 2) (by omega)).2 (by omega)
       have q2 := (hE_0_2_2 (r_0 + 2) (by omega)).2 (by omega)
       have q3 := (hE_0_2_3 (r_0 + 2) (by omega)).2 (by omega)
       omega)
set_option maxHeartbeats 4000000 in
theorem vc_Mo_item_at_k3_12_5 (x15 : Int) (x21 : Int) (from_0 : Int) (pos_0 : Int) (kind_0 : Int) (fault_0 : Int) (r_1 : Int) (fault_1 : Int) (all_1 : Int → Int) (now_1 : Int → Int) (latest_1 : Int → Int) (from_1 : Int) (pos_1 : Int) (kind_1 : Int) (r_0 : Int) (all_0 : Int → Int) (now_0 : Int → Int) (latest_0 : Int → Int) (k15 : 1 ≤ x15 ∧ x15 ≤ 99) (k21 : 219 ≤ x21 ∧ x21 ≤ 66539) (f34 : ((kind_1 = 1) → (pos_1 ≤ (from_1 + 8))) ∧ ((kind_1 = 0) ∨ ((from_1 + 1) ≤ pos_1))) (fe_0_5_1 : r_0 = r_1) (fe_0_8_1 : fault_0 = fault_1) (fe_0_11_1 : pos_0 = pos_1) (fe_0_12_1 : kind_0 = kind_1) (fe_0_15_1 : from_0 = from_1) (hE_0_2_1 : ∀ j : Int, 0 ≤ j → (j = x21 → all_0 j = x15) ∧ (j ≠ x21 → all_0 j = all_1 j)) (hE_0_3_1 : ∀ j : Int, now_0 j = now_1 j) (hE_0_4_1 : ∀ j : Int, latest_0 j = latest_1 j) (kz_0_8 : 0 ≤ fault_0 ∧ fault_0 ≤ 5) (kz_0_11 : 0 ≤ pos_0 ∧ pos_0 ≤ 2000) (kz_0_12 : 0 ≤ kind_0 ∧ kind_0 ≤ 4) (kz_0_15 : 0 ≤ from_0 ∧ from_0 ≤ 2000) : ((kind_0 = 1) → (pos_0 ≤ (from_0 + 8))) ∧ ((kind_0 = 0) ∨ ((from_0 + 1) ≤ pos_0)) := by
  subst fe_0_5_1
  subst fe_0_8_1
  subst fe_0_11_1
  subst fe_0_12_1
  subst fe_0_15_1
  have e_hE_0_3_1 := funext hE_0_3_1; subst e_hE_0_3_1
  have e_hE_0_4_1 := funext hE_0_4_1; subst e_hE_0_4_1
  first
    | omega
    | (have q1 := (hE_0_2_1 (r_0 + 2) (by omega)).2 (by omega)
       have q2 := (hE_0_2_2 (r_0 + 2) (by omega)).2 (by omega)
       omega)
    | (have q1 := (hE_0_2_1 (r_0 + 1) (by omega)).2 (by omega)
       have q2 := (hE_0_2_2 (r_0 + 1) (by omega)).2 (by omega)
       omega)
    | (have q1 := (hE_0_2_1 (r_0 + 2) (by omega)).2 (by omega)
       omega)
    | (have q1 := (hE_0_2_1 (r_0 + 1) (by omega)).2 (by omega)
       omega)
    | (have q1 := (hE_0_2_1 (r_0 + 2) (by omega)).2 (by omega)
       have q2 := (hE_0_2_2 (r_0 + 2) (by omega)).2 (by omega)
       have q3 := (hE_0_2_3 (r_0 + 2) (by omega)).1 (by omega)
       omega)
    | (have q1 := (hE_0_2_1 (r_0 + 2) (by omega)).2 (by omega)
       have q2 := (hE_0_2_2 (r_0 + 2) (by omega)).2 (by omega)
       have q3 := (hE_0_2_3 (r_0 + 2) (by omega)).2 (by omega)
       omega)
set_option maxHeartbeats 4000000 in
theorem vc_Mo_item_at_k3_12_6 (x3 : Int) (x13 : Int) (x15 : Int) (x21 : Int) (from_0 : Int) (pos_0 : Int) (kind_0 : Int) (fault_0 : Int) (r_1 : Int) (fault_1 : Int) (all_1 : Int → Int) (now_1 : Int → Int) (latest_1 : Int → Int) (from_1 : Int) (pos_1 : Int) (kind_1 : Int) (r_0 : Int) (all_0 : Int → Int) (now_0 : Int → Int) (latest_0 : Int → Int) (gx : Int) (k3 : 0 ≤ x3 ∧ x3 ≤ 2000) (k13 : 0 ≤ x13 ∧ x13 ≤ 2000) (k15 : 1 ≤ x15 ∧ x15 ≤ 99) (k21 : 219 ≤ x21 ∧ x21 ≤ 66539) (f0 : 1 * x13 + ((-1) * x3 + 0) ≤ 0) (f1 : (-1) * x13 + (1 * x3 + 0) ≤ 0) (f10 : 1 * x13 + ((-1) * pos_0 + 0) ≤ 0) (fe_0_5_1 : r_0 = r_1) (fe_0_8_1 : fault_0 = fault_1) (fe_0_11_1 : pos_0 = pos_1) (fe_0_12_1 : kind_0 = kind_1) (fe_0_15_1 : from_0 = from_1) (hE_0_2_1 : ∀ j : Int, 0 ≤ j → (j = x21 → all_0 j = x15) ∧ (j ≠ x21 → all_0 j = all_1 j)) (hE_0_3_1 : ∀ j : Int, now_0 j = now_1 j) (hE_0_4_1 : ∀ j : Int, latest_0 j = latest_1 j) (kz_0_8 : 0 ≤ fault_0 ∧ fault_0 ≤ 5) (kz_0_11 : 0 ≤ pos_0 ∧ pos_0 ≤ 2000) (kz_0_12 : 0 ≤ kind_0 ∧ kind_0 ≤ 4) (kz_0_15 : 0 ≤ from_0 ∧ from_0 ≤ 2000) (ex2 : gx = x3) : 1 * gx + ((-1) * pos_0 + 0) ≤ 0 := by
  subst fe_0_5_1
  subst fe_0_8_1
  subst fe_0_11_1
  subst fe_0_12_1
  subst fe_0_15_1
  have e_hE_0_3_1 := funext hE_0_3_1; subst e_hE_0_3_1
  have e_hE_0_4_1 := funext hE_0_4_1; subst e_hE_0_4_1
  first
    | omega
    | (have q1 := (hE_0_2_1 (r_0 + 2) (by omega)).2 (by omega)
       have q2 := (hE_0_2_2 (r_0 + 2) (by omega)).2 (by omega)
       omega)
    | (have q1 := (hE_0_2_1 (r_0 + 1) (by omega)).2 (by omega)
       have q2 := (hE_0_2_2 (r_0 + 1) (by omega)).2 (by omega)
       omega)
    | (have q1 := (hE_0_2_1 (r_0 + 2) (by omega)).2 (by omega)
       omega)
    | (have q1 := (hE_0_2_1 (r_0 + 1) (by omega)).2 (by omega)
       omega)
    | (have q1 := (hE_0_2_1 (r_0 + 2) (by omega)).2 (by omega)
       have q2 := (hE_0_2_2 (r_0 + 2) (by omega)).2 (by omega)
       have q3 := (hE_0_2_3 (r_0 + 2) (by omega)).1 (by omega)
       omega)
    | (have q1 := (hE_0_2_1 (r_0 + 2) (by omega)).2 (by omega)
       have q2 := (hE_0_2_2 (r_0 + 2) (by omega)).2 (by omega)
       have q3 := (hE_0_2_3 (r_0 + 2) (by omega)).2 (by omega)
       omega)
set_option maxHeartbeats 4000000 in
theorem vc_Mo_item_at_k3_12_7 (x3 : Int) (x13 : Int) (x15 : Int) (x16 : Int) (x21 : Int) (from_0 : Int) (pos_0 : Int) (kind_0 : Int) (fault_0 : Int) (r_1 : Int) (fault_1 : Int) (all_1 : Int → Int) (now_1 : Int → Int) (latest_1 : Int → Int) (from_1 : Int) (pos_1 : Int) (kind_1 : Int) (r_0 : Int) (all_0 : Int → Int) (now_0 : Int → Int) (latest_0 : Int → Int) (gx : Int) (k3 : 0 ≤ x3 ∧ x3 ≤ 2000) (k13 : 0 ≤ x13 ∧ x13 ≤ 2000) (k15 : 1 ≤ x15 ∧ x15 ≤ 99) (k16 : 0 ≤ x16 ∧ x16 ≤ 0) (k21 : 219 ≤ x21 ∧ x21 ≤ 66539) (f0 : 1 * x13 + ((-1) * x3 + 0) ≤ 0) (f1 : (-1) * x13 + (1 * x3 + 0) ≤ 0) (f10 : 1 * x13 + ((-1) * pos_0 + 0) ≤ 0) (g22 : x16 = fault_1) (f34 : ((kind_1 = 1) → (pos_1 ≤ (from_1 + 8))) ∧ ((kind_1 = 0) ∨ ((from_1 + 1) ≤ pos_1))) (f36 : (1 ≤ fault_1) ∨ ((kind_1 = 0) ∨ ((x13 + 1) ≤ pos_1))) (fe_0_5_1 : r_0 = r_1) (fe_0_8_1 : fault_0 = fault_1) (fe_0_11_1 : pos_0 = pos_1) (fe_0_12_1 : kind_0 = kind_1) (fe_0_15_1 : from_0 = from_1) (hE_0_2_1 : ∀ j : Int, 0 ≤ j → (j = x21 → all_0 j = x15) ∧ (j ≠ x21 → all_0 j = all_1 j)) (hE_0_3_1 : ∀ j : Int, now_0 j = now_1 j) (hE_0_4_1 : ∀ j : Int, latest_0 j = latest_1 j) (kz_0_8 : 0 ≤ fault_0 ∧ fault_0 ≤ 5) (kz_0_11 : 0 ≤ pos_0 ∧ pos_0 ≤ 2000) (kz_0_12 : 0 ≤ kind_0 ∧ kind_0 ≤ 4) (kz_0_15 : 0 ≤ from_0 ∧ from_0 ≤ 2000) (ex2 : gx = x3) : (1 ≤ fault_0) ∨ ((kind_0 = 0) ∨ ((gx + 1) ≤ pos_0)) := by
  subst fe_0_5_1
  subst fe_0_8_1
  subst fe_0_11_1
  subst fe_0_12_1
  subst fe_0_15_1
  have e_hE_0_3_1 := funext hE_0_3_1; subst e_hE_0_3_1
  have e_hE_0_4_1 := funext hE_0_4_1; subst e_hE_0_4_1
  first
    | omega
    | (have q1 := (hE_0_2_1 (r_0 + 2) (by omega)).2 (by omega)
       have q2 := (hE_0_2_2 (r_0 + 2) (by omega)).2 (by omega)
       omega)
    | (have q1 := (hE_0_2_1 (r_0 + 1) (by omega)).2 (by omega)
       have q2 := (hE_0_2_2 (r_0 + 1) (by omega)).2 (by omega)
       omega)
    | (have q1 := (hE_0_2_1 (r_0 + 2) (by omega)).2 (by omega)
       omega)
    | (have q1 := (hE_0_2_1 (r_0 + 1) (by omega)).2 (by omega)
       omega)
    | (have q1 := (hE_0_2_1 (r_0 + 2) (by omega)).2 (by omega)
       have q2 := (hE_0_2_2 (r_0 + 2) (by omega)).2 (by omega)
       have q3 := (hE_0_2_3 (r_0 + 2) (by omega)).1 (by omega)
       omega)
    | (have q1 := (hE_0_2_1 (r_0 + 2) (by omega)).2 (by omega)
       have q2 := (hE_0_2_2 (r_0 + 2) (by omega)).2 (by omega)
       have q3 := (hE_0_2_3 (r_0 + 2) (by omega)).2 (by omega)
       omega)
def o_Mo_item_at_k3_12 : or_T := (64, 23, [(0, (2, 0, 0, [165])), (1, (0, 0, 7, [])), (3, (0, 0, 2000, [])), (6, (0, 0, 2000, [])), (8, (0, 0, 2000, [])), (10, (0, 0, 23, [])), (12, (0, 99, 99, [])), (13, (0, 0, 2000, [])), (14, (0, -1, 48, [])), (15, (0, 1, 99, [])), (16, (0, 0, 0, [])), (17, (2, 0, 0, [167])), (18, (0, 0, 66297, [])), (19, (0, 219, 219, [])), (20, (0, 219, 66516, [])), (21, (0, 219, 66539, []))], [(23, [13, 3], [0, 1, -1]), (23, [13, 3], [0, -1, 1]), (23, [14, 10], [0, 1, -1]), (23, [14, 10], [0, -1, 1]), (23, [8, 3], [0, 1, -1]), (23, [8, 3], [0, -1, 1]), (23, [6, 3], [0, 1, -1]), (23, [6, 3], [0, -1, 1]), (20, [0, 0], [30, 0, 1, 1, 15, -1, 1, 11]), (20, [0], [50, 3, 0, 12, 11, 15, 2, 21, 4, 7, 1, 3, 2, 0, 12, 0, 1, 0, 3, 2, 0, 11, 4, 3, 2, 0, 15, 0, 8, 3, 7, 1, 3, 2, 0, 12, 0, 0, 0, 7, 4, 3, 2, 0, 15, 0, 1, 2, 0, 11]), (20, [13, 0], [30, 0, 1, 0, 0, -1, 1, 11]), (20, [0, 13], [50, 3, 0, 8, 12, 11, 3, 7, 0, 2, 0, 1, 2, 0, 8, 3, 7, 1, 3, 2, 0, 12, 0, 0, 0, 6, 4, 2, 1, 1, 0, 1, 2, 0, 11]), (20, [0, 14], [50, 1, 0, 8, 3, 7, 0, 2, 0, 1, 2, 0, 8, 0, 2, 0, 0, 1, 1]), (20, [15, 12], [30, 0, 1, 0, 0, -1, 0, 0]), (20, [15], [30, 0, -1, 0, 0]), (100, [17, 21, 15], []), (1, [21, 20, 10], []), (1, [20, 18, 19], []), (9, [18, 0], [5]), (9, [17, 0], [2]), (8, [15], [4]), (8, [16], [0]), (9, [16, 0], [8]), (23, [13, 3], [0, 1, -1]), (23, [13, 3], [0, -1, 1]), (23, [14, 10], [0, 1, -1]), (23, [14, 10], [0, -1, 1]), (23, [8, 3], [0, 1, -1]), (23, [8, 3], [0, -1, 1]), (23, [6, 3], [0, 1, -1]), (23, [6, 3], [0, -1, 1]), (20, [1, 0], [50, 1, 1, 1005, 1002, 0, 6, 4, 2, 1, 0, 0, 1, 3, 1, 2, 4, 3, 2, 1, 5, 0, 2]), (20, [0], [60, 1, 3, 199, 5, 2, 3, 4]), (20, [0, 0], [30, 0, 1, 1, 15, -1, 1, 11]), (20, [0], [50, 3, 0, 12, 11, 15, 2, 21, 4, 7, 1, 3, 2, 0, 12, 0, 1, 0, 3, 2, 0, 11, 4, 3, 2, 0, 15, 0, 8, 3, 7, 1, 3, 2, 0, 12, 0, 0, 0, 7, 4, 3, 2, 0, 15, 0, 1, 2, 0, 11]), (20, [13, 0], [30, 0, 1, 0, 0, -1, 1, 11]), (20, [0, 13], [50, 3, 0, 8, 12, 11, 3, 7, 0, 2, 0, 1, 2, 0, 8, 3, 7, 1, 3, 2, 0, 12, 0, 0, 0, 6, 4, 2, 1, 1, 0, 1, 2, 0, 11]), (20, [0, 14], [50, 1, 0, 8, 3, 7, 0, 2, 0, 1, 2, 0, 8, 0, 2, 0, 0, 1, 1]), (20, [15, 12], [30, 0, 1, 0, 0, -1, 0, 0]), (20, [15], [30, 0, -1, 0, 0]), (102, [14], [0, 165008, 165009, 165011, 165012, 165013, 165014, 165015]), (23, [13, 3], [0, 1, -1]), (23, [13, 3], [0, -1, 1]), (23, [14, 10], [0, 1, -1]), (23, [14, 10], [0, -1, 1]), (23, [8, 3], [0, 1, -1]), (23, [8, 3], [0, -1, 1]), (23, [6, 3], [0, 1, -1]), (23, [6, 3], [0, -1, 1]), (102, [9], [187072209578355573530071658587684226515959365500928, 165008, 165009, 165011, 165012, 165013, 165014, 165015]), (23, [8, 3], [0, 1, -1]), (23, [8, 3], [0, -1, 1]), (23, [6, 3], [0, 1, -1]), (23, [6, 3], [0, -1, 1]), (102, [6], [0, 165011, 165012, 165013, 165014, 165015]), (23, [6, 3], [0, 1, -1]), (23, [6, 3], [0, -1, 1])], [], [(0, 0, 2000, [])], [(20, [1, 0], [50, 1, 1, 1005, 1002, 0, 6, 4, 2, 1, 0, 0, 1, 3, 1, 2, 4, 3, 2, 1, 5, 0, 2]), (20, [0], [60, 1, 3, 199, 5, 2, 3, 4]), (23, [23, 3], [0, 1, -1]), (23, [23, 3], [0, -1, 1]), (20, [0, 0], [30, 0, 1, 1, 15, -1, 1, 11]), (20, [0], [50, 3, 0, 12, 11, 15, 2, 21, 4, 7, 1, 3, 2, 0, 12, 0, 1, 0, 3, 2, 0, 11, 4, 3, 2, 0, 15, 0, 8, 3, 7, 1, 3, 2, 0, 12, 0, 0, 0, 7, 4, 3, 2, 0, 15, 0, 1, 2, 0, 11]), (20, [23, 0], [30, 0, 1, 0, 0, -1, 1, 11]), (20, [0, 23], [50, 3, 0, 8, 12, 11, 3, 7, 0, 2, 0, 1, 2, 0, 8, 3, 7, 1, 3, 2, 0, 12, 0, 0, 0, 6, 4, 2, 1, 1, 0, 1, 2, 0, 11])], [], [(21, 10, 219, 66516), (21, 20, 0, 23), (21, 18, 219, 242), (20, 18, 219, 219)])
theorem oo_Mo_item_at_k3_12 {kA : Nat → ClassId} : or_ok PRD kA GG o_Mo_item_at_k3_12 := by
  refine or_mk fun A ta ws vs hD hth hl => ?_
  intro t0 r0 t1 k1 t3 k3 t6 k6 t8 k8 t10 k10 t12 k12 t13 k13 t14 k14 t15 k15 t16 k16 t17 r17 t18 k18 t19 k19 t20 k20 t21 k21 d0 d1 d2 d3 f0 f1 f2 f3 f4 f5 f6 f7 f8 f9 f10 f11 f12 f13 f14 ta1 w1 le1 s1 f16 f17 f18 f19 f20 f21 f22 f23 f24 f25 f26 f27 f28 f29 f30 f31 f32 f33 f34 f35 f36 f37 f38 f39 ta2 w2 le2 s2 f41 f42 f43 f44 f45 f46 f47 f48 ta3 w3 le3 s3 f50 f51 f52 f53 ta4 w4 le4 s4 f55 f56
  replace f0 := shm_7 f0
  replace f1 := shm_22 f1
  replace f2 := shm_7 f2
  replace f3 := shm_22 f3
  replace f4 := shm_7 f4
  replace f5 := shm_22 f5
  replace f6 := shm_7 f6
  replace f7 := shm_22 f7
  replace f8 := shm_1397 f8
  replace f9 := shm_1398 f9
  replace f10 := shm_1395 f10
  replace f11 := shm_1660 f11
  replace f12 := shm_1889 f12
  replace f13 := shm_219 f13
  replace f14 := shm_1890 f14
  have s1 : (∀ b j, w_el ws b j = if b = v_ad (n_v vs 17) ∧ j = (v_iv (n_v vs 21)).toNat then v_iv (n_v vs 15) else w_el w1 b j) ∧ ∀ b k, w_fd ws b k = w_fd w1 b k := s1.2
  replace f16 := shm_12 f16
  replace f17 := shm_12 f17
  replace f18 := shm_109 f18
  replace f19 := shm_129 f19
  replace f20 := shm_145 f20
  replace f21 := shm_210 f21
  replace f22 := shm_143 f22
  replace f23 := shm_7 f23
  replace f24 := shm_22 f24
  replace f25 := shm_7 f25
  replace f26 := shm_22 f26
  replace f27 := shm_7 f27
  replace f28 := shm_22 f28
  replace f29 := shm_7 f29
  replace f30 := shm_22 f30
  replace f31 := shm_981 f31
  replace f32 := shm_952 f32
  replace f33 := shm_1397 f33
  replace f34 := shm_1398 f34
  replace f35 := shm_1395 f35
  replace f36 := shm_1660 f36
  replace f37 := shm_1889 f37
  replace f38 := shm_219 f38
  replace f39 := shm_1890 f39
  replace f41 := shm_7 f41
  replace f42 := shm_22 f42
  replace f43 := shm_7 f43
  replace f44 := shm_22 f44
  replace f45 := shm_7 f45
  replace f46 := shm_22 f46
  replace f47 := shm_7 f47
  replace f48 := shm_22 f48
  replace f50 := shm_7 f50
  replace f51 := shm_22 f51
  replace f52 := shm_7 f52
  replace f53 := shm_22 f53
  replace f55 := shm_7 f55
  replace f56 := shm_22 f56
  have ar_0_2_1 : w_ar w1 (n_v vs 0) 2 = w_ar ws (n_v vs 0) 2 := congrArg v_ad (s1.2 _ _).symm
  have cr_0_2 := fdq_12 hD hth r0
  have ar_0_3_1 : w_ar w1 (n_v vs 0) 3 = w_ar ws (n_v vs 0) 3 := congrArg v_ad (s1.2 _ _).symm
  have cr_0_3 := fdq_141 hD hth r0
  have ar_0_4_1 : w_ar w1 (n_v vs 0) 4 = w_ar ws (n_v vs 0) 4 := congrArg v_ad (s1.2 _ _).symm
  have cr_0_4 := fdq_142 hD hth r0
  have ad_17 : v_ad (n_v vs 17) = w_ar ws (n_v vs 0) 2 := (congrArg v_ad f19).trans ar_0_2_1
  have g18 : v_iv (n_v vs 18) = w_fi w1 (n_v vs 0) 5 := congrArg v_iv f18
  have g22 : v_iv (n_v vs 16) = w_fi w1 (n_v vs 0) 8 := congrArg v_iv f22
  simp only [ar_0_2_1, ar_0_3_1, ar_0_4_1] at f31 f32
  have fe_0_5_1 : w_fi ws (n_v vs 0) 5 = w_fi w1 (n_v vs 0) 5 := congrArg v_iv (s1.2 _ _)
  have fe_0_8_1 : w_fi ws (n_v vs 0) 8 = w_fi w1 (n_v vs 0) 8 := congrArg v_iv (s1.2 _ _)
  have fe_0_11_1 : w_fi ws (n_v vs 0) 11 = w_fi w1 (n_v vs 0) 11 := congrArg v_iv (s1.2 _ _)
  have fe_0_12_1 : w_fi ws (n_v vs 0) 12 = w_fi w1 (n_v vs 0) 12 := congrArg v_iv (s1.2 _ _)
  have fe_0_15_1 : w_fi ws (n_v vs 0) 15 = w_fi w1 (n_v vs 0) 15 := congrArg v_iv (s1.2 _ _)
  have hE_0_2_1 : ∀ j : Int, 0 ≤ j → (j = v_iv (n_v vs 21) → w_ei ws (w_ar ws (n_v vs 0) 2) j = v_iv (n_v vs 15)) ∧ (j ≠ v_iv (n_v vs 21) → w_ei ws (w_ar ws (n_v vs 0) 2) j = w_ei w1 (w_ar ws (n_v vs 0) 2) j) := fun j hj => ⟨fun h => by unfold w_ei; rw [s1.1, if_pos ⟨ad_17.symm, by rw [h]⟩], fun h => by unfold w_ei; rw [s1.1, if_neg (fun e => h (by have := e.2; omega))]⟩
  have hE_0_3_1 : ∀ j : Int, w_ei ws (w_ar ws (n_v vs 0) 3) j = w_ei w1 (w_ar ws (n_v vs 0) 3) j := el_kp s1.1 r17 cr_0_3 (by decide)
  have hK_0_3 := elq_77 hD hth cr_0_3
  have hE_0_4_1 : ∀ j : Int, w_ei ws (w_ar ws (n_v vs 0) 4) j = w_ei w1 (w_ar ws (n_v vs 0) 4) j := el_kp s1.1 r17 cr_0_4 (by decide)
  have hK_0_4 := elq_78 hD hth cr_0_4
  have kz_0_8 := fdq_14 hD hth r0
  have kz_0_11 := fdq_273 hD hth r0
  have kz_0_12 := fdq_186 hD hth r0
  have kz_0_15 := fdq_274 hD hth r0
  first | have hJ0 : w_ei w1 (w_ar ws (n_v vs 0) 2) ((w_fi w1 (n_v vs 0) 5 + 2)) = w_ei w1 (w_ar ws (n_v vs 0) 2) ((w_fi ws (n_v vs 0) 5 + 2)) := congrArg _ (show ((w_fi w1 (n_v vs 0) 5 + 2) : Int) = (w_fi ws (n_v vs 0) 5 + 2) from by omega) | skip
  first | have hI1 := (hE_0_2_1 ((w_fi ws (n_v vs 0) 5 + 2)) (by omega)).2 (by omega) | have hI1 := (hE_0_2_1 ((w_fi ws (n_v vs 0) 5 + 2)) (by omega)).1 (by omega) | skip
  obtain ⟨x, ex, hx⟩ := iv_ex (ta := ta) (lo := 0) (hi := 2000) (z := v_iv (n_v vs 3)) (by omega) (by omega) (by omega) (by omega)
  have ex2 : v_iv (Value.int x) = v_iv (n_v vs 3) := ex
  have ex3 : 0 ≤ v_iv (Value.int x) ∧ v_iv (Value.int x) ≤ 2000 := tv_rng hx
  have e_0 : n_v (vs ++ [Value.int x]) 0 = n_v vs 0 := n_v_old (by rw [hl]; decide)
  have e_1 : n_v (vs ++ [Value.int x]) 1 = n_v vs 1 := n_v_old (by rw [hl]; decide)
  have e_3 : n_v (vs ++ [Value.int x]) 3 = n_v vs 3 := n_v_old (by rw [hl]; decide)
  have e_23 : n_v (vs ++ [Value.int x]) 23 = Value.int x := n_v_new hl
  have nf0 : fc_1 PRD (20, [1, 0], [50, 1, 1, 1005, 1002, 0, 6, 4, 2, 1, 0, 0, 1, 3, 1, 2, 4, 3, 2, 1, 5, 0, 2]) ws (vs ++ [Value.int x]) := by
    refine ⟨nf_inA hl rfl, sgq_981 ?_⟩
    · show (v_iv (n_v (vs ++ [Value.int x]) 1) + 1) ≤ w_ei ws (w_ar ws (n_v (vs ++ [Value.int x]) 0) 2) ((w_fi ws (n_v (vs ++ [Value.int x]) 0) 5 + 2))
      simp only [e_0, e_1]
      exact vc_Mo_item_at_k3_12_0 (v_iv (n_v vs 1)) (v_iv (n_v vs 10)) (v_iv (n_v vs 14)) (v_iv (n_v vs 15)) (v_iv (n_v vs 18)) (v_iv (n_v vs 20)) (v_iv (n_v vs 21)) (w_fi ws (n_v vs 0) 15) (w_fi ws (n_v vs 0) 11) (w_fi ws (n_v vs 0) 12) (w_fi ws (n_v vs 0) 8) (w_fi w1 (n_v vs 0) 5) (w_fi w1 (n_v vs 0) 8) (w_ei w1 (w_ar ws (n_v vs 0) 2)) (w_ei w1 (w_ar ws (n_v vs 0) 3)) (w_ei w1 (w_ar ws (n_v vs 0) 4)) (w_fi w1 (n_v vs 0) 15) (w_fi w1 (n_v vs 0) 11) (w_fi w1 (n_v vs 0) 12) (w_fi ws (n_v vs 0) 5) (w_ei ws (w_ar ws (n_v vs 0) 2)) (w_ei ws (w_ar ws (n_v vs 0) 3)) (w_ei ws (w_ar ws (n_v vs 0) 4)) k1 k10 k14 k15 k18 k20 k21 d0 d3 f2 f3 f16 g18 f31 fe_0_5_1 fe_0_8_1 fe_0_11_1 fe_0_12_1 fe_0_15_1 hE_0_2_1 hE_0_3_1 hE_0_4_1 kz_0_8 kz_0_11 kz_0_12 kz_0_15
  have nf1 : fc_1 PRD (20, [0], [60, 1, 3, 199, 5, 2, 3, 4]) ws (vs ++ [Value.int x]) := by
    refine ⟨nf_inA hl rfl, sgq_952 ?_⟩
    · show RWS (w_fi ws (n_v (vs ++ [Value.int x]) 0) 5) (w_ei ws (w_ar ws (n_v (vs ++ [Value.int x]) 0) 2)) (w_ei ws (w_ar ws (n_v (vs ++ [Value.int x]) 0) 3)) (w_ei ws (w_ar ws (n_v (vs ++ [Value.int x]) 0) 4))
      rw [e_0]
      exact vc_Mo_item_at_k3_12_1 (v_iv (n_v vs 10)) (v_iv (n_v vs 14)) (v_iv (n_v vs 15)) (v_iv (n_v vs 18)) (v_iv (n_v vs 20)) (v_iv (n_v vs 21)) (w_fi ws (n_v vs 0) 15) (w_fi ws (n_v vs 0) 11) (w_fi ws (n_v vs 0) 12) (w_fi ws (n_v vs 0) 8) (w_fi w1 (n_v vs 0) 5) (w_fi w1 (n_v vs 0) 8) (w_ei w1 (w_ar ws (n_v vs 0) 2)) (w_ei w1 (w_ar ws (n_v vs 0) 3)) (w_ei w1 (w_ar ws (n_v vs 0) 4)) (w_fi w1 (n_v vs 0) 15) (w_fi w1 (n_v vs 0) 11) (w_fi w1 (n_v vs 0) 12) (w_fi ws (n_v vs 0) 5) (w_ei ws (w_ar ws (n_v vs 0) 2)) (w_ei ws (w_ar ws (n_v vs 0) 3)) (w_ei ws (w_ar ws (n_v vs 0) 4)) k10 k14 k15 k18 k20 k21 d3 f2 f3 f16 g18 f32 fe_0_5_1 fe_0_8_1 fe_0_11_1 fe_0_12_1 fe_0_15_1 hE_0_2_1 hE_0_3_1 hE_0_4_1 kz_0_8 kz_0_11 kz_0_12 kz_0_15
  have nf2 : fc_1 PRD (23, [23, 3], [0, 1, -1]) ws (vs ++ [Value.int x]) := by
    refine ⟨nf_inA hl rfl, sgq_7 ?_⟩
    · show 1 * v_iv (n_v (vs ++ [Value.int x]) 23) + ((-1) * v_iv (n_v (vs ++ [Value.int x]) 3) + 0) ≤ 0
      simp only [e_3, e_23]
      exact vc_Mo_item_at_k3_12_2 (v_iv (n_v vs 3)) (v_iv (n_v vs 13)) (v_iv (n_v vs 15)) (v_iv (n_v vs 21)) (w_fi ws (n_v vs 0) 15) (w_fi ws (n_v vs 0) 11) (w_fi ws (n_v vs 0) 12) (w_fi ws (n_v vs 0) 8) (w_fi w1 (n_v vs 0) 5) (w_fi w1 (n_v vs 0) 8) (w_ei w1 (w_ar ws (n_v vs 0) 2)) (w_ei w1 (w_ar ws (n_v vs 0) 3)) (w_ei w1 (w_ar ws (n_v vs 0) 4)) (w_fi w1 (n_v vs 0) 15) (w_fi w1 (n_v vs 0) 11) (w_fi w1 (n_v vs 0) 12) (w_fi ws (n_v vs 0) 5) (w_ei ws (w_ar ws (n_v vs 0) 2)) (w_ei ws (w_ar ws (n_v vs 0) 3)) (w_ei ws (w_ar ws (n_v vs 0) 4)) (v_iv (Value.int x)) k3 k13 k15 k21 f0 f1 fe_0_5_1 fe_0_8_1 fe_0_11_1 fe_0_12_1 fe_0_15_1 hE_0_2_1 hE_0_3_1 hE_0_4_1 kz_0_8 kz_0_11 kz_0_12 kz_0_15 ex2
  have nf3 : fc_1 PRD (23, [23, 3], [0, -1, 1]) ws (vs ++ [Value.int x]) := by
    refine ⟨nf_inA hl rfl, sgq_22 ?_⟩
    · show (-1) * v_iv (n_v (vs ++ [Value.int x]) 23) + (1 * v_iv (n_v (vs ++ [Value.int x]) 3) + 0) ≤ 0
      simp only [e_3, e_23]
      exact vc_Mo_item_at_k3_12_3 (v_iv (n_v vs 3)) (v_iv (n_v vs 13)) (v_iv (n_v vs 15)) (v_iv (n_v vs 21)) (w_fi ws (n_v vs 0) 15) (w_fi ws (n_v vs 0) 11) (w_fi ws (n_v vs 0) 12) (w_fi ws (n_v vs 0) 8) (w_fi w1 (n_v vs 0) 5) (w_fi w1 (n_v vs 0) 8) (w_ei w1 (w_ar ws (n_v vs 0) 2)) (w_ei w1 (w_ar ws (n_v vs 0) 3)) (w_ei w1 (w_ar ws (n_v vs 0) 4)) (w_fi w1 (n_v vs 0) 15) (w_fi w1 (n_v vs 0) 11) (w_fi w1 (n_v vs 0) 12) (w_fi ws (n_v vs 0) 5) (w_ei ws (w_ar ws (n_v vs 0) 2)) (w_ei ws (w_ar ws (n_v vs 0) 3)) (w_ei ws (w_ar ws (n_v vs 0) 4)) (v_iv (Value.int x)) k3 k13 k15 k21 f0 f1 fe_0_5_1 fe_0_8_1 fe_0_11_1 fe_0_12_1 fe_0_15_1 hE_0_2_1 hE_0_3_1 hE_0_4_1 kz_0_8 kz_0_11 kz_0_12 kz_0_15 ex2
  have nf4 : fc_1 PRD (20, [0, 0], [30, 0, 1, 1, 15, -1, 1, 11]) ws (vs ++ [Value.int x]) := by
    refine ⟨nf_inA hl rfl, sgq_1397 ?_⟩
    · show 1 * w_fi ws (n_v (vs ++ [Value.int x]) 0) 15 + ((-1) * w_fi ws (n_v (vs ++ [Value.int x]) 0) 11 + 0) ≤ 0
      rw [e_0]
      exact vc_Mo_item_at_k3_12_4 (v_iv (n_v vs 15)) (v_iv (n_v vs 21)) (w_fi ws (n_v vs 0) 15) (w_fi ws (n_v vs 0) 11) (w_fi ws (n_v vs 0) 12) (w_fi ws (n_v vs 0) 8) (w_fi w1 (n_v vs 0) 5) (w_fi w1 (n_v vs 0) 8) (w_ei w1 (w_ar ws (n_v vs 0) 2)) (w_ei w1 (w_ar ws (n_v vs 0) 3)) (w_ei w1 (w_ar ws (n_v vs 0) 4)) (w_fi w1 (n_v vs 0) 15) (w_fi w1 (n_v vs 0) 11) (w_fi w1 (n_v vs 0) 12) (w_fi ws (n_v vs 0) 5) (w_ei ws (w_ar ws (n_v vs 0) 2)) (w_ei ws (w_ar ws (n_v vs 0) 3)) (w_ei ws (w_ar ws (n_v vs 0) 4)) k15 k21 f33 fe_0_5_1 fe_0_8_1 fe_0_11_1 fe_0_12_1 fe_0_15_1 hE_0_2_1 hE_0_3_1 hE_0_4_1 kz_0_8 kz_0_11 kz_0_12 kz_0_15
  have nf5 : fc_1 PRD (20, [0], [50, 3, 0, 12, 11, 15, 2, 21, 4, 7, 1, 3, 2, 0, 12, 0, 1, 0, 3, 2, 0, 11, 4, 3, 2, 0, 15, 0, 8, 3, 7, 1, 3, 2, 0, 12, 0, 0, 0, 7, 4, 3, 2, 0, 15, 0, 1, 2, 0, 11]) ws (vs ++ [Value.int x]) := by
    refine ⟨nf_inA hl rfl, sgq_1398 ?_⟩
    · show ((w_fi ws (n_v (vs ++ [Value.int x]) 0) 12 = 1) → (w_fi ws (n_v (vs ++ [Value.int x]) 0) 11 ≤ (w_fi ws (n_v (vs ++ [Value.int x]) 0) 15 + 8))) ∧ ((w_fi ws (n_v (vs ++ [Value.int x]) 0) 12 = 0) ∨ ((w_fi ws (n_v (vs ++ [Value.int x]) 0) 15 + 1) ≤ w_fi ws (n_v (vs ++ [Value.int x]) 0) 11))
      rw [e_0]
      exact vc_Mo_item_at_k3_12_5 (v_iv (n_v vs 15)) (v_iv (n_v vs 21)) (w_fi ws (n_v vs 0) 15) (w_fi ws (n_v vs 0) 11) (w_fi ws (n_v vs 0) 12) (w_fi ws (n_v vs 0) 8) (w_fi w1 (n_v vs 0) 5) (w_fi w1 (n_v vs 0) 8) (w_ei w1 (w_ar ws (n_v vs 0) 2)) (w_ei w1 (w_ar ws (n_v vs 0) 3)) (w_ei w1 (w_ar ws (n_v vs 0) 4)) (w_fi w1 (n_v vs 0) 15) (w_fi w1 (n_v vs 0) 11) (w_fi w1 (n_v vs 0) 12) (w_fi ws (n_v vs 0) 5) (w_ei ws (w_ar ws (n_v vs 0) 2)) (w_ei ws (w_ar ws (n_v vs 0) 3)) (w_ei ws (w_ar ws (n_v vs 0) 4)) k15 k21 f34 fe_0_5_1 fe_0_8_1 fe_0_11_1 fe_0_12_1 fe_0_15_1 hE_0_2_1 hE_0_3_1 hE_0_4_1 kz_0_8 kz_0_11 kz_0_12 kz_0_15
  have nf6 : fc_1 PRD (20, [23, 0], [30, 0, 1, 0, 0, -1, 1, 11]) ws (vs ++ [Value.int x]) := by
    refine ⟨nf_inA hl rfl, sgq_1395 ?_⟩
    · show 1 * v_iv (n_v (vs ++ [Value.int x]) 23) + ((-1) * w_fi ws (n_v (vs ++ [Value.int x]) 0) 11 + 0) ≤ 0
      simp only [e_0, e_23]
      exact vc_Mo_item_at_k3_12_6 (v_iv (n_v vs 3)) (v_iv (n_v vs 13)) (v_iv (n_v vs 15)) (v_iv (n_v vs 21)) (w_fi ws (n_v vs 0) 15) (w_fi ws (n_v vs 0) 11) (w_fi ws (n_v vs 0) 12) (w_fi ws (n_v vs 0) 8) (w_fi w1 (n_v vs 0) 5) (w_fi w1 (n_v vs 0) 8) (w_ei w1 (w_ar ws (n_v vs 0) 2)) (w_ei w1 (w_ar ws (n_v vs 0) 3)) (w_ei w1 (w_ar ws (n_v vs 0) 4)) (w_fi w1 (n_v vs 0) 15) (w_fi w1 (n_v vs 0) 11) (w_fi w1 (n_v vs 0) 12) (w_fi ws (n_v vs 0) 5) (w_ei ws (w_ar ws (n_v vs 0) 2)) (w_ei ws (w_ar ws (n_v vs 0) 3)) (w_ei ws (w_ar ws (n_v vs 0) 4)) (v_iv (Value.int x)) k3 k13 k15 k21 f0 f1 f10 fe_0_5_1 fe_0_8_1 fe_0_11_1 fe_0_12_1 fe_0_15_1 hE_0_2_1 hE_0_3_1 hE_0_4_1 kz_0_8 kz_0_11 kz_0_12 kz_0_15 ex2
  have nf7 : fc_1 PRD (20, [0, 23], [50, 3, 0, 8, 12, 11, 3, 7, 0, 2, 0, 1, 2, 0, 8, 3, 7, 1, 3, 2, 0, 12, 0, 0, 0, 6, 4, 2, 1, 1, 0, 1, 2, 0, 11]) ws (vs ++ [Value.int x]) := by
    refine ⟨nf_inA hl rfl, sgq_1660 ?_⟩
    · show (1 ≤ w_fi ws (n_v (vs ++ [Value.int x]) 0) 8) ∨ ((w_fi ws (n_v (vs ++ [Value.int x]) 0) 12 = 0) ∨ ((v_iv (n_v (vs ++ [Value.int x]) 23) + 1) ≤ w_fi ws (n_v (vs ++ [Value.int x]) 0) 11))
      simp only [e_0, e_23]
      exact vc_Mo_item_at_k3_12_7 (v_iv (n_v vs 3)) (v_iv (n_v vs 13)) (v_iv (n_v vs 15)) (v_iv (n_v vs 16)) (v_iv (n_v vs 21)) (w_fi ws (n_v vs 0) 15) (w_fi ws (n_v vs 0) 11) (w_fi ws (n_v vs 0) 12) (w_fi ws (n_v vs 0) 8) (w_fi w1 (n_v vs 0) 5) (w_fi w1 (n_v vs 0) 8) (w_ei w1 (w_ar ws (n_v vs 0) 2)) (w_ei w1 (w_ar ws (n_v vs 0) 3)) (w_ei w1 (w_ar ws (n_v vs 0) 4)) (w_fi w1 (n_v vs 0) 15) (w_fi w1 (n_v vs 0) 11) (w_fi w1 (n_v vs 0) 12) (w_fi ws (n_v vs 0) 5) (w_ei ws (w_ar ws (n_v vs 0) 2)) (w_ei ws (w_ar ws (n_v vs 0) 3)) (w_ei ws (w_ar ws (n_v vs 0) 4)) (v_iv (Value.int x)) k3 k13 k15 k16 k21 f0 f1 f10 g22 f34 f36 fe_0_5_1 fe_0_8_1 fe_0_11_1 fe_0_12_1 fe_0_15_1 hE_0_2_1 hE_0_3_1 hE_0_4_1 kz_0_8 kz_0_11 kz_0_12 kz_0_15 ex2
  exact ⟨(fun _ h => (by cases h)), [Value.int x], ag_one hx, List.forall_mem_cons.mpr ⟨⟨show (20 : Nat) < 100 from by decide, nf0⟩, List.forall_mem_cons.mpr ⟨⟨show (20 : Nat) < 100 from by decide, nf1⟩, List.forall_mem_cons.mpr ⟨⟨show (23 : Nat) < 100 from by decide, nf2⟩, List.forall_mem_cons.mpr ⟨⟨show (23 : Nat) < 100 from by decide, nf3⟩, List.forall_mem_cons.mpr ⟨⟨show (20 : Nat) < 100 from by decide, nf4⟩, List.forall_mem_cons.mpr ⟨⟨show (20 : Nat) < 100 from by decide, nf5⟩, List.forall_mem_cons.mpr ⟨⟨show (20 : Nat) < 100 from by decide, nf6⟩, List.forall_mem_cons.mpr ⟨⟨show (20 : Nat) < 100 from by decide, nf7⟩, (fun _ h => (by cases h))⟩⟩⟩⟩⟩⟩⟩⟩, (fun _ h => (by cases h))⟩
