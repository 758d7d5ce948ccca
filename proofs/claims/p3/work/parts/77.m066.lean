section

def o_Mo_met_at_g1_10 : or_T := (254, 10, [(0, (2, 0, 0, [165])), (1, (0, 0, 7, [])), (2, (0, -1, -1, [])), (3, (0, 0, 2000, [])), (4, (0, 0, 2000, [])), (5, (0, 0, 4, [])), (6, (0, 0, 0, [])), (7, (0, 1, 1, [])), (8, (0, 0, 23, []))], [(9, [6, 0], [8]), (8, [2], [2]), (8, [8], [3]), (20, [0, 8], [60, 1, 1, 207, 5, 2]), (20, [0, 8], [60, 4, 2, 1031, 11, 10, 15, 5, 2, 1]), (8, [7], [1]), (20, [3, 0], [30, 0, 1, 0, 0, -1, 1, 11]), (20, [0, 4], [50, 2, 0, 12, 11, 3, 7, 1, 3, 2, 0, 12, 0, 0, 0, 6, 4, 2, 1, 1, 0, 1, 2, 0, 11]), (20, [0], [60, 1, 3, 199, 5, 2, 3, 4]), (20, [0, 2], [60, 1, 1, 241, 5, 2]), (20, [0, 1, 5], [60, 8, 2, 965, 10, 11, 12, 13, 14, 15, 8, 5, 1, 2]), (20, [7, 0], [50, 1, 0, 1012, 4, 6, 1, 2, 1, 0, 0, 1, 1, 3, 2, 1, 12, 0, 1]), (20, [0, 7], [60, 4, 1, 962, 12, 11, 10, 15, 1])], [], [(0, 0, 2000, [])], [(20, [2, 0], [50, 1, 1, 1005, 1002, 3, 6, 0, 2, 1, 0, 0, -1, 0, 10, 3, 1, 2, 4, 3, 2, 1, 5, 0, 1, 0, 47]), (20, [0, 2, 8], [60, 1, 1, 243, 5, 2]), (20, [10, 0], [30, 0, 1, 0, 0, -1, 1, 11]), (20, [10, 0], [50, 1, 0, 1011, 1, 2, 1, 0, 2, 1, 11]), (20, [0], [60, 2, 0, 947, 10, 11]), (23, [3, 10], [0, 1, -1]), (23, [4, 10], [-1, 1, -1]), (20, [0, 8, 1, 5, 10], [60, 3, 2, 972, 10, 8, 5, 1, 2])], [], [])
theorem oo_Mo_met_at_g1_10 {kA : Nat → ClassId} : or_ok PRD kA GG o_Mo_met_at_g1_10 := by
  refine or_mk fun A ta ws vs hD hth hl => ?_
  intro t0 r0 t1 k1 t2 k2 t3 k3 t4 k4 t5 k5 t6 k6 t7 k7 t8 k8 f2 f5 f6 f7 f8 f9 f12 f13 f15 f16 f17 f18 f19
  replace f2 := shm_293 f2
  replace f5 := shm_39 f5
  replace f6 := shm_32 f6
  replace f7 := shm_1232 f7
  replace f8 := shm_1233 f8
  replace f9 := shm_142 f9
  replace f12 := shm_1431 f12
  replace f13 := shm_2111 f13
  replace f15 := shm_980 f15
  replace f16 := shm_2112 f16
  replace f17 := shm_2122 f17
  replace f18 := shm_1856 f18
  replace f19 := shm_1889 f19
  have g2 : v_iv (n_v vs 6) = w_fi ws (n_v vs 0) 8 := congrArg v_iv f2
  have kz_0_8 := fdq_34 hD hth r0
  have kz_0_10 := fdq_43 hD hth r0
  have kz_0_11 := fdq_237 hD hth r0
  have kz_0_12 := fdq_187 hD hth r0
  have kz_0_13 := fdq_238 hD hth r0
  have kz_0_14 := fdq_188 hD hth r0
  have kz_0_15 := fdq_239 hD hth r0
  obtain ⟨x, ex, hx⟩ := iv_ex (ta := ta) (lo := 0) (hi := 2000) (z := w_fi ws (n_v vs 0) 11) (by omega) (by omega) (by omega) (by omega)
  have ex2 : v_iv (Value.int x) = w_fi ws (n_v vs 0) 11 := ex
  have ex3 : 0 ≤ v_iv (Value.int x) ∧ v_iv (Value.int x) ≤ 2000 := tv_rng hx
  have e_0 : n_v (vs ++ [Value.int x]) 0 = n_v vs 0 := n_v_old (by rw [hl]; decide)
  have e_1 : n_v (vs ++ [Value.int x]) 1 = n_v vs 1 := n_v_old (by rw [hl]; decide)
  have e_2 : n_v (vs ++ [Value.int x]) 2 = n_v vs 2 := n_v_old (by rw [hl]; decide)
  have e_3 : n_v (vs ++ [Value.int x]) 3 = n_v vs 3 := n_v_old (by rw [hl]; decide)
  have e_4 : n_v (vs ++ [Value.int x]) 4 = n_v vs 4 := n_v_old (by rw [hl]; decide)
  have e_5 : n_v (vs ++ [Value.int x]) 5 = n_v vs 5 := n_v_old (by rw [hl]; decide)
  have e_8 : n_v (vs ++ [Value.int x]) 8 = n_v vs 8 := n_v_old (by rw [hl]; decide)
  have e_10 : n_v (vs ++ [Value.int x]) 10 = Value.int x := n_v_new hl
  have nf0 : fc_1 PRD (20, [2, 0], [50, 1, 1, 1005, 1002, 3, 6, 0, 2, 1, 0, 0, -1, 0, 10, 3, 1, 2, 4, 3, 2, 1, 5, 0, 1, 0, 47]) ws (vs ++ [Value.int x]) := by
    refine ⟨nf_inA hl rfl, sgq_2114 ?_⟩
    · show (v_iv (n_v (vs ++ [Value.int x]) 2) ≤ (-1)) ∨ (w_ei ws (w_ar ws (n_v (vs ++ [Value.int x]) 0) 2) ((w_fi ws (n_v (vs ++ [Value.int x]) 0) 5 + 1)) ≤ 47)
      simp only [e_0, e_2]
      exact vc_Mo_met_at_g1_10_0 (v_iv (n_v vs 2)) (w_ei ws (w_ar ws (n_v vs 0) 2)) (w_fi ws (n_v vs 0) 5) k2
  have nf1 : fc_1 PRD (20, [0, 2, 8], [60, 1, 1, 243, 5, 2]) ws (vs ++ [Value.int x]) := by
    refine ⟨nf_inA hl rfl, sgq_2115 ?_⟩
    · show MEN (w_fi ws (n_v (vs ++ [Value.int x]) 0) 5) (w_ei ws (w_ar ws (n_v (vs ++ [Value.int x]) 0) 2)) (v_iv (n_v (vs ++ [Value.int x]) 2)) (v_iv (n_v (vs ++ [Value.int x]) 8))
      simp only [e_0, e_2, e_8]
      exact vc_Mo_met_at_g1_10_1 (v_iv (n_v vs 2)) (v_iv (n_v vs 8)) (w_ei ws (w_ar ws (n_v vs 0) 2)) (w_fi ws (n_v vs 0) 5) (w_ei ws (w_ar ws (n_v vs 0) 3)) (w_ei ws (w_ar ws (n_v vs 0) 4)) k2 k8 f5 f6 f7 f15 f16
  have nf2 : fc_1 PRD (20, [10, 0], [30, 0, 1, 0, 0, -1, 1, 11]) ws (vs ++ [Value.int x]) := by
    refine ⟨nf_inA hl rfl, sgq_1431 ?_⟩
    · show 1 * v_iv (n_v (vs ++ [Value.int x]) 10) + ((-1) * w_fi ws (n_v (vs ++ [Value.int x]) 0) 11 + 0) ≤ 0
      simp only [e_0, e_10]
      exact vc_Mo_met_at_g1_10_2 (w_fi ws (n_v vs 0) 5) (w_fi ws (n_v vs 0) 11) (v_iv (Value.int x)) kz_0_11 ex2
  have nf3 : fc_1 PRD (20, [10, 0], [50, 1, 0, 1011, 1, 2, 1, 0, 2, 1, 11]) ws (vs ++ [Value.int x]) := by
    refine ⟨nf_inA hl rfl, sgq_1432 ?_⟩
    · show v_iv (n_v (vs ++ [Value.int x]) 10) = w_fi ws (n_v (vs ++ [Value.int x]) 0) 11
      simp only [e_0, e_10]
      exact vc_Mo_met_at_g1_10_3 (w_fi ws (n_v vs 0) 5) (w_fi ws (n_v vs 0) 11) (v_iv (Value.int x)) kz_0_11 ex2
  have nf4 : fc_1 PRD (20, [0], [60, 2, 0, 947, 10, 11]) ws (vs ++ [Value.int x]) := by
    refine ⟨nf_inA hl rfl, sgq_1433 ?_⟩
    · show ZLM (w_fi ws (n_v (vs ++ [Value.int x]) 0) 10) (w_fi ws (n_v (vs ++ [Value.int x]) 0) 11)
      rw [e_0]
      exact vc_Mo_met_at_g1_10_4 (v_iv (n_v vs 1)) (v_iv (n_v vs 5)) (w_fi ws (n_v vs 0) 8) (w_ei ws (w_ar ws (n_v vs 0) 2)) (w_fi ws (n_v vs 0) 5) (w_ei ws (w_ar ws (n_v vs 0) 1)) (w_fi ws (n_v vs 0) 11) (w_fi ws (n_v vs 0) 10) (w_fi ws (n_v vs 0) 15) (w_fi ws (n_v vs 0) 12) (w_fi ws (n_v vs 0) 13) (w_fi ws (n_v vs 0) 14) k1 k5 f17 kz_0_8 kz_0_10 kz_0_11 kz_0_12 kz_0_13 kz_0_14 kz_0_15
  have nf5 : fc_1 PRD (23, [3, 10], [0, 1, -1]) ws (vs ++ [Value.int x]) := by
    refine ⟨nf_inA hl rfl, sgq_7 ?_⟩
    · show 1 * v_iv (n_v (vs ++ [Value.int x]) 3) + ((-1) * v_iv (n_v (vs ++ [Value.int x]) 10) + 0) ≤ 0
      simp only [e_3, e_10]
      exact vc_Mo_met_at_g1_10_5 (v_iv (n_v vs 3)) (w_fi ws (n_v vs 0) 5) (w_fi ws (n_v vs 0) 11) (v_iv (Value.int x)) k3 f12 kz_0_11 ex2
  have nf6 : fc_1 PRD (23, [4, 10], [-1, 1, -1]) ws (vs ++ [Value.int x]) := by
    refine ⟨nf_inA hl rfl, sgq_193 ?_⟩
    · show 1 * v_iv (n_v (vs ++ [Value.int x]) 4) + ((-1) * v_iv (n_v (vs ++ [Value.int x]) 10) + 0) ≤ (-1)
      simp only [e_4, e_10]
      exact vc_Mo_met_at_g1_10_6 (v_iv (n_v vs 4)) (v_iv (n_v vs 7)) (w_fi ws (n_v vs 0) 5) (w_fi ws (n_v vs 0) 11) (w_fi ws (n_v vs 0) 12) (v_iv (Value.int x)) k4 k7 f13 f18 kz_0_11 kz_0_12 ex2
  have nf7 : fc_1 PRD (20, [0, 8, 1, 5, 10], [60, 3, 2, 972, 10, 8, 5, 1, 2]) ws (vs ++ [Value.int x]) := by
    refine ⟨nf_inA hl rfl, sgq_2125 ?_⟩
    · show zTS2 (w_fi ws (n_v (vs ++ [Value.int x]) 0) 10) (w_fi ws (n_v (vs ++ [Value.int x]) 0) 8) (w_fi ws (n_v (vs ++ [Value.int x]) 0) 5) (w_ei ws (w_ar ws (n_v (vs ++ [Value.int x]) 0) 1)) (w_ei ws (w_ar ws (n_v (vs ++ [Value.int x]) 0) 2)) (v_iv (n_v (vs ++ [Value.int x]) 8)) (v_iv (n_v (vs ++ [Value.int x]) 1)) (v_iv (n_v (vs ++ [Value.int x]) 5)) (v_iv (n_v (vs ++ [Value.int x]) 10))
      simp only [e_0, e_1, e_5, e_8, e_10]
      exact vc_Mo_met_at_g1_10_7 (v_iv (n_v vs 1)) (v_iv (n_v vs 5)) (v_iv (n_v vs 6)) (v_iv (n_v vs 7)) (v_iv (n_v vs 8)) (w_fi ws (n_v vs 0) 8) (w_ei ws (w_ar ws (n_v vs 0) 2)) (w_fi ws (n_v vs 0) 5) (w_ei ws (w_ar ws (n_v vs 0) 1)) (w_fi ws (n_v vs 0) 11) (w_fi ws (n_v vs 0) 10) (w_fi ws (n_v vs 0) 15) (w_fi ws (n_v vs 0) 12) (w_fi ws (n_v vs 0) 13) (w_fi ws (n_v vs 0) 14) (v_iv (Value.int x)) k1 k5 k6 k7 k8 g2 f6 f8 f9 f17 f19 kz_0_8 kz_0_10 kz_0_11 kz_0_12 kz_0_13 kz_0_14 kz_0_15 ex2
  exact ⟨(fun _ h => (by cases h)), [Value.int x], ag_one hx, List.forall_mem_cons.mpr ⟨⟨show (20 : Nat) < 100 from by decide, nf0⟩, List.forall_mem_cons.mpr ⟨⟨show (20 : Nat) < 100 from by decide, nf1⟩, List.forall_mem_cons.mpr ⟨⟨show (20 : Nat) < 100 from by decide, nf2⟩, List.forall_mem_cons.mpr ⟨⟨show (20 : Nat) < 100 from by decide, nf3⟩, List.forall_mem_cons.mpr ⟨⟨show (20 : Nat) < 100 from by decide, nf4⟩, List.forall_mem_cons.mpr ⟨⟨show (23 : Nat) < 100 from by decide, nf5⟩, List.forall_mem_cons.mpr ⟨⟨show (23 : Nat) < 100 from by decide, nf6⟩, List.forall_mem_cons.mpr ⟨⟨show (20 : Nat) < 100 from by decide, nf7⟩, (fun _ h => (by cases h))⟩⟩⟩⟩⟩⟩⟩⟩, (fun _ h => (by cases h))⟩
set_option maxHeartbeats 4000000 in
theorem vc_Mo_met_at_g1_11_0 (x3 : Int) (x10 : Int) (r_0 : Int) (from_0 : Int) (pos_0 : Int) (k3 : 0 ≤ x3 ∧ x3 ≤ 2000) (k10 : 0 ≤ x10 ∧ x10 ≤ 2000) (f3 : 1 * x3 + ((-1) * x10 + 0) ≤ 0) (f10 : 1 * from_0 + ((-1) * pos_0 + 0) ≤ 0) (f12 : 1 * x10 + ((-1) * from_0 + 0) ≤ 0) (kz_0_11 : 0 ≤ pos_0 ∧ pos_0 ≤ 2000) (kz_0_15 : 0 ≤ from_0 ∧ from_0 ≤ 2000) : 1 * x3 + ((-1) * pos_0 + 0) ≤ 0 := by
  first
    | omega
    | (have q1 := (hE_0_2_1 (r_0 + 2) (by omega)).2 (by omega)
       have q2 := (hE_0_2_2 (r_0 + 2) (by omega)).2 (by omega)
       omega)
    | (have q1 := (hE_0_2_1 (r_0 + 1) (by omega)).2 (by omega)
       have q2 := (hE_0_2_2 (r_0 + 1) (by omega)).2 (by omega)
       omega)
    | (have q1 := (hE_0_2_1 (r_0 + 2) (by omega)).2 (by omega)
       omega)
    | (have q1 := (hE_0_2_1 (r_0 + 1) (by omega)).2 (by omega)
       omega)
    | (have q1 := (hE_0_2_1 (r_0 + 2) (by omega)).2 (by omega)
       have q2 := (hE_0_2_2 (r_0 + 2) (by omega)).2 (by omega)
       have q3 := (hE_0_2_3 (r_0 + 2) (by omega)).1 (by omega)
       omega)
    | (have q1 := (hE_0_2_1 (r_0 + 2) (by omega)).2 (by omega)
       have q2 := (hE_0_2_2 (r_0 + 2) (by omega)).2 (by omega)
       have q3 := (hE_0_2_3 (r_0 + 2) (by omega)).2 (by omega)
       omega)
set_option maxHeartbeats 4000000 in
theorem vc_Mo_met_at_g1_11_1 (x3 : Int) (x10 : Int) (fault_0 : Int) (r_0 : Int) (from_0 : Int) (pos_0 : Int) (kind_0 : Int) (k3 : 0 ≤ x3 ∧ x3 ≤ 2000) (k10 : 0 ≤ x10 ∧ x10 ≤ 2000) (f3 : 1 * x3 + ((-1) * x10 + 0) ≤ 0) (f11 : ((kind_0 = 1) → (pos_0 ≤ (from_0 + 8))) ∧ ((kind_0 = 0) ∨ ((from_0 + 1) ≤ pos_0))) (f12 : 1 * x10 + ((-1) * from_0 + 0) ≤ 0) (kz_0_8 : 0 ≤ fault_0 ∧ fault_0 ≤ 5) (kz_0_11 : 0 ≤ pos_0 ∧ pos_0 ≤ 2000) (kz_0_12 : 0 ≤ kind_0 ∧ kind_0 ≤ 4) (kz_0_15 : 0 ≤ from_0 ∧ from_0 ≤ 2000) : (1 ≤ fault_0) ∨ ((kind_0 = 0) ∨ ((x3 + 1) ≤ pos_0)) := by
  first
    | omega
    | (have q1 := (hE_0_2_1 (r_0 + 2) (by omega)).2 (by omega)
       have q2 := (hE_0_2_2 (r_0 + 2) (by omega)).2 (by omega)
       omega)
    | (have q1 := (hE_0_2_1 (r_0 + 1) (by omega)).2 (by omega)
       have q2 := (hE_0_2_2 (r_0 + 1) (by omega)).2 (by omega)
       omega)
    | (have q1 := (hE_0_2_1 (r_0 + 2) (by omega)).2 (by omega)
       omega)
    | (have q1 := (hE_0_2_1 (r_0 + 1) (by omega)).2 (by omega)
       omega)
    | (have q1 := (hE_0_2_1 (r_0 + 2) (by omega)).2 (by omega)
       have q2 := (hE_0_2_2 (r_0 + 2) (by omega)).2 (by omega)
       have q3 := (hE_0_2_3 (r_0 + 2) (by omega)).1 (by omega)
       omega)
    | (have q1 := (hE_0_2_1 (r_0 + 2) (by omega)).2 (by omega)
       have q2 := (hE_0_2_2 (r_0 + 2) (by omega)).2 (by omega)
       have q3 := (hE_0_2_3 (r_0 + 2) (by omega)).2 (by omega)
       omega)
set_option maxHeartbeats 4000000 in
theorem vc_Mo_met_at_g1_11_2 (x4 : Int) (x10 : Int) (fault_0 : Int) (r_0 : Int) (from_0 : Int) (pos_0 : Int) (k4 : 0 ≤ x4 ∧ x4 ≤ 2000) (k10 : 0 ≤ x10 ∧ x10 ≤ 2000) (f4 : 1 * x4 + ((-1) * x10 + 0) ≤ (-1)) (f10 : 1 * from_0 + ((-1) * pos_0 + 0) ≤ 0) (f12 : 1 * x10 + ((-1) * from_0 + 0) ≤ 0) (kz_0_8 : 0 ≤ fault_0 ∧ fault_0 ≤ 5) (kz_0_11 : 0 ≤ pos_0 ∧ pos_0 ≤ 2000) (kz_0_15 : 0 ≤ from_0 ∧ from_0 ≤ 2000) : (1 ≤ fault_0) ∨ ((x4 + 1) ≤ pos_0) := by
  first
    | omega
    | (have q1 := (hE_0_2_1 (r_0 + 2) (by omega)).2 (by omega)
       have q2 := (hE_0_2_2 (r_0 + 2) (by omega)).2 (by omega)
       omega)
    | (have q1 := (hE_0_2_1 (r_0 + 1) (by omega)).2 (by omega)
       have q2 := (hE_0_2_2 (r_0 + 1) (by omega)).2 (by omega)
       omega)
    | (have q1 := (hE_0_2_1 (r_0 + 2) (by omega)).2 (by omega)
       omega)
    | (have q1 := (hE_0_2_1 (r_0 + 1) (by omega)).2 (by omega)
       omega)
    | (have q1 := (hE_0_2_1 (r_0 + 2) (by omega)).2 (by omega)
       have q2 := (hE_0_2_2 (r_0 + 2) (by omega)).2 (by omega)
       have q3 := (hE_0_2_3 (r_0 + 2) (by omega)).1 (by omega)
       omega)
    | (have q1 := (hE_0_2_1 (r_0 + 2) (by omega)).2 (by omega)
       have q2 := (hE_0_2_2 (r_0 + 2) (by omega)).2 (by omega)
       have q3 := (hE_0_2_3 (r_0 + 2) (by omega)).2 (by omega)
       omega)
set_option maxHeartbeats 4000000 in
theorem vc_Mo_met_at_g1_11_3 (x8 : Int) (fault_0 : Int) (r_0 : Int) (k8 : 0 ≤ x8 ∧ x8 ≤ 23) (kz_0_8 : 0 ≤ fault_0 ∧ fault_0 ≤ 5) : ((-1) * fault_0 + 0 ≤ (-1)) ∨ ((-1) * x8 + 0 ≤ 0) := by
  first
    | omega
    | (have q1 := (hE_0_2_1 (r_0 + 2) (by omega)).2 (by omega)
       have q2 := (hE_0_2_2 (r_0 + 2) (by omega)).2 (by omega)
       omega)
    | (have q1 := (hE_0_2_1 (r_0 + 1) (by omega)).2 (by omega)
       have q2 := (hE_0_2_2 (r_0 + 1) (by omega)).2 (by omega)
       omega)
    | (have q1 := (hE_0_2_1 (r_0 + 2) (by omega)).2 (by omega)
       omega)
    | (have q1 := (hE_0_2_1 (r_0 + 1) (by omega)).2 (by omega)
       omega)
    | (have q1 := (hE_0_2_1 (r_0 + 2) (by omega)).2 (by omega)
       have q2 := (hE_0_2_2 (r_0 + 2) (by omega)).2 (by omega)
       have q3 := (hE_0_2_3 (r_0 + 2) (by omega)).1 (by omega)
       omega)
    | (have q1 := (hE_0_2_1 (r_0 + 2) (by omega)).2 (by omega)
       have q2 := (hE_0_2_2 (r_0 + 2) (by omega)).2 (by omega)
       have q3 := (hE_0_2_3 (r_0 + 2) (by omega)).2 (by omega)
       omega)
set_option maxHeartbeats 4000000 in
theorem vc_Mo_met_at_g1_11_4 (x2 : Int) (fault_0 : Int) (all_0 : Int → Int) (r_0 : Int) (k2 : (-1) ≤ x2 ∧ x2 ≤ (-1)) (kz_0_8 : 0 ≤ fault_0 ∧ fault_0 ≤ 5) : (1 ≤ fault_0) ∨ ((x2 ≤ (-1)) ∨ (all_0 ((r_0 + 1)) ≤ 47)) := by
  first
    | omega
    | (have q1 := (hE_0_2_1 (r_0 + 2) (by omega)).2 (by omega)
       have q2 := (hE_0_2_2 (r_0 + 2) (by omega)).2 (by omega)
       omega)
    | (have q1 := (hE_0_2_1 (r_0 + 1) (by omega)).2 (by omega)
       have q2 := (hE_0_2_2 (r_0 + 1) (by omega)).2 (by omega)
       omega)
    | (have q1 := (hE_0_2_1 (r_0 + 2) (by omega)).2 (by omega)
       omega)
    | (have q1 := (hE_0_2_1 (r_0 + 1) (by omega)).2 (by omega)
       omega)
    | (have q1 := (hE_0_2_1 (r_0 + 2) (by omega)).2 (by omega)
       have q2 := (hE_0_2_2 (r_0 + 2) (by omega)).2 (by omega)
       have q3 := (hE_0_2_3 (r_0 + 2) (by omega)).1 (by omega)
       omega)
    | (have q1 := (hE_0_2_1 (r_0 + 2) (by omega)).2 (by omega)
       have q2 := (hE_0_2_2 (r_0 + 2) (by omega)).2 (by omega)
       have q3 := (hE_0_2_3 (r_0 + 2) (by omega)).2 (by omega)
       omega)
set_option maxHeartbeats 4000000 in
theorem vc_Mo_met_at_g1_11_5 (x2 : Int) (x8 : Int) (fault_0 : Int) (all_0 : Int → Int) (r_0 : Int) (k2 : (-1) ≤ x2 ∧ x2 ≤ (-1)) (k8 : 0 ≤ x8 ∧ x8 ≤ 23) (f2 : MEN (r_0) (all_0) (x2) (x8)) (kz_0_8 : 0 ≤ fault_0 ∧ fault_0 ≤ 5) : MET (r_0) (fault_0) (all_0) (x2) (x8) := by
  first
    | (intro q; exfalso; omega)
    | exact fun _ => ‹MEN _ _ _ _›
set_option maxHeartbeats 4000000 in
theorem vc_Mo_met_at_g1_11_6 (x1 : Int) (x5 : Int) (x6 : Int) (x8 : Int) (x10 : Int) (fault_0 : Int) (all_0 : Int → Int) (r_0 : Int) (tape_0 : Int → Int) (limit_0 : Int) (from_0 : Int) (pos_0 : Int) (kind_0 : Int) (place_0 : Int) (value_0 : Int) (faultPlace_0 : Int) (k1 : 0 ≤ x1 ∧ x1 ≤ 7) (k5 : 0 ≤ x5 ∧ x5 ≤ 4) (k6 : 0 ≤ x6 ∧ x6 ≤ 0) (k8 : 0 ≤ x8 ∧ x8 ≤ 23) (k10 : 0 ≤ x10 ∧ x10 ≤ 2000) (g0 : x6 = fault_0) (f5 : zTS2 (limit_0) (fault_0) (r_0) (tape_0) (all_0) (x8) (x1) (x5) (x10)) (f13 : TKR (limit_0) (pos_0) (kind_0) (place_0) (value_0) (from_0) (tape_0) (x10)) (kz_0_8 : 0 ≤ fault_0 ∧ fault_0 ≤ 5) (kz_0_9 : 0 ≤ faultPlace_0 ∧ faultPlace_0 ≤ 2000) (kz_0_10 : 0 ≤ limit_0 ∧ limit_0 ≤ 2000) (kz_0_11 : 0 ≤ pos_0 ∧ pos_0 ≤ 2000) (kz_0_12 : 0 ≤ kind_0 ∧ kind_0 ≤ 4) (kz_0_13 : 0 ≤ place_0 ∧ place_0 ≤ 2000) (kz_0_14 : (-49) ≤ value_0 ∧ value_0 ≤ 1048575) (kz_0_15 : 0 ≤ from_0 ∧ from_0 ≤ 2000) : zOS2 (limit_0) (pos_0) (kind_0) (place_0) (value_0) (from_0) (fault_0) (faultPlace_0) (r_0) (tape_0) (all_0) (x8) (x1) (x5) := by
  first | subst g0 | skip
  first
    | (exfalso; have h := (rsq_0 ‹zRS1 _ _ _ _ _ _ _ _ _ _ _ _›).1; omega)
    | (refine Or.inl (fs_w ?_ ?_ (by assumption)) <;> assumption)
    | exact Or.inr (rsq_of ‹zTS2 _ _ _ _ _ _ _ _ _› ‹TKR _ _ _ _ _ _ _ _›)
    | (exfalso; omega)
def o_Mo_met_at_g1_11 : or_T := (258, 11, [(0, (2, 0, 0, [165])), (1, (0, 0, 7, [])), (2, (0, -1, -1, [])), (3, (0, 0, 2000, [])), (4, (0, 0, 2000, [])), (5, (0, 0, 4, [])), (6, (0, 0, 0, [])), (8, (0, 0, 23, [])), (10, (0, 0, 2000, []))], [(9, [6, 0], [8]), (20, [0, 2, 8], [60, 1, 1, 243, 5, 2]), (23, [3, 10], [0, 1, -1]), (23, [4, 10], [-1, 1, -1]), (20, [0, 8, 1, 5, 10], [60, 3, 2, 972, 10, 8, 5, 1, 2]), (20, [0, 0], [30, 0, 1, 1, 15, -1, 1, 11]), (20, [0], [50, 3, 0, 12, 11, 15, 2, 21, 4, 7, 1, 3, 2, 0, 12, 0, 1, 0, 3, 2, 0, 11, 4, 3, 2, 0, 15, 0, 8, 3, 7, 1, 3, 2, 0, 12, 0, 0, 0, 7, 4, 3, 2, 0, 15, 0, 1, 2, 0, 11]), (20, [10, 0], [30, 0, 1, 0, 0, -1, 1, 15]), (20, [0, 10], [60, 6, 1, 948, 10, 11, 12, 13, 14, 15, 1])], [], [], [(20, [3, 0], [30, 0, 1, 0, 0, -1, 1, 11]), (20, [0, 3], [50, 3, 0, 8, 12, 11, 3, 7, 0, 2, 0, 1, 2, 0, 8, 3, 7, 1, 3, 2, 0, 12, 0, 0, 0, 6, 4, 2, 1, 1, 0, 1, 2, 0, 11]), (20, [0, 4], [50, 2, 0, 8, 11, 3, 7, 0, 2, 0, 1, 2, 0, 8, 0, 6, 4, 2, 1, 1, 0, 1, 2, 0, 11]), (20, [0, 8], [31, 1, -1, -1, 1, 8, 0, -1, 0, 0]), (20, [0, 2], [50, 2, 1, 8, 5, 2, 3, 7, 0, 2, 0, 1, 2, 0, 8, 3, 6, 0, 2, 1, 1, 0, -1, 0, 10, 3, 0, 2, 4, 3, 2, 0, 5, 0, 1, 0, 47]), (20, [0, 2, 8], [60, 2, 1, 240, 5, 8, 2]), (20, [0, 8, 1, 5], [60, 9, 2, 1009, 10, 11, 12, 13, 14, 15, 8, 9, 5, 1, 2])], [], [])
theorem oo_Mo_met_at_g1_11 {kA : Nat → ClassId} : or_ok PRD kA GG o_Mo_met_at_g1_11 := by
  refine or_mk fun A ta ws vs hD hth hl => ?_
  intro t0 r0 t1 k1 t2 k2 t3 k3 t4 k4 t5 k5 t6 k6 t8 k8 t10 k10 f0 f2 f3 f4 f5 f10 f11 f12 f13
  replace f0 := shm_293 f0
  have g0 : v_iv (n_v vs 6) = w_fi ws (n_v vs 0) 8 := congrArg v_iv f0
  have kz_0_8 := fdq_34 hD hth r0
  have kz_0_9 := fdq_44 hD hth r0
  have kz_0_10 := fdq_43 hD hth r0
  have kz_0_11 := fdq_237 hD hth r0
  have kz_0_12 := fdq_187 hD hth r0
  have kz_0_13 := fdq_238 hD hth r0
  have kz_0_14 := fdq_188 hD hth r0
  have kz_0_15 := fdq_239 hD hth r0
  have nf0 : fc_1 PRD (20, [3, 0], [30, 0, 1, 0, 0, -1, 1, 11]) ws (vs) := ⟨nf_in hl rfl, sgq_1431 (vc_Mo_met_at_g1_11_0 (v_iv (n_v vs 3)) (v_iv (n_v vs 10)) (w_fi ws (n_v vs 0) 5) (w_fi ws (n_v vs 0) 15) (w_fi ws (n_v vs 0) 11) k3 k10 (shm_7 f3) (shm_1437 f10) (shm_1436 f12) kz_0_11 kz_0_15)⟩
  have nf1 : fc_1 PRD (20, [0, 3], [50, 3, 0, 8, 12, 11, 3, 7, 0, 2, 0, 1, 2, 0, 8, 3, 7, 1, 3, 2, 0, 12, 0, 0, 0, 6, 4, 2, 1, 1, 0, 1, 2, 0, 11]) ws (vs) := ⟨nf_in hl rfl, sgq_1722 (vc_Mo_met_at_g1_11_1 (v_iv (n_v vs 3)) (v_iv (n_v vs 10)) (w_fi ws (n_v vs 0) 8) (w_fi ws (n_v vs 0) 5) (w_fi ws (n_v vs 0) 15) (w_fi ws (n_v vs 0) 11) (w_fi ws (n_v vs 0) 12) k3 k10 (shm_7 f3) (shm_1438 f11) (shm_1436 f12) kz_0_8 kz_0_11 kz_0_12 kz_0_15)⟩
  have nf2 : fc_1 PRD (20, [0, 4], [50, 2, 0, 8, 11, 3, 7, 0, 2, 0, 1, 2, 0, 8, 0, 6, 4, 2, 1, 1, 0, 1, 2, 0, 11]) ws (vs) := ⟨nf_in hl rfl, sgq_1726 (vc_Mo_met_at_g1_11_2 (v_iv (n_v vs 4)) (v_iv (n_v vs 10)) (w_fi ws (n_v vs 0) 8) (w_fi ws (n_v vs 0) 5) (w_fi ws (n_v vs 0) 15) (w_fi ws (n_v vs 0) 11) k4 k10 (shm_193 f4) (shm_1437 f10) (shm_1436 f12) kz_0_8 kz_0_11 kz_0_15)⟩
  have nf3 : fc_1 PRD (20, [0, 8], [31, 1, -1, -1, 1, 8, 0, -1, 0, 0]) ws (vs) := ⟨nf_in hl rfl, sgq_2117 (vc_Mo_met_at_g1_11_3 (v_iv (n_v vs 8)) (w_fi ws (n_v vs 0) 8) (w_fi ws (n_v vs 0) 5) k8 kz_0_8)⟩
  have nf4 : fc_1 PRD (20, [0, 2], [50, 2, 1, 8, 5, 2, 3, 7, 0, 2, 0, 1, 2, 0, 8, 3, 6, 0, 2, 1, 1, 0, -1, 0, 10, 3, 0, 2, 4, 3, 2, 0, 5, 0, 1, 0, 47]) ws (vs) := ⟨nf_in hl rfl, sgq_2118 (vc_Mo_met_at_g1_11_4 (v_iv (n_v vs 2)) (w_fi ws (n_v vs 0) 8) (w_ei ws (w_ar ws (n_v vs 0) 2)) (w_fi ws (n_v vs 0) 5) k2 kz_0_8)⟩
  have nf5 : fc_1 PRD (20, [0, 2, 8], [60, 2, 1, 240, 5, 8, 2]) ws (vs) := ⟨nf_in hl rfl, sgq_2119 (vc_Mo_met_at_g1_11_5 (v_iv (n_v vs 2)) (v_iv (n_v vs 8)) (w_fi ws (n_v vs 0) 8) (w_ei ws (w_ar ws (n_v vs 0) 2)) (w_fi ws (n_v vs 0) 5) k2 k8 (shm_2115 f2) kz_0_8)⟩
  have nf6 : fc_1 PRD (20, [0, 8, 1, 5], [60, 9, 2, 1009, 10, 11, 12, 13, 14, 15, 8, 9, 5, 1, 2]) ws (vs) := ⟨nf_in hl rfl, sgq_2124 (vc_Mo_met_at_g1_11_6 (v_iv (n_v vs 1)) (v_iv (n_v vs 5)) (v_iv (n_v vs 6)) (v_iv (n_v vs 8)) (v_iv (n_v vs 10)) (w_fi ws (n_v vs 0) 8) (w_ei ws (w_ar ws (n_v vs 0) 2)) (w_fi ws (n_v vs 0) 5) (w_ei ws (w_ar ws (n_v vs 0) 1)) (w_fi ws (n_v vs 0) 10) (w_fi ws (n_v vs 0) 15) (w_fi ws (n_v vs 0) 11) (w_fi ws (n_v vs 0) 12) (w_fi ws (n_v vs 0) 13) (w_fi ws (n_v vs 0) 14) (w_fi ws (n_v vs 0) 9) k1 k5 k6 k8 k10 g0 (shm_2125 f5) (shm_1439 f13) kz_0_8 kz_0_9 kz_0_10 kz_0_11 kz_0_12 kz_0_13 kz_0_14 kz_0_15)⟩
  refine ⟨(fun _ h => (by cases h)), [], trivial, ?_, (fun _ h => (by cases h))⟩
  rw [List.append_nil]
  exact List.forall_mem_cons.mpr ⟨⟨show (20 : Nat) < 100 from by decide, nf0⟩, List.forall_mem_cons.mpr ⟨⟨show (20 : Nat) < 100 from by decide, nf1⟩, List.forall_mem_cons.mpr ⟨⟨show (20 : Nat) < 100 from by decide, nf2⟩, List.forall_mem_cons.mpr ⟨⟨show (20 : Nat) < 100 from by decide, nf3⟩, List.forall_mem_cons.mpr ⟨⟨show (20 : Nat) < 100 from by decide, nf4⟩, List.forall_mem_cons.mpr ⟨⟨show (20 : Nat) < 100 from by decide, nf5⟩, List.forall_mem_cons.mpr ⟨⟨show (20 : Nat) < 100 from by decide, nf6⟩, (fun _ h => (by cases h))⟩⟩⟩⟩⟩⟩⟩
set_option maxHeartbeats 4000000 in
theorem vc_Mo_met_at_g1_12_0 (x1 : Int) (x5 : Int) (x6 : Int) (x7 : Int) (x8 : Int) (x9 : Int) (fault_0 : Int) (place_0 : Int) (from_0 : Int) (pos_0 : Int) (kind_0 : Int) (all_0 : Int → Int) (r_0 : Int) (tape_0 : Int → Int) (limit_0 : Int) (value_0 : Int) (gx : Int) (k1 : 0 ≤ x1 ∧ x1 ≤ 7) (k5 : 0 ≤ x5 ∧ x5 ≤ 4) (k6 : 0 ≤ x6 ∧ x6 ≤ 0) (k7 : 0 ≤ x7 ∧ x7 ≤ 0) (k8 : 1 ≤ x8 ∧ x8 ≤ 1) (k9 : 0 ≤ x9 ∧ x9 ≤ 2000) (g0 : x6 = fault_0) (g1 : x9 = place_0) (f2 : x7 = 0) (f10 : zRS1 (limit_0) (pos_0) (kind_0) (place_0) (value_0) (from_0) (fault_0) (r_0) (tape_0) (all_0) (x1) (x5)) (f12 : NMQ (kind_0) (pos_0) (limit_0) (from_0) (tape_0) (x7)) (kz_0_8 : 0 ≤ fault_0 ∧ fault_0 ≤ 5) (kz_0_10 : 0 ≤ limit_0 ∧ limit_0 ≤ 2000) (kz_0_11 : 0 ≤ pos_0 ∧ pos_0 ≤ 2000) (kz_0_12 : 0 ≤ kind_0 ∧ kind_0 ≤ 4) (kz_0_13 : 0 ≤ place_0 ∧ place_0 ≤ 2000) (kz_0_14 : (-49) ≤ value_0 ∧ value_0 ≤ 1048575) (kz_0_15 : 0 ≤ from_0 ∧ from_0 ≤ 2000) (ex2 : gx = fault_0) : FSX (limit_0) (tape_0) (x8) (x9) := by
  first | subst g0 | skip
  first | subst g1 | skip
  first | subst ex2 | skip
  first
    | exact fsx_cg (met_no0 ‹zRSE _ _ _ _ _ _ _ _ _ _ _ _› ‹NMQ _ _ _ _ _ _› (by omega)) (by omega) (by omega)
    | exact fsx_cg (met_no1 ‹zRS1 _ _ _ _ _ _ _ _ _ _ _ _› ‹NMQ _ _ _ _ _ _› (by omega)) (by omega) (by omega)
    | exact fsx_cg (met_no4 ‹zRS4 _ _ _ _ _ _ _ _ _ _ _ _ _ _ _› ‹NMQ _ _ _ _ _ _› (by omega)) (by omega) (by omega)
    | (exfalso; omega)
set_option maxHeartbeats 4000000 in
theorem vc_Mo_met_at_g1_12_1 (x6 : Int) (fault_0 : Int) (r_0 : Int) (gx : Int) (k6 : 0 ≤ x6 ∧ x6 ≤ 0) (g0 : x6 = fault_0) (kz_0_8 : 0 ≤ fault_0 ∧ fault_0 ≤ 5) (ex2 : gx = fault_0) : 1 * fault_0 + ((-1) * gx + 0) ≤ 0 := by
  first
    | omega
    | (have q1 := (hE_0_2_1 (r_0 + 2) (by omega)).2 (by omega)
       have q2 := (hE_0_2_2 (r_0 + 2) (by omega)).2 (by omega)
       omega)
    | (have q1 := (hE_0_2_1 (r_0 + 1) (by omega)).2 (by omega)
       have q2 := (hE_0_2_2 (r_0 + 1) (by omega)).2 (by omega)
       omega)
    | (have q1 := (hE_0_2_1 (r_0 + 2) (by omega)).2 (by omega)
       omega)
    | (have q1 := (hE_0_2_1 (r_0 + 1) (by omega)).2 (by omega)
       omega)
    | (have q1 := (hE_0_2_1 (r_0 + 2) (by omega)).2 (by omega)
       have q2 := (hE_0_2_2 (r_0 + 2) (by omega)).2 (by omega)
       have q3 := (hE_0_2_3 (r_0 + 2) (by omega)).1 (by omega)
       omega)
    | (have q1 := (hE_0_2_1 (r_0 + 2) (by omega)).2 (by omega)
       have q2 := (hE_0_2_2 (r_0 + 2) (by omega)).2 (by omega)
       have q3 := (hE_0_2_3 (r_0 + 2) (by omega)).2 (by omega)
       omega)
set_option maxHeartbeats 4000000 in
theorem vc_Mo_met_at_g1_12_2 (x6 : Int) (fault_0 : Int) (r_0 : Int) (gx : Int) (k6 : 0 ≤ x6 ∧ x6 ≤ 0) (g0 : x6 = fault_0) (kz_0_8 : 0 ≤ fault_0 ∧ fault_0 ≤ 5) (ex2 : gx = fault_0) : (-1) * fault_0 + (1 * gx + 0) ≤ 0 := by
  first
    | omega
    | (have q1 := (hE_0_2_1 (r_0 + 2) (by omega)).2 (by omega)
       have q2 := (hE_0_2_2 (r_0 + 2) (by omega)).2 (by omega)
       omega)
    | (have q1 := (hE_0_2_1 (r_0 + 1) (by omega)).2 (by omega)
       have q2 := (hE_0_2_2 (r_0 + 1) (by omega)).2 (by omega)
       omega)
    | (have q1 := (hE_0_2_1 (r_0 + 2) (by omega)).2 (by omega)
       omega)
    | (have q1 := (hE_0_2_1 (r_0 + 1) (by omega)).2 (by omega)
       omega)
    | (have q1 := (hE_0_2_1 (r_0 + 2) (by omega)).2 (by omega)
       have q2 := (hE_0_2_2 (r_0 + 2) (by omega)).2 (by omega)
       have q3 := (hE_0_2_3 (r_0 + 2) (by omega)).1 (by omega)
       omega)
    | (have q1 := (hE_0_2_1 (r_0 + 2) (by omega)).2 (by omega)
       have q2 := (hE_0_2_2 (r_0 + 2) (by omega)).2 (by omega)
       have q3 := (hE_0_2_3 (r_0 + 2) (by omega)).2 (by omega)
       omega)
set_option maxHeartbeats 4000000 in
theorem vc_Mo_met_at_g1_12_3 (x6 : Int) (fault_0 : Int) (gx : Int) (k6 : 0 ≤ x6 ∧ x6 ≤ 0) (g0 : x6 = fault_0) (kz_0_8 : 0 ≤ fault_0 ∧ fault_0 ≤ 5) (ex2 : gx = fault_0) : ZH0 (gx) := by
  first
    | exact ⟨by omega, by omega, trivial⟩
    | (have h := (rsq_0 (‹zRSE _ _ _ _ _ _ _ _ _ _ _ _›).1.1).1; exact ⟨by omega, by omega, trivial⟩)
    | (have h := (rsq_0 ‹zRS1 _ _ _ _ _ _ _ _ _ _ _ _›).1; exact ⟨by omega, by omega, trivial⟩)
    | (have h := (rsq_0 ‹zRS4 _ _ _ _ _ _ _ _ _ _ _ _ _ _ _›).1; exact ⟨by omega, by omega, trivial⟩)
def o_Mo_met_at_g1_12 : or_T := (22, 10, [(0, (2, 0, 0, [165])), (1, (0, 0, 7, [])), (5, (0, 0, 4, [])), (6, (0, 0, 0, [])), (7, (0, 0, 0, [])), (8, (0, 1, 1, [])), (9, (0, 0, 2000, []))], [(9, [6, 0], [8]), (9, [9, 0], [13]), (8, [7], [0]), (20, [0, 1, 5], [60, 8, 2, 965, 10, 11, 12, 13, 14, 15, 8, 5, 1, 2]), (20, [0, 7], [60, 4, 1, 962, 12, 11, 10, 15, 1])], [], [(0, 0, 5, [])], [(20, [0, 8, 9], [60, 1, 1, 1026, 10, 1]), (20, [0, 10], [30, 0, 1, 1, 8, -1, 0, 0]), (20, [0, 10], [30, 0, -1, 1, 8, 1, 0, 0]), (20, [10], [61, 0, 1029])], [], [])
theorem oo_Mo_met_at_g1_12 {kA : Nat → ClassId} : or_ok PRD kA GG o_Mo_met_at_g1_12 := by
  refine or_mk fun A ta ws vs hD hth hl => ?_
  intro t0 r0 t1 k1 t5 k5 t6 k6 t7 k7 t8 k8 t9 k9 f0 f1 f2 f10 f12
  replace f0 := shm_293 f0
  replace f1 := shm_361 f1
  replace f2 := shm_192 f2
  replace f10 := shm_2122 f10
  replace f12 := shm_1889 f12
  have g0 : v_iv (n_v vs 6) = w_fi ws (n_v vs 0) 8 := congrArg v_iv f0
  have g1 : v_iv (n_v vs 9) = w_fi ws (n_v vs 0) 13 := congrArg v_iv f1
  have kz_0_8 := fdq_34 hD hth r0
  have kz_0_10 := fdq_43 hD hth r0
  have kz_0_11 := fdq_237 hD hth r0
  have kz_0_12 := fdq_187 hD hth r0
  have kz_0_13 := fdq_238 hD hth r0
  have kz_0_14 := fdq_188 hD hth r0
  have kz_0_15 := fdq_239 hD hth r0
  obtain ⟨x, ex, hx⟩ := iv_ex (ta := ta) (lo := 0) (hi := 5) (z := w_fi ws (n_v vs 0) 8) (by omega) (by omega) (by omega) (by omega)
  have ex2 : v_iv (Value.int x) = w_fi ws (n_v vs 0) 8 := ex
  have ex3 : 0 ≤ v_iv (Value.int x) ∧ v_iv (Value.int x) ≤ 5 := tv_rng hx
  have e_0 : n_v (vs ++ [Value.int x]) 0 = n_v vs 0 := n_v_old (by rw [hl]; decide)
  have e_8 : n_v (vs ++ [Value.int x]) 8 = n_v vs 8 := n_v_old (by rw [hl]; decide)
  have e_9 : n_v (vs ++ [Value.int x]) 9 = n_v vs 9 := n_v_old (by rw [hl]; decide)
  have e_10 : n_v (vs ++ [Value.int x]) 10 = Value.int x := n_v_new hl
  have nf0 : fc_1 PRD (20, [0, 8, 9], [60, 1, 1, 1026, 10, 1]) ws (vs ++ [Value.int x]) := by
    refine ⟨nf_inA hl rfl, sgq_1724 ?_⟩
    · show FSX (w_fi ws (n_v (vs ++ [Value.int x]) 0) 10) (w_ei ws (w_ar ws (n_v (vs ++ [Value.int x]) 0) 1)) (v_iv (n_v (vs ++ [Value.int x]) 8)) (v_iv (n_v (vs ++ [Value.int x]) 9))
      simp only [e_0, e_8, e_9]
      exact vc_Mo_met_at_g1_12_0 (v_iv (n_v vs 1)) (v_iv (n_v vs 5)) (v_iv (n_v vs 6)) (v_iv (n_v vs 7)) (v_iv (n_v vs 8)) (v_iv (n_v vs 9)) (w_fi ws (n_v vs 0) 8) (w_fi ws (n_v vs 0) 13) (w_fi ws (n_v vs 0) 15) (w_fi ws (n_v vs 0) 11) (w_fi ws (n_v vs 0) 12) (w_ei ws (w_ar ws (n_v vs 0) 2)) (w_fi ws (n_v vs 0) 5) (w_ei ws (w_ar ws (n_v vs 0) 1)) (w_fi ws (n_v vs 0) 10) (w_fi ws (n_v vs 0) 14) (v_iv (Value.int x)) k1 k5 k6 k7 k8 k9 g0 g1 f2 f10 f12 kz_0_8 kz_0_10 kz_0_11 kz_0_12 kz_0_13 kz_0_14 kz_0_15 ex2
  have nf1 : fc_1 PRD (20, [0, 10], [30, 0, 1, 1, 8, -1, 0, 0]) ws (vs ++ [Value.int x]) := by
    refine ⟨nf_inA hl rfl, sgq_303 ?_⟩
    · show 1 * w_fi ws (n_v (vs ++ [Value.int x]) 0) 8 + ((-1) * v_iv (n_v (vs ++ [Value.int x]) 10) + 0) ≤ 0
      simp only [e_0, e_10]
      exact vc_Mo_met_at_g1_12_1 (v_iv (n_v vs 6)) (w_fi ws (n_v vs 0) 8) (w_fi ws (n_v vs 0) 5) (v_iv (Value.int x)) k6 g0 kz_0_8 ex2
  have nf2 : fc_1 PRD (20, [0, 10], [30, 0, -1, 1, 8, 1, 0, 0]) ws (vs ++ [Value.int x]) := by
    refine ⟨nf_inA hl rfl, sgq_304 ?_⟩
    · show (-1) * w_fi ws (n_v (vs ++ [Value.int x]) 0) 8 + (1 * v_iv (n_v (vs ++ [Value.int x]) 10) + 0) ≤ 0
      simp only [e_0, e_10]
      exact vc_Mo_met_at_g1_12_2 (v_iv (n_v vs 6)) (w_fi ws (n_v vs 0) 8) (w_fi ws (n_v vs 0) 5) (v_iv (Value.int x)) k6 g0 kz_0_8 ex2
  have nf3 : fc_1 PRD (20, [10], [61, 0, 1029]) ws (vs ++ [Value.int x]) := by
    refine ⟨nf_inA hl rfl, sgq_1725 ?_⟩
    · show ZH0 (v_iv (n_v (vs ++ [Value.int x]) 10))
      rw [e_10]
      exact vc_Mo_met_at_g1_12_3 (v_iv (n_v vs 6)) (w_fi ws (n_v vs 0) 8) (v_iv (Value.int x)) k6 g0 kz_0_8 ex2
  exact ⟨(fun _ h => (by cases h)), [Value.int x], ag_one hx, List.forall_mem_cons.mpr ⟨⟨show (20 : Nat) < 100 from by decide, nf0⟩, List.forall_mem_cons.mpr ⟨⟨show (20 : Nat) < 100 from by decide, nf1⟩, List.forall_mem_cons.mpr ⟨⟨show (20 : Nat) < 100 from by decide, nf2⟩, List.forall_mem_cons.mpr ⟨⟨show (20 : Nat) < 100 from by decide, nf3⟩, (fun _ h => (by cases h))⟩⟩⟩⟩, (fun _ h => (by cases h))⟩
set_option maxHeartbeats 4000000 in
theorem vc_Mo_met_at_g1_13_0 (x3 : Int) (pos_0 : Int) (kind_0 : Int) (r_0 : Int) (fault_0 : Int) (k3 : 0 ≤ x3 ∧ x3 ≤ 2000) (f12 : (-1) * fault_0 + 0 ≤ (-1)) (kz_0_8 : 0 ≤ fault_0 ∧ fault_0 ≤ 5) (kz_0_11 : 0 ≤ pos_0 ∧ pos_0 ≤ 2000) (kz_0_12 : 0 ≤ kind_0 ∧ kind_0 ≤ 4) : (1 ≤ fault_0) ∨ ((kind_0 = 0) ∨ ((x3 + 1) ≤ pos_0)) := by
  first
    | omega
    | (have q1 := (hE_0_2_1 (r_0 + 2) (by omega)).2 (by omega)
       have q2 := (hE_0_2_2 (r_0 + 2) (by omega)).2 (by omega)
       omega)
    | (have q1 := (hE_0_2_1 (r_0 + 1) (by omega)).2 (by omega)
       have q2 := (hE_0_2_2 (r_0 + 1) (by omega)).2 (by omega)
       omega)
    | (have q1 := (hE_0_2_1 (r_0 + 2) (by omega)).2 (by omega)
       omega)
    | (have q1 := (hE_0_2_1 (r_0 + 1) (by omega)).2 (by omega)
       omega)
    | (have q1 := (hE_0_2_1 (r_0 + 2) (by omega)).2 (by omega)
       have q2 := (hE_0_2_2 (r_0 + 2) (by omega)).2 (by omega)
       have q3 := (hE_0_2_3 (r_0 + 2) (by omega)).1 (by omega)
       omega)
    | (have q1 := (hE_0_2_1 (r_0 + 2) (by omega)).2 (by omega)
       have q2 := (hE_0_2_2 (r_0 + 2) (by omega)).2 (by omega)
       have q3 := (hE_0_2_3 (r_0 + 2) (by omega)).2 (by omega)
       omega)
set_option maxHeartbeats 4000000 in
theorem vc_Mo_met_at_g1_13_1 (x4 : Int) (pos_0 : Int) (r_0 : Int) (fault_0 : Int) (k4 : 0 ≤ x4 ∧ x4 ≤ 2000) (f12 : (-1) * fault_0 + 0 ≤ (-1)) (kz_0_8 : 0 ≤ fault_0 ∧ fault_0 ≤ 5) (kz_0_11 : 0 ≤ pos_0 ∧ pos_0 ≤ 2000) : (1 ≤ fault_0) ∨ ((x4 + 1) ≤ pos_0) := by
  first
    | omega
    | (have q1 := (hE_0_2_1 (r_0 + 2) (by omega)).2 (by omega)
       have q2 := (hE_0_2_2 (r_0 + 2) (by omega)).2 (by omega)
       omega)
    | (have q1 := (hE_0_2_1 (r_0 + 1) (by omega)).2 (by omega)
       have q2 := (hE_0_2_2 (r_0 + 1) (by omega)).2 (by omega)
       omega)
    | (have q1 := (hE_0_2_1 (r_0 + 2) (by omega)).2 (by omega)
       omega)
    | (have q1 := (hE_0_2_1 (r_0 + 1) (by omega)).2 (by omega)
       omega)
    | (have q1 := (hE_0_2_1 (r_0 + 2) (by omega)).2 (by omega)
       have q2 := (hE_0_2_2 (r_0 + 2) (by omega)).2 (by omega)
       have q3 := (hE_0_2_3 (r_0 + 2) (by omega)).1 (by omega)
       omega)
    | (have q1 := (hE_0_2_1 (r_0 + 2) (by omega)).2 (by omega)
       have q2 := (hE_0_2_2 (r_0 + 2) (by omega)).2 (by omega)
       have q3 := (hE_0_2_3 (r_0 + 2) (by omega)).2 (by omega)
       omega)
set_option maxHeartbeats 4000000 in
theorem vc_Mo_met_at_g1_13_2 (x11 : Int) (r_0 : Int) (fault_0 : Int) (k11 : (-1) ≤ x11 ∧ x11 ≤ (-1)) (f12 : (-1) * fault_0 + 0 ≤ (-1)) (kz_0_8 : 0 ≤ fault_0 ∧ fault_0 ≤ 5) : ((-1) * fault_0 + 0 ≤ (-1)) ∨ ((-1) * x11 + 0 ≤ 0) := by
  first
    | omega
    | (have q1 := (hE_0_2_1 (r_0 + 2) (by omega)).2 (by omega)
       have q2 := (hE_0_2_2 (r_0 + 2) (by omega)).2 (by omega)
       omega)
    | (have q1 := (hE_0_2_1 (r_0 + 1) (by omega)).2 (by omega)
       have q2 := (hE_0_2_2 (r_0 + 1) (by omega)).2 (by omega)
       omega)
    | (have q1 := (hE_0_2_1 (r_0 + 2) (by omega)).2 (by omega)
       omega)
    | (have q1 := (hE_0_2_1 (r_0 + 1) (by omega)).2 (by omega)
       omega)
    | (have q1 := (hE_0_2_1 (r_0 + 2) (by omega)).2 (by omega)
       have q2 := (hE_0_2_2 (r_0 + 2) (by omega)).2 (by omega)
       have q3 := (hE_0_2_3 (r_0 + 2) (by omega)).1 (by omega)
       omega)
    | (have q1 := (hE_0_2_1 (r_0 + 2) (by omega)).2 (by omega)
       have q2 := (hE_0_2_2 (r_0 + 2) (by omega)).2 (by omega)
       have q3 := (hE_0_2_3 (r_0 + 2) (by omega)).2 (by omega)
       omega)
set_option maxHeartbeats 4000000 in
theorem vc_Mo_met_at_g1_13_3 (x2 : Int) (all_0 : Int → Int) (r_0 : Int) (fault_0 : Int) (k2 : (-1) ≤ x2 ∧ x2 ≤ (-1)) (f12 : (-1) * fault_0 + 0 ≤ (-1)) (kz_0_8 : 0 ≤ fault_0 ∧ fault_0 ≤ 5) : (1 ≤ fault_0) ∨ ((x2 ≤ (-1)) ∨ (all_0 ((r_0 + 1)) ≤ 47)) := by
  first
    | omega
    | (have q1 := (hE_0_2_1 (r_0 + 2) (by omega)).2 (by omega)
       have q2 := (hE_0_2_2 (r_0 + 2) (by omega)).2 (by omega)
       omega)
    | (have q1 := (hE_0_2_1 (r_0 + 1) (by omega)).2 (by omega)
       have q2 := (hE_0_2_2 (r_0 + 1) (by omega)).2 (by omega)
       omega)
    | (have q1 := (hE_0_2_1 (r_0 + 2) (by omega)).2 (by omega)
       omega)
    | (have q1 := (hE_0_2_1 (r_0 + 1) (by omega)).2 (by omega)
       omega)
    | (have q1 := (hE_0_2_1 (r_0 + 2) (by omega)).2 (by omega)
       have q2 := (hE_0_2_2 (r_0 + 2) (by omega)).2 (by omega)
       have q3 := (hE_0_2_3 (r_0 + 2) (by omega)).1 (by omega)
       omega)
    | (have q1 := (hE_0_2_1 (r_0 + 2) (by omega)).2 (by omega)
       have q2 := (hE_0_2_2 (r_0 + 2) (by omega)).2 (by omega)
       have q3 := (hE_0_2_3 (r_0 + 2) (by omega)).2 (by omega)
       omega)
set_option maxHeartbeats 4000000 in
theorem vc_Mo_met_at_g1_13_4 (x2 : Int) (x11 : Int) (all_0 : Int → Int) (r_0 : Int) (fault_0 : Int) (k2 : (-1) ≤ x2 ∧ x2 ≤ (-1)) (k11 : (-1) ≤ x11 ∧ x11 ≤ (-1)) (f12 : (-1) * fault_0 + 0 ≤ (-1)) (kz_0_8 : 0 ≤ fault_0 ∧ fault_0 ≤ 5) : MET (r_0) (fault_0) (all_0) (x2) (x11) := by
  first
    | (intro q; exfalso; omega)
    | exact fun _ => ‹MEN _ _ _ _›
set_option maxHeartbeats 4000000 in
theorem vc_Mo_met_at_g1_13_5 (x1 : Int) (x5 : Int) (x8 : Int) (x9 : Int) (x10 : Int) (x11 : Int) (place_0 : Int) (tape_0 : Int → Int) (limit_0 : Int) (from_0 : Int) (pos_0 : Int) (kind_0 : Int) (all_0 : Int → Int) (r_0 : Int) (fault_0 : Int) (faultPlace_0 : Int) (value_0 : Int) (k1 : 0 ≤ x1 ∧ x1 ≤ 7) (k5 : 0 ≤ x5 ∧ x5 ≤ 4) (k8 : 1 ≤ x8 ∧ x8 ≤ 1) (k9 : 0 ≤ x9 ∧ x9 ≤ 2000) (k10 : 0 ≤ x10 ∧ x10 ≤ 5) (k11 : (-1) ≤ x11 ∧ x11 ≤ (-1)) (g0 : x9 = place_0) (f1 : FSX (limit_0) (tape_0) (x8) (x9)) (f2 : ZH0 (x10)) (f13 : ((1 ≤ x10) ∧ (fault_0 = x10)) ∨ ((x10 = 0) ∧ ((fault_0 = x8) ∧ (faultPlace_0 = x9)))) (kz_0_8 : 0 ≤ fault_0 ∧ fault_0 ≤ 5) (kz_0_9 : 0 ≤ faultPlace_0 ∧ faultPlace_0 ≤ 2000) (kz_0_10 : 0 ≤ limit_0 ∧ limit_0 ≤ 2000) (kz_0_11 : 0 ≤ pos_0 ∧ pos_0 ≤ 2000) (kz_0_12 : 0 ≤ kind_0 ∧ kind_0 ≤ 4) (kz_0_13 : 0 ≤ place_0 ∧ place_0 ≤ 2000) (kz_0_14 : (-49) ≤ value_0 ∧ value_0 ≤ 1048575) (kz_0_15 : 0 ≤ from_0 ∧ from_0 ≤ 2000) : zOS2 (limit_0) (pos_0) (kind_0) (place_0) (value_0) (from_0) (fault_0) (faultPlace_0) (r_0) (tape_0) (all_0) (x11) (x1) (x5) := by
  first | subst g0 | skip
  first
    | (exfalso; have h := (rsq_0 ‹zRS1 _ _ _ _ _ _ _ _ _ _ _ _›).1; omega)
    | (refine Or.inl (fs_w ?_ ?_ (by assumption)) <;> assumption)
    | exact Or.inr (rsq_of ‹zTS2 _ _ _ _ _ _ _ _ _› ‹TKR _ _ _ _ _ _ _ _›)
    | (exfalso; omega)
def o_Mo_met_at_g1_13 : or_T := (26, 12, [(0, (2, 0, 0, [165])), (1, (0, 0, 7, [])), (2, (0, -1, -1, [])), (3, (0, 0, 2000, [])), (4, (0, 0, 2000, [])), (5, (0, 0, 4, [])), (8, (0, 1, 1, [])), (9, (0, 0, 2000, [])), (10, (0, 0, 5, [])), (11, (0, -1, -1, []))], [(9, [9, 0], [13]), (20, [0, 8, 9], [60, 1, 1, 1026, 10, 1]), (20, [10], [61, 0, 1029]), (20, [0], [30, -1, -1, 1, 8]), (20, [10, 0, 8, 9], [50, 2, 0, 1008, 1009, 3, 15, 2, 6, 0, 2, 0, 1, 1, 0, 1, 3, 2, 1, 8, 1, 0, 2, 6, 1, 2, 1, 0, 0, 0, 2, 7, 1, 3, 2, 1, 8, 1, 2, 1, 3, 2, 1, 9, 1, 3])], [], [], [(20, [0, 3], [50, 3, 0, 8, 12, 11, 3, 7, 0, 2, 0, 1, 2, 0, 8, 3, 7, 1, 3, 2, 0, 12, 0, 0, 0, 6, 4, 2, 1, 1, 0, 1, 2, 0, 11]), (20, [0, 4], [50, 2, 0, 8, 11, 3, 7, 0, 2, 0, 1, 2, 0, 8, 0, 6, 4, 2, 1, 1, 0, 1, 2, 0, 11]), (20, [0, 11], [31, 1, -1, -1, 1, 8, 0, -1, 0, 0]), (20, [0, 2], [50, 2, 1, 8, 5, 2, 3, 7, 0, 2, 0, 1, 2, 0, 8, 3, 6, 0, 2, 1, 1, 0, -1, 0, 10, 3, 0, 2, 4, 3, 2, 0, 5, 0, 1, 0, 47]), (20, [0, 2, 11], [60, 2, 1, 240, 5, 8, 2]), (20, [0, 11, 1, 5], [60, 9, 2, 1009, 10, 11, 12, 13, 14, 15, 8, 9, 5, 1, 2])], [], [])
theorem oo_Mo_met_at_g1_13 {kA : Nat → ClassId} : or_ok PRD kA GG o_Mo_met_at_g1_13 := by
  refine or_mk fun A ta ws vs hD hth hl => ?_
  intro t0 r0 t1 k1 t2 k2 t3 k3 t4 k4 t5 k5 t8 k8 t9 k9 t10 k10 t11 k11 f0 f1 f2 f12 f13
  replace f0 := shm_361 f0
  have g0 : v_iv (n_v vs 9) = w_fi ws (n_v vs 0) 13 := congrArg v_iv f0
  have kz_0_8 := fdq_34 hD hth r0
  have kz_0_9 := fdq_44 hD hth r0
  have kz_0_10 := fdq_43 hD hth r0
  have kz_0_11 := fdq_237 hD hth r0
  have kz_0_12 := fdq_187 hD hth r0
  have kz_0_13 := fdq_238 hD hth r0
  have kz_0_14 := fdq_188 hD hth r0
  have kz_0_15 := fdq_239 hD hth r0
  have nf0 : fc_1 PRD (20, [0, 3], [50, 3, 0, 8, 12, 11, 3, 7, 0, 2, 0, 1, 2, 0, 8, 3, 7, 1, 3, 2, 0, 12, 0, 0, 0, 6, 4, 2, 1, 1, 0, 1, 2, 0, 11]) ws (vs) := ⟨nf_in hl rfl, sgq_1722 (vc_Mo_met_at_g1_13_0 (v_iv (n_v vs 3)) (w_fi ws (n_v vs 0) 11) (w_fi ws (n_v vs 0) 12) (w_fi ws (n_v vs 0) 5) (w_fi ws (n_v vs 0) 8) k3 (shm_305 f12) kz_0_8 kz_0_11 kz_0_12)⟩
  have nf1 : fc_1 PRD (20, [0, 4], [50, 2, 0, 8, 11, 3, 7, 0, 2, 0, 1, 2, 0, 8, 0, 6, 4, 2, 1, 1, 0, 1, 2, 0, 11]) ws (vs) := ⟨nf_in hl rfl, sgq_1726 (vc_Mo_met_at_g1_13_1 (v_iv (n_v vs 4)) (w_fi ws (n_v vs 0) 11) (w_fi ws (n_v vs 0) 5) (w_fi ws (n_v vs 0) 8) k4 (shm_305 f12) kz_0_8 kz_0_11)⟩
  have nf2 : fc_1 PRD (20, [0, 11], [31, 1, -1, -1, 1, 8, 0, -1, 0, 0]) ws (vs) := ⟨nf_in hl rfl, sgq_2117 (vc_Mo_met_at_g1_13_2 (v_iv (n_v vs 11)) (w_fi ws (n_v vs 0) 5) (w_fi ws (n_v vs 0) 8) k11 (shm_305 f12) kz_0_8)⟩
  have nf3 : fc_1 PRD (20, [0, 2], [50, 2, 1, 8, 5, 2, 3, 7, 0, 2, 0, 1, 2, 0, 8, 3, 6, 0, 2, 1, 1, 0, -1, 0, 10, 3, 0, 2, 4, 3, 2, 0, 5, 0, 1, 0, 47]) ws (vs) := ⟨nf_in hl rfl, sgq_2118 (vc_Mo_met_at_g1_13_3 (v_iv (n_v vs 2)) (w_ei ws (w_ar ws (n_v vs 0) 2)) (w_fi ws (n_v vs 0) 5) (w_fi ws (n_v vs 0) 8) k2 (shm_305 f12) kz_0_8)⟩
  have nf4 : fc_1 PRD (20, [0, 2, 11], [60, 2, 1, 240, 5, 8, 2]) ws (vs) := ⟨nf_in hl rfl, sgq_2119 (vc_Mo_met_at_g1_13_4 (v_iv (n_v vs 2)) (v_iv (n_v vs 11)) (w_ei ws (w_ar ws (n_v vs 0) 2)) (w_fi ws (n_v vs 0) 5) (w_fi ws (n_v vs 0) 8) k2 k11 (shm_305 f12) kz_0_8)⟩
  have nf5 : fc_1 PRD (20, [0, 11, 1, 5], [60, 9, 2, 1009, 10, 11, 12, 13, 14, 15, 8, 9, 5, 1, 2]) ws (vs) := ⟨nf_in hl rfl, sgq_2124 (vc_Mo_met_at_g1_13_5 (v_iv (n_v vs 1)) (v_iv (n_v vs 5)) (v_iv (n_v vs 8)) (v_iv (n_v vs 9)) (v_iv (n_v vs 10)) (v_iv (n_v vs 11)) (w_fi ws (n_v vs 0) 13) (w_ei ws (w_ar ws (n_v vs 0) 1)) (w_fi ws (n_v vs 0) 10) (w_fi ws (n_v vs 0) 15) (w_fi ws (n_v vs 0) 11) (w_fi ws (n_v vs 0) 12) (w_ei ws (w_ar ws (n_v vs 0) 2)) (w_fi ws (n_v vs 0) 5) (w_fi ws (n_v vs 0) 8) (w_fi ws (n_v vs 0) 9) (w_fi ws (n_v vs 0) 14) k1 k5 k8 k9 k10 k11 g0 (shm_1724 f1) (shm_1725 f2) (shm_306 f13) kz_0_8 kz_0_9 kz_0_10 kz_0_11 kz_0_12 kz_0_13 kz_0_14 kz_0_15)⟩
  refine ⟨(fun _ h => (by cases h)), [], trivial, ?_, (fun _ h => (by cases h))⟩
  rw [List.append_nil]
  exact List.forall_mem_cons.mpr ⟨⟨show (20 : Nat) < 100 from by decide, nf0⟩, List.forall_mem_cons.mpr ⟨⟨show (20 : Nat) < 100 from by decide, nf1⟩, List.forall_mem_cons.mpr ⟨⟨show (20 : Nat) < 100 from by decide, nf2⟩, List.forall_mem_cons.mpr ⟨⟨show (20 : Nat) < 100 from by decide, nf3⟩, List.forall_mem_cons.mpr ⟨⟨show (20 : Nat) < 100 from by decide, nf4⟩, List.forall_mem_cons.mpr ⟨⟨show (20 : Nat) < 100 from by decide, nf5⟩, (fun _ h => (by cases h))⟩⟩⟩⟩⟩⟩
set_option maxHeartbeats 4000000 in
theorem vc_Mo_met_at_g1_14_0 (x3 : Int) (x6 : Int) (fault_0 : Int) (pos_0 : Int) (kind_0 : Int) (r_0 : Int) (k3 : 0 ≤ x3 ∧ x3 ≤ 2000) (k6 : 1 ≤ x6 ∧ x6 ≤ 5) (g1 : x6 = fault_0) (kz_0_8 : 0 ≤ fault_0 ∧ fault_0 ≤ 5) (kz_0_11 : 0 ≤ pos_0 ∧ pos_0 ≤ 2000) (kz_0_12 : 0 ≤ kind_0 ∧ kind_0 ≤ 4) : (1 ≤ fault_0) ∨ ((kind_0 = 0) ∨ ((x3 + 1) ≤ pos_0)) := by
  first
    | omega
    | (have q1 := (hE_0_2_1 (r_0 + 2) (by omega)).2 (by omega)
       have q2 := (hE_0_2_2 (r_0 + 2) (by omega)).2 (by omega)
       omega)
    | (have q1 := (hE_0_2_1 (r_0 + 1) (by omega)).2 (by omega)
       have q2 := (hE_0_2_2 (r_0 + 1) (by omega)).2 (by omega)
       omega)
    | (have q1 := (hE_0_2_1 (r_0 + 2) (by omega)).2 (by omega)
       omega)
    | (have q1 := (hE_0_2_1 (r_0 + 1) (by omega)).2 (by omega)
       omega)
    | (have q1 := (hE_0_2_1 (r_0 + 2) (by omega)).2 (by omega)
       have q2 := (hE_0_2_2 (r_0 + 2) (by omega)).2 (by omega)
       have q3 := (hE_0_2_3 (r_0 + 2) (by omega)).1 (by omega)
       omega)
    | (have q1 := (hE_0_2_1 (r_0 + 2) (by omega)).2 (by omega)
       have q2 := (hE_0_2_2 (r_0 + 2) (by omega)).2 (by omega)
       have q3 := (hE_0_2_3 (r_0 + 2) (by omega)).2 (by omega)
       omega)
set_option maxHeartbeats 4000000 in
theorem vc_Mo_met_at_g1_14_1 (x4 : Int) (x6 : Int) (fault_0 : Int) (pos_0 : Int) (r_0 : Int) (k4 : 0 ≤ x4 ∧ x4 ≤ 2000) (k6 : 1 ≤ x6 ∧ x6 ≤ 5) (g1 : x6 = fault_0) (kz_0_8 : 0 ≤ fault_0 ∧ fault_0 ≤ 5) (kz_0_11 : 0 ≤ pos_0 ∧ pos_0 ≤ 2000) : (1 ≤ fault_0) ∨ ((x4 + 1) ≤ pos_0) := by
  first
    | omega
    | (have q1 := (hE_0_2_1 (r_0 + 2) (by omega)).2 (by omega)
       have q2 := (hE_0_2_2 (r_0 + 2) (by omega)).2 (by omega)
       omega)
    | (have q1 := (hE_0_2_1 (r_0 + 1) (by omega)).2 (by omega)
       have q2 := (hE_0_2_2 (r_0 + 1) (by omega)).2 (by omega)
       omega)
    | (have q1 := (hE_0_2_1 (r_0 + 2) (by omega)).2 (by omega)
       omega)
    | (have q1 := (hE_0_2_1 (r_0 + 1) (by omega)).2 (by omega)
       omega)
    | (have q1 := (hE_0_2_1 (r_0 + 2) (by omega)).2 (by omega)
       have q2 := (hE_0_2_2 (r_0 + 2) (by omega)).2 (by omega)
       have q3 := (hE_0_2_3 (r_0 + 2) (by omega)).1 (by omega)
       omega)
    | (have q1 := (hE_0_2_1 (r_0 + 2) (by omega)).2 (by omega)
       have q2 := (hE_0_2_2 (r_0 + 2) (by omega)).2 (by omega)
       have q3 := (hE_0_2_3 (r_0 + 2) (by omega)).2 (by omega)
       omega)
set_option maxHeartbeats 4000000 in
theorem vc_Mo_met_at_g1_14_2 (x6 : Int) (x7 : Int) (fault_0 : Int) (r_0 : Int) (k6 : 1 ≤ x6 ∧ x6 ≤ 5) (k7 : (-1) ≤ x7 ∧ x7 ≤ (-1)) (g1 : x6 = fault_0) (kz_0_8 : 0 ≤ fault_0 ∧ fault_0 ≤ 5) : ((-1) * fault_0 + 0 ≤ (-1)) ∨ ((-1) * x7 + 0 ≤ 0) := by
  first
    | omega
    | (have q1 := (hE_0_2_1 (r_0 + 2) (by omega)).2 (by omega)
       have q2 := (hE_0_2_2 (r_0 + 2) (by omega)).2 (by omega)
       omega)
    | (have q1 := (hE_0_2_1 (r_0 + 1) (by omega)).2 (by omega)
       have q2 := (hE_0_2_2 (r_0 + 1) (by omega)).2 (by omega)
       omega)
    | (have q1 := (hE_0_2_1 (r_0 + 2) (by omega)).2 (by omega)
       omega)
    | (have q1 := (hE_0_2_1 (r_0 + 1) (by omega)).2 (by omega)
       omega)
    | (have q1 := (hE_0_2_1 (r_0 + 2) (by omega)).2 (by omega)
       have q2 := (hE_0_2_2 (r_0 + 2) (by omega)).2 (by omega)
       have q3 := (hE_0_2_3 (r_0 + 2) (by omega)).1 (by omega)
       omega)
    | (have q1 := (hE_0_2_1 (r_0 + 2) (by omega)).2 (by omega)
       have q2 := (hE_0_2_2 (r_0 + 2) (by omega)).2 (by omega)
       have q3 := (hE_0_2_3 (r_0 + 2) (by omega)).2 (by omega)
       omega)
set_option maxHeartbeats 4000000 in
theorem vc_Mo_met_at_g1_14_3 (x2 : Int) (x6 : Int) (fault_0 : Int) (all_0 : Int → Int) (r_0 : Int) (k2 : (-1) ≤ x2 ∧ x2 ≤ (-1)) (k6 : 1 ≤ x6 ∧ x6 ≤ 5) (g1 : x6 = fault_0) (kz_0_8 : 0 ≤ fault_0 ∧ fault_0 ≤ 5) : (1 ≤ fault_0) ∨ ((x2 ≤ (-1)) ∨ (all_0 ((r_0 + 1)) ≤ 47)) := by
  first
    | omega
    | (have q1 := (hE_0_2_1 (r_0 + 2) (by omega)).2 (by omega)
       have q2 := (hE_0_2_2 (r_0 + 2) (by omega)).2 (by omega)
       omega)
    | (have q1 := (hE_0_2_1 (r_0 + 1) (by omega)).2 (by omega)
       have q2 := (hE_0_2_2 (r_0 + 1) (by omega)).2 (by omega)
       omega)
    | (have q1 := (hE_0_2_1 (r_0 + 2) (by omega)).2 (by omega)
       omega)
    | (have q1 := (hE_0_2_1 (r_0 + 1) (by omega)).2 (by omega)
       omega)
    | (have q1 := (hE_0_2_1 (r_0 + 2) (by omega)).2 (by omega)
       have q2 := (hE_0_2_2 (r_0 + 2) (by omega)).2 (by omega)
       have q3 := (hE_0_2_3 (r_0 + 2) (by omega)).1 (by omega)
       omega)
    | (have q1 := (hE_0_2_1 (r_0 + 2) (by omega)).2 (by omega)
       have q2 := (hE_0_2_2 (r_0 + 2) (by omega)).2 (by omega)
       have q3 := (hE_0_2_3 (r_0 + 2) (by omega)).2 (by omega)
       omega)
set_option maxHeartbeats 4000000 in
theorem vc_Mo_met_at_g1_14_4 (x2 : Int) (x6 : Int) (x7 : Int) (fault_0 : Int) (all_0 : Int → Int) (r_0 : Int) (k2 : (-1) ≤ x2 ∧ x2 ≤ (-1)) (k6 : 1 ≤ x6 ∧ x6 ≤ 5) (k7 : (-1) ≤ x7 ∧ x7 ≤ (-1)) (g1 : x6 = fault_0) (kz_0_8 : 0 ≤ fault_0 ∧ fault_0 ≤ 5) : MET (r_0) (fault_0) (all_0) (x2) (x7) := by
  first
    | (intro q; exfalso; omega)
    | exact fun _ => ‹MEN _ _ _ _›
set_option maxHeartbeats 4000000 in
theorem vc_Mo_met_at_g1_14_5 (x1 : Int) (x5 : Int) (x6 : Int) (x7 : Int) (fault_0 : Int) (from_0 : Int) (pos_0 : Int) (kind_0 : Int) (all_0 : Int → Int) (r_0 : Int) (tape_0 : Int → Int) (limit_0 : Int) (place_0 : Int) (value_0 : Int) (faultPlace_0 : Int) (k1 : 0 ≤ x1 ∧ x1 ≤ 7) (k5 : 0 ≤ x5 ∧ x5 ≤ 4) (k6 : 1 ≤ x6 ∧ x6 ≤ 5) (k7 : (-1) ≤ x7 ∧ x7 ≤ (-1)) (g1 : x6 = fault_0) (f9 : zRS1 (limit_0) (pos_0) (kind_0) (place_0) (value_0) (from_0) (fault_0) (r_0) (tape_0) (all_0) (x1) (x5)) (kz_0_8 : 0 ≤ fault_0 ∧ fault_0 ≤ 5) (kz_0_9 : 0 ≤ faultPlace_0 ∧ faultPlace_0 ≤ 2000) (kz_0_10 : 0 ≤ limit_0 ∧ limit_0 ≤ 2000) (kz_0_11 : 0 ≤ pos_0 ∧ pos_0 ≤ 2000) (kz_0_12 : 0 ≤ kind_0 ∧ kind_0 ≤ 4) (kz_0_13 : 0 ≤ place_0 ∧ place_0 ≤ 2000) (kz_0_14 : (-49) ≤ value_0 ∧ value_0 ≤ 1048575) (kz_0_15 : 0 ≤ from_0 ∧ from_0 ≤ 2000) : zOS2 (limit_0) (pos_0) (kind_0) (place_0) (value_0) (from_0) (fault_0) (faultPlace_0) (r_0) (tape_0) (all_0) (x7) (x1) (x5) := by
  first | subst g1 | skip
  first
    | (exfalso; have h := (rsq_0 ‹zRS1 _ _ _ _ _ _ _ _ _ _ _ _›).1; omega)
    | (refine Or.inl (fs_w ?_ ?_ (by assumption)) <;> assumption)
    | exact Or.inr (rsq_of ‹zTS2 _ _ _ _ _ _ _ _ _› ‹TKR _ _ _ _ _ _ _ _›)
    | (exfalso; omega)
def o_Mo_met_at_g1_14 : or_T := (8, 8, [(0, (2, 0, 0, [165])), (1, (0, 0, 7, [])), (2, (0, -1, -1, [])), (3, (0, 0, 2000, [])), (4, (0, 0, 2000, [])), (5, (0, 0, 4, [])), (6, (0, 1, 5, [])), (7, (0, -1, -1, []))], [(9, [6, 0], [8]), (20, [0, 1, 5], [60, 8, 2, 965, 10, 11, 12, 13, 14, 15, 8, 5, 1, 2])], [], [], [(20, [0, 3], [50, 3, 0, 8, 12, 11, 3, 7, 0, 2, 0, 1, 2, 0, 8, 3, 7, 1, 3, 2, 0, 12, 0, 0, 0, 6, 4, 2, 1, 1, 0, 1, 2, 0, 11]), (20, [0, 4], [50, 2, 0, 8, 11, 3, 7, 0, 2, 0, 1, 2, 0, 8, 0, 6, 4, 2, 1, 1, 0, 1, 2, 0, 11]), (20, [0, 7], [31, 1, -1, -1, 1, 8, 0, -1, 0, 0]), (20, [0, 2], [50, 2, 1, 8, 5, 2, 3, 7, 0, 2, 0, 1, 2, 0, 8, 3, 6, 0, 2, 1, 1, 0, -1, 0, 10, 3, 0, 2, 4, 3, 2, 0, 5, 0, 1, 0, 47]), (20, [0, 2, 7], [60, 2, 1, 240, 5, 8, 2]), (20, [0, 7, 1, 5], [60, 9, 2, 1009, 10, 11, 12, 13, 14, 15, 8, 9, 5, 1, 2])], [], [])
theorem oo_Mo_met_at_g1_14 {kA : Nat → ClassId} : or_ok PRD kA GG o_Mo_met_at_g1_14 := by
  refine or_mk fun A ta ws vs hD hth hl => ?_
  intro t0 r0 t1 k1 t2 k2 t3 k3 t4 k4 t5 k5 t6 k6 t7 k7 f1 f9
  replace f1 := shm_293 f1
  have g1 : v_iv (n_v vs 6) = w_fi ws (n_v vs 0) 8 := congrArg v_iv f1
  have kz_0_8 := fdq_34 hD hth r0
  have kz_0_9 := fdq_44 hD hth r0
  have kz_0_10 := fdq_43 hD hth r0
  have kz_0_11 := fdq_237 hD hth r0
  have kz_0_12 := fdq_187 hD hth r0
  have kz_0_13 := fdq_238 hD hth r0
  have kz_0_14 := fdq_188 hD hth r0
  have kz_0_15 := fdq_239 hD hth r0
  have nf0 : fc_1 PRD (20, [0, 3], [50, 3, 0, 8, 12, 11, 3, 7, 0, 2, 0, 1, 2, 0, 8, 3, 7, 1, 3, 2, 0, 12, 0, 0, 0, 6, 4, 2, 1, 1, 0, 1, 2, 0, 11]) ws (vs) := ⟨nf_in hl rfl, sgq_1722 (vc_Mo_met_at_g1_14_0 (v_iv (n_v vs 3)) (v_iv (n_v vs 6)) (w_fi ws (n_v vs 0) 8) (w_fi ws (n_v vs 0) 11) (w_fi ws (n_v vs 0) 12) (w_fi ws (n_v vs 0) 5) k3 k6 g1 kz_0_8 kz_0_11 kz_0_12)⟩
  have nf1 : fc_1 PRD (20, [0, 4], [50, 2, 0, 8, 11, 3, 7, 0, 2, 0, 1, 2, 0, 8, 0, 6, 4, 2, 1, 1, 0, 1, 2, 0, 11]) ws (vs) := ⟨nf_in hl rfl, sgq_1726 (vc_Mo_met_at_g1_14_1 (v_iv (n_v vs 4)) (v_iv (n_v vs 6)) (w_fi ws (n_v vs 0) 8) (w_fi ws (n_v vs 0) 11) (w_fi ws (n_v vs 0) 5) k4 k6 g1 kz_0_8 kz_0_11)⟩
  have nf2 : fc_1 PRD (20, [0, 7], [31, 1, -1, -1, 1, 8, 0, -1, 0, 0]) ws (vs) := ⟨nf_in hl rfl, sgq_2117 (vc_Mo_met_at_g1_14_2 (v_iv (n_v vs 6)) (v_iv (n_v vs 7)) (w_fi ws (n_v vs 0) 8) (w_fi ws (n_v vs 0) 5) k6 k7 g1 kz_0_8)⟩
  have nf3 : fc_1 PRD (20, [0, 2], [50, 2, 1, 8, 5, 2, 3, 7, 0, 2, 0, 1, 2, 0, 8, 3, 6, 0, 2, 1, 1, 0, -1, 0, 10, 3, 0, 2, 4, 3, 2, 0, 5, 0, 1, 0, 47]) ws (vs) := ⟨nf_in hl rfl, sgq_2118 (vc_Mo_met_at_g1_14_3 (v_iv (n_v vs 2)) (v_iv (n_v vs 6)) (w_fi ws (n_v vs 0) 8) (w_ei ws (w_ar ws (n_v vs 0) 2)) (w_fi ws (n_v vs 0) 5) k2 k6 g1 kz_0_8)⟩
  have nf4 : fc_1 PRD (20, [0, 2, 7], [60, 2, 1, 240, 5, 8, 2]) ws (vs) := ⟨nf_in hl rfl, sgq_2119 (vc_Mo_met_at_g1_14_4 (v_iv (n_v vs 2)) (v_iv (n_v vs 6)) (v_iv (n_v vs 7)) (w_fi ws (n_v vs 0) 8) (w_ei ws (w_ar ws (n_v vs 0) 2)) (w_fi ws (n_v vs 0) 5) k2 k6 k7 g1 kz_0_8)⟩
  have nf5 : fc_1 PRD (20, [0, 7, 1, 5], [60, 9, 2, 1009, 10, 11, 12, 13, 14, 15, 8, 9, 5, 1, 2]) ws (vs) := ⟨nf_in hl rfl, sgq_2124 (vc_Mo_met_at_g1_14_5 (v_iv (n_v vs 1)) (v_iv (n_v vs 5)) (v_iv (n_v vs 6)) (v_iv (n_v vs 7)) (w_fi ws (n_v vs 0) 8) (w_fi ws (n_v vs 0) 15) (w_fi ws (n_v vs 0) 11) (w_fi ws (n_v vs 0) 12) (w_ei ws (w_ar ws (n_v vs 0) 2)) (w_fi ws (n_v vs 0) 5) (w_ei ws (w_ar ws (n_v vs 0) 1)) (w_fi ws (n_v vs 0) 10) (w_fi ws (n_v vs 0) 13) (w_fi ws (n_v vs 0) 14) (w_fi ws (n_v vs 0) 9) k1 k5 k6 k7 g1 (shm_2122 f9) kz_0_8 kz_0_9 kz_0_10 kz_0_11 kz_0_12 kz_0_13 kz_0_14 kz_0_15)⟩
  refine ⟨(fun _ h => (by cases h)), [], trivial, ?_, (fun _ h => (by cases h))⟩
  rw [List.append_nil]
  exact List.forall_mem_cons.mpr ⟨⟨show (20 : Nat) < 100 from by decide, nf0⟩, List.forall_mem_cons.mpr ⟨⟨show (20 : Nat) < 100 from by decide, nf1⟩, List.forall_mem_cons.mpr ⟨⟨show (20 : Nat) < 100 from by decide, nf2⟩, List.forall_mem_cons.mpr ⟨⟨show (20 : Nat) < 100 from by decide, nf3⟩, List.forall_mem_cons.mpr ⟨⟨show (20 : Nat) < 100 from by decide, nf4⟩, List.forall_mem_cons.mpr ⟨⟨show (20 : Nat) < 100 from by decide, nf5⟩, (fun _ h => (by cases h))⟩⟩⟩⟩⟩⟩
set_option maxHeartbeats 4000000 in
theorem vc_Mo_met_at_g1_15_0 (x1 : Int) (x2 : Int) (x19 : Int) (x20 : Int) (x23 : Int) (r_0 : Int) (from_0 : Int) (pos_0 : Int) (kind_0 : Int) (from_1 : Int) (pos_1 : Int) (kind_1 : Int) (from_2 : Int) (pos_2 : Int) (kind_2 : Int) (all_2 : Int → Int) (r_2 : Int) (now_2 : Int → Int) (latest_2 : Int → Int) (tape_2 : Int → Int) (limit_2 : Int) (place_2 : Int) (value_2 : Int) (fault_2 : Int) (r_1 : Int) (fault_0 : Int) (fault_1 : Int) (limit_0 : Int) (limit_1 : Int) (place_0 : Int) (place_1 : Int) (value_0 : Int) (value_1 : Int) (tape_0 : Int → Int) (tape_1 : Int → Int) (all_0 : Int → Int) (all_1 : Int → Int) (now_0 : Int → Int) (now_1 : Int → Int) (latest_0 : Int → Int) (latest_1 : Int → Int) (k1 : 0 ≤ x1 ∧ x1 ≤ 7) (k2 : (-1) ≤ x2 ∧ x2 ≤ (-1)) (k19 : 219 ≤ x19 ∧ x19 ≤ 66539) (k20 : 1 ≤ x20 ∧ x20 ≤ 1) (k23 : 243 ≤ x23 ∧ x23 ≤ 66563) (fe_0_5_1 : r_0 = r_1) (fe_0_8_1 : fault_0 = fault_1) (fe_0_10_1 : limit_0 = limit_1) (fe_0_11_1 : pos_0 = pos_1) (fe_0_12_1 : kind_0 = kind_1) (fe_0_13_1 : place_0 = place_1) (fe_0_14_1 : value_0 = value_1) (fe_0_15_1 : from_0 = from_1) (fe_0_5_2 : r_1 = r_2) (fe_0_8_2 : fault_1 = fault_2) (fe_0_10_2 : limit_1 = limit_2) (fe_0_11_2 : pos_1 = pos_2) (fe_0_12_2 : kind_1 = kind_2) (fe_0_13_2 : place_1 = place_2) (fe_0_14_2 : value_1 = value_2) (fe_0_15_2 : from_1 = from_2) (hE_0_1_1 : ∀ j : Int, tape_0 j = tape_1 j) (hE_0_1_2 : ∀ j : Int, tape_1 j = tape_2 j) (hE_0_2_1 : ∀ j : Int, 0 ≤ j → (j = x23 → all_0 j = x1) ∧ (j ≠ x23 → all_0 j = all_1 j)) (hE_0_2_2 : ∀ j : Int, 0 ≤ j → (j = x19 → all_1 j = x20) ∧ (j ≠ x19 → all_1 j = all_2 j)) (hE_0_3_1 : ∀ j : Int, now_0 j = now_1 j) (hE_0_3_2 : ∀ j : Int, now_1 j = now_2 j) (hE_0_4_1 : ∀ j : Int, latest_0 j = latest_1 j) (hE_0_4_2 : ∀ j : Int, latest_1 j = latest_2 j) (kz_0_8 : 0 ≤ fault_0 ∧ fault_0 ≤ 5) (kz_0_10 : 0 ≤ limit_0 ∧ limit_0 ≤ 2000) (kz_0_11 : 0 ≤ pos_0 ∧ pos_0 ≤ 2000) (kz_0_12 : 0 ≤ kind_0 ∧ kind_0 ≤ 4) (kz_0_13 : 0 ≤ place_0 ∧ place_0 ≤ 2000) (kz_0_14 : (-49) ≤ value_0 ∧ value_0 ≤ 1048575) (kz_0_15 : 0 ≤ from_0 ∧ from_0 ≤ 2000) : (x2 ≤ (-1)) ∨ (all_0 ((r_0 + 1)) ≤ 47) := by
  subst fe_0_5_1
  subst fe_0_8_1
  subst fe_0_10_1
  subst fe_0_11_1
  subst fe_0_12_1
  subst fe_0_13_1
  subst fe_0_14_1
  subst fe_0_15_1
  subst fe_0_5_2
  subst fe_0_8_2
  subst fe_0_10_2
  subst fe_0_11_2
  subst fe_0_12_2
  subst fe_0_13_2
  subst fe_0_14_2
  subst fe_0_15_2
  have e_hE_0_1_1 := funext hE_0_1_1; subst e_hE_0_1_1
  have e_hE_0_1_2 := funext hE_0_1_2; subst e_hE_0_1_2
  have e_hE_0_3_1 := funext hE_0_3_1; subst e_hE_0_3_1
  have e_hE_0_3_2 := funext hE_0_3_2; subst e_hE_0_3_2
  have e_hE_0_4_1 := funext hE_0_4_1; subst e_hE_0_4_1
  have e_hE_0_4_2 := funext hE_0_4_2; subst e_hE_0_4_2
  first
    | omega
    | (have q1 := (hE_0_2_1 (r_0 + 2) (by omega)).2 (by omega)
       have q2 := (hE_0_2_2 (r_0 + 2) (by omega)).2 (by omega)
       omega)
    | (have q1 := (hE_0_2_1 (r_0 + 1) (by omega)).2 (by omega)
       have q2 := (hE_0_2_2 (r_0 + 1) (by omega)).2 (by omega)
       omega)
    | (have q1 := (hE_0_2_1 (r_0 + 2) (by omega)).2 (by omega)
       omega)
    | (have q1 := (hE_0_2_1 (r_0 + 1) (by omega)).2 (by omega)
       omega)
    | (have q1 := (hE_0_2_1 (r_0 + 2) (by omega)).2 (by omega)
       have q2 := (hE_0_2_2 (r_0 + 2) (by omega)).2 (by omega)
       have q3 := (hE_0_2_3 (r_0 + 2) (by omega)).1 (by omega)
       omega)
    | (have q1 := (hE_0_2_1 (r_0 + 2) (by omega)).2 (by omega)
       have q2 := (hE_0_2_2 (r_0 + 2) (by omega)).2 (by omega)
       have q3 := (hE_0_2_3 (r_0 + 2) (by omega)).2 (by omega)
       omega)
set_option maxHeartbeats 4000000 in
theorem vc_Mo_met_at_g1_15_1 (x1 : Int) (x7 : Int) (x9 : Int) (x16 : Int) (x18 : Int) (x19 : Int) (x20 : Int) (x22 : Int) (x23 : Int) (r_0 : Int) (from_0 : Int) (pos_0 : Int) (kind_0 : Int) (from_1 : Int) (pos_1 : Int) (kind_1 : Int) (from_2 : Int) (pos_2 : Int) (kind_2 : Int) (all_2 : Int → Int) (r_2 : Int) (now_2 : Int → Int) (latest_2 : Int → Int) (tape_2 : Int → Int) (limit_2 : Int) (place_2 : Int) (value_2 : Int) (fault_2 : Int) (r_1 : Int) (fault_0 : Int) (fault_1 : Int) (limit_0 : Int) (limit_1 : Int) (place_0 : Int) (place_1 : Int) (value_0 : Int) (value_1 : Int) (tape_0 : Int → Int) (tape_1 : Int → Int) (all_0 : Int → Int) (all_1 : Int → Int) (now_0 : Int → Int) (now_1 : Int → Int) (latest_0 : Int → Int) (latest_1 : Int → Int) (k1 : 0 ≤ x1 ∧ x1 ≤ 7) (k7 : 0 ≤ x7 ∧ x7 ≤ 7) (k9 : 0 ≤ x9 ∧ x9 ≤ 23) (k16 : 0 ≤ x16 ∧ x16 ≤ 66297) (k18 : 219 ≤ x18 ∧ x18 ≤ 66516) (k19 : 219 ≤ x19 ∧ x19 ≤ 66539) (k20 : 1 ≤ x20 ∧ x20 ≤ 1) (k22 : 243 ≤ x22 ∧ x22 ≤ 66540) (k23 : 243 ≤ x23 ∧ x23 ≤ 66563) (d3 : x16 + 243 ≤ x22 ∧ x22 ≤ x16 + 243) (d6 : x16 + 219 ≤ x19 ∧ x19 ≤ x16 + 242) (d7 : x16 + 219 ≤ x18 ∧ x18 ≤ x16 + 219) (d10 : x7 + (-4294967296) ≤ x1 ∧ x1 ≤ x7 + 0) (d11 : x1 + (-4294967296) ≤ x7 ∧ x7 ≤ x1 + 0) (g0 : x16 = r_0) (f13 : x23 = x22 + x9) (f21 : x19 = x18 + x9) (f31 : (x1 + 1) ≤ all_2 ((r_2 + 2))) (fe_0_5_1 : r_0 = r_1) (fe_0_8_1 : fault_0 = fault_1) (fe_0_10_1 : limit_0 = limit_1) (fe_0_11_1 : pos_0 = pos_1) (fe_0_12_1 : kind_0 = kind_1) (fe_0_13_1 : place_0 = place_1) (fe_0_14_1 : value_0 = value_1) (fe_0_15_1 : from_0 = from_1) (fe_0_5_2 : r_1 = r_2) (fe_0_8_2 : fault_1 = fault_2) (fe_0_10_2 : limit_1 = limit_2) (fe_0_11_2 : pos_1 = pos_2) (fe_0_12_2 : kind_1 = kind_2) (fe_0_13_2 : place_1 = place_2) (fe_0_14_2 : value_1 = value_2) (fe_0_15_2 : from_1 = from_2) (hE_0_1_1 : ∀ j : Int, tape_0 j = tape_1 j) (hE_0_1_2 : ∀ j : Int, tape_1 j = tape_2 j) (hE_0_2_1 : ∀ j : Int, 0 ≤ j → (j = x23 → all_0 j = x1) ∧ (j ≠ x23 → all_0 j = all_1 j)) (hE_0_2_2 : ∀ j : Int, 0 ≤ j → (j = x19 → all_1 j = x20) ∧ (j ≠ x19 → all_1 j = all_2 j)) (hE_0_3_1 : ∀ j : Int, now_0 j = now_1 j) (hE_0_3_2 : ∀ j : Int, now_1 j = now_2 j) (hE_0_4_1 : ∀ j : Int, latest_0 j = latest_1 j) (hE_0_4_2 : ∀ j : Int, latest_1 j = latest_2 j) (kz_0_8 : 0 ≤ fault_0 ∧ fault_0 ≤ 5) (kz_0_10 : 0 ≤ limit_0 ∧ limit_0 ≤ 2000) (kz_0_11 : 0 ≤ pos_0 ∧ pos_0 ≤ 2000) (kz_0_12 : 0 ≤ kind_0 ∧ kind_0 ≤ 4) (kz_0_13 : 0 ≤ place_0 ∧ place_0 ≤ 2000) (kz_0_14 : (-49) ≤ value_0 ∧ value_0 ≤ 1048575) (kz_0_15 : 0 ≤ from_0 ∧ from_0 ≤ 2000) : (x1 + 1) ≤ all_0 ((r_0 + 2)) := by
  subst fe_0_5_1
  subst fe_0_8_1
  subst fe_0_10_1
  subst fe_0_11_1
  subst fe_0_12_1
  subst fe_0_13_1
  subst fe_0_14_1
  subst fe_0_15_1
  subst fe_0_5_2
  subst fe_0_8_2
  subst fe_0_10_2
  subst fe_0_11_2
  subst fe_0_12_2
  subst fe_0_13_2
  subst fe_0_14_2
  subst fe_0_15_2
  have e_hE_0_1_1 := funext hE_0_1_1; subst e_hE_0_1_1
  have e_hE_0_1_2 := funext hE_0_1_2; subst e_hE_0_1_2
  have e_hE_0_3_1 := funext hE_0_3_1; subst e_hE_0_3_1
  have e_hE_0_3_2 := funext hE_0_3_2; subst e_hE_0_3_2
  have e_hE_0_4_1 := funext hE_0_4_1; subst e_hE_0_4_1
  have e_hE_0_4_2 := funext hE_0_4_2; subst e_hE_0_4_2
  first
    | omega
    | (have q1 := (hE_0_2_1 (r_0 + 2) (by omega)).2 (by omega)
       have q2 := (hE_0_2_2 (r_0 + 2) (by omega)).2 (by omega)
       omega)
    | (have q1 := (hE_0_2_1 (r_0 + 1) (by omega)).2 (by omega)
       have q2 := (hE_0_2_2 (r_0 + 1) (by omega)).2 (by omega)
       omega)
    | (have q1 := (hE_0_2_1 (r_0 + 2) (by omega)).2 (by omega)
       omega)
    | (have q1 := (hE_0_2_1 (r_0 + 1) (by omega)).2 (by omega)
       omega)
    | (have q1 := (hE_0_2_1 (r_0 + 2) (by omega)).2 (by omega)
       have q2 := (hE_0_2_2 (r_0 + 2) (by omega)).2 (by omega)
       have q3 := (hE_0_2_3 (r_0 + 2) (by omega)).1 (by omega)
       omega)
    | (have q1 := (hE_0_2_1 (r_0 + 2) (by omega)).2 (by omega)
       have q2 := (hE_0_2_2 (r_0 + 2) (by omega)).2 (by omega)
       have q3 := (hE_0_2_3 (r_0 + 2) (by omega)).2 (by omega)
       omega)
set_option maxHeartbeats 4000000 in
theorem vc_Mo_met_at_g1_15_2 (x1 : Int) (x2 : Int) (x9 : Int) (x16 : Int) (x18 : Int) (x19 : Int) (x20 : Int) (x22 : Int) (x23 : Int) (r_0 : Int) (from_0 : Int) (pos_0 : Int) (kind_0 : Int) (from_1 : Int) (pos_1 : Int) (kind_1 : Int) (from_2 : Int) (pos_2 : Int) (kind_2 : Int) (all_2 : Int → Int) (r_2 : Int) (now_2 : Int → Int) (latest_2 : Int → Int) (tape_2 : Int → Int) (limit_2 : Int) (place_2 : Int) (value_2 : Int) (fault_2 : Int) (r_1 : Int) (fault_0 : Int) (fault_1 : Int) (limit_0 : Int) (limit_1 : Int) (place_0 : Int) (place_1 : Int) (value_0 : Int) (value_1 : Int) (tape_0 : Int → Int) (tape_1 : Int → Int) (all_0 : Int → Int) (all_1 : Int → Int) (now_0 : Int → Int) (now_1 : Int → Int) (latest_0 : Int → Int) (latest_1 : Int → Int) (k1 : 0 ≤ x1 ∧ x1 ≤ 7) (k2 : (-1) ≤ x2 ∧ x2 ≤ (-1)) (k9 : 0 ≤ x9 ∧ x9 ≤ 23) (k16 : 0 ≤ x16 ∧ x16 ≤ 66297) (k18 : 219 ≤ x18 ∧ x18 ≤ 66516) (k19 : 219 ≤ x19 ∧ x19 ≤ 66539) (k20 : 1 ≤ x20 ∧ x20 ≤ 1) (k22 : 243 ≤ x22 ∧ x22 ≤ 66540) (k23 : 243 ≤ x23 ∧ x23 ≤ 66563) (d3 : x16 + 243 ≤ x22 ∧ x22 ≤ x16 + 243) (d7 : x16 + 219 ≤ x18 ∧ x18 ≤ x16 + 219) (g0 : x16 = r_0) (f13 : x23 = x22 + x9) (f21 : x19 = x18 + x9) (f32 : RWN (r_2) (all_2) (now_2) (latest_2) (x9)) (f33 : MEN (r_2) (all_2) (x2) (x9)) (fe_0_5_1 : r_0 = r_1) (fe_0_8_1 : fault_0 = fault_1) (fe_0_10_1 : limit_0 = limit_1) (fe_0_11_1 : pos_0 = pos_1) (fe_0_12_1 : kind_0 = kind_1) (fe_0_13_1 : place_0 = place_1) (fe_0_14_1 : value_0 = value_1) (fe_0_15_1 : from_0 = from_1) (fe_0_5_2 : r_1 = r_2) (fe_0_8_2 : fault_1 = fault_2) (fe_0_10_2 : limit_1 = limit_2) (fe_0_11_2 : pos_1 = pos_2) (fe_0_12_2 : kind_1 = kind_2) (fe_0_13_2 : place_1 = place_2) (fe_0_14_2 : value_1 = value_2) (fe_0_15_2 : from_1 = from_2) (hE_0_1_1 : ∀ j : Int, tape_0 j = tape_1 j) (hE_0_1_2 : ∀ j : Int, tape_1 j = tape_2 j) (hE_0_2_1 : ∀ j : Int, 0 ≤ j → (j = x23 → all_0 j = x1) ∧ (j ≠ x23 → all_0 j = all_1 j)) (hE_0_2_2 : ∀ j : Int, 0 ≤ j → (j = x19 → all_1 j = x20) ∧ (j ≠ x19 → all_1 j = all_2 j)) (hE_0_3_1 : ∀ j : Int, now_0 j = now_1 j) (hE_0_3_2 : ∀ j : Int, now_1 j = now_2 j) (hE_0_4_1 : ∀ j : Int, latest_0 j = latest_1 j) (hE_0_4_2 : ∀ j : Int, latest_1 j = latest_2 j) (kz_0_8 : 0 ≤ fault_0 ∧ fault_0 ≤ 5) (kz_0_10 : 0 ≤ limit_0 ∧ limit_0 ≤ 2000) (kz_0_11 : 0 ≤ pos_0 ∧ pos_0 ≤ 2000) (kz_0_12 : 0 ≤ kind_0 ∧ kind_0 ≤ 4) (kz_0_13 : 0 ≤ place_0 ∧ place_0 ≤ 2000) (kz_0_14 : (-49) ≤ value_0 ∧ value_0 ≤ 1048575) (kz_0_15 : 0 ≤ from_0 ∧ from_0 ≤ 2000) : RWS (r_0) (all_0) (now_0) (latest_0) := by
  subst fe_0_5_1
  subst fe_0_8_1
  subst fe_0_10_1
  subst fe_0_11_1
  subst fe_0_12_1
  subst fe_0_13_1
  subst fe_0_14_1
  subst fe_0_15_1
  subst fe_0_5_2
  subst fe_0_8_2
  subst fe_0_10_2
  subst fe_0_11_2
  subst fe_0_12_2
  subst fe_0_13_2
  subst fe_0_14_2
  subst fe_0_15_2
  have e_hE_0_1_1 := funext hE_0_1_1; subst e_hE_0_1_1
  have e_hE_0_1_2 := funext hE_0_1_2; subst e_hE_0_1_2
  have e_hE_0_3_1 := funext hE_0_3_1; subst e_hE_0_3_1
  have e_hE_0_3_2 := funext hE_0_3_2; subst e_hE_0_3_2
  have e_hE_0_4_1 := funext hE_0_4_1; subst e_hE_0_4_1
  have e_hE_0_4_2 := funext hE_0_4_2; subst e_hE_0_4_2
  try simp only [Int.add_zero] at *
  first
    | (have hr := rwn_r ‹RWN _ _ _ _ _›
       have hb := ‹MEN _ _ _ _›.1
       exact rws_off (rwn_fin ‹RWN _ _ _ _ _› (by assumption) (by omega) (by omega)) (by assumption) (by omega))
set_option maxHeartbeats 4000000 in
theorem vc_Mo_met_at_g1_15_3 (x1 : Int) (x2 : Int) (x9 : Int) (x16 : Int) (x18 : Int) (x19 : Int) (x20 : Int) (x22 : Int) (x23 : Int) (r_0 : Int) (from_0 : Int) (pos_0 : Int) (kind_0 : Int) (from_1 : Int) (pos_1 : Int) (kind_1 : Int) (from_2 : Int) (pos_2 : Int) (kind_2 : Int) (all_2 : Int → Int) (r_2 : Int) (now_2 : Int → Int) (latest_2 : Int → Int) (tape_2 : Int → Int) (limit_2 : Int) (place_2 : Int) (value_2 : Int) (fault_2 : Int) (r_1 : Int) (fault_0 : Int) (fault_1 : Int) (limit_0 : Int) (limit_1 : Int) (place_0 : Int) (place_1 : Int) (value_0 : Int) (value_1 : Int) (tape_0 : Int → Int) (tape_1 : Int → Int) (all_0 : Int → Int) (all_1 : Int → Int) (now_0 : Int → Int) (now_1 : Int → Int) (latest_0 : Int → Int) (latest_1 : Int → Int) (k1 : 0 ≤ x1 ∧ x1 ≤ 7) (k2 : (-1) ≤ x2 ∧ x2 ≤ (-1)) (k9 : 0 ≤ x9 ∧ x9 ≤ 23) (k16 : 0 ≤ x16 ∧ x16 ≤ 66297) (k18 : 219 ≤ x18 ∧ x18 ≤ 66516) (k19 : 219 ≤ x19 ∧ x19 ≤ 66539) (k20 : 1 ≤ x20 ∧ x20 ≤ 1) (k22 : 243 ≤ x22 ∧ x22 ≤ 66540) (k23 : 243 ≤ x23 ∧ x23 ≤ 66563) (d3 : x16 + 243 ≤ x22 ∧ x22 ≤ x16 + 243) (d7 : x16 + 219 ≤ x18 ∧ x18 ≤ x16 + 219) (g0 : x16 = r_0) (f13 : x23 = x22 + x9) (f21 : x19 = x18 + x9) (f32 : RWN (r_2) (all_2) (now_2) (latest_2) (x9)) (f33 : MEN (r_2) (all_2) (x2) (x9)) (fe_0_5_1 : r_0 = r_1) (fe_0_8_1 : fault_0 = fault_1) (fe_0_10_1 : limit_0 = limit_1) (fe_0_11_1 : pos_0 = pos_1) (fe_0_12_1 : kind_0 = kind_1) (fe_0_13_1 : place_0 = place_1) (fe_0_14_1 : value_0 = value_1) (fe_0_15_1 : from_0 = from_1) (fe_0_5_2 : r_1 = r_2) (fe_0_8_2 : fault_1 = fault_2) (fe_0_10_2 : limit_1 = limit_2) (fe_0_11_2 : pos_1 = pos_2) (fe_0_12_2 : kind_1 = kind_2) (fe_0_13_2 : place_1 = place_2) (fe_0_14_2 : value_1 = value_2) (fe_0_15_2 : from_1 = from_2) (hE_0_1_1 : ∀ j : Int, tape_0 j = tape_1 j) (hE_0_1_2 : ∀ j : Int, tape_1 j = tape_2 j) (hE_0_2_1 : ∀ j : Int, 0 ≤ j → (j = x23 → all_0 j = x1) ∧ (j ≠ x23 → all_0 j = all_1 j)) (hE_0_2_2 : ∀ j : Int, 0 ≤ j → (j = x19 → all_1 j = x20) ∧ (j ≠ x19 → all_1 j = all_2 j)) (hE_0_3_1 : ∀ j : Int, now_0 j = now_1 j) (hE_0_3_2 : ∀ j : Int, now_1 j = now_2 j) (hE_0_4_1 : ∀ j : Int, latest_0 j = latest_1 j) (hE_0_4_2 : ∀ j : Int, latest_1 j = latest_2 j) (kz_0_8 : 0 ≤ fault_0 ∧ fault_0 ≤ 5) (kz_0_10 : 0 ≤ limit_0 ∧ limit_0 ≤ 2000) (kz_0_11 : 0 ≤ pos_0 ∧ pos_0 ≤ 2000) (kz_0_12 : 0 ≤ kind_0 ∧ kind_0 ≤ 4) (kz_0_13 : 0 ≤ place_0 ∧ place_0 ≤ 2000) (kz_0_14 : (-49) ≤ value_0 ∧ value_0 ≤ 1048575) (kz_0_15 : 0 ≤ from_0 ∧ from_0 ≤ 2000) : MEN (r_0) (all_0) (x2) (x9) := by
  subst fe_0_5_1
  subst fe_0_8_1
  subst fe_0_10_1
  subst fe_0_11_1
  subst fe_0_12_1
  subst fe_0_13_1
  subst fe_0_14_1
  subst fe_0_15_1
  subst fe_0_5_2
  subst fe_0_8_2
  subst fe_0_10_2
  subst fe_0_11_2
  subst fe_0_12_2
  subst fe_0_13_2
  subst fe_0_14_2
  subst fe_0_15_2
  have e_hE_0_1_1 := funext hE_0_1_1; subst e_hE_0_1_1
  have e_hE_0_1_2 := funext hE_0_1_2; subst e_hE_0_1_2
  have e_hE_0_3_1 := funext hE_0_3_1; subst e_hE_0_3_1
  have e_hE_0_3_2 := funext hE_0_3_2; subst e_hE_0_3_2
  have e_hE_0_4_1 := funext hE_0_4_1; subst e_hE_0_4_1
  have e_hE_0_4_2 := funext hE_0_4_2; subst e_hE_0_4_2
  try simp only [Int.add_zero] at *
  first
    | (have hr := rwn_r ‹RWN _ _ _ _ _›
       have hb := ‹MEN _ _ _ _›.1
       exact men_off (by omega) (men_off (by omega) ‹MEN _ _ _ _› (by assumption) (by omega)) (by assumption) (by omega))
set_option maxHeartbeats 4000000 in
theorem vc_Mo_met_at_g1_15_4 (x1 : Int) (x19 : Int) (x20 : Int) (x23 : Int) (r_0 : Int) (from_0 : Int) (pos_0 : Int) (kind_0 : Int) (from_1 : Int) (pos_1 : Int) (kind_1 : Int) (from_2 : Int) (pos_2 : Int) (kind_2 : Int) (all_2 : Int → Int) (r_2 : Int) (now_2 : Int → Int) (latest_2 : Int → Int) (tape_2 : Int → Int) (limit_2 : Int) (place_2 : Int) (value_2 : Int) (fault_2 : Int) (r_1 : Int) (fault_0 : Int) (fault_1 : Int) (limit_0 : Int) (limit_1 : Int) (place_0 : Int) (place_1 : Int) (value_0 : Int) (value_1 : Int) (tape_0 : Int → Int) (tape_1 : Int → Int) (all_0 : Int → Int) (all_1 : Int → Int) (now_0 : Int → Int) (now_1 : Int → Int) (latest_0 : Int → Int) (latest_1 : Int → Int) (gx : Int) (k1 : 0 ≤ x1 ∧ x1 ≤ 7) (k19 : 219 ≤ x19 ∧ x19 ≤ 66539) (k20 : 1 ≤ x20 ∧ x20 ≤ 1) (k23 : 243 ≤ x23 ∧ x23 ≤ 66563) (fe_0_5_1 : r_0 = r_1) (fe_0_8_1 : fault_0 = fault_1) (fe_0_10_1 : limit_0 = limit_1) (fe_0_11_1 : pos_0 = pos_1) (fe_0_12_1 : kind_0 = kind_1) (fe_0_13_1 : place_0 = place_1) (fe_0_14_1 : value_0 = value_1) (fe_0_15_1 : from_0 = from_1) (fe_0_5_2 : r_1 = r_2) (fe_0_8_2 : fault_1 = fault_2) (fe_0_10_2 : limit_1 = limit_2) (fe_0_11_2 : pos_1 = pos_2) (fe_0_12_2 : kind_1 = kind_2) (fe_0_13_2 : place_1 = place_2) (fe_0_14_2 : value_1 = value_2) (fe_0_15_2 : from_1 = from_2) (hE_0_1_1 : ∀ j : Int, tape_0 j = tape_1 j) (hE_0_1_2 : ∀ j : Int, tape_1 j = tape_2 j) (hE_0_2_1 : ∀ j : Int, 0 ≤ j → (j = x23 → all_0 j = x1) ∧ (j ≠ x23 → all_0 j = all_1 j)) (hE_0_2_2 : ∀ j : Int, 0 ≤ j → (j = x19 → all_1 j = x20) ∧ (j ≠ x19 → all_1 j = all_2 j)) (hE_0_3_1 : ∀ j : Int, now_0 j = now_1 j) (hE_0_3_2 : ∀ j : Int, now_1 j = now_2 j) (hE_0_4_1 : ∀ j : Int, latest_0 j = latest_1 j) (hE_0_4_2 : ∀ j : Int, latest_1 j = latest_2 j) (kz_0_8 : 0 ≤ fault_0 ∧ fault_0 ≤ 5) (kz_0_10 : 0 ≤ limit_0 ∧ limit_0 ≤ 2000) (kz_0_11 : 0 ≤ pos_0 ∧ pos_0 ≤ 2000) (kz_0_12 : 0 ≤ kind_0 ∧ kind_0 ≤ 4) (kz_0_13 : 0 ≤ place_0 ∧ place_0 ≤ 2000) (kz_0_14 : (-49) ≤ value_0 ∧ value_0 ≤ 1048575) (kz_0_15 : 0 ≤ from_0 ∧ from_0 ≤ 2000) (ex2 : gx = pos_0) : 1 * gx + ((-1) * pos_0 + 0) ≤ 0 := by
  subst fe_0_5_1
  subst fe_0_8_1
  subst fe_0_10_1
  subst fe_0_11_1
  subst fe_0_12_1
  subst fe_0_13_1
  subst fe_0_14_1
  subst fe_0_15_1
  subst fe_0_5_2
  subst fe_0_8_2
  subst fe_0_10_2
  subst fe_0_11_2
  subst fe_0_12_2
  subst fe_0_13_2
  subst fe_0_14_2
  subst fe_0_15_2
  have e_hE_0_1_1 := funext hE_0_1_1; subst e_hE_0_1_1
  have e_hE_0_1_2 := funext hE_0_1_2; subst e_hE_0_1_2
  have e_hE_0_3_1 := funext hE_0_3_1; subst e_hE_0_3_1
  have e_hE_0_3_2 := funext hE_0_3_2; subst e_hE_0_3_2
  have e_hE_0_4_1 := funext hE_0_4_1; subst e_hE_0_4_1
  have e_hE_0_4_2 := funext hE_0_4_2; subst e_hE_0_4_2
  first
    | omega
    | (have q1 := (hE_0_2_1 (r_0 + 2) (by omega)).2 (by omega)
       have q2 := (hE_0_2_2 (r_0 + 2) (by omega)).2 (by omega)
       omega)
    | (have q1 := (hE_0_2_1 (r_0 + 1) (by omega)).2 (by omega)
       have q2 := (hE_0_2_2 (r_0 + 1) (by omega)).2 (by omega)
       omega)
    | (have q1 := (hE_0_2_1 (r_0 + 2) (by omega)).2 (by omega)
       omega)
    | (have q1 := (hE_0_2_1 (r_0 + 1) (by omega)).2 (by omega)
       omega)
    | (have q1 := (hE_0_2_1 (r_0 + 2) (by omega)).2 (by omega)
       have q2 := (hE_0_2_2 (r_0 + 2) (by omega)).2 (by omega)
       have q3 := (hE_0_2_3 (r_0 + 2) (by omega)).1 (by omega)
       omega)
    | (have q1 := (hE_0_2_1 (r_0 + 2) (by omega)).2 (by omega)
       have q2 := (hE_0_2_2 (r_0 + 2) (by omega)).2 (by omega)
       have q3 := (hE_0_2_3 (r_0 + 2) (by omega)).2 (by omega)
       omega)
set_option maxHeartbeats 4000000 in
theorem vc_Mo_met_at_g1_15_5 (x1 : Int) (x19 : Int) (x20 : Int) (x23 : Int) (r_0 : Int) (from_0 : Int) (pos_0 : Int) (kind_0 : Int) (from_1 : Int) (pos_1 : Int) (kind_1 : Int) (from_2 : Int) (pos_2 : Int) (kind_2 : Int) (all_2 : Int → Int) (r_2 : Int) (now_2 : Int → Int) (latest_2 : Int → Int) (tape_2 : Int → Int) (limit_2 : Int) (place_2 : Int) (value_2 : Int) (fault_2 : Int) (r_1 : Int) (fault_0 : Int) (fault_1 : Int) (limit_0 : Int) (limit_1 : Int) (place_0 : Int) (place_1 : Int) (value_0 : Int) (value_1 : Int) (tape_0 : Int → Int) (tape_1 : Int → Int) (all_0 : Int → Int) (all_1 : Int → Int) (now_0 : Int → Int) (now_1 : Int → Int) (latest_0 : Int → Int) (latest_1 : Int → Int) (gx : Int) (k1 : 0 ≤ x1 ∧ x1 ≤ 7) (k19 : 219 ≤ x19 ∧ x19 ≤ 66539) (k20 : 1 ≤ x20 ∧ x20 ≤ 1) (k23 : 243 ≤ x23 ∧ x23 ≤ 66563) (fe_0_5_1 : r_0 = r_1) (fe_0_8_1 : fault_0 = fault_1) (fe_0_10_1 : limit_0 = limit_1) (fe_0_11_1 : pos_0 = pos_1) (fe_0_12_1 : kind_0 = kind_1) (fe_0_13_1 : place_0 = place_1) (fe_0_14_1 : value_0 = value_1) (fe_0_15_1 : from_0 = from_1) (fe_0_5_2 : r_1 = r_2) (fe_0_8_2 : fault_1 = fault_2) (fe_0_10_2 : limit_1 = limit_2) (fe_0_11_2 : pos_1 = pos_2) (fe_0_12_2 : kind_1 = kind_2) (fe_0_13_2 : place_1 = place_2) (fe_0_14_2 : value_1 = value_2) (fe_0_15_2 : from_1 = from_2) (hE_0_1_1 : ∀ j : Int, tape_0 j = tape_1 j) (hE_0_1_2 : ∀ j : Int, tape_1 j = tape_2 j) (hE_0_2_1 : ∀ j : Int, 0 ≤ j → (j = x23 → all_0 j = x1) ∧ (j ≠ x23 → all_0 j = all_1 j)) (hE_0_2_2 : ∀ j : Int, 0 ≤ j → (j = x19 → all_1 j = x20) ∧ (j ≠ x19 → all_1 j = all_2 j)) (hE_0_3_1 : ∀ j : Int, now_0 j = now_1 j) (hE_0_3_2 : ∀ j : Int, now_1 j = now_2 j) (hE_0_4_1 : ∀ j : Int, latest_0 j = latest_1 j) (hE_0_4_2 : ∀ j : Int, latest_1 j = latest_2 j) (kz_0_8 : 0 ≤ fault_0 ∧ fault_0 ≤ 5) (kz_0_10 : 0 ≤ limit_0 ∧ limit_0 ≤ 2000) (kz_0_11 : 0 ≤ pos_0 ∧ pos_0 ≤ 2000) (kz_0_12 : 0 ≤ kind_0 ∧ kind_0 ≤ 4) (kz_0_13 : 0 ≤ place_0 ∧ place_0 ≤ 2000) (kz_0_14 : (-49) ≤ value_0 ∧ value_0 ≤ 1048575) (kz_0_15 : 0 ≤ from_0 ∧ from_0 ≤ 2000) (ex2 : gx = pos_0) : gx = pos_0 := by
  subst fe_0_5_1
  subst fe_0_8_1
  subst fe_0_10_1
  subst fe_0_11_1
  subst fe_0_12_1
  subst fe_0_13_1
  subst fe_0_14_1
  subst fe_0_15_1
  subst fe_0_5_2
  subst fe_0_8_2
  subst fe_0_10_2
  subst fe_0_11_2
  subst fe_0_12_2
  subst fe_0_13_2
  subst fe_0_14_2
  subst fe_0_15_2
  have e_hE_0_1_1 := funext hE_0_1_1; subst e_hE_0_1_1
  have e_hE_0_1_2 := funext hE_0_1_2; subst e_hE_0_1_2
  have e_hE_0_3_1 := funext hE_0_3_1; subst e_hE_0_3_1
  have e_hE_0_3_2 := funext hE_0_3_2; subst e_hE_0_3_2
  have e_hE_0_4_1 := funext hE_0_4_1; subst e_hE_0_4_1
  have e_hE_0_4_2 := funext hE_0_4_2; subst e_hE_0_4_2
  first
    | omega
    | (have q1 := (hE_0_2_1 (r_0 + 2) (by omega)).2 (by omega)
       have q2 := (hE_0_2_2 (r_0 + 2) (by omega)).2 (by omega)
       omega)
    | (have q1 := (hE_0_2_1 (r_0 + 1) (by omega)).2 (by omega)
       have q2 := (hE_0_2_2 (r_0 + 1) (by omega)).2 (by omega)
       omega)
    | (have q1 := (hE_0_2_1 (r_0 + 2) (by omega)).2 (by omega)
       omega)
    | (have q1 := (hE_0_2_1 (r_0 + 1) (by omega)).2 (by omega)
       omega)
    | (have q1 := (hE_0_2_1 (r_0 + 2) (by omega)).2 (by omega)
       have q2 := (hE_0_2_2 (r_0 + 2) (by omega)).2 (by omega)
       have q3 := (hE_0_2_3 (r_0 + 2) (by omega)).1 (by omega)
       omega)
    | (have q1 := (hE_0_2_1 (r_0 + 2) (by omega)).2 (by omega)
       have q2 := (hE_0_2_2 (r_0 + 2) (by omega)).2 (by omega)
       have q3 := (hE_0_2_3 (r_0 + 2) (by omega)).2 (by omega)
       omega)
set_option maxHeartbeats 4000000 in
theorem vc_Mo_met_at_g1_15_6 (x1 : Int) (x5 : Int) (x9 : Int) (x11 : Int) (r_0 : Int) (from_0 : Int) (pos_0 : Int) (kind_0 : Int) (from_1 : Int) (pos_1 : Int) (kind_1 : Int) (from_2 : Int) (pos_2 : Int) (kind_2 : Int) (all_2 : Int → Int) (r_2 : Int) (now_2 : Int → Int) (latest_2 : Int → Int) (tape_2 : Int → Int) (limit_2 : Int) (place_2 : Int) (value_2 : Int) (fault_2 : Int) (r_1 : Int) (fault_0 : Int) (fault_1 : Int) (limit_0 : Int) (limit_1 : Int) (place_0 : Int) (place_1 : Int) (value_0 : Int) (value_1 : Int) (tape_0 : Int → Int) (tape_1 : Int → Int) (now_0 : Int → Int) (now_1 : Int → Int) (latest_0 : Int → Int) (latest_1 : Int → Int) (k1 : 0 ≤ x1 ∧ x1 ≤ 7) (k5 : 0 ≤ x5 ∧ x5 ≤ 4) (k9 : 0 ≤ x9 ∧ x9 ≤ 23) (k11 : 0 ≤ x11 ∧ x11 ≤ 8) (f34 : zMN1 (limit_2) (pos_2) (kind_2) (place_2) (value_2) (from_2) (fault_2) (r_2) (tape_2) (all_2) (x9) (x11) (x1) (x5)) (fe_0_5_1 : r_0 = r_1) (fe_0_8_1 : fault_0 = fault_1) (fe_0_10_1 : limit_0 = limit_1) (fe_0_11_1 : pos_0 = pos_1) (fe_0_12_1 : kind_0 = kind_1) (fe_0_13_1 : place_0 = place_1) (fe_0_14_1 : value_0 = value_1) (fe_0_15_1 : from_0 = from_1) (fe_0_5_2 : r_1 = r_2) (fe_0_8_2 : fault_1 = fault_2) (fe_0_10_2 : limit_1 = limit_2) (fe_0_11_2 : pos_1 = pos_2) (fe_0_12_2 : kind_1 = kind_2) (fe_0_13_2 : place_1 = place_2) (fe_0_14_2 : value_1 = value_2) (fe_0_15_2 : from_1 = from_2) (hE_0_1_1 : ∀ j : Int, tape_0 j = tape_1 j) (hE_0_1_2 : ∀ j : Int, tape_1 j = tape_2 j) (hE_0_3_1 : ∀ j : Int, now_0 j = now_1 j) (hE_0_3_2 : ∀ j : Int, now_1 j = now_2 j) (hE_0_4_1 : ∀ j : Int, latest_0 j = latest_1 j) (hE_0_4_2 : ∀ j : Int, latest_1 j = latest_2 j) (kz_0_8 : 0 ≤ fault_0 ∧ fault_0 ≤ 5) (kz_0_10 : 0 ≤ limit_0 ∧ limit_0 ≤ 2000) (kz_0_11 : 0 ≤ pos_0 ∧ pos_0 ≤ 2000) (kz_0_12 : 0 ≤ kind_0 ∧ kind_0 ≤ 4) (kz_0_13 : 0 ≤ place_0 ∧ place_0 ≤ 2000) (kz_0_14 : (-49) ≤ value_0 ∧ value_0 ≤ 1048575) (kz_0_15 : 0 ≤ from_0 ∧ from_0 ≤ 2000) : ZLM (limit_0) (pos_0) := by
  subst fe_0_5_1
  subst fe_0_8_1
  subst fe_0_10_1
  subst fe_0_11_1
  subst fe_0_12_1
  subst fe_0_13_1
  subst fe_0_14_1
  subst fe_0_15_1
  subst fe_0_5_2
  subst fe_0_8_2
  subst fe_0_10_2
  subst fe_0_11_2
  subst fe_0_12_2
  subst fe_0_13_2
  subst fe_0_14_2
  subst fe_0_15_2
  have e_hE_0_1_1 := funext hE_0_1_1; subst e_hE_0_1_1
  have e_hE_0_1_2 := funext hE_0_1_2; subst e_hE_0_1_2
  have e_hE_0_3_1 := funext hE_0_3_1; subst e_hE_0_3_1
  have e_hE_0_3_2 := funext hE_0_3_2; subst e_hE_0_3_2
  have e_hE_0_4_1 := funext hE_0_4_1; subst e_hE_0_4_1
  have e_hE_0_4_2 := funext hE_0_4_2; subst e_hE_0_4_2
  first
    | exact zlm_r (‹zMN0 _ _ _ _ _ _ _ _ _ _ _ _ _ _›).1
    | exact zlm_r (‹zMN1 _ _ _ _ _ _ _ _ _ _ _ _ _ _›).1
    | exact zlm_r (‹zMN4 _ _ _ _ _ _ _ _ _ _ _ _ _ _ _ _ _›).1
    | exact zlm_r (‹zRSE _ _ _ _ _ _ _ _ _ _ _ _›).1.1
    | exact zlm_r ‹zRS1 _ _ _ _ _ _ _ _ _ _ _ _›
    | exact zlm_r ‹zRS4 _ _ _ _ _ _ _ _ _ _ _ _ _ _ _›
    | (exfalso; omega)
set_option maxHeartbeats 4000000 in
theorem vc_Mo_met_at_g1_15_7 (x1 : Int) (x3 : Int) (x19 : Int) (x20 : Int) (x23 : Int) (r_0 : Int) (from_0 : Int) (pos_0 : Int) (kind_0 : Int) (from_1 : Int) (pos_1 : Int) (kind_1 : Int) (from_2 : Int) (pos_2 : Int) (kind_2 : Int) (all_2 : Int → Int) (r_2 : Int) (now_2 : Int → Int) (latest_2 : Int → Int) (tape_2 : Int → Int) (limit_2 : Int) (place_2 : Int) (value_2 : Int) (fault_2 : Int) (r_1 : Int) (fault_0 : Int) (fault_1 : Int) (limit_0 : Int) (limit_1 : Int) (place_0 : Int) (place_1 : Int) (value_0 : Int) (value_1 : Int) (tape_0 : Int → Int) (tape_1 : Int → Int) (all_0 : Int → Int) (all_1 : Int → Int) (now_0 : Int → Int) (now_1 : Int → Int) (latest_0 : Int → Int) (latest_1 : Int → Int) (gx : Int) (k1 : 0 ≤ x1 ∧ x1 ≤ 7) (k3 : 0 ≤ x3 ∧ x3 ≤ 2000) (k19 : 219 ≤ x19 ∧ x19 ≤ 66539) (k20 : 1 ≤ x20 ∧ x20 ≤ 1) (k23 : 243 ≤ x23 ∧ x23 ≤ 66563) (f6 : 1 * x3 + ((-1) * pos_0 + 0) ≤ 0) (fe_0_5_1 : r_0 = r_1) (fe_0_8_1 : fault_0 = fault_1) (fe_0_10_1 : limit_0 = limit_1) (fe_0_11_1 : pos_0 = pos_1) (fe_0_12_1 : kind_0 = kind_1) (fe_0_13_1 : place_0 = place_1) (fe_0_14_1 : value_0 = value_1) (fe_0_15_1 : from_0 = from_1) (fe_0_5_2 : r_1 = r_2) (fe_0_8_2 : fault_1 = fault_2) (fe_0_10_2 : limit_1 = limit_2) (fe_0_11_2 : pos_1 = pos_2) (fe_0_12_2 : kind_1 = kind_2) (fe_0_13_2 : place_1 = place_2) (fe_0_14_2 : value_1 = value_2) (fe_0_15_2 : from_1 = from_2) (hE_0_1_1 : ∀ j : Int, tape_0 j = tape_1 j) (hE_0_1_2 : ∀ j : Int, tape_1 j = tape_2 j) (hE_0_2_1 : ∀ j : Int, 0 ≤ j → (j = x23 → all_0 j = x1) ∧ (j ≠ x23 → all_0 j = all_1 j)) (hE_0_2_2 : ∀ j : Int, 0 ≤ j → (j = x19 → all_1 j = x20) ∧ (j ≠ x19 → all_1 j = all_2 j)) (hE_0_3_1 : ∀ j : Int, now_0 j = now_1 j) (hE_0_3_2 : ∀ j : Int, now_1 j = now_2 j) (hE_0_4_1 : ∀ j : Int, latest_0 j = latest_1 j) (hE_0_4_2 : ∀ j : Int, latest_1 j = latest_2 j) (kz_0_8 : 0 ≤ fault_0 ∧ fault_0 ≤ 5) (kz_0_10 : 0 ≤ limit_0 ∧ limit_0 ≤ 2000) (kz_0_11 : 0 ≤ pos_0 ∧ pos_0 ≤ 2000) (kz_0_12 : 0 ≤ kind_0 ∧ kind_0 ≤ 4) (kz_0_13 : 0 ≤ place_0 ∧ place_0 ≤ 2000) (kz_0_14 : (-49) ≤ value_0 ∧ value_0 ≤ 1048575) (kz_0_15 : 0 ≤ from_0 ∧ from_0 ≤ 2000) (ex2 : gx = pos_0) : 1 * x3 + ((-1) * gx + 0) ≤ 0 := by
  subst fe_0_5_1
  subst fe_0_8_1
  subst fe_0_10_1
  subst fe_0_11_1
  subst fe_0_12_1
  subst fe_0_13_1
  subst fe_0_14_1
  subst fe_0_15_1
  subst fe_0_5_2
  subst fe_0_8_2
  subst fe_0_10_2
  subst fe_0_11_2
  subst fe_0_12_2
  subst fe_0_13_2
  subst fe_0_14_2
  subst fe_0_15_2
  have e_hE_0_1_1 := funext hE_0_1_1; subst e_hE_0_1_1
  have e_hE_0_1_2 := funext hE_0_1_2; subst e_hE_0_1_2
  have e_hE_0_3_1 := funext hE_0_3_1; subst e_hE_0_3_1
  have e_hE_0_3_2 := funext hE_0_3_2; subst e_hE_0_3_2
  have e_hE_0_4_1 := funext hE_0_4_1; subst e_hE_0_4_1
  have e_hE_0_4_2 := funext hE_0_4_2; subst e_hE_0_4_2
  first
    | omega
    | (have q1 := (hE_0_2_1 (r_0 + 2) (by omega)).2 (by omega)
       have q2 := (hE_0_2_2 (r_0 + 2) (by omega)).2 (by omega)
       omega)
    | (have q1 := (hE_0_2_1 (r_0 + 1) (by omega)).2 (by omega)
       have q2 := (hE_0_2_2 (r_0 + 1) (by omega)).2 (by omega)
       omega)
    | (have q1 := (hE_0_2_1 (r_0 + 2) (by omega)).2 (by omega)
       omega)
    | (have q1 := (hE_0_2_1 (r_0 + 1) (by omega)).2 (by omega)
       omega)
    | (have q1 := (hE_0_2_1 (r_0 + 2) (by omega)).2 (by omega)
       have q2 := (hE_0_2_2 (r_0 + 2) (by omega)).2 (by omega)
       have q3 := (hE_0_2_3 (r_0 + 2) (by omega)).1 (by omega)
       omega)
    | (have q1 := (hE_0_2_1 (r_0 + 2) (by omega)).2 (by omega)
       have q2 := (hE_0_2_2 (r_0 + 2) (by omega)).2 (by omega)
       have q3 := (hE_0_2_3 (r_0 + 2) (by omega)).2 (by omega)
       omega)
set_option maxHeartbeats 4000000 in
theorem vc_Mo_met_at_g1_15_8 (x1 : Int) (x4 : Int) (x19 : Int) (x20 : Int) (x23 : Int) (r_0 : Int) (from_0 : Int) (pos_0 : Int) (kind_0 : Int) (from_1 : Int) (pos_1 : Int) (kind_1 : Int) (from_2 : Int) (pos_2 : Int) (kind_2 : Int) (all_2 : Int → Int) (r_2 : Int) (now_2 : Int → Int) (latest_2 : Int → Int) (tape_2 : Int → Int) (limit_2 : Int) (place_2 : Int) (value_2 : Int) (fault_2 : Int) (r_1 : Int) (fault_0 : Int) (fault_1 : Int) (limit_0 : Int) (limit_1 : Int) (place_0 : Int) (place_1 : Int) (value_0 : Int) (value_1 : Int) (tape_0 : Int → Int) (tape_1 : Int → Int) (all_0 : Int → Int) (all_1 : Int → Int) (now_0 : Int → Int) (now_1 : Int → Int) (latest_0 : Int → Int) (latest_1 : Int → Int) (gx : Int) (k1 : 0 ≤ x1 ∧ x1 ≤ 7) (k4 : 0 ≤ x4 ∧ x4 ≤ 2000) (k19 : 219 ≤ x19 ∧ x19 ≤ 66539) (k20 : 1 ≤ x20 ∧ x20 ≤ 1) (k23 : 243 ≤ x23 ∧ x23 ≤ 66563) (f7 : 1 * x4 + ((-1) * pos_0 + 0) ≤ (-1)) (fe_0_5_1 : r_0 = r_1) (fe_0_8_1 : fault_0 = fault_1) (fe_0_10_1 : limit_0 = limit_1) (fe_0_11_1 : pos_0 = pos_1) (fe_0_12_1 : kind_0 = kind_1) (fe_0_13_1 : place_0 = place_1) (fe_0_14_1 : value_0 = value_1) (fe_0_15_1 : from_0 = from_1) (fe_0_5_2 : r_1 = r_2) (fe_0_8_2 : fault_1 = fault_2) (fe_0_10_2 : limit_1 = limit_2) (fe_0_11_2 : pos_1 = pos_2) (fe_0_12_2 : kind_1 = kind_2) (fe_0_13_2 : place_1 = place_2) (fe_0_14_2 : value_1 = value_2) (fe_0_15_2 : from_1 = from_2) (hE_0_1_1 : ∀ j : Int, tape_0 j = tape_1 j) (hE_0_1_2 : ∀ j : Int, tape_1 j = tape_2 j) (hE_0_2_1 : ∀ j : Int, 0 ≤ j → (j = x23 → all_0 j = x1) ∧ (j ≠ x23 → all_0 j = all_1 j)) (hE_0_2_2 : ∀ j : Int, 0 ≤ j → (j = x19 → all_1 j = x20) ∧ (j ≠ x19 → all_1 j = all_2 j)) (hE_0_3_1 : ∀ j : Int, now_0 j = now_1 j) (hE_0_3_2 : ∀ j : Int, now_1 j = now_2 j) (hE_0_4_1 : ∀ j : Int, latest_0 j = latest_1 j) (hE_0_4_2 : ∀ j : Int, latest_1 j = latest_2 j) (kz_0_8 : 0 ≤ fault_0 ∧ fault_0 ≤ 5) (kz_0_10 : 0 ≤ limit_0 ∧ limit_0 ≤ 2000) (kz_0_11 : 0 ≤ pos_0 ∧ pos_0 ≤ 2000) (kz_0_12 : 0 ≤ kind_0 ∧ kind_0 ≤ 4) (kz_0_13 : 0 ≤ place_0 ∧ place_0 ≤ 2000) (kz_0_14 : (-49) ≤ value_0 ∧ value_0 ≤ 1048575) (kz_0_15 : 0 ≤ from_0 ∧ from_0 ≤ 2000) (ex2 : gx = pos_0) : 1 * x4 + ((-1) * gx + 0) ≤ (-1) := by
  subst fe_0_5_1
  subst fe_0_8_1
  subst fe_0_10_1
  subst fe_0_11_1
  subst fe_0_12_1
  subst fe_0_13_1
  subst fe_0_14_1
  subst fe_0_15_1
  subst fe_0_5_2
  subst fe_0_8_2
  subst fe_0_10_2
  subst fe_0_11_2
  subst fe_0_12_2
  subst fe_0_13_2
  subst fe_0_14_2
  subst fe_0_15_2
  have e_hE_0_1_1 := funext hE_0_1_1; subst e_hE_0_1_1
  have e_hE_0_1_2 := funext hE_0_1_2; subst e_hE_0_1_2
  have e_hE_0_3_1 := funext hE_0_3_1; subst e_hE_0_3_1
  have e_hE_0_3_2 := funext hE_0_3_2; subst e_hE_0_3_2
  have e_hE_0_4_1 := funext hE_0_4_1; subst e_hE_0_4_1
  have e_hE_0_4_2 := funext hE_0_4_2; subst e_hE_0_4_2
  first
    | omega
    | (have q1 := (hE_0_2_1 (r_0 + 2) (by omega)).2 (by omega)
       have q2 := (hE_0_2_2 (r_0 + 2) (by omega)).2 (by omega)
       omega)
    | (have q1 := (hE_0_2_1 (r_0 + 1) (by omega)).2 (by omega)
       have q2 := (hE_0_2_2 (r_0 + 1) (by omega)).2 (by omega)
       omega)
    | (have q1 := (hE_0_2_1 (r_0 + 2) (by omega)).2 (by omega)
       omega)
    | (have q1 := (hE_0_2_1 (r_0 + 1) (by omega)).2 (by omega)
       omega)
    | (have q1 := (hE_0_2_1 (r_0 + 2) (by omega)).2 (by omega)
       have q2 := (hE_0_2_2 (r_0 + 2) (by omega)).2 (by omega)
       have q3 := (hE_0_2_3 (r_0 + 2) (by omega)).1 (by omega)
       omega)
    | (have q1 := (hE_0_2_1 (r_0 + 2) (by omega)).2 (by omega)
       have q2 := (hE_0_2_2 (r_0 + 2) (by omega)).2 (by omega)
       have q3 := (hE_0_2_3 (r_0 + 2) (by omega)).2 (by omega)
       omega)
set_option maxHeartbeats 4000000 in
theorem vc_Mo_met_at_g1_15_9 (x1 : Int) (x5 : Int) (x9 : Int) (x11 : Int) (x12 : Int) (x13 : Int) (x14 : Int) (x16 : Int) (x18 : Int) (x19 : Int) (x20 : Int) (x22 : Int) (x23 : Int) (r_0 : Int) (from_0 : Int) (pos_0 : Int) (kind_0 : Int) (from_1 : Int) (pos_1 : Int) (kind_1 : Int) (from_2 : Int) (pos_2 : Int) (kind_2 : Int) (all_2 : Int → Int) (r_2 : Int) (now_2 : Int → Int) (latest_2 : Int → Int) (tape_2 : Int → Int) (limit_2 : Int) (place_2 : Int) (value_2 : Int) (fault_2 : Int) (r_1 : Int) (fault_0 : Int) (fault_1 : Int) (limit_0 : Int) (limit_1 : Int) (place_0 : Int) (place_1 : Int) (value_0 : Int) (value_1 : Int) (tape_0 : Int → Int) (tape_1 : Int → Int) (all_0 : Int → Int) (all_1 : Int → Int) (now_0 : Int → Int) (now_1 : Int → Int) (latest_0 : Int → Int) (latest_1 : Int → Int) (gx : Int) (k1 : 0 ≤ x1 ∧ x1 ≤ 7) (k5 : 0 ≤ x5 ∧ x5 ≤ 4) (k9 : 0 ≤ x9 ∧ x9 ≤ 23) (k11 : 0 ≤ x11 ∧ x11 ≤ 8) (k12 : 0 ≤ x12 ∧ x12 ≤ 2000) (k13 : 0 ≤ x13 ∧ x13 ≤ 2000) (k14 : (-2000) ≤ x14 ∧ x14 ≤ 8) (k16 : 0 ≤ x16 ∧ x16 ≤ 66297) (k18 : 219 ≤ x18 ∧ x18 ≤ 66516) (k19 : 219 ≤ x19 ∧ x19 ≤ 66539) (k20 : 1 ≤ x20 ∧ x20 ≤ 1) (k22 : 243 ≤ x22 ∧ x22 ≤ 66540) (k23 : 243 ≤ x23 ∧ x23 ≤ 66563) (d3 : x16 + 243 ≤ x22 ∧ x22 ≤ x16 + 243) (d7 : x16 + 219 ≤ x18 ∧ x18 ≤ x16 + 219) (d8 : x14 + 0 ≤ x11 ∧ x11 ≤ x14 + 4294967296) (g0 : x16 = r_0) (g2 : x13 = from_0) (g3 : x12 = pos_0) (f13 : x23 = x22 + x9) (f21 : x19 = x18 + x9) (f24 : x14 = x12 - x13) (f34 : zMN1 (limit_2) (pos_2) (kind_2) (place_2) (value_2) (from_2) (fault_2) (r_2) (tape_2) (all_2) (x9) (x11) (x1) (x5)) (fe_0_5_1 : r_0 = r_1) (fe_0_8_1 : fault_0 = fault_1) (fe_0_10_1 : limit_0 = limit_1) (fe_0_11_1 : pos_0 = pos_1) (fe_0_12_1 : kind_0 = kind_1) (fe_0_13_1 : place_0 = place_1) (fe_0_14_1 : value_0 = value_1) (fe_0_15_1 : from_0 = from_1) (fe_0_5_2 : r_1 = r_2) (fe_0_8_2 : fault_1 = fault_2) (fe_0_10_2 : limit_1 = limit_2) (fe_0_11_2 : pos_1 = pos_2) (fe_0_12_2 : kind_1 = kind_2) (fe_0_13_2 : place_1 = place_2) (fe_0_14_2 : value_1 = value_2) (fe_0_15_2 : from_1 = from_2) (hE_0_1_1 : ∀ j : Int, tape_0 j = tape_1 j) (hE_0_1_2 : ∀ j : Int, tape_1 j = tape_2 j) (hE_0_2_1 : ∀ j : Int, 0 ≤ j → (j = x23 → all_0 j = x1) ∧ (j ≠ x23 → all_0 j = all_1 j)) (hE_0_2_2 : ∀ j : Int, 0 ≤ j → (j = x19 → all_1 j = x20) ∧ (j ≠ x19 → all_1 j = all_2 j)) (hE_0_3_1 : ∀ j : Int, now_0 j = now_1 j) (hE_0_3_2 : ∀ j : Int, now_1 j = now_2 j) (hE_0_4_1 : ∀ j : Int, latest_0 j = latest_1 j) (hE_0_4_2 : ∀ j : Int, latest_1 j = latest_2 j) (kz_0_8 : 0 ≤ fault_0 ∧ fault_0 ≤ 5) (kz_0_10 : 0 ≤ limit_0 ∧ limit_0 ≤ 2000) (kz_0_11 : 0 ≤ pos_0 ∧ pos_0 ≤ 2000) (kz_0_12 : 0 ≤ kind_0 ∧ kind_0 ≤ 4) (kz_0_13 : 0 ≤ place_0 ∧ place_0 ≤ 2000) (kz_0_14 : (-49) ≤ value_0 ∧ value_0 ≤ 1048575) (kz_0_15 : 0 ≤ from_0 ∧ from_0 ≤ 2000) (ex2 : gx = pos_0) : zTS2 (limit_0) (fault_0) (r_0) (tape_0) (all_0) (x9) (x1) (x5) (gx) := by
  subst fe_0_5_1
  subst fe_0_8_1
  subst fe_0_10_1
  subst fe_0_11_1
  subst fe_0_12_1
  subst fe_0_13_1
  subst fe_0_14_1
  subst fe_0_15_1
  subst fe_0_5_2
  subst fe_0_8_2
  subst fe_0_10_2
  subst fe_0_11_2
  subst fe_0_12_2
  subst fe_0_13_2
  subst fe_0_14_2
  subst fe_0_15_2
  have e_hE_0_1_1 := funext hE_0_1_1; subst e_hE_0_1_1
  have e_hE_0_1_2 := funext hE_0_1_2; subst e_hE_0_1_2
  have e_hE_0_3_1 := funext hE_0_3_1; subst e_hE_0_3_1
  have e_hE_0_3_2 := funext hE_0_3_2; subst e_hE_0_3_2
  have e_hE_0_4_1 := funext hE_0_4_1; subst e_hE_0_4_1
  have e_hE_0_4_2 := funext hE_0_4_2; subst e_hE_0_4_2
  first | subst g0 | skip
  first | subst g2 | skip
  first | subst g3 | skip
  first | subst ex2 | skip
  first
    | exact mn_end1 ‹zMN1 _ _ _ _ _ _ _ _ _ _ _ _ _ _› (by omega) (by omega) (by assumption) (by assumption) (by omega) (by omega) (by omega) (by omega) (by omega)
    | exact met_old1 ‹zRS1 _ _ _ _ _ _ _ _ _ _ _ _› ‹NMQ _ _ _ _ _ _› (by omega) ‹KNQ _ _ _ _ _ _ _› (by omega) (by omega)
    | (exfalso; omega)
def o_Mo_met_at_g1_15 : or_T := (254, 24, [(0, (2, 0, 0, [165])), (1, (0, 0, 7, [])), (2, (0, -1, -1, [])), (3, (0, 0, 2000, [])), (4, (0, 0, 2000, [])), (5, (0, 0, 4, [])), (6, (2, 0, 0, [165])), (7, (0, 0, 7, [])), (8, (0, -1, -1, [])), (9, (0, 0, 23, [])), (11, (0, 0, 8, [])), (12, (0, 0, 2000, [])), (13, (0, 0, 2000, [])), (14, (0, -2000, 8, [])), (15, (2, 0, 0, [167])), (16, (0, 0, 66297, [])), (17, (0, 219, 219, [])), (18, (0, 219, 66516, [])), (19, (0, 219, 66539, [])), (20, (0, 1, 1, [])), (21, (0, 243, 243, [])), (22, (0, 243, 66540, [])), (23, (0, 243, 66563, []))], [(9, [16, 6], [5]), (9, [15, 6], [2]), (9, [13, 6], [15]), (9, [12, 6], [11]), (20, [6, 6], [30, 0, 1, 1, 15, -1, 1, 11]), (20, [6], [50, 3, 0, 12, 11, 15, 2, 21, 4, 7, 1, 3, 2, 0, 12, 0, 1, 0, 3, 2, 0, 11, 4, 3, 2, 0, 15, 0, 8, 3, 7, 1, 3, 2, 0, 12, 0, 0, 0, 7, 4, 3, 2, 0, 15, 0, 1, 2, 0, 11]), (20, [3, 6], [30, 0, 1, 0, 0, -1, 1, 11]), (20, [4, 6], [30, -1, 1, 0, 0, -1, 1, 11]), (20, [6], [50, 1, 0, 12, 1, 3, 2, 0, 12, 0, 1]), (24, [0, 6], []), (24, [1, 7], []), (24, [2, 8], []), (100, [15, 23, 7], []), (1, [23, 22, 9], []), (1, [22, 16, 21], []), (20, [6, 6], [30, 0, 1, 1, 15, -1, 1, 11]), (20, [6], [50, 3, 0, 12, 11, 15, 2, 21, 4, 7, 1, 3, 2, 0, 12, 0, 1, 0, 3, 2, 0, 11, 4, 3, 2, 0, 15, 0, 8, 3, 7, 1, 3, 2, 0, 12, 0, 0, 0, 7, 4, 3, 2, 0, 15, 0, 1, 2, 0, 11]), (20, [3, 6], [30, 0, 1, 0, 0, -1, 1, 11]), (20, [4, 6], [30, -1, 1, 0, 0, -1, 1, 11]), (20, [6], [50, 1, 0, 12, 1, 3, 2, 0, 12, 0, 1]), (100, [15, 19, 20], []), (1, [19, 18, 9], []), (1, [18, 16, 17], []), (7, [11, 14], [3]), (2, [14, 12, 13], []), (20, [6, 6], [30, 0, 1, 1, 15, -1, 1, 11]), (20, [6], [50, 3, 0, 12, 11, 15, 2, 21, 4, 7, 1, 3, 2, 0, 12, 0, 1, 0, 3, 2, 0, 11, 4, 3, 2, 0, 15, 0, 8, 3, 7, 1, 3, 2, 0, 12, 0, 0, 0, 7, 4, 3, 2, 0, 15, 0, 1, 2, 0, 11]), (20, [3, 6], [30, 0, 1, 0, 0, -1, 1, 11]), (20, [4, 6], [30, -1, 1, 0, 0, -1, 1, 11]), (20, [6], [50, 1, 0, 12, 1, 3, 2, 0, 12, 0, 1]), (20, [8, 6], [50, 1, 1, 1005, 1002, 3, 6, 0, 2, 1, 0, 0, -1, 0, 10, 3, 1, 2, 4, 3, 2, 1, 5, 0, 1, 0, 47]), (20, [7, 6], [50, 1, 1, 1005, 1002, 0, 6, 4, 2, 1, 0, 0, 1, 3, 1, 2, 4, 3, 2, 1, 5, 0, 2]), (20, [6, 9], [60, 1, 3, 200, 5, 2, 3, 4]), (20, [6, 8, 9], [60, 1, 1, 243, 5, 2]), (20, [6, 9, 11, 7, 5], [60, 8, 2, 1004, 10, 11, 12, 13, 14, 15, 8, 5, 1, 2])], [], [(0, 0, 2000, [])], [(20, [8, 6], [50, 1, 1, 1005, 1002, 3, 6, 0, 2, 1, 0, 0, -1, 0, 10, 3, 1, 2, 4, 3, 2, 1, 5, 0, 1, 0, 47]), (20, [7, 6], [50, 1, 1, 1005, 1002, 0, 6, 4, 2, 1, 0, 0, 1, 3, 1, 2, 4, 3, 2, 1, 5, 0, 2]), (20, [6], [60, 1, 3, 199, 5, 2, 3, 4]), (20, [6, 8, 9], [60, 1, 1, 243, 5, 2]), (20, [24, 6], [30, 0, 1, 0, 0, -1, 1, 11]), (20, [24, 6], [50, 1, 0, 1011, 1, 2, 1, 0, 2, 1, 11]), (20, [6], [60, 2, 0, 947, 10, 11]), (23, [3, 24], [0, 1, -1]), (23, [4, 24], [-1, 1, -1]), (20, [6, 9, 7, 5, 24], [60, 3, 2, 972, 10, 8, 5, 1, 2])], [], [(23, 9, 243, 66540), (23, 22, 0, 23), (23, 16, 243, 266), (22, 16, 243, 243), (19, 9, 219, 66516), (19, 18, 0, 23), (19, 16, 219, 242), (18, 16, 219, 219), (11, 14, 0, 4294967296), (14, 12, -2000, 0), (1, 7, -4294967296, 0), (7, 1, -4294967296, 0)])
theorem oo_Mo_met_at_g1_15 {kA : Nat → ClassId} : or_ok PRD kA GG o_Mo_met_at_g1_15 := by
  refine or_mk fun A ta ws vs hD hth hl => ?_
  intro t0 r0 t1 k1 t2 k2 t3 k3 t4 k4 t5 k5 t6 r6 t7 k7 t8 k8 t9 k9 t11 k11 t12 k12 t13 k13 t14 k14 t15 r15 t16 k16 t17 k17 t18 k18 t19 k19 t20 k20 t21 k21 t22 k22 t23 k23 d0 d1 d2 d3 d4 d5 d6 d7 d8 d9 d10 d11 f0 f1 f2 f3 f4 f5 f6 f7 f8 f9 f10 f11 ta1 w1 le1 s1 f13 f14 f15 f16 f17 f18 f19 ta2 w2 le2 s2 f21 f22 f23 f24 f25 f26 f27 f28 f29 f30 f31 f32 f33 f34
  replace f0 := shm_110 f0
  replace f1 := shm_120 f1
  replace f2 := shm_177 f2
  replace f3 := shm_116 f3
  replace f4 := shm_1437 f4
  replace f5 := shm_1438 f5
  replace f6 := shm_1431 f6
  replace f7 := shm_2005 f7
  replace f8 := shm_1890 f8
  replace f9 := shm_5 f9
  replace f10 := shm_5 f10
  replace f11 := shm_5 f11
  have s1 : (∀ b j, w_el ws b j = if b = v_ad (n_v vs 15) ∧ j = (v_iv (n_v vs 23)).toNat then v_iv (n_v vs 7) else w_el w1 b j) ∧ ∀ b k, w_fd ws b k = w_fd w1 b k := s1.2
  replace f13 := shm_12 f13
  replace f14 := shm_12 f14
  replace f15 := shm_1437 f15
  replace f16 := shm_1438 f16
  replace f17 := shm_1431 f17
  replace f18 := shm_2005 f18
  replace f19 := shm_1890 f19
  have s2 : (∀ b j, w_el w1 b j = if b = v_ad (n_v vs 15) ∧ j = (v_iv (n_v vs 19)).toNat then v_iv (n_v vs 20) else w_el w2 b j) ∧ ∀ b k, w_fd w1 b k = w_fd w2 b k := s2.2
  replace f21 := shm_12 f21
  replace f22 := shm_12 f22
  replace f23 := shm_2 f23
  replace f24 := shm_14 f24
  replace f25 := shm_1437 f25
  replace f26 := shm_1438 f26
  replace f27 := shm_1431 f27
  replace f28 := shm_2005 f28
  replace f29 := shm_1890 f29
  replace f30 := shm_2114 f30
  replace f31 := shm_1009 f31
  replace f32 := shm_1803 f32
  replace f33 := shm_2115 f33
  replace f34 := shm_2123 f34
  have q6 : n_v vs 6 = n_v vs 0 := f9.symm
  have q7 : n_v vs 7 = n_v vs 1 := f10.symm
  have q8 : n_v vs 8 = n_v vs 2 := f11.symm
  simp only [q6] at f0 f1 f2 f3 f4 f5 f6 f7 f8
  rw [q7] at s1
  simp only [q6, q8, q7] at f15 f16 f17 f18 f19 f25 f26 f27 f28 f29 f30 f31 f32 f33 f34
  have ar_0_1_1 : w_ar w1 (n_v vs 0) 1 = w_ar ws (n_v vs 0) 1 := congrArg v_ad (s1.2 _ _).symm
  have ar_0_1_2 : w_ar w2 (n_v vs 0) 1 = w_ar ws (n_v vs 0) 1 := by rw [← ar_0_1_1]; show v_ad (w_fd w2 _ _) = v_ad (w_fd w1 _ _); rw [s2.2]
  have cr_0_1 := fdq_39 hD hth r0
  have ar_0_2_1 : w_ar w1 (n_v vs 0) 2 = w_ar ws (n_v vs 0) 2 := congrArg v_ad (s1.2 _ _).symm
  have ar_0_2_2 : w_ar w2 (n_v vs 0) 2 = w_ar ws (n_v vs 0) 2 := by rw [← ar_0_2_1]; show v_ad (w_fd w2 _ _) = v_ad (w_fd w1 _ _); rw [s2.2]
  have cr_0_2 := fdq_10 hD hth r0
  have ar_0_3_1 : w_ar w1 (n_v vs 0) 3 = w_ar ws (n_v vs 0) 3 := congrArg v_ad (s1.2 _ _).symm
  have ar_0_3_2 : w_ar w2 (n_v vs 0) 3 = w_ar ws (n_v vs 0) 3 := by rw [← ar_0_3_1]; show v_ad (w_fd w2 _ _) = v_ad (w_fd w1 _ _); rw [s2.2]
  have cr_0_3 := fdq_142 hD hth r0
  have ar_0_4_1 : w_ar w1 (n_v vs 0) 4 = w_ar ws (n_v vs 0) 4 := congrArg v_ad (s1.2 _ _).symm
  have ar_0_4_2 : w_ar w2 (n_v vs 0) 4 = w_ar ws (n_v vs 0) 4 := by rw [← ar_0_4_1]; show v_ad (w_fd w2 _ _) = v_ad (w_fd w1 _ _); rw [s2.2]
  have cr_0_4 := fdq_143 hD hth r0
  have ad_15 : v_ad (n_v vs 15) = w_ar ws (n_v vs 0) 2 := congrArg v_ad f1
  have g0 : v_iv (n_v vs 16) = w_fi ws (n_v vs 0) 5 := congrArg v_iv f0
  have g2 : v_iv (n_v vs 13) = w_fi ws (n_v vs 0) 15 := congrArg v_iv f2
  have g3 : v_iv (n_v vs 12) = w_fi ws (n_v vs 0) 11 := congrArg v_iv f3
  simp only [ar_0_2_2, ar_0_3_2, ar_0_4_2, ar_0_1_2] at f30 f31 f32 f33 f34
  have fe_0_5_1 : w_fi ws (n_v vs 0) 5 = w_fi w1 (n_v vs 0) 5 := congrArg v_iv (s1.2 _ _)
  have fe_0_8_1 : w_fi ws (n_v vs 0) 8 = w_fi w1 (n_v vs 0) 8 := congrArg v_iv (s1.2 _ _)
  have fe_0_10_1 : w_fi ws (n_v vs 0) 10 = w_fi w1 (n_v vs 0) 10 := congrArg v_iv (s1.2 _ _)
  have fe_0_11_1 : w_fi ws (n_v vs 0) 11 = w_fi w1 (n_v vs 0) 11 := congrArg v_iv (s1.2 _ _)
  have fe_0_12_1 : w_fi ws (n_v vs 0) 12 = w_fi w1 (n_v vs 0) 12 := congrArg v_iv (s1.2 _ _)
  have fe_0_13_1 : w_fi ws (n_v vs 0) 13 = w_fi w1 (n_v vs 0) 13 := congrArg v_iv (s1.2 _ _)
  have fe_0_14_1 : w_fi ws (n_v vs 0) 14 = w_fi w1 (n_v vs 0) 14 := congrArg v_iv (s1.2 _ _)
  have fe_0_15_1 : w_fi ws (n_v vs 0) 15 = w_fi w1 (n_v vs 0) 15 := congrArg v_iv (s1.2 _ _)
  have fe_0_5_2 : w_fi w1 (n_v vs 0) 5 = w_fi w2 (n_v vs 0) 5 := congrArg v_iv (s2.2 _ _)
  have fe_0_8_2 : w_fi w1 (n_v vs 0) 8 = w_fi w2 (n_v vs 0) 8 := congrArg v_iv (s2.2 _ _)
  have fe_0_10_2 : w_fi w1 (n_v vs 0) 10 = w_fi w2 (n_v vs 0) 10 := congrArg v_iv (s2.2 _ _)
  have fe_0_11_2 : w_fi w1 (n_v vs 0) 11 = w_fi w2 (n_v vs 0) 11 := congrArg v_iv (s2.2 _ _)
  have fe_0_12_2 : w_fi w1 (n_v vs 0) 12 = w_fi w2 (n_v vs 0) 12 := congrArg v_iv (s2.2 _ _)
  have fe_0_13_2 : w_fi w1 (n_v vs 0) 13 = w_fi w2 (n_v vs 0) 13 := congrArg v_iv (s2.2 _ _)
  have fe_0_14_2 : w_fi w1 (n_v vs 0) 14 = w_fi w2 (n_v vs 0) 14 := congrArg v_iv (s2.2 _ _)
  have fe_0_15_2 : w_fi w1 (n_v vs 0) 15 = w_fi w2 (n_v vs 0) 15 := congrArg v_iv (s2.2 _ _)
  have hE_0_1_1 : ∀ j : Int, w_ei ws (w_ar ws (n_v vs 0) 1) j = w_ei w1 (w_ar ws (n_v vs 0) 1) j := el_kp s1.1 r15 cr_0_1 (by decide)
  have hE_0_1_2 : ∀ j : Int, w_ei w1 (w_ar ws (n_v vs 0) 1) j = w_ei w2 (w_ar ws (n_v vs 0) 1) j := el_kp s2.1 r15 cr_0_1 (by decide)
  have hK_0_1 := elq_7 hD hth cr_0_1
  have hE_0_2_1 : ∀ j : Int, 0 ≤ j → (j = v_iv (n_v vs 23) → w_ei ws (w_ar ws (n_v vs 0) 2) j = v_iv (n_v vs 1)) ∧ (j ≠ v_iv (n_v vs 23) → w_ei ws (w_ar ws (n_v vs 0) 2) j = w_ei w1 (w_ar ws (n_v vs 0) 2) j) := fun j hj => ⟨fun h => by unfold w_ei; rw [s1.1, if_pos ⟨ad_15.symm, by rw [h]⟩], fun h => by unfold w_ei; rw [s1.1, if_neg (fun e => h (by have := e.2; omega))]⟩
  have hE_0_2_2 : ∀ j : Int, 0 ≤ j → (j = v_iv (n_v vs 19) → w_ei w1 (w_ar ws (n_v vs 0) 2) j = v_iv (n_v vs 20)) ∧ (j ≠ v_iv (n_v vs 19) → w_ei w1 (w_ar ws (n_v vs 0) 2) j = w_ei w2 (w_ar ws (n_v vs 0) 2) j) := fun j hj => ⟨fun h => by unfold w_ei; rw [s2.1, if_pos ⟨ad_15.symm, by rw [h]⟩], fun h => by unfold w_ei; rw [s2.1, if_neg (fun e => h (by have := e.2; omega))]⟩
  have hE_0_3_1 : ∀ j : Int, w_ei ws (w_ar ws (n_v vs 0) 3) j = w_ei w1 (w_ar ws (n_v vs 0) 3) j := el_kp s1.1 r15 cr_0_3 (by decide)
  have hE_0_3_2 : ∀ j : Int, w_ei w1 (w_ar ws (n_v vs 0) 3) j = w_ei w2 (w_ar ws (n_v vs 0) 3) j := el_kp s2.1 r15 cr_0_3 (by decide)
  have hK_0_3 := elq_80 hD hth cr_0_3
  have hE_0_4_1 : ∀ j : Int, w_ei ws (w_ar ws (n_v vs 0) 4) j = w_ei w1 (w_ar ws (n_v vs 0) 4) j := el_kp s1.1 r15 cr_0_4 (by decide)
  have hE_0_4_2 : ∀ j : Int, w_ei w1 (w_ar ws (n_v vs 0) 4) j = w_ei w2 (w_ar ws (n_v vs 0) 4) j := el_kp s2.1 r15 cr_0_4 (by decide)
  have hK_0_4 := elq_81 hD hth cr_0_4
  have kz_0_8 := fdq_34 hD hth r0
  have kz_0_10 := fdq_43 hD hth r0
  have kz_0_11 := fdq_237 hD hth r0
  have kz_0_12 := fdq_187 hD hth r0
  have kz_0_13 := fdq_238 hD hth r0
  have kz_0_14 := fdq_188 hD hth r0
  have kz_0_15 := fdq_239 hD hth r0
  first | have hJ0 : w_ei w2 (w_ar ws (n_v vs 0) 2) ((w_fi w2 (n_v vs 0) 5 + 1)) = w_ei w2 (w_ar ws (n_v vs 0) 2) ((w_fi ws (n_v vs 0) 5 + 1)) := congrArg _ (show ((w_fi w2 (n_v vs 0) 5 + 1) : Int) = (w_fi ws (n_v vs 0) 5 + 1) from by omega) | skip
  first | have hJ1 : w_ei w2 (w_ar ws (n_v vs 0) 2) ((w_fi w2 (n_v vs 0) 5 + 2)) = w_ei w2 (w_ar ws (n_v vs 0) 2) ((w_fi ws (n_v vs 0) 5 + 2)) := congrArg _ (show ((w_fi w2 (n_v vs 0) 5 + 2) : Int) = (w_fi ws (n_v vs 0) 5 + 2) from by omega) | skip
  first | have hI2 := (hE_0_2_1 ((w_fi ws (n_v vs 0) 5 + 1)) (by omega)).2 (by omega) | have hI2 := (hE_0_2_1 ((w_fi ws (n_v vs 0) 5 + 1)) (by omega)).1 (by omega) | skip
  first | have hI3 := (hE_0_2_2 ((w_fi ws (n_v vs 0) 5 + 1)) (by omega)).2 (by omega) | have hI3 := (hE_0_2_2 ((w_fi ws (n_v vs 0) 5 + 1)) (by omega)).1 (by omega) | skip
  first | have hI4 := (hE_0_2_1 ((w_fi ws (n_v vs 0) 5 + 2)) (by omega)).2 (by omega) | have hI4 := (hE_0_2_1 ((w_fi ws (n_v vs 0) 5 + 2)) (by omega)).1 (by omega) | skip
  first | have hI5 := (hE_0_2_2 ((w_fi ws (n_v vs 0) 5 + 2)) (by omega)).2 (by omega) | have hI5 := (hE_0_2_2 ((w_fi ws (n_v vs 0) 5 + 2)) (by omega)).1 (by omega) | skip
  have kv0 := fdq_237 hD hth r0
  obtain ⟨x, ex, hx⟩ := iv_ex (ta := ta) (lo := 0) (hi := 2000) (z := w_fi ws (n_v vs 0) 11) (by omega) (by omega) (by omega) (by omega)
  have ex2 : v_iv (Value.int x) = w_fi ws (n_v vs 0) 11 := ex
  have ex3 : 0 ≤ v_iv (Value.int x) ∧ v_iv (Value.int x) ≤ 2000 := tv_rng hx
  have e_3 : n_v (vs ++ [Value.int x]) 3 = n_v vs 3 := n_v_old (by rw [hl]; decide)
  have e_4 : n_v (vs ++ [Value.int x]) 4 = n_v vs 4 := n_v_old (by rw [hl]; decide)
  have e_5 : n_v (vs ++ [Value.int x]) 5 = n_v vs 5 := n_v_old (by rw [hl]; decide)
  have e_6 : n_v (vs ++ [Value.int x]) 6 = n_v vs 6 := n_v_old (by rw [hl]; decide)
  have e_7 : n_v (vs ++ [Value.int x]) 7 = n_v vs 7 := n_v_old (by rw [hl]; decide)
  have e_8 : n_v (vs ++ [Value.int x]) 8 = n_v vs 8 := n_v_old (by rw [hl]; decide)
  have e_9 : n_v (vs ++ [Value.int x]) 9 = n_v vs 9 := n_v_old (by rw [hl]; decide)
  have e_24 : n_v (vs ++ [Value.int x]) 24 = Value.int x := n_v_new hl
  have nf0 : fc_1 PRD (20, [8, 6], [50, 1, 1, 1005, 1002, 3, 6, 0, 2, 1, 0, 0, -1, 0, 10, 3, 1, 2, 4, 3, 2, 1, 5, 0, 1, 0, 47]) ws (vs ++ [Value.int x]) := by
    refine ⟨nf_inA hl rfl, sgq_2114 ?_⟩
    · show (v_iv (n_v (vs ++ [Value.int x]) 8) ≤ (-1)) ∨ (w_ei ws (w_ar ws (n_v (vs ++ [Value.int x]) 6) 2) ((w_fi ws (n_v (vs ++ [Value.int x]) 6) 5 + 1)) ≤ 47)
      simp only [e_6, e_8, q6, q8]
      exact vc_Mo_met_at_g1_15_0 (v_iv (n_v vs 1)) (v_iv (n_v vs 2)) (v_iv (n_v vs 19)) (v_iv (n_v vs 20)) (v_iv (n_v vs 23)) (w_fi ws (n_v vs 0) 5) (w_fi ws (n_v vs 0) 15) (w_fi ws (n_v vs 0) 11) (w_fi ws (n_v vs 0) 12) (w_fi w1 (n_v vs 0) 15) (w_fi w1 (n_v vs 0) 11) (w_fi w1 (n_v vs 0) 12) (w_fi w2 (n_v vs 0) 15) (w_fi w2 (n_v vs 0) 11) (w_fi w2 (n_v vs 0) 12) (w_ei w2 (w_ar ws (n_v vs 0) 2)) (w_fi w2 (n_v vs 0) 5) (w_ei w2 (w_ar ws (n_v vs 0) 3)) (w_ei w2 (w_ar ws (n_v vs 0) 4)) (w_ei w2 (w_ar ws (n_v vs 0) 1)) (w_fi w2 (n_v vs 0) 10) (w_fi w2 (n_v vs 0) 13) (w_fi w2 (n_v vs 0) 14) (w_fi w2 (n_v vs 0) 8) (w_fi w1 (n_v vs 0) 5) (w_fi ws (n_v vs 0) 8) (w_fi w1 (n_v vs 0) 8) (w_fi ws (n_v vs 0) 10) (w_fi w1 (n_v vs 0) 10) (w_fi ws (n_v vs 0) 13) (w_fi w1 (n_v vs 0) 13) (w_fi ws (n_v vs 0) 14) (w_fi w1 (n_v vs 0) 14) (w_ei ws (w_ar ws (n_v vs 0) 1)) (w_ei w1 (w_ar ws (n_v vs 0) 1)) (w_ei ws (w_ar ws (n_v vs 0) 2)) (w_ei w1 (w_ar ws (n_v vs 0) 2)) (w_ei ws (w_ar ws (n_v vs 0) 3)) (w_ei w1 (w_ar ws (n_v vs 0) 3)) (w_ei ws (w_ar ws (n_v vs 0) 4)) (w_ei w1 (w_ar ws (n_v vs 0) 4)) k1 k2 k19 k20 k23 fe_0_5_1 fe_0_8_1 fe_0_10_1 fe_0_11_1 fe_0_12_1 fe_0_13_1 fe_0_14_1 fe_0_15_1 fe_0_5_2 fe_0_8_2 fe_0_10_2 fe_0_11_2 fe_0_12_2 fe_0_13_2 fe_0_14_2 fe_0_15_2 hE_0_1_1 hE_0_1_2 hE_0_2_1 hE_0_2_2 hE_0_3_1 hE_0_3_2 hE_0_4_1 hE_0_4_2 kz_0_8 kz_0_10 kz_0_11 kz_0_12 kz_0_13 kz_0_14 kz_0_15
  have nf1 : fc_1 PRD (20, [7, 6], [50, 1, 1, 1005, 1002, 0, 6, 4, 2, 1, 0, 0, 1, 3, 1, 2, 4, 3, 2, 1, 5, 0, 2]) ws (vs ++ [Value.int x]) := by
    refine ⟨nf_inA hl rfl, sgq_1009 ?_⟩
    · show (v_iv (n_v (vs ++ [Value.int x]) 7) + 1) ≤ w_ei ws (w_ar ws (n_v (vs ++ [Value.int x]) 6) 2) ((w_fi ws (n_v (vs ++ [Value.int x]) 6) 5 + 2))
      simp only [e_6, e_7, q6, q7]
      exact vc_Mo_met_at_g1_15_1 (v_iv (n_v vs 1)) (v_iv (n_v vs 7)) (v_iv (n_v vs 9)) (v_iv (n_v vs 16)) (v_iv (n_v vs 18)) (v_iv (n_v vs 19)) (v_iv (n_v vs 20)) (v_iv (n_v vs 22)) (v_iv (n_v vs 23)) (w_fi ws (n_v vs 0) 5) (w_fi ws (n_v vs 0) 15) (w_fi ws (n_v vs 0) 11) (w_fi ws (n_v vs 0) 12) (w_fi w1 (n_v vs 0) 15) (w_fi w1 (n_v vs 0) 11) (w_fi w1 (n_v vs 0) 12) (w_fi w2 (n_v vs 0) 15) (w_fi w2 (n_v vs 0) 11) (w_fi w2 (n_v vs 0) 12) (w_ei w2 (w_ar ws (n_v vs 0) 2)) (w_fi w2 (n_v vs 0) 5) (w_ei w2 (w_ar ws (n_v vs 0) 3)) (w_ei w2 (w_ar ws (n_v vs 0) 4)) (w_ei w2 (w_ar ws (n_v vs 0) 1)) (w_fi w2 (n_v vs 0) 10) (w_fi w2 (n_v vs 0) 13) (w_fi w2 (n_v vs 0) 14) (w_fi w2 (n_v vs 0) 8) (w_fi w1 (n_v vs 0) 5) (w_fi ws (n_v vs 0) 8) (w_fi w1 (n_v vs 0) 8) (w_fi ws (n_v vs 0) 10) (w_fi w1 (n_v vs 0) 10) (w_fi ws (n_v vs 0) 13) (w_fi w1 (n_v vs 0) 13) (w_fi ws (n_v vs 0) 14) (w_fi w1 (n_v vs 0) 14) (w_ei ws (w_ar ws (n_v vs 0) 1)) (w_ei w1 (w_ar ws (n_v vs 0) 1)) (w_ei ws (w_ar ws (n_v vs 0) 2)) (w_ei w1 (w_ar ws (n_v vs 0) 2)) (w_ei ws (w_ar ws (n_v vs 0) 3)) (w_ei w1 (w_ar ws (n_v vs 0) 3)) (w_ei ws (w_ar ws (n_v vs 0) 4)) (w_ei w1 (w_ar ws (n_v vs 0) 4)) k1 k7 k9 k16 k18 k19 k20 k22 k23 d3 d6 d7 d10 d11 g0 f13 f21 f31 fe_0_5_1 fe_0_8_1 fe_0_10_1 fe_0_11_1 fe_0_12_1 fe_0_13_1 fe_0_14_1 fe_0_15_1 fe_0_5_2 fe_0_8_2 fe_0_10_2 fe_0_11_2 fe_0_12_2 fe_0_13_2 fe_0_14_2 fe_0_15_2 hE_0_1_1 hE_0_1_2 hE_0_2_1 hE_0_2_2 hE_0_3_1 hE_0_3_2 hE_0_4_1 hE_0_4_2 kz_0_8 kz_0_10 kz_0_11 kz_0_12 kz_0_13 kz_0_14 kz_0_15
  have nf2 : fc_1 PRD (20, [6], [60, 1, 3, 199, 5, 2, 3, 4]) ws (vs ++ [Value.int x]) := by
    refine ⟨nf_inA hl rfl, sgq_980 ?_⟩
    · show RWS (w_fi ws (n_v (vs ++ [Value.int x]) 6) 5) (w_ei ws (w_ar ws (n_v (vs ++ [Value.int x]) 6) 2)) (w_ei ws (w_ar ws (n_v (vs ++ [Value.int x]) 6) 3)) (w_ei ws (w_ar ws (n_v (vs ++ [Value.int x]) 6) 4))
      simp only [e_6, q6]
      exact vc_Mo_met_at_g1_15_2 (v_iv (n_v vs 1)) (v_iv (n_v vs 2)) (v_iv (n_v vs 9)) (v_iv (n_v vs 16)) (v_iv (n_v vs 18)) (v_iv (n_v vs 19)) (v_iv (n_v vs 20)) (v_iv (n_v vs 22)) (v_iv (n_v vs 23)) (w_fi ws (n_v vs 0) 5) (w_fi ws (n_v vs 0) 15) (w_fi ws (n_v vs 0) 11) (w_fi ws (n_v vs 0) 12) (w_fi w1 (n_v vs 0) 15) (w_fi w1 (n_v vs 0) 11) (w_fi w1 (n_v vs 0) 12) (w_fi w2 (n_v vs 0) 15) (w_fi w2 (n_v vs 0) 11) (w_fi w2 (n_v vs 0) 12) (w_ei w2 (w_ar ws (n_v vs 0) 2)) (w_fi w2 (n_v vs 0) 5) (w_ei w2 (w_ar ws (n_v vs 0) 3)) (w_ei w2 (w_ar ws (n_v vs 0) 4)) (w_ei w2 (w_ar ws (n_v vs 0) 1)) (w_fi w2 (n_v vs 0) 10) (w_fi w2 (n_v vs 0) 13) (w_fi w2 (n_v vs 0) 14) (w_fi w2 (n_v vs 0) 8) (w_fi w1 (n_v vs 0) 5) (w_fi ws (n_v vs 0) 8) (w_fi w1 (n_v vs 0) 8) (w_fi ws (n_v vs 0) 10) (w_fi w1 (n_v vs 0) 10) (w_fi ws (n_v vs 0) 13) (w_fi w1 (n_v vs 0) 13) (w_fi ws (n_v vs 0) 14) (w_fi w1 (n_v vs 0) 14) (w_ei ws (w_ar ws (n_v vs 0) 1)) (w_ei w1 (w_ar ws (n_v vs 0) 1)) (w_ei ws (w_ar ws (n_v vs 0) 2)) (w_ei w1 (w_ar ws (n_v vs 0) 2)) (w_ei ws (w_ar ws (n_v vs 0) 3)) (w_ei w1 (w_ar ws (n_v vs 0) 3)) (w_ei ws (w_ar ws (n_v vs 0) 4)) (w_ei w1 (w_ar ws (n_v vs 0) 4)) k1 k2 k9 k16 k18 k19 k20 k22 k23 d3 d7 g0 f13 f21 f32 f33 fe_0_5_1 fe_0_8_1 fe_0_10_1 fe_0_11_1 fe_0_12_1 fe_0_13_1 fe_0_14_1 fe_0_15_1 fe_0_5_2 fe_0_8_2 fe_0_10_2 fe_0_11_2 fe_0_12_2 fe_0_13_2 fe_0_14_2 fe_0_15_2 hE_0_1_1 hE_0_1_2 hE_0_2_1 hE_0_2_2 hE_0_3_1 hE_0_3_2 hE_0_4_1 hE_0_4_2 kz_0_8 kz_0_10 kz_0_11 kz_0_12 kz_0_13 kz_0_14 kz_0_15
  have nf3 : fc_1 PRD (20, [6, 8, 9], [60, 1, 1, 243, 5, 2]) ws (vs ++ [Value.int x]) := by
    refine ⟨nf_inA hl rfl, sgq_2115 ?_⟩
    · show MEN (w_fi ws (n_v (vs ++ [Value.int x]) 6) 5) (w_ei ws (w_ar ws (n_v (vs ++ [Value.int x]) 6) 2)) (v_iv (n_v (vs ++ [Value.int x]) 8)) (v_iv (n_v (vs ++ [Value.int x]) 9))
      simp only [e_6, e_8, e_9, q6, q8]
      exact vc_Mo_met_at_g1_15_3 (v_iv (n_v vs 1)) (v_iv (n_v vs 2)) (v_iv (n_v vs 9)) (v_iv (n_v vs 16)) (v_iv (n_v vs 18)) (v_iv (n_v vs 19)) (v_iv (n_v vs 20)) (v_iv (n_v vs 22)) (v_iv (n_v vs 23)) (w_fi ws (n_v vs 0) 5) (w_fi ws (n_v vs 0) 15) (w_fi ws (n_v vs 0) 11) (w_fi ws (n_v vs 0) 12) (w_fi w1 (n_v vs 0) 15) (w_fi w1 (n_v vs 0) 11) (w_fi w1 (n_v vs 0) 12) (w_fi w2 (n_v vs 0) 15) (w_fi w2 (n_v vs 0) 11) (w_fi w2 (n_v vs 0) 12) (w_ei w2 (w_ar ws (n_v vs 0) 2)) (w_fi w2 (n_v vs 0) 5) (w_ei w2 (w_ar ws (n_v vs 0) 3)) (w_ei w2 (w_ar ws (n_v vs 0) 4)) (w_ei w2 (w_ar ws (n_v vs 0) 1)) (w_fi w2 (n_v vs 0) 10) (w_fi w2 (n_v vs 0) 13) (w_fi w2 (n_v vs 0) 14) (w_fi w2 (n_v vs 0) 8) (w_fi w1 (n_v vs 0) 5) (w_fi ws (n_v vs 0) 8) (w_fi w1 (n_v vs 0) 8) (w_fi ws (n_v vs 0) 10) (w_fi w1 (n_v vs 0) 10) (w_fi ws (n_v vs 0) 13) (w_fi w1 (n_v vs 0) 13) (w_fi ws (n_v vs 0) 14) (w_fi w1 (n_v vs 0) 14) (w_ei ws (w_ar ws (n_v vs 0) 1)) (w_ei w1 (w_ar ws (n_v vs 0) 1)) (w_ei ws (w_ar ws (n_v vs 0) 2)) (w_ei w1 (w_ar ws (n_v vs 0) 2)) (w_ei ws (w_ar ws (n_v vs 0) 3)) (w_ei w1 (w_ar ws (n_v vs 0) 3)) (w_ei ws (w_ar ws (n_v vs 0) 4)) (w_ei w1 (w_ar ws (n_v vs 0) 4)) k1 k2 k9 k16 k18 k19 k20 k22 k23 d3 d7 g0 f13 f21 f32 f33 fe_0_5_1 fe_0_8_1 fe_0_10_1 fe_0_11_1 fe_0_12_1 fe_0_13_1 fe_0_14_1 fe_0_15_1 fe_0_5_2 fe_0_8_2 fe_0_10_2 fe_0_11_2 fe_0_12_2 fe_0_13_2 fe_0_14_2 fe_0_15_2 hE_0_1_1 hE_0_1_2 hE_0_2_1 hE_0_2_2 hE_0_3_1 hE_0_3_2 hE_0_4_1 hE_0_4_2 kz_0_8 kz_0_10 kz_0_11 kz_0_12 kz_0_13 kz_0_14 kz_0_15
  have nf4 : fc_1 PRD (20, [24, 6], [30, 0, 1, 0, 0, -1, 1, 11]) ws (vs ++ [Value.int x]) := by
    refine ⟨nf_inA hl rfl, sgq_1431 ?_⟩
    · show 1 * v_iv (n_v (vs ++ [Value.int x]) 24) + ((-1) * w_fi ws (n_v (vs ++ [Value.int x]) 6) 11 + 0) ≤ 0
      simp only [e_6, e_24, q6]
      exact vc_Mo_met_at_g1_15_4 (v_iv (n_v vs 1)) (v_iv (n_v vs 19)) (v_iv (n_v vs 20)) (v_iv (n_v vs 23)) (w_fi ws (n_v vs 0) 5) (w_fi ws (n_v vs 0) 15) (w_fi ws (n_v vs 0) 11) (w_fi ws (n_v vs 0) 12) (w_fi w1 (n_v vs 0) 15) (w_fi w1 (n_v vs 0) 11) (w_fi w1 (n_v vs 0) 12) (w_fi w2 (n_v vs 0) 15) (w_fi w2 (n_v vs 0) 11) (w_fi w2 (n_v vs 0) 12) (w_ei w2 (w_ar ws (n_v vs 0) 2)) (w_fi w2 (n_v vs 0) 5) (w_ei w2 (w_ar ws (n_v vs 0) 3)) (w_ei w2 (w_ar ws (n_v vs 0) 4)) (w_ei w2 (w_ar ws (n_v vs 0) 1)) (w_fi w2 (n_v vs 0) 10) (w_fi w2 (n_v vs 0) 13) (w_fi w2 (n_v vs 0) 14) (w_fi w2 (n_v vs 0) 8) (w_fi w1 (n_v vs 0) 5) (w_fi ws (n_v vs 0) 8) (w_fi w1 (n_v vs 0) 8) (w_fi ws (n_v vs 0) 10) (w_fi w1 (n_v vs 0) 10) (w_fi ws (n_v vs 0) 13) (w_fi w1 (n_v vs 0) 13) (w_fi ws (n_v vs 0) 14) (w_fi w1 (n_v vs 0) 14) (w_ei ws (w_ar ws (n_v vs 0) 1)) (w_ei w1 (w_ar ws (n_v vs 0) 1)) (w_ei ws (w_ar ws (n_v vs 0) 2)) (w_ei w1 (w_ar ws (n_v vs 0) 2)) (w_ei ws (w_ar ws (n_v vs 0) 3)) (w_ei w1 (w_ar ws (n_v vs 0) 3)) (w_ei ws (w_ar ws (n_v vs 0) 4)) (w_ei w1 (w_ar ws (n_v vs 0) 4)) (v_iv (Value.int x)) k1 k19 k20 k23 fe_0_5_1 fe_0_8_1 fe_0_10_1 fe_0_11_1 fe_0_12_1 fe_0_13_1 fe_0_14_1 fe_0_15_1 fe_0_5_2 fe_0_8_2 fe_0_10_2 fe_0_11_2 fe_0_12_2 fe_0_13_2 fe_0_14_2 fe_0_15_2 hE_0_1_1 hE_0_1_2 hE_0_2_1 hE_0_2_2 hE_0_3_1 hE_0_3_2 hE_0_4_1 hE_0_4_2 kz_0_8 kz_0_10 kz_0_11 kz_0_12 kz_0_13 kz_0_14 kz_0_15 ex2
  have nf5 : fc_1 PRD (20, [24, 6], [50, 1, 0, 1011, 1, 2, 1, 0, 2, 1, 11]) ws (vs ++ [Value.int x]) := by
    refine ⟨nf_inA hl rfl, sgq_1432 ?_⟩
    · show v_iv (n_v (vs ++ [Value.int x]) 24) = w_fi ws (n_v (vs ++ [Value.int x]) 6) 11
      simp only [e_6, e_24, q6]
      exact vc_Mo_met_at_g1_15_5 (v_iv (n_v vs 1)) (v_iv (n_v vs 19)) (v_iv (n_v vs 20)) (v_iv (n_v vs 23)) (w_fi ws (n_v vs 0) 5) (w_fi ws (n_v vs 0) 15) (w_fi ws (n_v vs 0) 11) (w_fi ws (n_v vs 0) 12) (w_fi w1 (n_v vs 0) 15) (w_fi w1 (n_v vs 0) 11) (w_fi w1 (n_v vs 0) 12) (w_fi w2 (n_v vs 0) 15) (w_fi w2 (n_v vs 0) 11) (w_fi w2 (n_v vs 0) 12) (w_ei w2 (w_ar ws (n_v vs 0) 2)) (w_fi w2 (n_v vs 0) 5) (w_ei w2 (w_ar ws (n_v vs 0) 3)) (w_ei w2 (w_ar ws (n_v vs 0) 4)) (w_ei w2 (w_ar ws (n_v vs 0) 1)) (w_fi w2 (n_v vs 0) 10) (w_fi w2 (n_v vs 0) 13) (w_fi w2 (n_v vs 0) 14) (w_fi w2 (n_v vs 0) 8) (w_fi w1 (n_v vs 0) 5) (w_fi ws (n_v vs 0) 8) (w_fi w1 (n_v vs 0) 8) (w_fi ws (n_v vs 0) 10) (w_fi w1 (n_v vs 0) 10) (w_fi ws (n_v vs 0) 13) (w_fi w1 (n_v vs 0) 13) (w_fi ws (n_v vs 0) 14) (w_fi w1 (n_v vs 0) 14) (w_ei ws (w_ar ws (n_v vs 0) 1)) (w_ei w1 (w_ar ws (n_v vs 0) 1)) (w_ei ws (w_ar ws (n_v vs 0) 2)) (w_ei w1 (w_ar ws (n_v vs 0) 2)) (w_ei ws (w_ar ws (n_v vs 0) 3)) (w_ei w1 (w_ar ws (n_v vs 0) 3)) (w_ei ws (w_ar ws (n_v vs 0) 4)) (w_ei w1 (w_ar ws (n_v vs 0) 4)) (v_iv (Value.int x)) k1 k19 k20 k23 fe_0_5_1 fe_0_8_1 fe_0_10_1 fe_0_11_1 fe_0_12_1 fe_0_13_1 fe_0_14_1 fe_0_15_1 fe_0_5_2 fe_0_8_2 fe_0_10_2 fe_0_11_2 fe_0_12_2 fe_0_13_2 fe_0_14_2 fe_0_15_2 hE_0_1_1 hE_0_1_2 hE_0_2_1 hE_0_2_2 hE_0_3_1 hE_0_3_2 hE_0_4_1 hE_0_4_2 kz_0_8 kz_0_10 kz_0_11 kz_0_12 kz_0_13 kz_0_14 kz_0_15 ex2
  have nf6 : fc_1 PRD (20, [6], [60, 2, 0, 947, 10, 11]) ws (vs ++ [Value.int x]) := by
    refine ⟨nf_inA hl rfl, sgq_1433 ?_⟩
    · show ZLM (w_fi ws (n_v (vs ++ [Value.int x]) 6) 10) (w_fi ws (n_v (vs ++ [Value.int x]) 6) 11)
      simp only [e_6, q6]
      exact vc_Mo_met_at_g1_15_6 (v_iv (n_v vs 1)) (v_iv (n_v vs 5)) (v_iv (n_v vs 9)) (v_iv (n_v vs 11)) (w_fi ws (n_v vs 0) 5) (w_fi ws (n_v vs 0) 15) (w_fi ws (n_v vs 0) 11) (w_fi ws (n_v vs 0) 12) (w_fi w1 (n_v vs 0) 15) (w_fi w1 (n_v vs 0) 11) (w_fi w1 (n_v vs 0) 12) (w_fi w2 (n_v vs 0) 15) (w_fi w2 (n_v vs 0) 11) (w_fi w2 (n_v vs 0) 12) (w_ei w2 (w_ar ws (n_v vs 0) 2)) (w_fi w2 (n_v vs 0) 5) (w_ei w2 (w_ar ws (n_v vs 0) 3)) (w_ei w2 (w_ar ws (n_v vs 0) 4)) (w_ei w2 (w_ar ws (n_v vs 0) 1)) (w_fi w2 (n_v vs 0) 10) (w_fi w2 (n_v vs 0) 13) (w_fi w2 (n_v vs 0) 14) (w_fi w2 (n_v vs 0) 8) (w_fi w1 (n_v vs 0) 5) (w_fi ws (n_v vs 0) 8) (w_fi w1 (n_v vs 0) 8) (w_fi ws (n_v vs 0) 10) (w_fi w1 (n_v vs 0) 10) (w_fi ws (n_v vs 0) 13) (w_fi w1 (n_v vs 0) 13) (w_fi ws (n_v vs 0) 14) (w_fi w1 (n_v vs 0) 14) (w_ei ws (w_ar ws (n_v vs 0) 1)) (w_ei w1 (w_ar ws (n_v vs 0) 1)) (w_ei ws (w_ar ws (n_v vs 0) 3)) (w_ei w1 (w_ar ws (n_v vs 0) 3)) (w_ei ws (w_ar ws (n_v vs 0) 4)) (w_ei w1 (w_ar ws (n_v vs 0) 4)) k1 k5 k9 k11 f34 fe_0_5_1 fe_0_8_1 fe_0_10_1 fe_0_11_1 fe_0_12_1 fe_0_13_1 fe_0_14_1 fe_0_15_1 fe_0_5_2 fe_0_8_2 fe_0_10_2 fe_0_11_2 fe_0_12_2 fe_0_13_2 fe_0_14_2 fe_0_15_2 hE_0_1_1 hE_0_1_2 hE_0_3_1 hE_0_3_2 hE_0_4_1 hE_0_4_2 kz_0_8 kz_0_10 kz_0_11 kz_0_12 kz_0_13 kz_0_14 kz_0_15
  have nf7 : fc_1 PRD (23, [3, 24], [0, 1, -1]) ws (vs ++ [Value.int x]) := by
    refine ⟨nf_inA hl rfl, sgq_7 ?_⟩
    · show 1 * v_iv (n_v (vs ++ [Value.int x]) 3) + ((-1) * v_iv (n_v (vs ++ [Value.int x]) 24) + 0) ≤ 0
      simp only [e_3, e_24]
      exact vc_Mo_met_at_g1_15_7 (v_iv (n_v vs 1)) (v_iv (n_v vs 3)) (v_iv (n_v vs 19)) (v_iv (n_v vs 20)) (v_iv (n_v vs 23)) (w_fi ws (n_v vs 0) 5) (w_fi ws (n_v vs 0) 15) (w_fi ws (n_v vs 0) 11) (w_fi ws (n_v vs 0) 12) (w_fi w1 (n_v vs 0) 15) (w_fi w1 (n_v vs 0) 11) (w_fi w1 (n_v vs 0) 12) (w_fi w2 (n_v vs 0) 15) (w_fi w2 (n_v vs 0) 11) (w_fi w2 (n_v vs 0) 12) (w_ei w2 (w_ar ws (n_v vs 0) 2)) (w_fi w2 (n_v vs 0) 5) (w_ei w2 (w_ar ws (n_v vs 0) 3)) (w_ei w2 (w_ar ws (n_v vs 0) 4)) (w_ei w2 (w_ar ws (n_v vs 0) 1)) (w_fi w2 (n_v vs 0) 10) (w_fi w2 (n_v vs 0) 13) (w_fi w2 (n_v vs 0) 14) (w_fi w2 (n_v vs 0) 8) (w_fi w1 (n_v vs 0) 5) (w_fi ws (n_v vs 0) 8) (w_fi w1 (n_v vs 0) 8) (w_fi ws (n_v vs 0) 10) (w_fi w1 (n_v vs 0) 10) (w_fi ws (n_v vs 0) 13) (w_fi w1 (n_v vs 0) 13) (w_fi ws (n_v vs 0) 14) (w_fi w1 (n_v vs 0) 14) (w_ei ws (w_ar ws (n_v vs 0) 1)) (w_ei w1 (w_ar ws (n_v vs 0) 1)) (w_ei ws (w_ar ws (n_v vs 0) 2)) (w_ei w1 (w_ar ws (n_v vs 0) 2)) (w_ei ws (w_ar ws (n_v vs 0) 3)) (w_ei w1 (w_ar ws (n_v vs 0) 3)) (w_ei ws (w_ar ws (n_v vs 0) 4)) (w_ei w1 (w_ar ws (n_v vs 0) 4)) (v_iv (Value.int x)) k1 k3 k19 k20 k23 f6 fe_0_5_1 fe_0_8_1 fe_0_10_1 fe_0_11_1 fe_0_12_1 fe_0_13_1 fe_0_14_1 fe_0_15_1 fe_0_5_2 fe_0_8_2 fe_0_10_2 fe_0_11_2 fe_0_12_2 fe_0_13_2 fe_0_14_2 fe_0_15_2 hE_0_1_1 hE_0_1_2 hE_0_2_1 hE_0_2_2 hE_0_3_1 hE_0_3_2 hE_0_4_1 hE_0_4_2 kz_0_8 kz_0_10 kz_0_11 kz_0_12 kz_0_13 kz_0_14 kz_0_15 ex2
  have nf8 : fc_1 PRD (23, [4, 24], [-1, 1, -1]) ws (vs ++ [Value.int x]) := by
    refine ⟨nf_inA hl rfl, sgq_193 ?_⟩
    · show 1 * v_iv (n_v (vs ++ [Value.int x]) 4) + ((-1) * v_iv (n_v (vs ++ [Value.int x]) 24) + 0) ≤ (-1)
      simp only [e_4, e_24]
      exact vc_Mo_met_at_g1_15_8 (v_iv (n_v vs 1)) (v_iv (n_v vs 4)) (v_iv (n_v vs 19)) (v_iv (n_v vs 20)) (v_iv (n_v vs 23)) (w_fi ws (n_v vs 0) 5) (w_fi ws (n_v vs 0) 15) (w_fi ws (n_v vs 0) 11) (w_fi ws (n_v vs 0) 12) (w_fi w1 (n_v vs 0) 15) (w_fi w1 (n_v vs 0) 11) (w_fi w1 (n_v vs 0) 12) (w_fi w2 (n_v vs 0) 15) (w_fi w2 (n_v vs 0) 11) (w_fi w2 (n_v vs 0) 12) (w_ei w2 (w_ar ws (n_v vs 0) 2)) (w_fi w2 (n_v vs 0) 5) (w_ei w2 (w_ar ws (n_v vs 0) 3)) (w_ei w2 (w_ar ws (n_v vs 0) 4)) (w_ei w2 (w_ar ws (n_v vs 0) 1)) (w_fi w2 (n_v vs 0) 10) (w_fi w2 (n_v vs 0) 13) (w_fi w2 (n_v vs 0) 14) (w_fi w2 (n_v vs 0) 8) (w_fi w1 (n_v vs 0) 5) (w_fi ws (n_v vs 0) 8) (w_fi w1 (n_v vs 0) 8) (w_fi ws (n_v vs 0) 10) (w_fi w1 (n_v vs 0) 10) (w_fi ws (n_v vs 0) 13) (w_fi w1 (n_v vs 0) 13) (w_fi ws (n_v vs 0) 14) (w_fi w1 (n_v vs 0) 14) (w_ei ws (w_ar ws (n_v vs 0) 1)) (w_ei w1 (w_ar ws (n_v vs 0) 1)) (w_ei ws (w_ar ws (n_v vs 0) 2)) (w_ei w1 (w_ar ws (n_v vs 0) 2)) (w_ei ws (w_ar ws (n_v vs 0) 3)) (w_ei w1 (w_ar ws (n_v vs 0) 3)) (w_ei ws (w_ar ws (n_v vs 0) 4)) (w_ei w1 (w_ar ws (n_v vs 0) 4)) (v_iv (Value.int x)) k1 k4 k19 k20 k23 f7 fe_0_5_1 fe_0_8_1 fe_0_10_1 fe_0_11_1 fe_0_12_1 fe_0_13_1 fe_0_14_1 fe_0_15_1 fe_0_5_2 fe_0_8_2 fe_0_10_2 fe_0_11_2 fe_0_12_2 fe_0_13_2 fe_0_14_2 fe_0_15_2 hE_0_1_1 hE_0_1_2 hE_0_2_1 hE_0_2_2 hE_0_3_1 hE_0_3_2 hE_0_4_1 hE_0_4_2 kz_0_8 kz_0_10 kz_0_11 kz_0_12 kz_0_13 kz_0_14 kz_0_15 ex2
  have nf9 : fc_1 PRD (20, [6, 9, 7, 5, 24], [60, 3, 2, 972, 10, 8, 5, 1, 2]) ws (vs ++ [Value.int x]) := by
    refine ⟨nf_inA hl rfl, sgq_2125 ?_⟩
    · show zTS2 (w_fi ws (n_v (vs ++ [Value.int x]) 6) 10) (w_fi ws (n_v (vs ++ [Value.int x]) 6) 8) (w_fi ws (n_v (vs ++ [Value.int x]) 6) 5) (w_ei ws (w_ar ws (n_v (vs ++ [Value.int x]) 6) 1)) (w_ei ws (w_ar ws (n_v (vs ++ [Value.int x]) 6) 2)) (v_iv (n_v (vs ++ [Value.int x]) 9)) (v_iv (n_v (vs ++ [Value.int x]) 7)) (v_iv (n_v (vs ++ [Value.int x]) 5)) (v_iv (n_v (vs ++ [Value.int x]) 24))
      simp only [e_5, e_6, e_7, e_9, e_24, q6, q7]
      exact vc_Mo_met_at_g1_15_9 (v_iv (n_v vs 1)) (v_iv (n_v vs 5)) (v_iv (n_v vs 9)) (v_iv (n_v vs 11)) (v_iv (n_v vs 12)) (v_iv (n_v vs 13)) (v_iv (n_v vs 14)) (v_iv (n_v vs 16)) (v_iv (n_v vs 18)) (v_iv (n_v vs 19)) (v_iv (n_v vs 20)) (v_iv (n_v vs 22)) (v_iv (n_v vs 23)) (w_fi ws (n_v vs 0) 5) (w_fi ws (n_v vs 0) 15) (w_fi ws (n_v vs 0) 11) (w_fi ws (n_v vs 0) 12) (w_fi w1 (n_v vs 0) 15) (w_fi w1 (n_v vs 0) 11) (w_fi w1 (n_v vs 0) 12) (w_fi w2 (n_v vs 0) 15) (w_fi w2 (n_v vs 0) 11) (w_fi w2 (n_v vs 0) 12) (w_ei w2 (w_ar ws (n_v vs 0) 2)) (w_fi w2 (n_v vs 0) 5) (w_ei w2 (w_ar ws (n_v vs 0) 3)) (w_ei w2 (w_ar ws (n_v vs 0) 4)) (w_ei w2 (w_ar ws (n_v vs 0) 1)) (w_fi w2 (n_v vs 0) 10) (w_fi w2 (n_v vs 0) 13) (w_fi w2 (n_v vs 0) 14) (w_fi w2 (n_v vs 0) 8) (w_fi w1 (n_v vs 0) 5) (w_fi ws (n_v vs 0) 8) (w_fi w1 (n_v vs 0) 8) (w_fi ws (n_v vs 0) 10) (w_fi w1 (n_v vs 0) 10) (w_fi ws (n_v vs 0) 13) (w_fi w1 (n_v vs 0) 13) (w_fi ws (n_v vs 0) 14) (w_fi w1 (n_v vs 0) 14) (w_ei ws (w_ar ws (n_v vs 0) 1)) (w_ei w1 (w_ar ws (n_v vs 0) 1)) (w_ei ws (w_ar ws (n_v vs 0) 2)) (w_ei w1 (w_ar ws (n_v vs 0) 2)) (w_ei ws (w_ar ws (n_v vs 0) 3)) (w_ei w1 (w_ar ws (n_v vs 0) 3)) (w_ei ws (w_ar ws (n_v vs 0) 4)) (w_ei w1 (w_ar ws (n_v vs 0) 4)) (v_iv (Value.int x)) k1 k5 k9 k11 k12 k13 k14 k16 k18 k19 k20 k22 k23 d3 d7 d8 g0 g2 g3 f13 f21 f24 f34 fe_0_5_1 fe_0_8_1 fe_0_10_1 fe_0_11_1 fe_0_12_1 fe_0_13_1 fe_0_14_1 fe_0_15_1 fe_0_5_2 fe_0_8_2 fe_0_10_2 fe_0_11_2 fe_0_12_2 fe_0_13_2 fe_0_14_2 fe_0_15_2 hE_0_1_1 hE_0_1_2 hE_0_2_1 hE_0_2_2 hE_0_3_1 hE_0_3_2 hE_0_4_1 hE_0_4_2 kz_0_8 kz_0_10 kz_0_11 kz_0_12 kz_0_13 kz_0_14 kz_0_15 ex2
  exact ⟨(fun _ h => (by cases h)), [Value.int x], ag_one hx, List.forall_mem_cons.mpr ⟨⟨show (20 : Nat) < 100 from by decide, nf0⟩, List.forall_mem_cons.mpr ⟨⟨show (20 : Nat) < 100 from by decide, nf1⟩, List.forall_mem_cons.mpr ⟨⟨show (20 : Nat) < 100 from by decide, nf2⟩, List.forall_mem_cons.mpr ⟨⟨show (20 : Nat) < 100 from by decide, nf3⟩, List.forall_mem_cons.mpr ⟨⟨show (20 : Nat) < 100 from by decide, nf4⟩, List.forall_mem_cons.mpr ⟨⟨show (20 : Nat) < 100 from by decide, nf5⟩, List.forall_mem_cons.mpr ⟨⟨show (20 : Nat) < 100 from by decide, nf6⟩, List.forall_mem_cons.mpr ⟨⟨show (23 : Nat) < 100 from by decide, nf7⟩, List.forall_mem_cons.mpr ⟨⟨show (23 : Nat) < 100 from by decide, nf8⟩, List.forall_mem_cons.mpr ⟨⟨show (20 : Nat) < 100 from by decide, nf9⟩, (fun _ h => (by cases h))⟩⟩⟩⟩⟩⟩⟩⟩⟩⟩, (fun _ h => (by cases h))⟩
set_option maxHeartbeats 4000000 in
theorem vc_Mo_met_at_g1_16_0 (r_0 : Int) (from_0 : Int) (pos_0 : Int) (f12 : 1 * from_0 + ((-1) * pos_0 + 0) ≤ 0) (kz_0_11 : 0 ≤ pos_0 ∧ pos_0 ≤ 2000) (kz_0_15 : 0 ≤ from_0 ∧ from_0 ≤ 2000) : 1 * from_0 + ((-1) * pos_0 + 0) ≤ 0 := by
  first
    | omega
    | (have q1 := (hE_0_2_1 (r_0 + 2) (by omega)).2 (by omega)
       have q2 := (hE_0_2_2 (r_0 + 2) (by omega)).2 (by omega)
       omega)
    | (have q1 := (hE_0_2_1 (r_0 + 1) (by omega)).2 (by omega)
       have q2 := (hE_0_2_2 (r_0 + 1) (by omega)).2 (by omega)
       omega)
    | (have q1 := (hE_0_2_1 (r_0 + 2) (by omega)).2 (by omega)
       omega)
    | (have q1 := (hE_0_2_1 (r_0 + 1) (by omega)).2 (by omega)
       omega)
    | (have q1 := (hE_0_2_1 (r_0 + 2) (by omega)).2 (by omega)
       have q2 := (hE_0_2_2 (r_0 + 2) (by omega)).2 (by omega)
       have q3 := (hE_0_2_3 (r_0 + 2) (by omega)).1 (by omega)
       omega)
    | (have q1 := (hE_0_2_1 (r_0 + 2) (by omega)).2 (by omega)
       have q2 := (hE_0_2_2 (r_0 + 2) (by omega)).2 (by omega)
       have q3 := (hE_0_2_3 (r_0 + 2) (by omega)).2 (by omega)
       omega)
set_option maxHeartbeats 4000000 in
theorem vc_Mo_met_at_g1_16_1 (r_0 : Int) (from_0 : Int) (pos_0 : Int) (kind_0 : Int) (f13 : ((kind_0 = 1) → (pos_0 ≤ (from_0 + 8))) ∧ ((kind_0 = 0) ∨ ((from_0 + 1) ≤ pos_0))) (kz_0_11 : 0 ≤ pos_0 ∧ pos_0 ≤ 2000) (kz_0_12 : 0 ≤ kind_0 ∧ kind_0 ≤ 4) (kz_0_15 : 0 ≤ from_0 ∧ from_0 ≤ 2000) : ((kind_0 = 1) → (pos_0 ≤ (from_0 + 8))) ∧ ((kind_0 = 0) ∨ ((from_0 + 1) ≤ pos_0)) := by
  first
    | omega
    | (have q1 := (hE_0_2_1 (r_0 + 2) (by omega)).2 (by omega)
       have q2 := (hE_0_2_2 (r_0 + 2) (by omega)).2 (by omega)
       omega)
    | (have q1 := (hE_0_2_1 (r_0 + 1) (by omega)).2 (by omega)
       have q2 := (hE_0_2_2 (r_0 + 1) (by omega)).2 (by omega)
       omega)
    | (have q1 := (hE_0_2_1 (r_0 + 2) (by omega)).2 (by omega)
       omega)
    | (have q1 := (hE_0_2_1 (r_0 + 1) (by omega)).2 (by omega)
       omega)
    | (have q1 := (hE_0_2_1 (r_0 + 2) (by omega)).2 (by omega)
       have q2 := (hE_0_2_2 (r_0 + 2) (by omega)).2 (by omega)
       have q3 := (hE_0_2_3 (r_0 + 2) (by omega)).1 (by omega)
       omega)
    | (have q1 := (hE_0_2_1 (r_0 + 2) (by omega)).2 (by omega)
       have q2 := (hE_0_2_2 (r_0 + 2) (by omega)).2 (by omega)
       have q3 := (hE_0_2_3 (r_0 + 2) (by omega)).2 (by omega)
       omega)
set_option maxHeartbeats 4000000 in
theorem vc_Mo_met_at_g1_16_2 (x3 : Int) (x24 : Int) (r_0 : Int) (from_0 : Int) (pos_0 : Int) (k3 : 0 ≤ x3 ∧ x3 ≤ 2000) (k24 : 0 ≤ x24 ∧ x24 ≤ 2000) (f6 : 1 * x3 + ((-1) * x24 + 0) ≤ 0) (f12 : 1 * from_0 + ((-1) * pos_0 + 0) ≤ 0) (f14 : 1 * x24 + ((-1) * from_0 + 0) ≤ 0) (kz_0_11 : 0 ≤ pos_0 ∧ pos_0 ≤ 2000) (kz_0_15 : 0 ≤ from_0 ∧ from_0 ≤ 2000) : 1 * x3 + ((-1) * pos_0 + 0) ≤ 0 := by
  first
    | omega
    | (have q1 := (hE_0_2_1 (r_0 + 2) (by omega)).2 (by omega)
       have q2 := (hE_0_2_2 (r_0 + 2) (by omega)).2 (by omega)
       omega)
    | (have q1 := (hE_0_2_1 (r_0 + 1) (by omega)).2 (by omega)
       have q2 := (hE_0_2_2 (r_0 + 1) (by omega)).2 (by omega)
       omega)
    | (have q1 := (hE_0_2_1 (r_0 + 2) (by omega)).2 (by omega)
       omega)
    | (have q1 := (hE_0_2_1 (r_0 + 1) (by omega)).2 (by omega)
       omega)
    | (have q1 := (hE_0_2_1 (r_0 + 2) (by omega)).2 (by omega)
       have q2 := (hE_0_2_2 (r_0 + 2) (by omega)).2 (by omega)
       have q3 := (hE_0_2_3 (r_0 + 2) (by omega)).1 (by omega)
       omega)
    | (have q1 := (hE_0_2_1 (r_0 + 2) (by omega)).2 (by omega)
       have q2 := (hE_0_2_2 (r_0 + 2) (by omega)).2 (by omega)
       have q3 := (hE_0_2_3 (r_0 + 2) (by omega)).2 (by omega)
       omega)
set_option maxHeartbeats 4000000 in
theorem vc_Mo_met_at_g1_16_3 (x3 : Int) (x24 : Int) (r_0 : Int) (fault_0 : Int) (from_0 : Int) (pos_0 : Int) (kind_0 : Int) (k3 : 0 ≤ x3 ∧ x3 ≤ 2000) (k24 : 0 ≤ x24 ∧ x24 ≤ 2000) (f6 : 1 * x3 + ((-1) * x24 + 0) ≤ 0) (f13 : ((kind_0 = 1) → (pos_0 ≤ (from_0 + 8))) ∧ ((kind_0 = 0) ∨ ((from_0 + 1) ≤ pos_0))) (f14 : 1 * x24 + ((-1) * from_0 + 0) ≤ 0) (kz_0_8 : 0 ≤ fault_0 ∧ fault_0 ≤ 5) (kz_0_11 : 0 ≤ pos_0 ∧ pos_0 ≤ 2000) (kz_0_12 : 0 ≤ kind_0 ∧ kind_0 ≤ 4) (kz_0_15 : 0 ≤ from_0 ∧ from_0 ≤ 2000) : (1 ≤ fault_0) ∨ ((kind_0 = 0) ∨ ((x3 + 1) ≤ pos_0)) := by
  first
    | omega
    | (have q1 := (hE_0_2_1 (r_0 + 2) (by omega)).2 (by omega)
       have q2 := (hE_0_2_2 (r_0 + 2) (by omega)).2 (by omega)
       omega)
    | (have q1 := (hE_0_2_1 (r_0 + 1) (by omega)).2 (by omega)
       have q2 := (hE_0_2_2 (r_0 + 1) (by omega)).2 (by omega)
       omega)
    | (have q1 := (hE_0_2_1 (r_0 + 2) (by omega)).2 (by omega)
       omega)
    | (have q1 := (hE_0_2_1 (r_0 + 1) (by omega)).2 (by omega)
       omega)
    | (have q1 := (hE_0_2_1 (r_0 + 2) (by omega)).2 (by omega)
       have q2 := (hE_0_2_2 (r_0 + 2) (by omega)).2 (by omega)
       have q3 := (hE_0_2_3 (r_0 + 2) (by omega)).1 (by omega)
       omega)
    | (have q1 := (hE_0_2_1 (r_0 + 2) (by omega)).2 (by omega)
       have q2 := (hE_0_2_2 (r_0 + 2) (by omega)).2 (by omega)
       have q3 := (hE_0_2_3 (r_0 + 2) (by omega)).2 (by omega)
       omega)
set_option maxHeartbeats 4000000 in
theorem vc_Mo_met_at_g1_16_4 (x4 : Int) (x24 : Int) (r_0 : Int) (fault_0 : Int) (from_0 : Int) (pos_0 : Int) (k4 : 0 ≤ x4 ∧ x4 ≤ 2000) (k24 : 0 ≤ x24 ∧ x24 ≤ 2000) (f7 : 1 * x4 + ((-1) * x24 + 0) ≤ (-1)) (f12 : 1 * from_0 + ((-1) * pos_0 + 0) ≤ 0) (f14 : 1 * x24 + ((-1) * from_0 + 0) ≤ 0) (kz_0_8 : 0 ≤ fault_0 ∧ fault_0 ≤ 5) (kz_0_11 : 0 ≤ pos_0 ∧ pos_0 ≤ 2000) (kz_0_15 : 0 ≤ from_0 ∧ from_0 ≤ 2000) : (1 ≤ fault_0) ∨ ((x4 + 1) ≤ pos_0) := by
  first
    | omega
    | (have q1 := (hE_0_2_1 (r_0 + 2) (by omega)).2 (by omega)
       have q2 := (hE_0_2_2 (r_0 + 2) (by omega)).2 (by omega)
       omega)
    | (have q1 := (hE_0_2_1 (r_0 + 1) (by omega)).2 (by omega)
       have q2 := (hE_0_2_2 (r_0 + 1) (by omega)).2 (by omega)
       omega)
    | (have q1 := (hE_0_2_1 (r_0 + 2) (by omega)).2 (by omega)
       omega)
    | (have q1 := (hE_0_2_1 (r_0 + 1) (by omega)).2 (by omega)
       omega)
    | (have q1 := (hE_0_2_1 (r_0 + 2) (by omega)).2 (by omega)
       have q2 := (hE_0_2_2 (r_0 + 2) (by omega)).2 (by omega)
       have q3 := (hE_0_2_3 (r_0 + 2) (by omega)).1 (by omega)
       omega)
    | (have q1 := (hE_0_2_1 (r_0 + 2) (by omega)).2 (by omega)
       have q2 := (hE_0_2_2 (r_0 + 2) (by omega)).2 (by omega)
       have q3 := (hE_0_2_3 (r_0 + 2) (by omega)).2 (by omega)
       omega)
set_option maxHeartbeats 4000000 in
theorem vc_Mo_met_at_g1_16_5 (x9 : Int) (x16 : Int) (x22 : Int) (x23 : Int) (r_0 : Int) (fault_0 : Int) (k9 : 0 ≤ x9 ∧ x9 ≤ 23) (k16 : 0 ≤ x16 ∧ x16 ≤ 66297) (k22 : 243 ≤ x22 ∧ x22 ≤ 66540) (k23 : 243 ≤ x23 ∧ x23 ≤ 66563) (d3 : x16 + 243 ≤ x22 ∧ x22 ≤ x16 + 243) (g0 : x16 = r_0) (f20 : x23 = x22 + x9) (kz_0_8 : 0 ≤ fault_0 ∧ fault_0 ≤ 5) : ((-1) * fault_0 + 0 ≤ (-1)) ∨ ((-1) * x9 + 0 ≤ 0) := by
  first
    | omega
    | (have q1 := (hE_0_2_1 (r_0 + 2) (by omega)).2 (by omega)
       have q2 := (hE_0_2_2 (r_0 + 2) (by omega)).2 (by omega)
       omega)
    | (have q1 := (hE_0_2_1 (r_0 + 1) (by omega)).2 (by omega)
       have q2 := (hE_0_2_2 (r_0 + 1) (by omega)).2 (by omega)
       omega)
    | (have q1 := (hE_0_2_1 (r_0 + 2) (by omega)).2 (by omega)
       omega)
    | (have q1 := (hE_0_2_1 (r_0 + 1) (by omega)).2 (by omega)
       omega)
    | (have q1 := (hE_0_2_1 (r_0 + 2) (by omega)).2 (by omega)
       have q2 := (hE_0_2_2 (r_0 + 2) (by omega)).2 (by omega)
       have q3 := (hE_0_2_3 (r_0 + 2) (by omega)).1 (by omega)
       omega)
    | (have q1 := (hE_0_2_1 (r_0 + 2) (by omega)).2 (by omega)
       have q2 := (hE_0_2_2 (r_0 + 2) (by omega)).2 (by omega)
       have q3 := (hE_0_2_3 (r_0 + 2) (by omega)).2 (by omega)
       omega)
set_option maxHeartbeats 4000000 in
theorem vc_Mo_met_at_g1_16_6 (x2 : Int) (r_0 : Int) (all_0 : Int → Int) (fault_0 : Int) (k2 : (-1) ≤ x2 ∧ x2 ≤ (-1)) (kz_0_8 : 0 ≤ fault_0 ∧ fault_0 ≤ 5) : (1 ≤ fault_0) ∨ ((x2 ≤ (-1)) ∨ (all_0 ((r_0 + 1)) ≤ 47)) := by
  first
    | omega
    | (have q1 := (hE_0_2_1 (r_0 + 2) (by omega)).2 (by omega)
       have q2 := (hE_0_2_2 (r_0 + 2) (by omega)).2 (by omega)
       omega)
    | (have q1 := (hE_0_2_1 (r_0 + 1) (by omega)).2 (by omega)
       have q2 := (hE_0_2_2 (r_0 + 1) (by omega)).2 (by omega)
       omega)
    | (have q1 := (hE_0_2_1 (r_0 + 2) (by omega)).2 (by omega)
       omega)
    | (have q1 := (hE_0_2_1 (r_0 + 1) (by omega)).2 (by omega)
       omega)
    | (have q1 := (hE_0_2_1 (r_0 + 2) (by omega)).2 (by omega)
       have q2 := (hE_0_2_2 (r_0 + 2) (by omega)).2 (by omega)
       have q3 := (hE_0_2_3 (r_0 + 2) (by omega)).1 (by omega)
       omega)
    | (have q1 := (hE_0_2_1 (r_0 + 2) (by omega)).2 (by omega)
       have q2 := (hE_0_2_2 (r_0 + 2) (by omega)).2 (by omega)
       have q3 := (hE_0_2_3 (r_0 + 2) (by omega)).2 (by omega)
       omega)
set_option maxHeartbeats 4000000 in
theorem vc_Mo_met_at_g1_16_7 (x1 : Int) (r_0 : Int) (all_0 : Int → Int) (k1 : 0 ≤ x1 ∧ x1 ≤ 7) (f3 : (x1 + 1) ≤ all_0 ((r_0 + 2))) : (x1 + 1) ≤ all_0 ((r_0 + 2)) := by
  first
    | omega
    | (have q1 := (hE_0_2_1 (r_0 + 2) (by omega)).2 (by omega)
       have q2 := (hE_0_2_2 (r_0 + 2) (by omega)).2 (by omega)
       omega)
    | (have q1 := (hE_0_2_1 (r_0 + 1) (by omega)).2 (by omega)
       have q2 := (hE_0_2_2 (r_0 + 1) (by omega)).2 (by omega)
       omega)
    | (have q1 := (hE_0_2_1 (r_0 + 2) (by omega)).2 (by omega)
       omega)
    | (have q1 := (hE_0_2_1 (r_0 + 1) (by omega)).2 (by omega)
       omega)
    | (have q1 := (hE_0_2_1 (r_0 + 2) (by omega)).2 (by omega)
       have q2 := (hE_0_2_2 (r_0 + 2) (by omega)).2 (by omega)
       have q3 := (hE_0_2_3 (r_0 + 2) (by omega)).1 (by omega)
       omega)
    | (have q1 := (hE_0_2_1 (r_0 + 2) (by omega)).2 (by omega)
       have q2 := (hE_0_2_2 (r_0 + 2) (by omega)).2 (by omega)
       have q3 := (hE_0_2_3 (r_0 + 2) (by omega)).2 (by omega)
       omega)
set_option maxHeartbeats 4000000 in
theorem vc_Mo_met_at_g1_16_8 (r_0 : Int) (all_0 : Int → Int) (now_0 : Int → Int) (latest_0 : Int → Int) (f4 : RWS (r_0) (all_0) (now_0) (latest_0)) : RWS (r_0) (all_0) (now_0) (latest_0) := by
  assumption
set_option maxHeartbeats 4000000 in
theorem vc_Mo_met_at_g1_16_9 (x2 : Int) (x9 : Int) (r_0 : Int) (all_0 : Int → Int) (fault_0 : Int) (k2 : (-1) ≤ x2 ∧ x2 ≤ (-1)) (k9 : 0 ≤ x9 ∧ x9 ≤ 23) (f5 : MEN (r_0) (all_0) (x2) (x9)) (kz_0_8 : 0 ≤ fault_0 ∧ fault_0 ≤ 5) : MET (r_0) (fault_0) (all_0) (x2) (x9) := by
  first
    | (intro q; exfalso; omega)
    | exact fun _ => ‹MEN _ _ _ _›
set_option maxHeartbeats 4000000 in
theorem vc_Mo_met_at_g1_16_10 (x1 : Int) (x5 : Int) (x9 : Int) (x16 : Int) (x24 : Int) (r_0 : Int) (all_0 : Int → Int) (tape_0 : Int → Int) (limit_0 : Int) (fault_0 : Int) (from_0 : Int) (pos_0 : Int) (kind_0 : Int) (place_0 : Int) (value_0 : Int) (faultPlace_0 : Int) (k1 : 0 ≤ x1 ∧ x1 ≤ 7) (k5 : 0 ≤ x5 ∧ x5 ≤ 4) (k9 : 0 ≤ x9 ∧ x9 ≤ 23) (k16 : 0 ≤ x16 ∧ x16 ≤ 66297) (k24 : 0 ≤ x24 ∧ x24 ≤ 2000) (g0 : x16 = r_0) (f8 : zTS2 (limit_0) (fault_0) (r_0) (tape_0) (all_0) (x9) (x1) (x5) (x24)) (f15 : TKR (limit_0) (pos_0) (kind_0) (place_0) (value_0) (from_0) (tape_0) (x24)) (kz_0_8 : 0 ≤ fault_0 ∧ fault_0 ≤ 5) (kz_0_9 : 0 ≤ faultPlace_0 ∧ faultPlace_0 ≤ 2000) (kz_0_10 : 0 ≤ limit_0 ∧ limit_0 ≤ 2000) (kz_0_11 : 0 ≤ pos_0 ∧ pos_0 ≤ 2000) (kz_0_12 : 0 ≤ kind_0 ∧ kind_0 ≤ 4) (kz_0_13 : 0 ≤ place_0 ∧ place_0 ≤ 2000) (kz_0_14 : (-49) ≤ value_0 ∧ value_0 ≤ 1048575) (kz_0_15 : 0 ≤ from_0 ∧ from_0 ≤ 2000) : zOS2 (limit_0) (pos_0) (kind_0) (place_0) (value_0) (from_0) (fault_0) (faultPlace_0) (r_0) (tape_0) (all_0) (x9) (x1) (x5) := by
  first | subst g0 | skip
  first
    | (exfalso; have h := (rsq_0 ‹zRS1 _ _ _ _ _ _ _ _ _ _ _ _›).1; omega)
    | (refine Or.inl (fs_w ?_ ?_ (by assumption)) <;> assumption)
    | exact Or.inr (rsq_of ‹zTS2 _ _ _ _ _ _ _ _ _› ‹TKR _ _ _ _ _ _ _ _›)
    | (exfalso; omega)
def o_Mo_met_at_g1_16 : or_T := (258, 25, [(0, (2, 0, 0, [165])), (1, (0, 0, 7, [])), (2, (0, -1, -1, [])), (3, (0, 0, 2000, [])), (4, (0, 0, 2000, [])), (5, (0, 0, 4, [])), (9, (0, 0, 23, [])), (16, (0, 0, 66297, [])), (22, (0, 243, 66540, [])), (23, (0, 243, 66563, [])), (24, (0, 0, 2000, []))], [(9, [16, 6], [5]), (20, [7, 6], [50, 1, 1, 1005, 1002, 0, 6, 4, 2, 1, 0, 0, 1, 3, 1, 2, 4, 3, 2, 1, 5, 0, 2]), (20, [6], [60, 1, 3, 199, 5, 2, 3, 4]), (20, [6, 8, 9], [60, 1, 1, 243, 5, 2]), (23, [3, 24], [0, 1, -1]), (23, [4, 24], [-1, 1, -1]), (20, [6, 9, 7, 5, 24], [60, 3, 2, 972, 10, 8, 5, 1, 2]), (24, [0, 6], []), (24, [1, 7], []), (24, [2, 8], []), (20, [6, 6], [30, 0, 1, 1, 15, -1, 1, 11]), (20, [6], [50, 3, 0, 12, 11, 15, 2, 21, 4, 7, 1, 3, 2, 0, 12, 0, 1, 0, 3, 2, 0, 11, 4, 3, 2, 0, 15, 0, 8, 3, 7, 1, 3, 2, 0, 12, 0, 0, 0, 7, 4, 3, 2, 0, 15, 0, 1, 2, 0, 11]), (20, [24, 6], [30, 0, 1, 0, 0, -1, 1, 15]), (20, [6, 24], [60, 6, 1, 948, 10, 11, 12, 13, 14, 15, 1]), (102, [24], [0, 165011, 165012, 165013, 165014, 165015]), (100, [15, 23, 7], []), (1, [23, 22, 9], [])], [], [], [(20, [0, 0], [30, 0, 1, 1, 15, -1, 1, 11]), (20, [0], [50, 3, 0, 12, 11, 15, 2, 21, 4, 7, 1, 3, 2, 0, 12, 0, 1, 0, 3, 2, 0, 11, 4, 3, 2, 0, 15, 0, 8, 3, 7, 1, 3, 2, 0, 12, 0, 0, 0, 7, 4, 3, 2, 0, 15, 0, 1, 2, 0, 11]), (20, [3, 0], [30, 0, 1, 0, 0, -1, 1, 11]), (20, [0, 3], [50, 3, 0, 8, 12, 11, 3, 7, 0, 2, 0, 1, 2, 0, 8, 3, 7, 1, 3, 2, 0, 12, 0, 0, 0, 6, 4, 2, 1, 1, 0, 1, 2, 0, 11]), (20, [0, 4], [50, 2, 0, 8, 11, 3, 7, 0, 2, 0, 1, 2, 0, 8, 0, 6, 4, 2, 1, 1, 0, 1, 2, 0, 11]), (20, [0, 9], [31, 1, -1, -1, 1, 8, 0, -1, 0, 0]), (20, [0, 2], [50, 2, 1, 8, 5, 2, 3, 7, 0, 2, 0, 1, 2, 0, 8, 3, 6, 0, 2, 1, 1, 0, -1, 0, 10, 3, 0, 2, 4, 3, 2, 0, 5, 0, 1, 0, 47]), (20, [1, 0], [50, 1, 1, 1005, 1002, 0, 6, 4, 2, 1, 0, 0, 1, 3, 1, 2, 4, 3, 2, 1, 5, 0, 2]), (20, [0], [60, 1, 3, 199, 5, 2, 3, 4]), (20, [0, 2, 9], [60, 2, 1, 240, 5, 8, 2]), (20, [0, 9, 1, 5], [60, 9, 2, 1009, 10, 11, 12, 13, 14, 15, 8, 9, 5, 1, 2])], [], [(22, 16, 243, 243)])
theorem oo_Mo_met_at_g1_16 {kA : Nat → ClassId} : or_ok PRD kA GG o_Mo_met_at_g1_16 := by
  refine or_mk fun A ta ws vs hD hth hl => ?_
  intro t0 r0 t1 k1 t2 k2 t3 k3 t4 k4 t5 k5 t9 k9 t16 k16 t22 k22 t23 k23 t24 k24 d3 f0 f3 f4 f5 f6 f7 f8 f9 f10 f11 f12 f13 f14 f15 ta1 w1 le1 s1 ta2 w2 le2 s2 f20
  replace f0 := shm_110 f0
  replace f3 := shm_1009 f3
  replace f4 := shm_980 f4
  replace f5 := shm_2115 f5
  replace f8 := shm_2125 f8
  replace f9 := shm_5 f9
  replace f10 := shm_5 f10
  replace f11 := shm_5 f11
  replace f12 := shm_1437 f12
  replace f13 := shm_1438 f13
  replace f14 := shm_1436 f14
  replace f15 := shm_1439 f15
  have q6 : n_v vs 6 = n_v vs 0 := f9.symm
  have q7 : n_v vs 7 = n_v vs 1 := f10.symm
  have q8 : n_v vs 8 = n_v vs 2 := f11.symm
  simp only [q6, q8, q7] at f0 f3 f4 f5 f8 f12 f13 f14 f15
  have g0 : v_iv (n_v vs 16) = w_fi ws (n_v vs 0) 5 := congrArg v_iv f0
  have kz_0_8 := fdq_34 hD hth r0
  have kz_0_9 := fdq_44 hD hth r0
  have kz_0_10 := fdq_43 hD hth r0
  have kz_0_11 := fdq_237 hD hth r0
  have kz_0_12 := fdq_187 hD hth r0
  have kz_0_13 := fdq_238 hD hth r0
  have kz_0_14 := fdq_188 hD hth r0
  have kz_0_15 := fdq_239 hD hth r0
  have nf0 : fc_1 PRD (20, [0, 0], [30, 0, 1, 1, 15, -1, 1, 11]) ws (vs) := ⟨nf_in hl rfl, sgq_1437 (vc_Mo_met_at_g1_16_0 (w_fi ws (n_v vs 0) 5) (w_fi ws (n_v vs 0) 15) (w_fi ws (n_v vs 0) 11) f12 kz_0_11 kz_0_15)⟩
  have nf1 : fc_1 PRD (20, [0], [50, 3, 0, 12, 11, 15, 2, 21, 4, 7, 1, 3, 2, 0, 12, 0, 1, 0, 3, 2, 0, 11, 4, 3, 2, 0, 15, 0, 8, 3, 7, 1, 3, 2, 0, 12, 0, 0, 0, 7, 4, 3, 2, 0, 15, 0, 1, 2, 0, 11]) ws (vs) := ⟨nf_in hl rfl, sgq_1438 (vc_Mo_met_at_g1_16_1 (w_fi ws (n_v vs 0) 5) (w_fi ws (n_v vs 0) 15) (w_fi ws (n_v vs 0) 11) (w_fi ws (n_v vs 0) 12) f13 kz_0_11 kz_0_12 kz_0_15)⟩
  have nf2 : fc_1 PRD (20, [3, 0], [30, 0, 1, 0, 0, -1, 1, 11]) ws (vs) := ⟨nf_in hl rfl, sgq_1431 (vc_Mo_met_at_g1_16_2 (v_iv (n_v vs 3)) (v_iv (n_v vs 24)) (w_fi ws (n_v vs 0) 5) (w_fi ws (n_v vs 0) 15) (w_fi ws (n_v vs 0) 11) k3 k24 (shm_7 f6) f12 f14 kz_0_11 kz_0_15)⟩
  have nf3 : fc_1 PRD (20, [0, 3], [50, 3, 0, 8, 12, 11, 3, 7, 0, 2, 0, 1, 2, 0, 8, 3, 7, 1, 3, 2, 0, 12, 0, 0, 0, 6, 4, 2, 1, 1, 0, 1, 2, 0, 11]) ws (vs) := ⟨nf_in hl rfl, sgq_1722 (vc_Mo_met_at_g1_16_3 (v_iv (n_v vs 3)) (v_iv (n_v vs 24)) (w_fi ws (n_v vs 0) 5) (w_fi ws (n_v vs 0) 8) (w_fi ws (n_v vs 0) 15) (w_fi ws (n_v vs 0) 11) (w_fi ws (n_v vs 0) 12) k3 k24 (shm_7 f6) f13 f14 kz_0_8 kz_0_11 kz_0_12 kz_0_15)⟩
  have nf4 : fc_1 PRD (20, [0, 4], [50, 2, 0, 8, 11, 3, 7, 0, 2, 0, 1, 2, 0, 8, 0, 6, 4, 2, 1, 1, 0, 1, 2, 0, 11]) ws (vs) := ⟨nf_in hl rfl, sgq_1726 (vc_Mo_met_at_g1_16_4 (v_iv (n_v vs 4)) (v_iv (n_v vs 24)) (w_fi ws (n_v vs 0) 5) (w_fi ws (n_v vs 0) 8) (w_fi ws (n_v vs 0) 15) (w_fi ws (n_v vs 0) 11) k4 k24 (shm_193 f7) f12 f14 kz_0_8 kz_0_11 kz_0_15)⟩
  have nf5 : fc_1 PRD (20, [0, 9], [31, 1, -1, -1, 1, 8, 0, -1, 0, 0]) ws (vs) := ⟨nf_in hl rfl, sgq_2117 (vc_Mo_met_at_g1_16_5 (v_iv (n_v vs 9)) (v_iv (n_v vs 16)) (v_iv (n_v vs 22)) (v_iv (n_v vs 23)) (w_fi ws (n_v vs 0) 5) (w_fi ws (n_v vs 0) 8) k9 k16 k22 k23 d3 g0 (shm_12 f20) kz_0_8)⟩
  have nf6 : fc_1 PRD (20, [0, 2], [50, 2, 1, 8, 5, 2, 3, 7, 0, 2, 0, 1, 2, 0, 8, 3, 6, 0, 2, 1, 1, 0, -1, 0, 10, 3, 0, 2, 4, 3, 2, 0, 5, 0, 1, 0, 47]) ws (vs) := ⟨nf_in hl rfl, sgq_2118 (vc_Mo_met_at_g1_16_6 (v_iv (n_v vs 2)) (w_fi ws (n_v vs 0) 5) (w_ei ws (w_ar ws (n_v vs 0) 2)) (w_fi ws (n_v vs 0) 8) k2 kz_0_8)⟩
  have nf7 : fc_1 PRD (20, [1, 0], [50, 1, 1, 1005, 1002, 0, 6, 4, 2, 1, 0, 0, 1, 3, 1, 2, 4, 3, 2, 1, 5, 0, 2]) ws (vs) := ⟨nf_in hl rfl, sgq_1009 (vc_Mo_met_at_g1_16_7 (v_iv (n_v vs 1)) (w_fi ws (n_v vs 0) 5) (w_ei ws (w_ar ws (n_v vs 0) 2)) k1 f3)⟩
  have nf8 : fc_1 PRD (20, [0], [60, 1, 3, 199, 5, 2, 3, 4]) ws (vs) := ⟨nf_in hl rfl, sgq_980 (vc_Mo_met_at_g1_16_8 (w_fi ws (n_v vs 0) 5) (w_ei ws (w_ar ws (n_v vs 0) 2)) (w_ei ws (w_ar ws (n_v vs 0) 3)) (w_ei ws (w_ar ws (n_v vs 0) 4)) f4)⟩
  have nf9 : fc_1 PRD (20, [0, 2, 9], [60, 2, 1, 240, 5, 8, 2]) ws (vs) := ⟨nf_in hl rfl, sgq_2119 (vc_Mo_met_at_g1_16_9 (v_iv (n_v vs 2)) (v_iv (n_v vs 9)) (w_fi ws (n_v vs 0) 5) (w_ei ws (w_ar ws (n_v vs 0) 2)) (w_fi ws (n_v vs 0) 8) k2 k9 f5 kz_0_8)⟩
  have nf10 : fc_1 PRD (20, [0, 9, 1, 5], [60, 9, 2, 1009, 10, 11, 12, 13, 14, 15, 8, 9, 5, 1, 2]) ws (vs) := ⟨nf_in hl rfl, sgq_2124 (vc_Mo_met_at_g1_16_10 (v_iv (n_v vs 1)) (v_iv (n_v vs 5)) (v_iv (n_v vs 9)) (v_iv (n_v vs 16)) (v_iv (n_v vs 24)) (w_fi ws (n_v vs 0) 5) (w_ei ws (w_ar ws (n_v vs 0) 2)) (w_ei ws (w_ar ws (n_v vs 0) 1)) (w_fi ws (n_v vs 0) 10) (w_fi ws (n_v vs 0) 8) (w_fi ws (n_v vs 0) 15) (w_fi ws (n_v vs 0) 11) (w_fi ws (n_v vs 0) 12) (w_fi ws (n_v vs 0) 13) (w_fi ws (n_v vs 0) 14) (w_fi ws (n_v vs 0) 9) k1 k5 k9 k16 k24 g0 f8 f15 kz_0_8 kz_0_9 kz_0_10 kz_0_11 kz_0_12 kz_0_13 kz_0_14 kz_0_15)⟩
  refine ⟨(fun _ h => (by cases h)), [], trivial, ?_, (fun _ h => (by cases h))⟩
  rw [List.append_nil]
  exact List.forall_mem_cons.mpr ⟨⟨show (20 : Nat) < 100 from by decide, nf0⟩, List.forall_mem_cons.mpr ⟨⟨show (20 : Nat) < 100 from by decide, nf1⟩, List.forall_mem_cons.mpr ⟨⟨show (20 : Nat) < 100 from by decide, nf2⟩, List.forall_mem_cons.mpr ⟨⟨show (20 : Nat) < 100 from by decide, nf3⟩, List.forall_mem_cons.mpr ⟨⟨show (20 : Nat) < 100 from by decide, nf4⟩, List.forall_mem_cons.mpr ⟨⟨show (20 : Nat) < 100 from by decide, nf5⟩, List.forall_mem_cons.mpr ⟨⟨show (20 : Nat) < 100 from by decide, nf6⟩, List.forall_mem_cons.mpr ⟨⟨show (20 : Nat) < 100 from by decide, nf7⟩, List.forall_mem_cons.mpr ⟨⟨show (20 : Nat) < 100 from by decide, nf8⟩, List.forall_mem_cons.mpr ⟨⟨show (20 : Nat) < 100 from by decide, nf9⟩, List.forall_mem_cons.mpr ⟨⟨show (20 : Nat) < 100 from by decide, nf10⟩, (fun _ h => (by cases h))⟩⟩⟩⟩⟩⟩⟩⟩⟩⟩⟩
set_option maxHeartbeats 4000000 in
theorem vc_Mo_met_at_g1_17_r0 (x2 : Int) (x11 : Int) (x12 : Int) (x13 : Int) (x14 : Int) (r_0 : Int) (from_0 : Int) (pos_0 : Int) (kind_0 : Int) (all_0 : Int → Int) (k2 : (-1) ≤ x2 ∧ x2 ≤ (-1)) (k11 : 0 ≤ x11 ∧ x11 ≤ 8) (k12 : 1 ≤ x12 ∧ x12 ≤ 2000) (k13 : 0 ≤ x13 ∧ x13 ≤ 2000) (k14 : 1 ≤ x14 ∧ x14 ≤ 2000) (d1 : x14 + (-4294967296) ≤ x11 ∧ x11 ≤ x14 + (-1)) (f4 : x14 = x12 - x13) (g5 : x13 = from_0) (g6 : x12 = pos_0) (f8 : ((kind_0 = 1) → (pos_0 ≤ (from_0 + 8))) ∧ ((kind_0 = 0) ∨ ((from_0 + 1) ≤ pos_0))) (f11 : kind_0 = 1) (f12 : (x2 ≤ (-1)) ∨ (all_0 ((r_0 + 1)) ≤ 47)) (kz_0_11 : 0 ≤ pos_0 ∧ pos_0 ≤ 2000) (kz_0_12 : 0 ≤ kind_0 ∧ kind_0 ≤ 4) (kz_0_15 : 0 ≤ from_0 ∧ from_0 ≤ 2000) : 0 ≤ x11 ∧ x11 ≤ 7 := by
  first
    | omega
    | (have q1 := (hE_0_2_1 (r_0 + 2) (by omega)).2 (by omega)
       have q2 := (hE_0_2_2 (r_0 + 2) (by omega)).2 (by omega)
       omega)
    | (have q1 := (hE_0_2_1 (r_0 + 1) (by omega)).2 (by omega)
       have q2 := (hE_0_2_2 (r_0 + 1) (by omega)).2 (by omega)
       omega)
    | (have q1 := (hE_0_2_1 (r_0 + 2) (by omega)).2 (by omega)
       omega)
    | (have q1 := (hE_0_2_1 (r_0 + 1) (by omega)).2 (by omega)
       omega)
    | (have q1 := (hE_0_2_1 (r_0 + 2) (by omega)).2 (by omega)
       have q2 := (hE_0_2_2 (r_0 + 2) (by omega)).2 (by omega)
       have q3 := (hE_0_2_3 (r_0 + 2) (by omega)).1 (by omega)
       omega)
    | (have q1 := (hE_0_2_1 (r_0 + 2) (by omega)).2 (by omega)
       have q2 := (hE_0_2_2 (r_0 + 2) (by omega)).2 (by omega)
       have q3 := (hE_0_2_3 (r_0 + 2) (by omega)).2 (by omega)
       omega)
def o_Mo_met_at_g1_17 : or_T := (202, 22, [(0, (2, 0, 0, [165])), (1, (0, 0, 7, [])), (2, (0, -1, -1, [])), (3, (0, 0, 2000, [])), (4, (0, 0, 2000, [])), (5, (0, 0, 4, [])), (6, (2, 0, 0, [165])), (7, (0, 0, 7, [])), (8, (0, -1, -1, [])), (9, (0, 0, 23, [])), (11, (0, 0, 8, [])), (12, (0, 1, 2000, [])), (13, (0, 0, 2000, [])), (14, (0, 1, 2000, [])), (15, (2, 0, 0, [167])), (16, (0, 0, 66297, [])), (17, (0, 3, 3, [])), (18, (0, 3, 66300, []))], [(1, [18, 16, 17], []), (9, [16, 6], [5]), (9, [15, 6], [2]), (7, [11, 14], [2]), (2, [14, 12, 13], []), (9, [13, 6], [15]), (9, [12, 6], [11]), (20, [6, 6], [30, 0, 1, 1, 15, -1, 1, 11]), (20, [6], [50, 3, 0, 12, 11, 15, 2, 21, 4, 7, 1, 3, 2, 0, 12, 0, 1, 0, 3, 2, 0, 11, 4, 3, 2, 0, 15, 0, 8, 3, 7, 1, 3, 2, 0, 12, 0, 0, 0, 7, 4, 3, 2, 0, 15, 0, 1, 2, 0, 11]), (20, [3, 6], [30, 0, 1, 0, 0, -1, 1, 11]), (20, [4, 6], [30, -1, 1, 0, 0, -1, 1, 11]), (20, [6], [50, 1, 0, 12, 1, 3, 2, 0, 12, 0, 1]), (20, [8, 6], [50, 1, 1, 1005, 1002, 3, 6, 0, 2, 1, 0, 0, -1, 0, 10, 3, 1, 2, 4, 3, 2, 1, 5, 0, 1, 0, 47]), (20, [7, 6], [50, 1, 1, 1005, 1002, 0, 6, 4, 2, 1, 0, 0, 1, 3, 1, 2, 4, 3, 2, 1, 5, 0, 2]), (20, [6, 9], [60, 1, 3, 200, 5, 2, 3, 4]), (20, [6, 8, 9], [60, 1, 1, 243, 5, 2]), (20, [6, 9, 11, 7, 5], [60, 8, 2, 1004, 10, 11, 12, 13, 14, 15, 8, 5, 1, 2]), (24, [0, 6], []), (24, [1, 7], []), (24, [2, 8], [])], [(11, (0, 0, 7, []))], [], [], [], [(18, 16, 3, 3), (11, 14, -4294967296, -1), (14, 12, -2000, 0), (1, 7, -4294967296, 0), (7, 1, -4294967296, 0)])
theorem oo_Mo_met_at_g1_17 {kA : Nat → ClassId} : or_ok PRD kA GG o_Mo_met_at_g1_17 := by
  refine or_mk fun A ta ws vs hD hth hl => ?_
  intro t0 r0 t1 k1 t2 k2 t3 k3 t4 k4 t5 k5 t6 r6 t7 k7 t8 k8 t9 k9 t11 k11 t12 k12 t13 k13 t14 k14 t15 r15 t16 k16 t17 k17 t18 k18 d0 d1 d2 d3 d4 f0 f1 f2 f3 f4 f5 f6 f7 f8 f9 f10 f11 f12 f13 f14 f15 f16 f17 f18 f19
  replace f5 := shm_177 f5
  replace f6 := shm_116 f6
  replace f8 := shm_1438 f8
  replace f11 := shm_1890 f11
  replace f12 := shm_2114 f12
  replace f17 := shm_5 f17
  replace f19 := shm_5 f19
  have q6 : n_v vs 6 = n_v vs 0 := f17.symm
  have q8 : n_v vs 8 = n_v vs 2 := f19.symm
  simp only [q6, q8] at f5 f6 f8 f11 f12
  have g5 : v_iv (n_v vs 13) = w_fi ws (n_v vs 0) 15 := congrArg v_iv f5
  have g6 : v_iv (n_v vs 12) = w_fi ws (n_v vs 0) 11 := congrArg v_iv f6
  have kz_0_11 := fdq_237 hD hth r0
  have kz_0_12 := fdq_187 hD hth r0
  have kz_0_15 := fdq_239 hD hth r0
  have hrf0 : 0 ≤ v_iv (n_v vs 11) ∧ v_iv (n_v vs 11) ≤ 7 := vc_Mo_met_at_g1_17_r0 (v_iv (n_v vs 2)) (v_iv (n_v vs 11)) (v_iv (n_v vs 12)) (v_iv (n_v vs 13)) (v_iv (n_v vs 14)) (w_fi ws (n_v vs 0) 5) (w_fi ws (n_v vs 0) 15) (w_fi ws (n_v vs 0) 11) (w_fi ws (n_v vs 0) 12) (w_ei ws (w_ar ws (n_v vs 0) 2)) k2 k11 k12 k13 k14 d1 (shm_14 f4) g5 g6 f8 f11 f12 kz_0_11 kz_0_12 kz_0_15
  have rf11 : tv_ok ta (0, 0, 7, []) (n_v vs 11) := tv_in t11 (by first | omega | grind) (by first | omega | grind)
  refine ⟨List.forall_mem_cons.mpr ⟨rf11, (fun _ h => (by cases h))⟩, [], trivial, ?_, (fun _ h => (by cases h))⟩
  rw [List.append_nil]
  exact (fun _ h => (by cases h))
def o_Mo_met_at_g1_18 : or_T := (214, 25, [(9, (0, 0, 23, [])), (11, (0, 0, 7, [])), (16, (5, 0, 66297, [539])), (17, (0, 3, 3, [])), (18, (0, 3, 66300, [])), (19, (0, 8, 8, [])), (20, (0, 0, 184, [])), (21, (0, 3, 66484, [])), (22, (0, 3, 66491, [])), (24, (0, -1, -1, []))], [(1, [22, 21, 11], []), (1, [21, 18, 20], []), (3, [20, 19, 9], []), (1, [18, 16, 17], [])], [], [], [(18, [22, 24], [1])], [], [(22, 11, 3, 66484), (22, 21, 0, 7), (22, 20, 3, 66307), (22, 18, 0, 191), (22, 16, 3, 194), (21, 20, 3, 66300), (21, 18, 0, 184), (21, 16, 3, 187), (18, 16, 3, 3)])
theorem oo_Mo_met_at_g1_18 {kA : Nat → ClassId} : or_ok PRD kA GG o_Mo_met_at_g1_18 := by
  refine or_mk fun A ta ws vs hD hth hl => ?_
  intro t9 k9 t11 k11 t16 t17 k17 t18 k18 t19 k19 t20 k20 t21 k21 t22 k22 t24 k24 d0 d1 d2 d3 d4 d5 d6 d7 d8 f0 f1 f2 f3
  obtain ⟨k16, q16_⟩ : (0 ≤ v_iv (n_v vs 16) ∧ v_iv (n_v vs 16) ≤ 66297) ∧ ∃ q : Int, v_iv (n_v vs 16) = 539 * q := tv_dvk t16
  obtain ⟨q16, hq16⟩ := q16_
  replace f0 := shm_12 f0
  replace f1 := shm_12 f1
  replace f2 := shm_38 f2
  rw [show v_iv (n_v vs 19) = 8 from by omega] at f2
  replace f3 := shm_12 f3
  have nf0 : fc_1 PRD (18, [22, 24], [1]) ws (vs) := by
    refine ⟨nf_in hl rfl, sgq_1302 ?_⟩
    · show pl_ok 1 (v_iv (n_v vs 22)).toNat (v_iv (n_v vs 24))
      exact pl_in pl_M1 (lo := 3) (hi := 194) (a := (-1)) (b := (-1)) (by decide +kernel) (by omega) (by omega) (by omega) (by omega)
  refine ⟨(fun _ h => (by cases h)), [], trivial, ?_, (fun _ h => (by cases h))⟩
  rw [List.append_nil]
  exact List.forall_mem_cons.mpr ⟨⟨show (18 : Nat) < 100 from by decide, nf0⟩, (fun _ h => (by cases h))⟩
set_option maxHeartbeats 4000000 in
theorem vc_Mo_met_at_g1_19_0 (x2 : Int) (x22 : Int) (x24 : Int) (r_0 : Int) (from_0 : Int) (pos_0 : Int) (tape_0 : Int → Int) (limit_0 : Int) (kind_0 : Int) (tape_1 : Int → Int) (limit_1 : Int) (from_1 : Int) (pos_1 : Int) (kind_1 : Int) (all_1 : Int → Int) (r_1 : Int) (now_1 : Int → Int) (latest_1 : Int → Int) (place_1 : Int) (value_1 : Int) (fault_1 : Int) (fault_0 : Int) (place_0 : Int) (value_0 : Int) (all_0 : Int → Int) (now_0 : Int → Int) (latest_0 : Int → Int) (k2 : (-1) ≤ x2 ∧ x2 ≤ (-1)) (k22 : 3 ≤ x22 ∧ x22 ≤ 66491) (k24 : (-1) ≤ x24 ∧ x24 ≤ (-1)) (fe_0_5_1 : r_0 = r_1) (fe_0_8_1 : fault_0 = fault_1) (fe_0_10_1 : limit_0 = limit_1) (fe_0_11_1 : pos_0 = pos_1) (fe_0_12_1 : kind_0 = kind_1) (fe_0_13_1 : place_0 = place_1) (fe_0_14_1 : value_0 = value_1) (fe_0_15_1 : from_0 = from_1) (hE_0_1_1 : ∀ j : Int, tape_0 j = tape_1 j) (hE_0_2_1 : ∀ j : Int, 0 ≤ j → (j = x22 → all_0 j = x24) ∧ (j ≠ x22 → all_0 j = all_1 j)) (hE_0_3_1 : ∀ j : Int, now_0 j = now_1 j) (hE_0_4_1 : ∀ j : Int, latest_0 j = latest_1 j) (kz_0_8 : 0 ≤ fault_0 ∧ fault_0 ≤ 5) (kz_0_10 : 0 ≤ limit_0 ∧ limit_0 ≤ 2000) (kz_0_11 : 0 ≤ pos_0 ∧ pos_0 ≤ 2000) (kz_0_12 : 0 ≤ kind_0 ∧ kind_0 ≤ 4) (kz_0_13 : 0 ≤ place_0 ∧ place_0 ≤ 2000) (kz_0_14 : (-49) ≤ value_0 ∧ value_0 ≤ 1048575) (kz_0_15 : 0 ≤ from_0 ∧ from_0 ≤ 2000) : (x2 ≤ (-1)) ∨ (all_0 ((r_0 + 1)) ≤ 47) := by
  subst fe_0_5_1
  subst fe_0_8_1
  subst fe_0_10_1
  subst fe_0_11_1
  subst fe_0_12_1
  subst fe_0_13_1
  subst fe_0_14_1
  subst fe_0_15_1
  have e_hE_0_1_1 := funext hE_0_1_1; subst e_hE_0_1_1
  have e_hE_0_3_1 := funext hE_0_3_1; subst e_hE_0_3_1
  have e_hE_0_4_1 := funext hE_0_4_1; subst e_hE_0_4_1
  first
    | omega
    | (have q1 := (hE_0_2_1 (r_0 + 2) (by omega)).2 (by omega)
       have q2 := (hE_0_2_2 (r_0 + 2) (by omega)).2 (by omega)
       omega)
    | (have q1 := (hE_0_2_1 (r_0 + 1) (by omega)).2 (by omega)
       have q2 := (hE_0_2_2 (r_0 + 1) (by omega)).2 (by omega)
       omega)
    | (have q1 := (hE_0_2_1 (r_0 + 2) (by omega)).2 (by omega)
       omega)
    | (have q1 := (hE_0_2_1 (r_0 + 1) (by omega)).2 (by omega)
       omega)
    | (have q1 := (hE_0_2_1 (r_0 + 2) (by omega)).2 (by omega)
       have q2 := (hE_0_2_2 (r_0 + 2) (by omega)).2 (by omega)
       have q3 := (hE_0_2_3 (r_0 + 2) (by omega)).1 (by omega)
       omega)
    | (have q1 := (hE_0_2_1 (r_0 + 2) (by omega)).2 (by omega)
       have q2 := (hE_0_2_2 (r_0 + 2) (by omega)).2 (by omega)
       have q3 := (hE_0_2_3 (r_0 + 2) (by omega)).2 (by omega)
       omega)
set_option maxHeartbeats 4000000 in
theorem vc_Mo_met_at_g1_19_1 (x1 : Int) (x7 : Int) (x9 : Int) (x11 : Int) (x16 : Int) (x18 : Int) (x20 : Int) (x21 : Int) (x22 : Int) (x24 : Int) (x25 : Int) (r_0 : Int) (from_0 : Int) (pos_0 : Int) (tape_0 : Int → Int) (limit_0 : Int) (kind_0 : Int) (tape_1 : Int → Int) (limit_1 : Int) (from_1 : Int) (pos_1 : Int) (kind_1 : Int) (all_1 : Int → Int) (r_1 : Int) (now_1 : Int → Int) (latest_1 : Int → Int) (place_1 : Int) (value_1 : Int) (fault_1 : Int) (fault_0 : Int) (place_0 : Int) (value_0 : Int) (all_0 : Int → Int) (now_0 : Int → Int) (latest_0 : Int → Int) (k1 : 0 ≤ x1 ∧ x1 ≤ 7) (k7 : 0 ≤ x7 ∧ x7 ≤ 7) (k9 : 0 ≤ x9 ∧ x9 ≤ 23) (k11 : 0 ≤ x11 ∧ x11 ≤ 7) (k16 : 0 ≤ x16 ∧ x16 ≤ 66297) (k18 : 3 ≤ x18 ∧ x18 ≤ 66300) (k20 : 0 ≤ x20 ∧ x20 ≤ 184) (k21 : 3 ≤ x21 ∧ x21 ≤ 66484) (k22 : 3 ≤ x22 ∧ x22 ≤ 66491) (k24 : (-1) ≤ x24 ∧ x24 ≤ (-1)) (k25 : 1 ≤ x25 ∧ x25 ≤ 8) (d0 : x11 + 1 ≤ x25 ∧ x25 ≤ x11 + 1) (d9 : x18 + 0 ≤ x22 ∧ x22 ≤ x18 + 191) (d14 : x16 + 3 ≤ x18 ∧ x18 ≤ x16 + 3) (d17 : x7 + (-4294967296) ≤ x1 ∧ x1 ≤ x7 + 0) (d18 : x1 + (-4294967296) ≤ x7 ∧ x7 ≤ x1 + 0) (g0 : x16 = r_0) (f19 : x22 = x21 + x11) (f20 : x21 = x18 + x20) (f21 : x20 = 8 * x9) (f31 : (x1 + 1) ≤ all_1 ((r_1 + 2))) (fe_0_5_1 : r_0 = r_1) (fe_0_8_1 : fault_0 = fault_1) (fe_0_10_1 : limit_0 = limit_1) (fe_0_11_1 : pos_0 = pos_1) (fe_0_12_1 : kind_0 = kind_1) (fe_0_13_1 : place_0 = place_1) (fe_0_14_1 : value_0 = value_1) (fe_0_15_1 : from_0 = from_1) (hE_0_1_1 : ∀ j : Int, tape_0 j = tape_1 j) (hE_0_2_1 : ∀ j : Int, 0 ≤ j → (j = x22 → all_0 j = x24) ∧ (j ≠ x22 → all_0 j = all_1 j)) (hE_0_3_1 : ∀ j : Int, now_0 j = now_1 j) (hE_0_4_1 : ∀ j : Int, latest_0 j = latest_1 j) (kz_0_8 : 0 ≤ fault_0 ∧ fault_0 ≤ 5) (kz_0_10 : 0 ≤ limit_0 ∧ limit_0 ≤ 2000) (kz_0_11 : 0 ≤ pos_0 ∧ pos_0 ≤ 2000) (kz_0_12 : 0 ≤ kind_0 ∧ kind_0 ≤ 4) (kz_0_13 : 0 ≤ place_0 ∧ place_0 ≤ 2000) (kz_0_14 : (-49) ≤ value_0 ∧ value_0 ≤ 1048575) (kz_0_15 : 0 ≤ from_0 ∧ from_0 ≤ 2000) : (x1 + 1) ≤ all_0 ((r_0 + 2)) := by
  subst fe_0_5_1
  subst fe_0_8_1
  subst fe_0_10_1
  subst fe_0_11_1
  subst fe_0_12_1
  subst fe_0_13_1
  subst fe_0_14_1
  subst fe_0_15_1
  have e_hE_0_1_1 := funext hE_0_1_1; subst e_hE_0_1_1
  have e_hE_0_3_1 := funext hE_0_3_1; subst e_hE_0_3_1
  have e_hE_0_4_1 := funext hE_0_4_1; subst e_hE_0_4_1
  first
    | omega
    | (have q1 := (hE_0_2_1 (r_0 + 2) (by omega)).2 (by omega)
       have q2 := (hE_0_2_2 (r_0 + 2) (by omega)).2 (by omega)
       omega)
    | (have q1 := (hE_0_2_1 (r_0 + 1) (by omega)).2 (by omega)
       have q2 := (hE_0_2_2 (r_0 + 1) (by omega)).2 (by omega)
       omega)
    | (have q1 := (hE_0_2_1 (r_0 + 2) (by omega)).2 (by omega)
       omega)
    | (have q1 := (hE_0_2_1 (r_0 + 1) (by omega)).2 (by omega)
       omega)
    | (have q1 := (hE_0_2_1 (r_0 + 2) (by omega)).2 (by omega)
       have q2 := (hE_0_2_2 (r_0 + 2) (by omega)).2 (by omega)
       have q3 := (hE_0_2_3 (r_0 + 2) (by omega)).1 (by omega)
       omega)
    | (have q1 := (hE_0_2_1 (r_0 + 2) (by omega)).2 (by omega)
       have q2 := (hE_0_2_2 (r_0 + 2) (by omega)).2 (by omega)
       have q3 := (hE_0_2_3 (r_0 + 2) (by omega)).2 (by omega)
       omega)
set_option maxHeartbeats 4000000 in
theorem vc_Mo_met_at_g1_19_2 (x2 : Int) (x9 : Int) (x11 : Int) (x16 : Int) (x18 : Int) (x20 : Int) (x21 : Int) (x22 : Int) (x24 : Int) (x25 : Int) (r_0 : Int) (from_0 : Int) (pos_0 : Int) (tape_0 : Int → Int) (limit_0 : Int) (kind_0 : Int) (tape_1 : Int → Int) (limit_1 : Int) (from_1 : Int) (pos_1 : Int) (kind_1 : Int) (all_1 : Int → Int) (r_1 : Int) (now_1 : Int → Int) (latest_1 : Int → Int) (place_1 : Int) (value_1 : Int) (fault_1 : Int) (fault_0 : Int) (place_0 : Int) (value_0 : Int) (all_0 : Int → Int) (now_0 : Int → Int) (latest_0 : Int → Int) (k2 : (-1) ≤ x2 ∧ x2 ≤ (-1)) (k9 : 0 ≤ x9 ∧ x9 ≤ 23) (k11 : 0 ≤ x11 ∧ x11 ≤ 7) (k16 : 0 ≤ x16 ∧ x16 ≤ 66297) (k18 : 3 ≤ x18 ∧ x18 ≤ 66300) (k20 : 0 ≤ x20 ∧ x20 ≤ 184) (k21 : 3 ≤ x21 ∧ x21 ≤ 66484) (k22 : 3 ≤ x22 ∧ x22 ≤ 66491) (k24 : (-1) ≤ x24 ∧ x24 ≤ (-1)) (k25 : 1 ≤ x25 ∧ x25 ≤ 8) (d0 : x11 + 1 ≤ x25 ∧ x25 ≤ x11 + 1) (d10 : x16 + 3 ≤ x22 ∧ x22 ≤ x16 + 194) (d14 : x16 + 3 ≤ x18 ∧ x18 ≤ x16 + 3) (g0 : x16 = r_0) (f19 : x22 = x21 + x11) (f20 : x21 = x18 + x20) (f21 : x20 = 8 * x9) (f32 : RWN (r_1) (all_1) (now_1) (latest_1) (x9)) (f33 : MEN (r_1) (all_1) (x2) (x9)) (fe_0_5_1 : r_0 = r_1) (fe_0_8_1 : fault_0 = fault_1) (fe_0_10_1 : limit_0 = limit_1) (fe_0_11_1 : pos_0 = pos_1) (fe_0_12_1 : kind_0 = kind_1) (fe_0_13_1 : place_0 = place_1) (fe_0_14_1 : value_0 = value_1) (fe_0_15_1 : from_0 = from_1) (hE_0_1_1 : ∀ j : Int, tape_0 j = tape_1 j) (hE_0_2_1 : ∀ j : Int, 0 ≤ j → (j = x22 → all_0 j = x24) ∧ (j ≠ x22 → all_0 j = all_1 j)) (hE_0_3_1 : ∀ j : Int, now_0 j = now_1 j) (hE_0_4_1 : ∀ j : Int, latest_0 j = latest_1 j) (kz_0_8 : 0 ≤ fault_0 ∧ fault_0 ≤ 5) (kz_0_10 : 0 ≤ limit_0 ∧ limit_0 ≤ 2000) (kz_0_11 : 0 ≤ pos_0 ∧ pos_0 ≤ 2000) (kz_0_12 : 0 ≤ kind_0 ∧ kind_0 ≤ 4) (kz_0_13 : 0 ≤ place_0 ∧ place_0 ≤ 2000) (kz_0_14 : (-49) ≤ value_0 ∧ value_0 ≤ 1048575) (kz_0_15 : 0 ≤ from_0 ∧ from_0 ≤ 2000) : RWN (r_0) (all_0) (now_0) (latest_0) (x9) := by
  subst fe_0_5_1
  subst fe_0_8_1
  subst fe_0_10_1
  subst fe_0_11_1
  subst fe_0_12_1
  subst fe_0_13_1
  subst fe_0_14_1
  subst fe_0_15_1
  have e_hE_0_1_1 := funext hE_0_1_1; subst e_hE_0_1_1
  have e_hE_0_3_1 := funext hE_0_3_1; subst e_hE_0_3_1
  have e_hE_0_4_1 := funext hE_0_4_1; subst e_hE_0_4_1
  try simp only [Int.add_zero] at *
  first
    | (have hr := rwn_r ‹RWN _ _ _ _ _›
       have hb := ‹MEN _ _ _ _›.1
       exact rwn_off ‹RWN _ _ _ _ _› (by assumption) (by omega))
set_option maxHeartbeats 4000000 in
theorem vc_Mo_met_at_g1_19_3 (x2 : Int) (x9 : Int) (x11 : Int) (x16 : Int) (x18 : Int) (x20 : Int) (x21 : Int) (x22 : Int) (x24 : Int) (x25 : Int) (r_0 : Int) (from_0 : Int) (pos_0 : Int) (tape_0 : Int → Int) (limit_0 : Int) (kind_0 : Int) (tape_1 : Int → Int) (limit_1 : Int) (from_1 : Int) (pos_1 : Int) (kind_1 : Int) (all_1 : Int → Int) (r_1 : Int) (now_1 : Int → Int) (latest_1 : Int → Int) (place_1 : Int) (value_1 : Int) (fault_1 : Int) (fault_0 : Int) (place_0 : Int) (value_0 : Int) (all_0 : Int → Int) (now_0 : Int → Int) (latest_0 : Int → Int) (k2 : (-1) ≤ x2 ∧ x2 ≤ (-1)) (k9 : 0 ≤ x9 ∧ x9 ≤ 23) (k11 : 0 ≤ x11 ∧ x11 ≤ 7) (k16 : 0 ≤ x16 ∧ x16 ≤ 66297) (k18 : 3 ≤ x18 ∧ x18 ≤ 66300) (k20 : 0 ≤ x20 ∧ x20 ≤ 184) (k21 : 3 ≤ x21 ∧ x21 ≤ 66484) (k22 : 3 ≤ x22 ∧ x22 ≤ 66491) (k24 : (-1) ≤ x24 ∧ x24 ≤ (-1)) (k25 : 1 ≤ x25 ∧ x25 ≤ 8) (d0 : x11 + 1 ≤ x25 ∧ x25 ≤ x11 + 1) (d10 : x16 + 3 ≤ x22 ∧ x22 ≤ x16 + 194) (d14 : x16 + 3 ≤ x18 ∧ x18 ≤ x16 + 3) (g0 : x16 = r_0) (f19 : x22 = x21 + x11) (f20 : x21 = x18 + x20) (f21 : x20 = 8 * x9) (f32 : RWN (r_1) (all_1) (now_1) (latest_1) (x9)) (f33 : MEN (r_1) (all_1) (x2) (x9)) (fe_0_5_1 : r_0 = r_1) (fe_0_8_1 : fault_0 = fault_1) (fe_0_10_1 : limit_0 = limit_1) (fe_0_11_1 : pos_0 = pos_1) (fe_0_12_1 : kind_0 = kind_1) (fe_0_13_1 : place_0 = place_1) (fe_0_14_1 : value_0 = value_1) (fe_0_15_1 : from_0 = from_1) (hE_0_1_1 : ∀ j : Int, tape_0 j = tape_1 j) (hE_0_2_1 : ∀ j : Int, 0 ≤ j → (j = x22 → all_0 j = x24) ∧ (j ≠ x22 → all_0 j = all_1 j)) (hE_0_3_1 : ∀ j : Int, now_0 j = now_1 j) (hE_0_4_1 : ∀ j : Int, latest_0 j = latest_1 j) (kz_0_8 : 0 ≤ fault_0 ∧ fault_0 ≤ 5) (kz_0_10 : 0 ≤ limit_0 ∧ limit_0 ≤ 2000) (kz_0_11 : 0 ≤ pos_0 ∧ pos_0 ≤ 2000) (kz_0_12 : 0 ≤ kind_0 ∧ kind_0 ≤ 4) (kz_0_13 : 0 ≤ place_0 ∧ place_0 ≤ 2000) (kz_0_14 : (-49) ≤ value_0 ∧ value_0 ≤ 1048575) (kz_0_15 : 0 ≤ from_0 ∧ from_0 ≤ 2000) : MEN (r_0) (all_0) (x2) (x9) := by
  subst fe_0_5_1
  subst fe_0_8_1
  subst fe_0_10_1
  subst fe_0_11_1
  subst fe_0_12_1
  subst fe_0_13_1
  subst fe_0_14_1
  subst fe_0_15_1
  have e_hE_0_1_1 := funext hE_0_1_1; subst e_hE_0_1_1
  have e_hE_0_3_1 := funext hE_0_3_1; subst e_hE_0_3_1
  have e_hE_0_4_1 := funext hE_0_4_1; subst e_hE_0_4_1
  try simp only [Int.add_zero] at *
  first
    | (have hr := rwn_r ‹RWN _ _ _ _ _›
       have hb := ‹MEN _ _ _ _›.1
       exact men_off (by omega) ‹MEN _ _ _ _› (by assumption) (by omega))
set_option maxHeartbeats 4000000 in
theorem vc_Mo_met_at_g1_19_4 (x1 : Int) (x5 : Int) (x9 : Int) (x11 : Int) (x12 : Int) (x13 : Int) (x14 : Int) (x16 : Int) (x18 : Int) (x20 : Int) (x21 : Int) (x22 : Int) (x23 : Int) (x24 : Int) (x25 : Int) (r_0 : Int) (from_0 : Int) (pos_0 : Int) (tape_0 : Int → Int) (limit_0 : Int) (kind_0 : Int) (tape_1 : Int → Int) (limit_1 : Int) (from_1 : Int) (pos_1 : Int) (kind_1 : Int) (all_1 : Int → Int) (r_1 : Int) (now_1 : Int → Int) (latest_1 : Int → Int) (place_1 : Int) (value_1 : Int) (fault_1 : Int) (fault_0 : Int) (place_0 : Int) (value_0 : Int) (all_0 : Int → Int) (now_0 : Int → Int) (latest_0 : Int → Int) (k1 : 0 ≤ x1 ∧ x1 ≤ 7) (k5 : 0 ≤ x5 ∧ x5 ≤ 4) (k9 : 0 ≤ x9 ∧ x9 ≤ 23) (k11 : 0 ≤ x11 ∧ x11 ≤ 7) (k12 : 1 ≤ x12 ∧ x12 ≤ 2000) (k13 : 0 ≤ x13 ∧ x13 ≤ 2000) (k14 : 1 ≤ x14 ∧ x14 ≤ 2000) (k16 : 0 ≤ x16 ∧ x16 ≤ 66297) (k18 : 3 ≤ x18 ∧ x18 ≤ 66300) (k20 : 0 ≤ x20 ∧ x20 ≤ 184) (k21 : 3 ≤ x21 ∧ x21 ≤ 66484) (k22 : 3 ≤ x22 ∧ x22 ≤ 66491) (k23 : 0 ≤ x23 ∧ x23 ≤ 2007) (k24 : (-1) ≤ x24 ∧ x24 ≤ (-1)) (k25 : 1 ≤ x25 ∧ x25 ≤ 8) (d0 : x11 + 1 ≤ x25 ∧ x25 ≤ x11 + 1) (d14 : x16 + 3 ≤ x18 ∧ x18 ≤ x16 + 3) (d15 : x14 + (-4294967296) ≤ x11 ∧ x11 ≤ x14 + (-1)) (g0 : x16 = r_0) (g2 : x13 = from_0) (g3 : x12 = pos_0) (f4 : x25 = x11 + 1) (f16 : ((x23 + 1) ≤ limit_1) → (x24 = (tape_1 (x23) % 256))) (f18 : x23 = x13 + x11) (f19 : x22 = x21 + x11) (f20 : x21 = x18 + x20) (f21 : x20 = 8 * x9) (f24 : x14 = x12 - x13) (f29 : kind_1 = 1) (f34 : zMN1 (limit_1) (pos_1) (kind_1) (place_1) (value_1) (from_1) (fault_1) (r_1) (tape_1) (all_1) (x9) (x11) (x1) (x5)) (fe_0_5_1 : r_0 = r_1) (fe_0_8_1 : fault_0 = fault_1) (fe_0_10_1 : limit_0 = limit_1) (fe_0_11_1 : pos_0 = pos_1) (fe_0_12_1 : kind_0 = kind_1) (fe_0_13_1 : place_0 = place_1) (fe_0_14_1 : value_0 = value_1) (fe_0_15_1 : from_0 = from_1) (hE_0_1_1 : ∀ j : Int, tape_0 j = tape_1 j) (hE_0_2_1 : ∀ j : Int, 0 ≤ j → (j = x22 → all_0 j = x24) ∧ (j ≠ x22 → all_0 j = all_1 j)) (hE_0_3_1 : ∀ j : Int, now_0 j = now_1 j) (hE_0_4_1 : ∀ j : Int, latest_0 j = latest_1 j) (kz_0_8 : 0 ≤ fault_0 ∧ fault_0 ≤ 5) (kz_0_10 : 0 ≤ limit_0 ∧ limit_0 ≤ 2000) (kz_0_11 : 0 ≤ pos_0 ∧ pos_0 ≤ 2000) (kz_0_12 : 0 ≤ kind_0 ∧ kind_0 ≤ 4) (kz_0_13 : 0 ≤ place_0 ∧ place_0 ≤ 2000) (kz_0_14 : (-49) ≤ value_0 ∧ value_0 ≤ 1048575) (kz_0_15 : 0 ≤ from_0 ∧ from_0 ≤ 2000) : zMN1 (limit_0) (pos_0) (kind_0) (place_0) (value_0) (from_0) (fault_0) (r_0) (tape_0) (all_0) (x9) (x25) (x1) (x5) := by
  subst fe_0_5_1
  subst fe_0_8_1
  subst fe_0_10_1
  subst fe_0_11_1
  subst fe_0_12_1
  subst fe_0_13_1
  subst fe_0_14_1
  subst fe_0_15_1
  have e_hE_0_1_1 := funext hE_0_1_1; subst e_hE_0_1_1
  have e_hE_0_3_1 := funext hE_0_3_1; subst e_hE_0_3_1
  have e_hE_0_4_1 := funext hE_0_4_1; subst e_hE_0_4_1
  first | subst g0 | skip
  first | subst g2 | skip
  first | subst g3 | skip
  try simp only [Int.add_zero] at *
  first
    | exact mn_step1 ((rsq_lim (‹zMN1 _ _ _ _ _ _ _ _ _ _ _ _ _ _›).1).2.2.2 (by omega)).2 ‹zMN1 _ _ _ _ _ _ _ _ _ _ _ _ _ _› (by omega) (by assumption) (by omega) (rsq_byte (‹zMN1 _ _ _ _ _ _ _ _ _ _ _ _ _ _›).1 (by omega) (by assumption) (by omega) (by omega) (by omega)) (by omega) (by omega)
    | exact mn_start1 ‹zRS1 _ _ _ _ _ _ _ _ _ _ _ _› (by omega) ‹NMQ _ _ _ _ _ _› (by omega) ‹KNQ _ _ _ _ _ _ _› (by omega) (by simp only [Int.add_zero]; omega) (by assumption) (by assumption) (by omega) (by omega) (by omega) (by omega) (by omega) (by omega)
    | (exfalso; omega)
def o_Mo_met_at_g1_19 : or_T := (171, 26, [(0, (2, 0, 0, [165])), (1, (0, 0, 7, [])), (2, (0, -1, -1, [])), (3, (0, 0, 2000, [])), (4, (0, 0, 2000, [])), (5, (0, 0, 4, [])), (6, (2, 0, 0, [165])), (7, (0, 0, 7, [])), (8, (0, -1, -1, [])), (9, (0, 0, 23, [])), (11, (0, 0, 7, [])), (12, (0, 1, 2000, [])), (13, (0, 0, 2000, [])), (14, (0, 1, 2000, [])), (15, (2, 0, 0, [167])), (16, (0, 0, 66297, [])), (17, (0, 3, 3, [])), (18, (0, 3, 66300, [])), (19, (0, 8, 8, [])), (20, (0, 0, 184, [])), (21, (0, 3, 66484, [])), (22, (0, 3, 66491, [])), (23, (0, 0, 2007, [])), (24, (0, -1, -1, [])), (25, (0, 1, 8, []))], [(9, [16, 6], [5]), (9, [15, 6], [2]), (9, [13, 6], [15]), (9, [12, 6], [11]), (6, [25, 11], [1]), (20, [23, 6, 24], [50, 1, 1, 1010, 1001, 4, 11, 0, 6, 4, 2, 1, 0, 0, 1, 2, 1, 10, 1, 2, 1, 2, 9, 5, 3, 1, 1, 1, 0, 0, 256]), (20, [6, 23, 24], [50, 1, 0, 10, 4, 7, 0, 3, 2, 0, 10, 1, 1, 1, 2, 1, 2, 0, -1]), (20, [6, 6], [30, 0, 1, 1, 15, -1, 1, 11]), (20, [6], [50, 3, 0, 12, 11, 15, 2, 21, 4, 7, 1, 3, 2, 0, 12, 0, 1, 0, 3, 2, 0, 11, 4, 3, 2, 0, 15, 0, 8, 3, 7, 1, 3, 2, 0, 12, 0, 0, 0, 7, 4, 3, 2, 0, 15, 0, 1, 2, 0, 11]), (20, [3, 6], [30, 0, 1, 0, 0, -1, 1, 11]), (20, [4, 6], [30, -1, 1, 0, 0, -1, 1, 11]), (20, [6], [50, 1, 0, 12, 1, 3, 2, 0, 12, 0, 1]), (24, [0, 6], []), (24, [1, 7], []), (24, [2, 8], []), (100, [15, 22, 24], []), (20, [23, 6, 24], [50, 1, 1, 1010, 1001, 4, 11, 0, 6, 4, 2, 1, 0, 0, 1, 2, 1, 10, 1, 2, 1, 2, 9, 5, 3, 1, 1, 1, 0, 0, 256]), (20, [6, 23, 24], [50, 1, 0, 10, 4, 7, 0, 3, 2, 0, 10, 1, 1, 1, 2, 1, 2, 0, -1]), (1, [23, 13, 11], []), (1, [22, 21, 11], []), (1, [21, 18, 20], []), (3, [20, 19, 9], []), (1, [18, 16, 17], []), (7, [11, 14], [2]), (2, [14, 12, 13], []), (20, [6, 6], [30, 0, 1, 1, 15, -1, 1, 11]), (20, [6], [50, 3, 0, 12, 11, 15, 2, 21, 4, 7, 1, 3, 2, 0, 12, 0, 1, 0, 3, 2, 0, 11, 4, 3, 2, 0, 15, 0, 8, 3, 7, 1, 3, 2, 0, 12, 0, 0, 0, 7, 4, 3, 2, 0, 15, 0, 1, 2, 0, 11]), (20, [3, 6], [30, 0, 1, 0, 0, -1, 1, 11]), (20, [4, 6], [30, -1, 1, 0, 0, -1, 1, 11]), (20, [6], [50, 1, 0, 12, 1, 3, 2, 0, 12, 0, 1]), (20, [8, 6], [50, 1, 1, 1005, 1002, 3, 6, 0, 2, 1, 0, 0, -1, 0, 10, 3, 1, 2, 4, 3, 2, 1, 5, 0, 1, 0, 47]), (20, [7, 6], [50, 1, 1, 1005, 1002, 0, 6, 4, 2, 1, 0, 0, 1, 3, 1, 2, 4, 3, 2, 1, 5, 0, 2]), (20, [6, 9], [60, 1, 3, 200, 5, 2, 3, 4]), (20, [6, 8, 9], [60, 1, 1, 243, 5, 2]), (20, [6, 9, 11, 7, 5], [60, 8, 2, 1004, 10, 11, 12, 13, 14, 15, 8, 5, 1, 2])], [], [], [(20, [8, 6], [50, 1, 1, 1005, 1002, 3, 6, 0, 2, 1, 0, 0, -1, 0, 10, 3, 1, 2, 4, 3, 2, 1, 5, 0, 1, 0, 47]), (20, [7, 6], [50, 1, 1, 1005, 1002, 0, 6, 4, 2, 1, 0, 0, 1, 3, 1, 2, 4, 3, 2, 1, 5, 0, 2]), (20, [6, 9], [60, 1, 3, 200, 5, 2, 3, 4]), (20, [6, 8, 9], [60, 1, 1, 243, 5, 2]), (20, [6, 9, 25, 7, 5], [60, 8, 2, 1004, 10, 11, 12, 13, 14, 15, 8, 5, 1, 2])], [], [(25, 11, 1, 1), (25, 14, -4294967296, 0), (23, 11, 0, 2000), (23, 14, -4294967296, 1999), (23, 13, 0, 7), (22, 11, 3, 66484), (22, 14, -4294967296, 66483), (22, 21, 0, 7), (22, 20, 3, 66307), (22, 18, 0, 191), (22, 16, 3, 194), (21, 20, 3, 66300), (21, 18, 0, 184), (21, 16, 3, 187), (18, 16, 3, 3), (11, 14, -4294967296, -1), (14, 12, -2000, 0), (1, 7, -4294967296, 0), (7, 1, -4294967296, 0)])
theorem oo_Mo_met_at_g1_19 {kA : Nat → ClassId} : or_ok PRD kA GG o_Mo_met_at_g1_19 := by
  refine or_mk fun A ta ws vs hD hth hl => ?_
  intro t0 r0 t1 k1 t2 k2 t3 k3 t4 k4 t5 k5 t6 r6 t7 k7 t8 k8 t9 k9 t11 k11 t12 k12 t13 k13 t14 k14 t15 r15 t16 k16 t17 k17 t18 k18 t19 k19 t20 k20 t21 k21 t22 k22 t23 k23 t24 k24 t25 k25 d0 d1 d2 d3 d4 d5 d6 d7 d8 d9 d10 d11 d12 d13 d14 d15 d16 d17 d18 f0 f1 f2 f3 f4 f5 f6 f7 f8 f9 f10 f11 f12 f13 f14 ta1 w1 le1 s1 f16 f17 f18 f19 f20 f21 f22 f23 f24 f25 f26 f27 f28 f29 f30 f31 f32 f33 f34
  replace f0 := shm_110 f0
  replace f1 := shm_120 f1
  replace f2 := shm_177 f2
  replace f3 := shm_116 f3
  replace f4 := shm_4 f4
  replace f5 := shm_541 f5
  replace f6 := shm_542 f6
  replace f7 := shm_1437 f7
  replace f8 := shm_1438 f8
  replace f9 := shm_1431 f9
  replace f10 := shm_2005 f10
  replace f11 := shm_1890 f11
  replace f12 := shm_5 f12
  replace f13 := shm_5 f13
  replace f14 := shm_5 f14
  have s1 : (∀ b j, w_el ws b j = if b = v_ad (n_v vs 15) ∧ j = (v_iv (n_v vs 22)).toNat then v_iv (n_v vs 24) else w_el w1 b j) ∧ ∀ b k, w_fd ws b k = w_fd w1 b k := s1.2
  replace f16 := shm_541 f16
  replace f17 := shm_542 f17
  replace f18 := shm_12 f18
  replace f19 := shm_12 f19
  replace f20 := shm_12 f20
  replace f21 := shm_38 f21
  rw [show v_iv (n_v vs 19) = 8 from by omega] at f21
  replace f22 := shm_12 f22
  replace f23 := shm_6 f23
  replace f24 := shm_14 f24
  replace f25 := shm_1437 f25
  replace f26 := shm_1438 f26
  replace f27 := shm_1431 f27
  replace f28 := shm_2005 f28
  replace f29 := shm_1890 f29
  replace f30 := shm_2114 f30
  replace f31 := shm_1009 f31
  replace f32 := shm_1803 f32
  replace f33 := shm_2115 f33
  replace f34 := shm_2123 f34
  have q6 : n_v vs 6 = n_v vs 0 := f12.symm
  have q7 : n_v vs 7 = n_v vs 1 := f13.symm
  have q8 : n_v vs 8 = n_v vs 2 := f14.symm
  simp only [q6, q8, q7] at f0 f1 f2 f3 f5 f6 f7 f8 f9 f10 f11 f16 f17 f25 f26 f27 f28 f29 f30 f31 f32 f33 f34
  have ar_0_1_1 : w_ar w1 (n_v vs 0) 1 = w_ar ws (n_v vs 0) 1 := congrArg v_ad (s1.2 _ _).symm
  have cr_0_1 := fdq_39 hD hth r0
  have ar_0_2_1 : w_ar w1 (n_v vs 0) 2 = w_ar ws (n_v vs 0) 2 := congrArg v_ad (s1.2 _ _).symm
  have cr_0_2 := fdq_10 hD hth r0
  have ar_0_3_1 : w_ar w1 (n_v vs 0) 3 = w_ar ws (n_v vs 0) 3 := congrArg v_ad (s1.2 _ _).symm
  have cr_0_3 := fdq_142 hD hth r0
  have ar_0_4_1 : w_ar w1 (n_v vs 0) 4 = w_ar ws (n_v vs 0) 4 := congrArg v_ad (s1.2 _ _).symm
  have cr_0_4 := fdq_143 hD hth r0
  have ad_15 : v_ad (n_v vs 15) = w_ar ws (n_v vs 0) 2 := congrArg v_ad f1
  have g0 : v_iv (n_v vs 16) = w_fi ws (n_v vs 0) 5 := congrArg v_iv f0
  have g2 : v_iv (n_v vs 13) = w_fi ws (n_v vs 0) 15 := congrArg v_iv f2
  have g3 : v_iv (n_v vs 12) = w_fi ws (n_v vs 0) 11 := congrArg v_iv f3
  simp only [ar_0_1_1, ar_0_2_1, ar_0_3_1, ar_0_4_1] at f16 f30 f31 f32 f33 f34
  have fe_0_5_1 : w_fi ws (n_v vs 0) 5 = w_fi w1 (n_v vs 0) 5 := congrArg v_iv (s1.2 _ _)
  have fe_0_8_1 : w_fi ws (n_v vs 0) 8 = w_fi w1 (n_v vs 0) 8 := congrArg v_iv (s1.2 _ _)
  have fe_0_10_1 : w_fi ws (n_v vs 0) 10 = w_fi w1 (n_v vs 0) 10 := congrArg v_iv (s1.2 _ _)
  have fe_0_11_1 : w_fi ws (n_v vs 0) 11 = w_fi w1 (n_v vs 0) 11 := congrArg v_iv (s1.2 _ _)
  have fe_0_12_1 : w_fi ws (n_v vs 0) 12 = w_fi w1 (n_v vs 0) 12 := congrArg v_iv (s1.2 _ _)
  have fe_0_13_1 : w_fi ws (n_v vs 0) 13 = w_fi w1 (n_v vs 0) 13 := congrArg v_iv (s1.2 _ _)
  have fe_0_14_1 : w_fi ws (n_v vs 0) 14 = w_fi w1 (n_v vs 0) 14 := congrArg v_iv (s1.2 _ _)
  have fe_0_15_1 : w_fi ws (n_v vs 0) 15 = w_fi w1 (n_v vs 0) 15 := congrArg v_iv (s1.2 _ _)
  have hE_0_1_1 : ∀ j : Int, w_ei ws (w_ar ws (n_v vs 0) 1) j = w_ei w1 (w_ar ws (n_v vs 0) 1) j := el_kp s1.1 r15 cr_0_1 (by decide)
  have hK_0_1 := elq_7 hD hth cr_0_1
  have hE_0_2_1 : ∀ j : Int, 0 ≤ j → (j = v_iv (n_v vs 22) → w_ei ws (w_ar ws (n_v vs 0) 2) j = v_iv (n_v vs 24)) ∧ (j ≠ v_iv (n_v vs 22) → w_ei ws (w_ar ws (n_v vs 0) 2) j = w_ei w1 (w_ar ws (n_v vs 0) 2) j) := fun j hj => ⟨fun h => by unfold w_ei; rw [s1.1, if_pos ⟨ad_15.symm, by rw [h]⟩], fun h => by unfold w_ei; rw [s1.1, if_neg (fun e => h (by have := e.2; omega))]⟩
  have hE_0_3_1 : ∀ j : Int, w_ei ws (w_ar ws (n_v vs 0) 3) j = w_ei w1 (w_ar ws (n_v vs 0) 3) j := el_kp s1.1 r15 cr_0_3 (by decide)
  have hK_0_3 := elq_80 hD hth cr_0_3
  have hE_0_4_1 : ∀ j : Int, w_ei ws (w_ar ws (n_v vs 0) 4) j = w_ei w1 (w_ar ws (n_v vs 0) 4) j := el_kp s1.1 r15 cr_0_4 (by decide)
  have hK_0_4 := elq_81 hD hth cr_0_4
  have kz_0_8 := fdq_34 hD hth r0
  have kz_0_10 := fdq_43 hD hth r0
  have kz_0_11 := fdq_237 hD hth r0
  have kz_0_12 := fdq_187 hD hth r0
  have kz_0_13 := fdq_238 hD hth r0
  have kz_0_14 := fdq_188 hD hth r0
  have kz_0_15 := fdq_239 hD hth r0
  first | have hJ0 : w_ei w1 (w_ar ws (n_v vs 0) 2) ((w_fi w1 (n_v vs 0) 5 + 1)) = w_ei w1 (w_ar ws (n_v vs 0) 2) ((w_fi ws (n_v vs 0) 5 + 1)) := congrArg _ (show ((w_fi w1 (n_v vs 0) 5 + 1) : Int) = (w_fi ws (n_v vs 0) 5 + 1) from by omega) | skip
  first | have hJ1 : w_ei w1 (w_ar ws (n_v vs 0) 2) ((w_fi w1 (n_v vs 0) 5 + 2)) = w_ei w1 (w_ar ws (n_v vs 0) 2) ((w_fi ws (n_v vs 0) 5 + 2)) := congrArg _ (show ((w_fi w1 (n_v vs 0) 5 + 2) : Int) = (w_fi ws (n_v vs 0) 5 + 2) from by omega) | skip
  have hI2 := hE_0_1_1 (v_iv (n_v vs 23))
  first | have hI3 := (hE_0_2_1 ((w_fi ws (n_v vs 0) 5 + 1)) (by omega)).2 (by omega) | have hI3 := (hE_0_2_1 ((w_fi ws (n_v vs 0) 5 + 1)) (by omega)).1 (by omega) | skip
  first | have hI4 := (hE_0_2_1 ((w_fi ws (n_v vs 0) 5 + 2)) (by omega)).2 (by omega) | have hI4 := (hE_0_2_1 ((w_fi ws (n_v vs 0) 5 + 2)) (by omega)).1 (by omega) | skip
  have nf0 : fc_1 PRD (20, [8, 6], [50, 1, 1, 1005, 1002, 3, 6, 0, 2, 1, 0, 0, -1, 0, 10, 3, 1, 2, 4, 3, 2, 1, 5, 0, 1, 0, 47]) ws (vs) := by
    refine ⟨nf_in hl rfl, sgq_2114 ?_⟩
    · show (v_iv (n_v vs 8) ≤ (-1)) ∨ (w_ei ws (w_ar ws (n_v vs 6) 2) ((w_fi ws (n_v vs 6) 5 + 1)) ≤ 47)
      simp only [q6, q8]
      exact vc_Mo_met_at_g1_19_0 (v_iv (n_v vs 2)) (v_iv (n_v vs 22)) (v_iv (n_v vs 24)) (w_fi ws (n_v vs 0) 5) (w_fi ws (n_v vs 0) 15) (w_fi ws (n_v vs 0) 11) (w_ei ws (w_ar ws (n_v vs 0) 1)) (w_fi ws (n_v vs 0) 10) (w_fi ws (n_v vs 0) 12) (w_ei w1 (w_ar ws (n_v vs 0) 1)) (w_fi w1 (n_v vs 0) 10) (w_fi w1 (n_v vs 0) 15) (w_fi w1 (n_v vs 0) 11) (w_fi w1 (n_v vs 0) 12) (w_ei w1 (w_ar ws (n_v vs 0) 2)) (w_fi w1 (n_v vs 0) 5) (w_ei w1 (w_ar ws (n_v vs 0) 3)) (w_ei w1 (w_ar ws (n_v vs 0) 4)) (w_fi w1 (n_v vs 0) 13) (w_fi w1 (n_v vs 0) 14) (w_fi w1 (n_v vs 0) 8) (w_fi ws (n_v vs 0) 8) (w_fi ws (n_v vs 0) 13) (w_fi ws (n_v vs 0) 14) (w_ei ws (w_ar ws (n_v vs 0) 2)) (w_ei ws (w_ar ws (n_v vs 0) 3)) (w_ei ws (w_ar ws (n_v vs 0) 4)) k2 k22 k24 fe_0_5_1 fe_0_8_1 fe_0_10_1 fe_0_11_1 fe_0_12_1 fe_0_13_1 fe_0_14_1 fe_0_15_1 hE_0_1_1 hE_0_2_1 hE_0_3_1 hE_0_4_1 kz_0_8 kz_0_10 kz_0_11 kz_0_12 kz_0_13 kz_0_14 kz_0_15
  have nf1 : fc_1 PRD (20, [7, 6], [50, 1, 1, 1005, 1002, 0, 6, 4, 2, 1, 0, 0, 1, 3, 1, 2, 4, 3, 2, 1, 5, 0, 2]) ws (vs) := by
    refine ⟨nf_in hl rfl, sgq_1009 ?_⟩
    · show (v_iv (n_v vs 7) + 1) ≤ w_ei ws (w_ar ws (n_v vs 6) 2) ((w_fi ws (n_v vs 6) 5 + 2))
      simp only [q6, q7]
      exact vc_Mo_met_at_g1_19_1 (v_iv (n_v vs 1)) (v_iv (n_v vs 7)) (v_iv (n_v vs 9)) (v_iv (n_v vs 11)) (v_iv (n_v vs 16)) (v_iv (n_v vs 18)) (v_iv (n_v vs 20)) (v_iv (n_v vs 21)) (v_iv (n_v vs 22)) (v_iv (n_v vs 24)) (v_iv (n_v vs 25)) (w_fi ws (n_v vs 0) 5) (w_fi ws (n_v vs 0) 15) (w_fi ws (n_v vs 0) 11) (w_ei ws (w_ar ws (n_v vs 0) 1)) (w_fi ws (n_v vs 0) 10) (w_fi ws (n_v vs 0) 12) (w_ei w1 (w_ar ws (n_v vs 0) 1)) (w_fi w1 (n_v vs 0) 10) (w_fi w1 (n_v vs 0) 15) (w_fi w1 (n_v vs 0) 11) (w_fi w1 (n_v vs 0) 12) (w_ei w1 (w_ar ws (n_v vs 0) 2)) (w_fi w1 (n_v vs 0) 5) (w_ei w1 (w_ar ws (n_v vs 0) 3)) (w_ei w1 (w_ar ws (n_v vs 0) 4)) (w_fi w1 (n_v vs 0) 13) (w_fi w1 (n_v vs 0) 14) (w_fi w1 (n_v vs 0) 8) (w_fi ws (n_v vs 0) 8) (w_fi ws (n_v vs 0) 13) (w_fi ws (n_v vs 0) 14) (w_ei ws (w_ar ws (n_v vs 0) 2)) (w_ei ws (w_ar ws (n_v vs 0) 3)) (w_ei ws (w_ar ws (n_v vs 0) 4)) k1 k7 k9 k11 k16 k18 k20 k21 k22 k24 k25 d0 d9 d14 d17 d18 g0 f19 f20 f21 f31 fe_0_5_1 fe_0_8_1 fe_0_10_1 fe_0_11_1 fe_0_12_1 fe_0_13_1 fe_0_14_1 fe_0_15_1 hE_0_1_1 hE_0_2_1 hE_0_3_1 hE_0_4_1 kz_0_8 kz_0_10 kz_0_11 kz_0_12 kz_0_13 kz_0_14 kz_0_15
  have nf2 : fc_1 PRD (20, [6, 9], [60, 1, 3, 200, 5, 2, 3, 4]) ws (vs) := by
    refine ⟨nf_in hl rfl, sgq_1803 ?_⟩
    · show RWN (w_fi ws (n_v vs 6) 5) (w_ei ws (w_ar ws (n_v vs 6) 2)) (w_ei ws (w_ar ws (n_v vs 6) 3)) (w_ei ws (w_ar ws (n_v vs 6) 4)) (v_iv (n_v vs 9))
      rw [q6]
      exact vc_Mo_met_at_g1_19_2 (v_iv (n_v vs 2)) (v_iv (n_v vs 9)) (v_iv (n_v vs 11)) (v_iv (n_v vs 16)) (v_iv (n_v vs 18)) (v_iv (n_v vs 20)) (v_iv (n_v vs 21)) (v_iv (n_v vs 22)) (v_iv (n_v vs 24)) (v_iv (n_v vs 25)) (w_fi ws (n_v vs 0) 5) (w_fi ws (n_v vs 0) 15) (w_fi ws (n_v vs 0) 11) (w_ei ws (w_ar ws (n_v vs 0) 1)) (w_fi ws (n_v vs 0) 10) (w_fi ws (n_v vs 0) 12) (w_ei w1 (w_ar ws (n_v vs 0) 1)) (w_fi w1 (n_v vs 0) 10) (w_fi w1 (n_v vs 0) 15) (w_fi w1 (n_v vs 0) 11) (w_fi w1 (n_v vs 0) 12) (w_ei w1 (w_ar ws (n_v vs 0) 2)) (w_fi w1 (n_v vs 0) 5) (w_ei w1 (w_ar ws (n_v vs 0) 3)) (w_ei w1 (w_ar ws (n_v vs 0) 4)) (w_fi w1 (n_v vs 0) 13) (w_fi w1 (n_v vs 0) 14) (w_fi w1 (n_v vs 0) 8) (w_fi ws (n_v vs 0) 8) (w_fi ws (n_v vs 0) 13) (w_fi ws (n_v vs 0) 14) (w_ei ws (w_ar ws (n_v vs 0) 2)) (w_ei ws (w_ar ws (n_v vs 0) 3)) (w_ei ws (w_ar ws (n_v vs 0) 4)) k2 k9 k11 k16 k18 k20 k21 k22 k24 k25 d0 d10 d14 g0 f19 f20 f21 f32 f33 fe_0_5_1 fe_0_8_1 fe_0_10_1 fe_0_11_1 fe_0_12_1 fe_0_13_1 fe_0_14_1 fe_0_15_1 hE_0_1_1 hE_0_2_1 hE_0_3_1 hE_0_4_1 kz_0_8 kz_0_10 kz_0_11 kz_0_12 kz_0_13 kz_0_14 kz_0_15
  have nf3 : fc_1 PRD (20, [6, 8, 9], [60, 1, 1, 243, 5, 2]) ws (vs) := by
    refine ⟨nf_in hl rfl, sgq_2115 ?_⟩
    · show MEN (w_fi ws (n_v vs 6) 5) (w_ei ws (w_ar ws (n_v vs 6) 2)) (v_iv (n_v vs 8)) (v_iv (n_v vs 9))
      simp only [q6, q8]
      exact vc_Mo_met_at_g1_19_3 (v_iv (n_v vs 2)) (v_iv (n_v vs 9)) (v_iv (n_v vs 11)) (v_iv (n_v vs 16)) (v_iv (n_v vs 18)) (v_iv (n_v vs 20)) (v_iv (n_v vs 21)) (v_iv (n_v vs 22)) (v_iv (n_v vs 24)) (v_iv (n_v vs 25)) (w_fi ws (n_v vs 0) 5) (w_fi ws (n_v vs 0) 15) (w_fi ws (n_v vs 0) 11) (w_ei ws (w_ar ws (n_v vs 0) 1)) (w_fi ws (n_v vs 0) 10) (w_fi ws (n_v vs 0) 12) (w_ei w1 (w_ar ws (n_v vs 0) 1)) (w_fi w1 (n_v vs 0) 10) (w_fi w1 (n_v vs 0) 15) (w_fi w1 (n_v vs 0) 11) (w_fi w1 (n_v vs 0) 12) (w_ei w1 (w_ar ws (n_v vs 0) 2)) (w_fi w1 (n_v vs 0) 5) (w_ei w1 (w_ar ws (n_v vs 0) 3)) (w_ei w1 (w_ar ws (n_v vs 0) 4)) (w_fi w1 (n_v vs 0) 13) (w_fi w1 (n_v vs 0) 14) (w_fi w1 (n_v vs 0) 8) (w_fi ws (n_v vs 0) 8) (w_fi ws (n_v vs 0) 13) (w_fi ws (n_v vs 0) 14) (w_ei ws (w_ar ws (n_v vs 0) 2)) (w_ei ws (w_ar ws (n_v vs 0) 3)) (w_ei ws (w_ar ws (n_v vs 0) 4)) k2 k9 k11 k16 k18 k20 k21 k22 k24 k25 d0 d10 d14 g0 f19 f20 f21 f32 f33 fe_0_5_1 fe_0_8_1 fe_0_10_1 fe_0_11_1 fe_0_12_1 fe_0_13_1 fe_0_14_1 fe_0_15_1 hE_0_1_1 hE_0_2_1 hE_0_3_1 hE_0_4_1 kz_0_8 kz_0_10 kz_0_11 kz_0_12 kz_0_13 kz_0_14 kz_0_15
  have nf4 : fc_1 PRD (20, [6, 9, 25, 7, 5], [60, 8, 2, 1004, 10, 11, 12, 13, 14, 15, 8, 5, 1, 2]) ws (vs) := by
    refine ⟨nf_in hl rfl, sgq_2123 ?_⟩
    · show zMN1 (w_fi ws (n_v vs 6) 10) (w_fi ws (n_v vs 6) 11) (w_fi ws (n_v vs 6) 12) (w_fi ws (n_v vs 6) 13) (w_fi ws (n_v vs 6) 14) (w_fi ws (n_v vs 6) 15) (w_fi ws (n_v vs 6) 8) (w_fi ws (n_v vs 6) 5) (w_ei ws (w_ar ws (n_v vs 6) 1)) (w_ei ws (w_ar ws (n_v vs 6) 2)) (v_iv (n_v vs 9)) (v_iv (n_v vs 25)) (v_iv (n_v vs 7)) (v_iv (n_v vs 5))
      simp only [q6, q7]
      exact vc_Mo_met_at_g1_19_4 (v_iv (n_v vs 1)) (v_iv (n_v vs 5)) (v_iv (n_v vs 9)) (v_iv (n_v vs 11)) (v_iv (n_v vs 12)) (v_iv (n_v vs 13)) (v_iv (n_v vs 14)) (v_iv (n_v vs 16)) (v_iv (n_v vs 18)) (v_iv (n_v vs 20)) (v_iv (n_v vs 21)) (v_iv (n_v vs 22)) (v_iv (n_v vs 23)) (v_iv (n_v vs 24)) (v_iv (n_v vs 25)) (w_fi ws (n_v vs 0) 5) (w_fi ws (n_v vs 0) 15) (w_fi ws (n_v vs 0) 11) (w_ei ws (w_ar ws (n_v vs 0) 1)) (w_fi ws (n_v vs 0) 10) (w_fi ws (n_v vs 0) 12) (w_ei w1 (w_ar ws (n_v vs 0) 1)) (w_fi w1 (n_v vs 0) 10) (w_fi w1 (n_v vs 0) 15) (w_fi w1 (n_v vs 0) 11) (w_fi w1 (n_v vs 0) 12) (w_ei w1 (w_ar ws (n_v vs 0) 2)) (w_fi w1 (n_v vs 0) 5) (w_ei w1 (w_ar ws (n_v vs 0) 3)) (w_ei w1 (w_ar ws (n_v vs 0) 4)) (w_fi w1 (n_v vs 0) 13) (w_fi w1 (n_v vs 0) 14) (w_fi w1 (n_v vs 0) 8) (w_fi ws (n_v vs 0) 8) (w_fi ws (n_v vs 0) 13) (w_fi ws (n_v vs 0) 14) (w_ei ws (w_ar ws (n_v vs 0) 2)) (w_ei ws (w_ar ws (n_v vs 0) 3)) (w_ei ws (w_ar ws (n_v vs 0) 4)) k1 k5 k9 k11 k12 k13 k14 k16 k18 k20 k21 k22 k23 k24 k25 d0 d14 d15 g0 g2 g3 f4 f16 f18 f19 f20 f21 f24 f29 f34 fe_0_5_1 fe_0_8_1 fe_0_10_1 fe_0_11_1 fe_0_12_1 fe_0_13_1 fe_0_14_1 fe_0_15_1 hE_0_1_1 hE_0_2_1 hE_0_3_1 hE_0_4_1 kz_0_8 kz_0_10 kz_0_11 kz_0_12 kz_0_13 kz_0_14 kz_0_15
  refine ⟨(fun _ h => (by cases h)), [], trivial, ?_, (fun _ h => (by cases h))⟩
  rw [List.append_nil]
  exact List.forall_mem_cons.mpr ⟨⟨show (20 : Nat) < 100 from by decide, nf0⟩, List.forall_mem_cons.mpr ⟨⟨show (20 : Nat) < 100 from by decide, nf1⟩, List.forall_mem_cons.mpr ⟨⟨show (20 : Nat) < 100 from by decide, nf2⟩, List.forall_mem_cons.mpr ⟨⟨show (20 : Nat) < 100 from by decide, nf3⟩, List.forall_mem_cons.mpr ⟨⟨show (20 : Nat) < 100 from by decide, nf4⟩, (fun _ h => (by cases h))⟩⟩⟩⟩⟩
def o_Mo_met_at_g1_20 : or_T := (214, 25, [(9, (0, 0, 23, [])), (11, (0, 0, 7, [])), (16, (5, 0, 66297, [539])), (17, (0, 3, 3, [])), (18, (0, 3, 66300, [])), (19, (0, 8, 8, [])), (20, (0, 0, 184, [])), (21, (0, 3, 66484, [])), (22, (0, 3, 66491, [])), (24, (0, 0, 255, []))], [(1, [22, 21, 11], []), (1, [21, 18, 20], []), (3, [20, 19, 9], []), (1, [18, 16, 17], [])], [], [], [(18, [22, 24], [1])], [], [(22, 11, 3, 66484), (22, 21, 0, 7), (22, 20, 3, 66307), (22, 18, 0, 191), (22, 16, 3, 194), (21, 20, 3, 66300), (21, 18, 0, 184), (21, 16, 3, 187), (18, 16, 3, 3)])
theorem oo_Mo_met_at_g1_20 {kA : Nat → ClassId} : or_ok PRD kA GG o_Mo_met_at_g1_20 := by
  refine or_mk fun A ta ws vs hD hth hl => ?_
  intro t9 k9 t11 k11 t16 t17 k17 t18 k18 t19 k19 t20 k20 t21 k21 t22 k22 t24 k24 d0 d1 d2 d3 d4 d5 d6 d7 d8 f0 f1 f2 f3
  obtain ⟨k16, q16_⟩ : (0 ≤ v_iv (n_v vs 16) ∧ v_iv (n_v vs 16) ≤ 66297) ∧ ∃ q : Int, v_iv (n_v vs 16) = 539 * q := tv_dvk t16
  obtain ⟨q16, hq16⟩ := q16_
  replace f0 := shm_12 f0
  replace f1 := shm_12 f1
  replace f2 := shm_38 f2
  rw [show v_iv (n_v vs 19) = 8 from by omega] at f2
  replace f3 := shm_12 f3
  have nf0 : fc_1 PRD (18, [22, 24], [1]) ws (vs) := by
    refine ⟨nf_in hl rfl, sgq_1302 ?_⟩
    · show pl_ok 1 (v_iv (n_v vs 22)).toNat (v_iv (n_v vs 24))
      exact pl_in pl_M1 (lo := 3) (hi := 194) (a := 0) (b := 255) (by decide +kernel) (by omega) (by omega) (by omega) (by omega)
  refine ⟨(fun _ h => (by cases h)), [], trivial, ?_, (fun _ h => (by cases h))⟩
  rw [List.append_nil]
  exact List.forall_mem_cons.mpr ⟨⟨show (18 : Nat) < 100 from by decide, nf0⟩, (fun _ h => (by cases h))⟩
set_option maxHeartbeats 4000000 in
theorem vc_Mo_met_at_g1_21_0 (x2 : Int) (x22 : Int) (x24 : Int) (r_0 : Int) (from_0 : Int) (pos_0 : Int) (tape_0 : Int → Int) (limit_0 : Int) (kind_0 : Int) (tape_1 : Int → Int) (limit_1 : Int) (from_1 : Int) (pos_1 : Int) (kind_1 : Int) (all_1 : Int → Int) (r_1 : Int) (now_1 : Int → Int) (latest_1 : Int → Int) (place_1 : Int) (value_1 : Int) (fault_1 : Int) (fault_0 : Int) (place_0 : Int) (value_0 : Int) (all_0 : Int → Int) (now_0 : Int → Int) (latest_0 : Int → Int) (k2 : (-1) ≤ x2 ∧ x2 ≤ (-1)) (k22 : 3 ≤ x22 ∧ x22 ≤ 66491) (k24 : 0 ≤ x24 ∧ x24 ≤ 255) (fe_0_5_1 : r_0 = r_1) (fe_0_8_1 : fault_0 = fault_1) (fe_0_10_1 : limit_0 = limit_1) (fe_0_11_1 : pos_0 = pos_1) (fe_0_12_1 : kind_0 = kind_1) (fe_0_13_1 : place_0 = place_1) (fe_0_14_1 : value_0 = value_1) (fe_0_15_1 : from_0 = from_1) (hE_0_1_1 : ∀ j : Int, tape_0 j = tape_1 j) (hE_0_2_1 : ∀ j : Int, 0 ≤ j → (j = x22 → all_0 j = x24) ∧ (j ≠ x22 → all_0 j = all_1 j)) (hE_0_3_1 : ∀ j : Int, now_0 j = now_1 j) (hE_0_4_1 : ∀ j : Int, latest_0 j = latest_1 j) (kz_0_8 : 0 ≤ fault_0 ∧ fault_0 ≤ 5) (kz_0_10 : 0 ≤ limit_0 ∧ limit_0 ≤ 2000) (kz_0_11 : 0 ≤ pos_0 ∧ pos_0 ≤ 2000) (kz_0_12 : 0 ≤ kind_0 ∧ kind_0 ≤ 4) (kz_0_13 : 0 ≤ place_0 ∧ place_0 ≤ 2000) (kz_0_14 : (-49) ≤ value_0 ∧ value_0 ≤ 1048575) (kz_0_15 : 0 ≤ from_0 ∧ from_0 ≤ 2000) : (x2 ≤ (-1)) ∨ (all_0 ((r_0 + 1)) ≤ 47) := by
  subst fe_0_5_1
  subst fe_0_8_1
  subst fe_0_10_1
  subst fe_0_11_1
  subst fe_0_12_1
  subst fe_0_13_1
  subst fe_0_14_1
  subst fe_0_15_1
  have e_hE_0_1_1 := funext hE_0_1_1; subst e_hE_0_1_1
  have e_hE_0_3_1 := funext hE_0_3_1; subst e_hE_0_3_1
  have e_hE_0_4_1 := funext hE_0_4_1; subst e_hE_0_4_1
  first
    | omega
    | (have q1 := (hE_0_2_1 (r_0 + 2) (by omega)).2 (by omega)
       have q2 := (hE_0_2_2 (r_0 + 2) (by omega)).2 (by omega)
       omega)
    | (have q1 := (hE_0_2_1 (r_0 + 1) (by omega)).2 (by omega)
       have q2 := (hE_0_2_2 (r_0 + 1) (by omega)).2 (by omega)
       omega)
    | (have q1 := (hE_0_2_1 (r_0 + 2) (by omega)).2 (by omega)
       omega)
    | (have q1 := (hE_0_2_1 (r_0 + 1) (by omega)).2 (by omega)
       omega)
    | (have q1 := (hE_0_2_1 (r_0 + 2) (by omega)).2 (by omega)
       have q2 := (hE_0_2_2 (r_0 + 2) (by omega)).2 (by omega)
       have q3 := (hE_0_2_3 (r_0 + 2) (by omega)).1 (by omega)
       omega)
    | (have q1 := (hE_0_2_1 (r_0 + 2) (by omega)).2 (by omega)
       have q2 := (hE_0_2_2 (r_0 + 2) (by omega)).2 (by omega)
       have q3 := (hE_0_2_3 (r_0 + 2) (by omega)).2 (by omega)
       omega)
set_option maxHeartbeats 4000000 in
theorem vc_Mo_met_at_g1_21_1 (x1 : Int) (x7 : Int) (x9 : Int) (x11 : Int) (x16 : Int) (x18 : Int) (x20 : Int) (x21 : Int) (x22 : Int) (x24 : Int) (x25 : Int) (r_0 : Int) (from_0 : Int) (pos_0 : Int) (tape_0 : Int → Int) (limit_0 : Int) (kind_0 : Int) (tape_1 : Int → Int) (limit_1 : Int) (from_1 : Int) (pos_1 : Int) (kind_1 : Int) (all_1 : Int → Int) (r_1 : Int) (now_1 : Int → Int) (latest_1 : Int → Int) (place_1 : Int) (value_1 : Int) (fault_1 : Int) (fault_0 : Int) (place_0 : Int) (value_0 : Int) (all_0 : Int → Int) (now_0 : Int → Int) (latest_0 : Int → Int) (k1 : 0 ≤ x1 ∧ x1 ≤ 7) (k7 : 0 ≤ x7 ∧ x7 ≤ 7) (k9 : 0 ≤ x9 ∧ x9 ≤ 23) (k11 : 0 ≤ x11 ∧ x11 ≤ 7) (k16 : 0 ≤ x16 ∧ x16 ≤ 66297) (k18 : 3 ≤ x18 ∧ x18 ≤ 66300) (k20 : 0 ≤ x20 ∧ x20 ≤ 184) (k21 : 3 ≤ x21 ∧ x21 ≤ 66484) (k22 : 3 ≤ x22 ∧ x22 ≤ 66491) (k24 : 0 ≤ x24 ∧ x24 ≤ 255) (k25 : 1 ≤ x25 ∧ x25 ≤ 8) (d0 : x11 + 1 ≤ x25 ∧ x25 ≤ x11 + 1) (d8 : x18 + 0 ≤ x22 ∧ x22 ≤ x18 + 191) (d13 : x16 + 3 ≤ x18 ∧ x18 ≤ x16 + 3) (d16 : x7 + (-4294967296) ≤ x1 ∧ x1 ≤ x7 + 0) (d17 : x1 + (-4294967296) ≤ x7 ∧ x7 ≤ x1 + 0) (g0 : x16 = r_0) (f19 : x22 = x21 + x11) (f20 : x21 = x18 + x20) (f21 : x20 = 8 * x9) (f31 : (x1 + 1) ≤ all_1 ((r_1 + 2))) (fe_0_5_1 : r_0 = r_1) (fe_0_8_1 : fault_0 = fault_1) (fe_0_10_1 : limit_0 = limit_1) (fe_0_11_1 : pos_0 = pos_1) (fe_0_12_1 : kind_0 = kind_1) (fe_0_13_1 : place_0 = place_1) (fe_0_14_1 : value_0 = value_1) (fe_0_15_1 : from_0 = from_1) (hE_0_1_1 : ∀ j : Int, tape_0 j = tape_1 j) (hE_0_2_1 : ∀ j : Int, 0 ≤ j → (j = x22 → all_0 j = x24) ∧ (j ≠ x22 → all_0 j = all_1 j)) (hE_0_3_1 : ∀ j : Int, now_0 j = now_1 j) (hE_0_4_1 : ∀ j : Int, latest_0 j = latest_1 j) (kz_0_8 : 0 ≤ fault_0 ∧ fault_0 ≤ 5) (kz_0_10 : 0 ≤ limit_0 ∧ limit_0 ≤ 2000) (kz_0_11 : 0 ≤ pos_0 ∧ pos_0 ≤ 2000) (kz_0_12 : 0 ≤ kind_0 ∧ kind_0 ≤ 4) (kz_0_13 : 0 ≤ place_0 ∧ place_0 ≤ 2000) (kz_0_14 : (-49) ≤ value_0 ∧ value_0 ≤ 1048575) (kz_0_15 : 0 ≤ from_0 ∧ from_0 ≤ 2000) : (x1 + 1) ≤ all_0 ((r_0 + 2)) := by
  subst fe_0_5_1
  subst fe_0_8_1
  subst fe_0_10_1
  subst fe_0_11_1
  subst fe_0_12_1
  subst fe_0_13_1
  subst fe_0_14_1
  subst fe_0_15_1
  have e_hE_0_1_1 := funext hE_0_1_1; subst e_hE_0_1_1
  have e_hE_0_3_1 := funext hE_0_3_1; subst e_hE_0_3_1
  have e_hE_0_4_1 := funext hE_0_4_1; subst e_hE_0_4_1
  first
    | omega
    | (have q1 := (hE_0_2_1 (r_0 + 2) (by omega)).2 (by omega)
       have q2 := (hE_0_2_2 (r_0 + 2) (by omega)).2 (by omega)
       omega)
    | (have q1 := (hE_0_2_1 (r_0 + 1) (by omega)).2 (by omega)
       have q2 := (hE_0_2_2 (r_0 + 1) (by omega)).2 (by omega)
       omega)
    | (have q1 := (hE_0_2_1 (r_0 + 2) (by omega)).2 (by omega)
       omega)
    | (have q1 := (hE_0_2_1 (r_0 + 1) (by omega)).2 (by omega)
       omega)
    | (have q1 := (hE_0_2_1 (r_0 + 2) (by omega)).2 (by omega)
       have q2 := (hE_0_2_2 (r_0 + 2) (by omega)).2 (by omega)
       have q3 := (hE_0_2_3 (r_0 + 2) (by omega)).1 (by omega)
       omega)
    | (have q1 := (hE_0_2_1 (r_0 + 2) (by omega)).2 (by omega)
       have q2 := (hE_0_2_2 (r_0 + 2) (by omega)).2 (by omega)
       have q3 := (hE_0_2_3 (r_0 + 2) (by omega)).2 (by omega)
       omega)
set_option maxHeartbeats 4000000 in
theorem vc_Mo_met_at_g1_21_2 (x2 : Int) (x9 : Int) (x11 : Int) (x16 : Int) (x18 : Int) (x20 : Int) (x21 : Int) (x22 : Int) (x24 : Int) (x25 : Int) (r_0 : Int) (from_0 : Int) (pos_0 : Int) (tape_0 : Int → Int) (limit_0 : Int) (kind_0 : Int) (tape_1 : Int → Int) (limit_1 : Int) (from_1 : Int) (pos_1 : Int) (kind_1 : Int) (all_1 : Int → Int) (r_1 : Int) (now_1 : Int → Int) (latest_1 : Int → Int) (place_1 : Int) (value_1 : Int) (fault_1 : Int) (fault_0 : Int) (place_0 : Int) (value_0 : Int) (all_0 : Int → Int) (now_0 : Int → Int) (latest_0 : Int → Int) (k2 : (-1) ≤ x2 ∧ x2 ≤ (-1)) (k9 : 0 ≤ x9 ∧ x9 ≤ 23) (k11 : 0 ≤ x11 ∧ x11 ≤ 7) (k16 : 0 ≤ x16 ∧ x16 ≤ 66297) (k18 : 3 ≤ x18 ∧ x18 ≤ 66300) (k20 : 0 ≤ x20 ∧ x20 ≤ 184) (k21 : 3 ≤ x21 ∧ x21 ≤ 66484) (k22 : 3 ≤ x22 ∧ x22 ≤ 66491) (k24 : 0 ≤ x24 ∧ x24 ≤ 255) (k25 : 1 ≤ x25 ∧ x25 ≤ 8) (d0 : x11 + 1 ≤ x25 ∧ x25 ≤ x11 + 1) (d9 : x16 + 3 ≤ x22 ∧ x22 ≤ x16 + 194) (d13 : x16 + 3 ≤ x18 ∧ x18 ≤ x16 + 3) (g0 : x16 = r_0) (f19 : x22 = x21 + x11) (f20 : x21 = x18 + x20) (f21 : x20 = 8 * x9) (f32 : RWN (r_1) (all_1) (now_1) (latest_1) (x9)) (f33 : MEN (r_1) (all_1) (x2) (x9)) (fe_0_5_1 : r_0 = r_1) (fe_0_8_1 : fault_0 = fault_1) (fe_0_10_1 : limit_0 = limit_1) (fe_0_11_1 : pos_0 = pos_1) (fe_0_12_1 : kind_0 = kind_1) (fe_0_13_1 : place_0 = place_1) (fe_0_14_1 : value_0 = value_1) (fe_0_15_1 : from_0 = from_1) (hE_0_1_1 : ∀ j : Int, tape_0 j = tape_1 j) (hE_0_2_1 : ∀ j : Int, 0 ≤ j → (j = x22 → all_0 j = x24) ∧ (j ≠ x22 → all_0 j = all_1 j)) (hE_0_3_1 : ∀ j : Int, now_0 j = now_1 j) (hE_0_4_1 : ∀ j : Int, latest_0 j = latest_1 j) (kz_0_8 : 0 ≤ fault_0 ∧ fault_0 ≤ 5) (kz_0_10 : 0 ≤ limit_0 ∧ limit_0 ≤ 2000) (kz_0_11 : 0 ≤ pos_0 ∧ pos_0 ≤ 2000) (kz_0_12 : 0 ≤ kind_0 ∧ kind_0 ≤ 4) (kz_0_13 : 0 ≤ place_0 ∧ place_0 ≤ 2000) (kz_0_14 : (-49) ≤ value_0 ∧ value_0 ≤ 1048575) (kz_0_15 : 0 ≤ from_0 ∧ from_0 ≤ 2000) : RWN (r_0) (all_0) (now_0) (latest_0) (x9) := by
  subst fe_0_5_1
  subst fe_0_8_1
  subst fe_0_10_1
  subst fe_0_11_1
  subst fe_0_12_1
  subst fe_0_13_1
  subst fe_0_14_1
  subst fe_0_15_1
  have e_hE_0_1_1 := funext hE_0_1_1; subst e_hE_0_1_1
  have e_hE_0_3_1 := funext hE_0_3_1; subst e_hE_0_3_1
  have e_hE_0_4_1 := funext hE_0_4_1; subst e_hE_0_4_1
  try simp only [Int.add_zero] at *
  first
    | (have hr := rwn_r ‹RWN _ _ _ _ _›
       have hb := ‹MEN _ _ _ _›.1
       exact rwn_off ‹RWN _ _ _ _ _› (by assumption) (by omega))
set_option maxHeartbeats 4000000 in
theorem vc_Mo_met_at_g1_21_3 (x2 : Int) (x9 : Int) (x11 : Int) (x16 : Int) (x18 : Int) (x20 : Int) (x21 : Int) (x22 : Int) (x24 : Int) (x25 : Int) (r_0 : Int) (from_0 : Int) (pos_0 : Int) (tape_0 : Int → Int) (limit_0 : Int) (kind_0 : Int) (tape_1 : Int → Int) (limit_1 : Int) (from_1 : Int) (pos_1 : Int) (kind_1 : Int) (all_1 : Int → Int) (r_1 : Int) (now_1 : Int → Int) (latest_1 : Int → Int) (place_1 : Int) (value_1 : Int) (fault_1 : Int) (fault_0 : Int) (place_0 : Int) (value_0 : Int) (all_0 : Int → Int) (now_0 : Int → Int) (latest_0 : Int → Int) (k2 : (-1) ≤ x2 ∧ x2 ≤ (-1)) (k9 : 0 ≤ x9 ∧ x9 ≤ 23) (k11 : 0 ≤ x11 ∧ x11 ≤ 7) (k16 : 0 ≤ x16 ∧ x16 ≤ 66297) (k18 : 3 ≤ x18 ∧ x18 ≤ 66300) (k20 : 0 ≤ x20 ∧ x20 ≤ 184) (k21 : 3 ≤ x21 ∧ x21 ≤ 66484) (k22 : 3 ≤ x22 ∧ x22 ≤ 66491) (k24 : 0 ≤ x24 ∧ x24 ≤ 255) (k25 : 1 ≤ x25 ∧ x25 ≤ 8) (d0 : x11 + 1 ≤ x25 ∧ x25 ≤ x11 + 1) (d9 : x16 + 3 ≤ x22 ∧ x22 ≤ x16 + 194) (d13 : x16 + 3 ≤ x18 ∧ x18 ≤ x16 + 3) (g0 : x16 = r_0) (f19 : x22 = x21 + x11) (f20 : x21 = x18 + x20) (f21 : x20 = 8 * x9) (f32 : RWN (r_1) (all_1) (now_1) (latest_1) (x9)) (f33 : MEN (r_1) (all_1) (x2) (x9)) (fe_0_5_1 : r_0 = r_1) (fe_0_8_1 : fault_0 = fault_1) (fe_0_10_1 : limit_0 = limit_1) (fe_0_11_1 : pos_0 = pos_1) (fe_0_12_1 : kind_0 = kind_1) (fe_0_13_1 : place_0 = place_1) (fe_0_14_1 : value_0 = value_1) (fe_0_15_1 : from_0 = from_1) (hE_0_1_1 : ∀ j : Int, tape_0 j = tape_1 j) (hE_0_2_1 : ∀ j : Int, 0 ≤ j → (j = x22 → all_0 j = x24) ∧ (j ≠ x22 → all_0 j = all_1 j)) (hE_0_3_1 : ∀ j : Int, now_0 j = now_1 j) (hE_0_4_1 : ∀ j : Int, latest_0 j = latest_1 j) (kz_0_8 : 0 ≤ fault_0 ∧ fault_0 ≤ 5) (kz_0_10 : 0 ≤ limit_0 ∧ limit_0 ≤ 2000) (kz_0_11 : 0 ≤ pos_0 ∧ pos_0 ≤ 2000) (kz_0_12 : 0 ≤ kind_0 ∧ kind_0 ≤ 4) (kz_0_13 : 0 ≤ place_0 ∧ place_0 ≤ 2000) (kz_0_14 : (-49) ≤ value_0 ∧ value_0 ≤ 1048575) (kz_0_15 : 0 ≤ from_0 ∧ from_0 ≤ 2000) : MEN (r_0) (all_0) (x2) (x9) := by
  subst fe_0_5_1
  subst fe_0_8_1
  subst fe_0_10_1
  subst fe_0_11_1
  subst fe_0_12_1
  subst fe_0_13_1
  subst fe_0_14_1
  subst fe_0_15_1
  have e_hE_0_1_1 := funext hE_0_1_1; subst e_hE_0_1_1
  have e_hE_0_3_1 := funext hE_0_3_1; subst e_hE_0_3_1
  have e_hE_0_4_1 := funext hE_0_4_1; subst e_hE_0_4_1
  try simp only [Int.add_zero] at *
  first
    | (have hr := rwn_r ‹RWN _ _ _ _ _›
       have hb := ‹MEN _ _ _ _›.1
       exact men_off (by omega) ‹MEN _ _ _ _› (by assumption) (by omega))
set_option maxHeartbeats 4000000 in
theorem vc_Mo_met_at_g1_21_4 (x1 : Int) (x5 : Int) (x9 : Int) (x11 : Int) (x12 : Int) (x13 : Int) (x14 : Int) (x16 : Int) (x18 : Int) (x20 : Int) (x21 : Int) (x22 : Int) (x23 : Int) (x24 : Int) (x25 : Int) (r_0 : Int) (from_0 : Int) (pos_0 : Int) (tape_0 : Int → Int) (limit_0 : Int) (kind_0 : Int) (tape_1 : Int → Int) (limit_1 : Int) (from_1 : Int) (pos_1 : Int) (kind_1 : Int) (all_1 : Int → Int) (r_1 : Int) (now_1 : Int → Int) (latest_1 : Int → Int) (place_1 : Int) (value_1 : Int) (fault_1 : Int) (fault_0 : Int) (place_0 : Int) (value_0 : Int) (all_0 : Int → Int) (now_0 : Int → Int) (latest_0 : Int → Int) (k1 : 0 ≤ x1 ∧ x1 ≤ 7) (k5 : 0 ≤ x5 ∧ x5 ≤ 4) (k9 : 0 ≤ x9 ∧ x9 ≤ 23) (k11 : 0 ≤ x11 ∧ x11 ≤ 7) (k12 : 1 ≤ x12 ∧ x12 ≤ 2000) (k13 : 0 ≤ x13 ∧ x13 ≤ 1999) (k14 : 1 ≤ x14 ∧ x14 ≤ 2000) (k16 : 0 ≤ x16 ∧ x16 ≤ 66297) (k18 : 3 ≤ x18 ∧ x18 ≤ 66300) (k20 : 0 ≤ x20 ∧ x20 ≤ 184) (k21 : 3 ≤ x21 ∧ x21 ≤ 66484) (k22 : 3 ≤ x22 ∧ x22 ≤ 66491) (k23 : 0 ≤ x23 ∧ x23 ≤ 1999) (k24 : 0 ≤ x24 ∧ x24 ≤ 255) (k25 : 1 ≤ x25 ∧ x25 ≤ 8) (d0 : x11 + 1 ≤ x25 ∧ x25 ≤ x11 + 1) (d13 : x16 + 3 ≤ x18 ∧ x18 ≤ x16 + 3) (d14 : x14 + (-4294967296) ≤ x11 ∧ x11 ≤ x14 + (-1)) (g0 : x16 = r_0) (g2 : x13 = from_0) (g3 : x12 = pos_0) (f4 : x25 = x11 + 1) (f16 : ((x23 + 1) ≤ limit_1) → (x24 = (tape_1 (x23) % 256))) (f18 : x23 = x13 + x11) (f19 : x22 = x21 + x11) (f20 : x21 = x18 + x20) (f21 : x20 = 8 * x9) (f24 : x14 = x12 - x13) (f29 : kind_1 = 1) (f34 : zMN1 (limit_1) (pos_1) (kind_1) (place_1) (value_1) (from_1) (fault_1) (r_1) (tape_1) (all_1) (x9) (x11) (x1) (x5)) (fe_0_5_1 : r_0 = r_1) (fe_0_8_1 : fault_0 = fault_1) (fe_0_10_1 : limit_0 = limit_1) (fe_0_11_1 : pos_0 = pos_1) (fe_0_12_1 : kind_0 = kind_1) (fe_0_13_1 : place_0 = place_1) (fe_0_14_1 : value_0 = value_1) (fe_0_15_1 : from_0 = from_1) (hE_0_1_1 : ∀ j : Int, tape_0 j = tape_1 j) (hE_0_2_1 : ∀ j : Int, 0 ≤ j → (j = x22 → all_0 j = x24) ∧ (j ≠ x22 → all_0 j = all_1 j)) (hE_0_3_1 : ∀ j : Int, now_0 j = now_1 j) (hE_0_4_1 : ∀ j : Int, latest_0 j = latest_1 j) (kz_0_8 : 0 ≤ fault_0 ∧ fault_0 ≤ 5) (kz_0_10 : 0 ≤ limit_0 ∧ limit_0 ≤ 2000) (kz_0_11 : 0 ≤ pos_0 ∧ pos_0 ≤ 2000) (kz_0_12 : 0 ≤ kind_0 ∧ kind_0 ≤ 4) (kz_0_13 : 0 ≤ place_0 ∧ place_0 ≤ 2000) (kz_0_14 : (-49) ≤ value_0 ∧ value_0 ≤ 1048575) (kz_0_15 : 0 ≤ from_0 ∧ from_0 ≤ 2000) : zMN1 (limit_0) (pos_0) (kind_0) (place_0) (value_0) (from_0) (fault_0) (r_0) (tape_0) (all_0) (x9) (x25) (x1) (x5) := by
  subst fe_0_5_1
  subst fe_0_8_1
  subst fe_0_10_1
  subst fe_0_11_1
  subst fe_0_12_1
  subst fe_0_13_1
  subst fe_0_14_1
  subst fe_0_15_1
  have e_hE_0_1_1 := funext hE_0_1_1; subst e_hE_0_1_1
  have e_hE_0_3_1 := funext hE_0_3_1; subst e_hE_0_3_1
  have e_hE_0_4_1 := funext hE_0_4_1; subst e_hE_0_4_1
  first | subst g0 | skip
  first | subst g2 | skip
  first | subst g3 | skip
  try simp only [Int.add_zero] at *
  first
    | exact mn_step1 ((rsq_lim (‹zMN1 _ _ _ _ _ _ _ _ _ _ _ _ _ _›).1).2.2.2 (by omega)).2 ‹zMN1 _ _ _ _ _ _ _ _ _ _ _ _ _ _› (by omega) (by assumption) (by omega) (rsq_byte (‹zMN1 _ _ _ _ _ _ _ _ _ _ _ _ _ _›).1 (by omega) (by assumption) (by omega) (by omega) (by omega)) (by omega) (by omega)
    | exact mn_start1 ‹zRS1 _ _ _ _ _ _ _ _ _ _ _ _› (by omega) ‹NMQ _ _ _ _ _ _› (by omega) ‹KNQ _ _ _ _ _ _ _› (by omega) (by simp only [Int.add_zero]; omega) (by assumption) (by assumption) (by omega) (by omega) (by omega) (by omega) (by omega) (by omega)
    | (exfalso; omega)
def o_Mo_met_at_g1_21 : or_T := (171, 26, [(0, (2, 0, 0, [165])), (1, (0, 0, 7, [])), (2, (0, -1, -1, [])), (3, (0, 0, 2000, [])), (4, (0, 0, 2000, [])), (5, (0, 0, 4, [])), (6, (2, 0, 0, [165])), (7, (0, 0, 7, [])), (8, (0, -1, -1, [])), (9, (0, 0, 23, [])), (11, (0, 0, 7, [])), (12, (0, 1, 2000, [])), (13, (0, 0, 1999, [])), (14, (0, 1, 2000, [])), (15, (2, 0, 0, [167])), (16, (0, 0, 66297, [])), (17, (0, 3, 3, [])), (18, (0, 3, 66300, [])), (19, (0, 8, 8, [])), (20, (0, 0, 184, [])), (21, (0, 3, 66484, [])), (22, (0, 3, 66491, [])), (23, (0, 0, 1999, [])), (24, (0, 0, 255, [])), (25, (0, 1, 8, []))], [(9, [16, 6], [5]), (9, [15, 6], [2]), (9, [13, 6], [15]), (9, [12, 6], [11]), (6, [25, 11], [1]), (20, [23, 6, 24], [50, 1, 1, 1010, 1001, 4, 11, 0, 6, 4, 2, 1, 0, 0, 1, 2, 1, 10, 1, 2, 1, 2, 9, 5, 3, 1, 1, 1, 0, 0, 256]), (20, [6, 23, 24], [50, 1, 0, 10, 4, 7, 0, 3, 2, 0, 10, 1, 1, 1, 2, 1, 2, 0, -1]), (20, [6, 6], [30, 0, 1, 1, 15, -1, 1, 11]), (20, [6], [50, 3, 0, 12, 11, 15, 2, 21, 4, 7, 1, 3, 2, 0, 12, 0, 1, 0, 3, 2, 0, 11, 4, 3, 2, 0, 15, 0, 8, 3, 7, 1, 3, 2, 0, 12, 0, 0, 0, 7, 4, 3, 2, 0, 15, 0, 1, 2, 0, 11]), (20, [3, 6], [30, 0, 1, 0, 0, -1, 1, 11]), (20, [4, 6], [30, -1, 1, 0, 0, -1, 1, 11]), (20, [6], [50, 1, 0, 12, 1, 3, 2, 0, 12, 0, 1]), (24, [0, 6], []), (24, [1, 7], []), (24, [2, 8], []), (100, [15, 22, 24], []), (20, [23, 6, 24], [50, 1, 1, 1010, 1001, 4, 11, 0, 6, 4, 2, 1, 0, 0, 1, 2, 1, 10, 1, 2, 1, 2, 9, 5, 3, 1, 1, 1, 0, 0, 256]), (20, [6, 23, 24], [50, 1, 0, 10, 4, 7, 0, 3, 2, 0, 10, 1, 1, 1, 2, 1, 2, 0, -1]), (1, [23, 13, 11], []), (1, [22, 21, 11], []), (1, [21, 18, 20], []), (3, [20, 19, 9], []), (1, [18, 16, 17], []), (7, [11, 14], [2]), (2, [14, 12, 13], []), (20, [6, 6], [30, 0, 1, 1, 15, -1, 1, 11]), (20, [6], [50, 3, 0, 12, 11, 15, 2, 21, 4, 7, 1, 3, 2, 0, 12, 0, 1, 0, 3, 2, 0, 11, 4, 3, 2, 0, 15, 0, 8, 3, 7, 1, 3, 2, 0, 12, 0, 0, 0, 7, 4, 3, 2, 0, 15, 0, 1, 2, 0, 11]), (20, [3, 6], [30, 0, 1, 0, 0, -1, 1, 11]), (20, [4, 6], [30, -1, 1, 0, 0, -1, 1, 11]), (20, [6], [50, 1, 0, 12, 1, 3, 2, 0, 12, 0, 1]), (20, [8, 6], [50, 1, 1, 1005, 1002, 3, 6, 0, 2, 1, 0, 0, -1, 0, 10, 3, 1, 2, 4, 3, 2, 1, 5, 0, 1, 0, 47]), (20, [7, 6], [50, 1, 1, 1005, 1002, 0, 6, 4, 2, 1, 0, 0, 1, 3, 1, 2, 4, 3, 2, 1, 5, 0, 2]), (20, [6, 9], [60, 1, 3, 200, 5, 2, 3, 4]), (20, [6, 8, 9], [60, 1, 1, 243, 5, 2]), (20, [6, 9, 11, 7, 5], [60, 8, 2, 1004, 10, 11, 12, 13, 14, 15, 8, 5, 1, 2])], [], [], [(20, [8, 6], [50, 1, 1, 1005, 1002, 3, 6, 0, 2, 1, 0, 0, -1, 0, 10, 3, 1, 2, 4, 3, 2, 1, 5, 0, 1, 0, 47]), (20, [7, 6], [50, 1, 1, 1005, 1002, 0, 6, 4, 2, 1, 0, 0, 1, 3, 1, 2, 4, 3, 2, 1, 5, 0, 2]), (20, [6, 9], [60, 1, 3, 200, 5, 2, 3, 4]), (20, [6, 8, 9], [60, 1, 1, 243, 5, 2]), (20, [6, 9, 25, 7, 5], [60, 8, 2, 1004, 10, 11, 12, 13, 14, 15, 8, 5, 1, 2])], [], [(25, 11, 1, 1), (25, 14, -4294967296, 0), (23, 11, 0, 2000), (23, 13, 0, 7), (22, 11, 3, 66484), (22, 14, -4294967296, 66483), (22, 21, 0, 7), (22, 20, 3, 66307), (22, 18, 0, 191), (22, 16, 3, 194), (21, 20, 3, 66300), (21, 18, 0, 184), (21, 16, 3, 187), (18, 16, 3, 3), (11, 14, -4294967296, -1), (14, 12, -2000, 0), (1, 7, -4294967296, 0), (7, 1, -4294967296, 0)])
theorem oo_Mo_met_at_g1_21 {kA : Nat → ClassId} : or_ok PRD kA GG o_Mo_met_at_g1_21 := by
  refine or_mk fun A ta ws vs hD hth hl => ?_
  intro t0 r0 t1 k1 t2 k2 t3 k3 t4 k4 t5 k5 t6 r6 t7 k7 t8 k8 t9 k9 t11 k11 t12 k12 t13 k13 t14 k14 t15 r15 t16 k16 t17 k17 t18 k18 t19 k19 t20 k20 t21 k21 t22 k22 t23 k23 t24 k24 t25 k25 d0 d1 d2 d3 d4 d5 d6 d7 d8 d9 d10 d11 d12 d13 d14 d15 d16 d17 f0 f1 f2 f3 f4 f5 f6 f7 f8 f9 f10 f11 f12 f13 f14 ta1 w1 le1 s1 f16 f17 f18 f19 f20 f21 f22 f23 f24 f25 f26 f27 f28 f29 f30 f31 f32 f33 f34
  replace f0 := shm_110 f0
  replace f1 := shm_120 f1
  replace f2 := shm_177 f2
  replace f3 := shm_116 f3
  replace f4 := shm_4 f4
  replace f5 := shm_541 f5
  replace f6 := shm_542 f6
  replace f7 := shm_1437 f7
  replace f8 := shm_1438 f8
  replace f9 := shm_1431 f9
  replace f10 := shm_2005 f10
  replace f11 := shm_1890 f11
  replace f12 := shm_5 f12
  replace f13 := shm_5 f13
  replace f14 := shm_5 f14
  have s1 : (∀ b j, w_el ws b j = if b = v_ad (n_v vs 15) ∧ j = (v_iv (n_v vs 22)).toNat then v_iv (n_v vs 24) else w_el w1 b j) ∧ ∀ b k, w_fd ws b k = w_fd w1 b k := s1.2
  replace f16 := shm_541 f16
  replace f17 := shm_542 f17
  replace f18 := shm_12 f18
  replace f19 := shm_12 f19
  replace f20 := shm_12 f20
  replace f21 := shm_38 f21
  rw [show v_iv (n_v vs 19) = 8 from by omega] at f21
  replace f22 := shm_12 f22
  replace f23 := shm_6 f23
  replace f24 := shm_14 f24
  replace f25 := shm_1437 f25
  replace f26 := shm_1438 f26
  replace f27 := shm_1431 f27
  replace f28 := shm_2005 f28
  replace f29 := shm_1890 f29
  replace f30 := shm_2114 f30
  replace f31 := shm_1009 f31
  replace f32 := shm_1803 f32
  replace f33 := shm_2115 f33
  replace f34 := shm_2123 f34
  have q6 : n_v vs 6 = n_v vs 0 := f12.symm
  have q7 : n_v vs 7 = n_v vs 1 := f13.symm
  have q8 : n_v vs 8 = n_v vs 2 := f14.symm
  simp only [q6, q8, q7] at f0 f1 f2 f3 f5 f6 f7 f8 f9 f10 f11 f16 f17 f25 f26 f27 f28 f29 f30 f31 f32 f33 f34
  have ar_0_1_1 : w_ar w1 (n_v vs 0) 1 = w_ar ws (n_v vs 0) 1 := congrArg v_ad (s1.2 _ _).symm
  have cr_0_1 := fdq_39 hD hth r0
  have ar_0_2_1 : w_ar w1 (n_v vs 0) 2 = w_ar ws (n_v vs 0) 2 := congrArg v_ad (s1.2 _ _).symm
  have cr_0_2 := fdq_10 hD hth r0
  have ar_0_3_1 : w_ar w1 (n_v vs 0) 3 = w_ar ws (n_v vs 0) 3 := congrArg v_ad (s1.2 _ _).symm
  have cr_0_3 := fdq_142 hD hth r0
  have ar_0_4_1 : w_ar w1 (n_v vs 0) 4 = w_ar ws (n_v vs 0) 4 := congrArg v_ad (s1.2 _ _).symm
  have cr_0_4 := fdq_143 hD hth r0
  have ad_15 : v_ad (n_v vs 15) = w_ar ws (n_v vs 0) 2 := congrArg v_ad f1
  have g0 : v_iv (n_v vs 16) = w_fi ws (n_v vs 0) 5 := congrArg v_iv f0
  have g2 : v_iv (n_v vs 13) = w_fi ws (n_v vs 0) 15 := congrArg v_iv f2
  have g3 : v_iv (n_v vs 12) = w_fi ws (n_v vs 0) 11 := congrArg v_iv f3
  simp only [ar_0_1_1, ar_0_2_1, ar_0_3_1, ar_0_4_1] at f16 f30 f31 f32 f33 f34
  have fe_0_5_1 : w_fi ws (n_v vs 0) 5 = w_fi w1 (n_v vs 0) 5 := congrArg v_iv (s1.2 _ _)
  have fe_0_8_1 : w_fi ws (n_v vs 0) 8 = w_fi w1 (n_v vs 0) 8 := congrArg v_iv (s1.2 _ _)
  have fe_0_10_1 : w_fi ws (n_v vs 0) 10 = w_fi w1 (n_v vs 0) 10 := congrArg v_iv (s1.2 _ _)
  have fe_0_11_1 : w_fi ws (n_v vs 0) 11 = w_fi w1 (n_v vs 0) 11 := congrArg v_iv (s1.2 _ _)
  have fe_0_12_1 : w_fi ws (n_v vs 0) 12 = w_fi w1 (n_v vs 0) 12 := congrArg v_iv (s1.2 _ _)
  have fe_0_13_1 : w_fi ws (n_v vs 0) 13 = w_fi w1 (n_v vs 0) 13 := congrArg v_iv (s1.2 _ _)
  have fe_0_14_1 : w_fi ws (n_v vs 0) 14 = w_fi w1 (n_v vs 0) 14 := congrArg v_iv (s1.2 _ _)
  have fe_0_15_1 : w_fi ws (n_v vs 0) 15 = w_fi w1 (n_v vs 0) 15 := congrArg v_iv (s1.2 _ _)
  have hE_0_1_1 : ∀ j : Int, w_ei ws (w_ar ws (n_v vs 0) 1) j = w_ei w1 (w_ar ws (n_v vs 0) 1) j := el_kp s1.1 r15 cr_0_1 (by decide)
  have hK_0_1 := elq_7 hD hth cr_0_1
  have hE_0_2_1 : ∀ j : Int, 0 ≤ j → (j = v_iv (n_v vs 22) → w_ei ws (w_ar ws (n_v vs 0) 2) j = v_iv (n_v vs 24)) ∧ (j ≠ v_iv (n_v vs 22) → w_ei ws (w_ar ws (n_v vs 0) 2) j = w_ei w1 (w_ar ws (n_v vs 0) 2) j) := fun j hj => ⟨fun h => by unfold w_ei; rw [s1.1, if_pos ⟨ad_15.symm, by rw [h]⟩], fun h => by unfold w_ei; rw [s1.1, if_neg (fun e => h (by have := e.2; omega))]⟩
  have hE_0_3_1 : ∀ j : Int, w_ei ws (w_ar ws (n_v vs 0) 3) j = w_ei w1 (w_ar ws (n_v vs 0) 3) j := el_kp s1.1 r15 cr_0_3 (by decide)
  have hK_0_3 := elq_80 hD hth cr_0_3
  have hE_0_4_1 : ∀ j : Int, w_ei ws (w_ar ws (n_v vs 0) 4) j = w_ei w1 (w_ar ws (n_v vs 0) 4) j := el_kp s1.1 r15 cr_0_4 (by decide)
  have hK_0_4 := elq_81 hD hth cr_0_4
  have kz_0_8 := fdq_34 hD hth r0
  have kz_0_10 := fdq_43 hD hth r0
  have kz_0_11 := fdq_237 hD hth r0
  have kz_0_12 := fdq_187 hD hth r0
  have kz_0_13 := fdq_238 hD hth r0
  have kz_0_14 := fdq_188 hD hth r0
  have kz_0_15 := fdq_239 hD hth r0
  first | have hJ0 : w_ei w1 (w_ar ws (n_v vs 0) 2) ((w_fi w1 (n_v vs 0) 5 + 1)) = w_ei w1 (w_ar ws (n_v vs 0) 2) ((w_fi ws (n_v vs 0) 5 + 1)) := congrArg _ (show ((w_fi w1 (n_v vs 0) 5 + 1) : Int) = (w_fi ws (n_v vs 0) 5 + 1) from by omega) | skip
  first | have hJ1 : w_ei w1 (w_ar ws (n_v vs 0) 2) ((w_fi w1 (n_v vs 0) 5 + 2)) = w_ei w1 (w_ar ws (n_v vs 0) 2) ((w_fi ws (n_v vs 0) 5 + 2)) := congrArg _ (show ((w_fi w1 (n_v vs 0) 5 + 2) : Int) = (w_fi ws (n_v vs 0) 5 + 2) from by omega) | skip
  have hI2 := hE_0_1_1 (v_iv (n_v vs 23))
  first | have hI3 := (hE_0_2_1 ((w_fi ws (n_v vs 0) 5 + 1)) (by omega)).2 (by omega) | have hI3 := (hE_0_2_1 ((w_fi ws (n_v vs 0) 5 + 1)) (by omega)).1 (by omega) | skip
  first | have hI4 := (hE_0_2_1 ((w_fi ws (n_v vs 0) 5 + 2)) (by omega)).2 (by omega) | have hI4 := (hE_0_2_1 ((w_fi ws (n_v vs 0) 5 + 2)) (by omega)).1 (by omega) | skip
  have nf0 : fc_1 PRD (20, [8, 6], [50, 1, 1, 1005, 1002, 3, 6, 0, 2, 1, 0, 0, -1, 0, 10, 3, 1, 2, 4, 3, 2, 1, 5, 0, 1, 0, 47]) ws (vs) := by
    refine ⟨nf_in hl rfl, sgq_2114 ?_⟩
    · show (v_iv (n_v vs 8) ≤ (-1)) ∨ (w_ei ws (w_ar ws (n_v vs 6) 2) ((w_fi ws (n_v vs 6) 5 + 1)) ≤ 47)
      simp only [q6, q8]
      exact vc_Mo_met_at_g1_21_0 (v_iv (n_v vs 2)) (v_iv (n_v vs 22)) (v_iv (n_v vs 24)) (w_fi ws (n_v vs 0) 5) (w_fi ws (n_v vs 0) 15) (w_fi ws (n_v vs 0) 11) (w_ei ws (w_ar ws (n_v vs 0) 1)) (w_fi ws (n_v vs 0) 10) (w_fi ws (n_v vs 0) 12) (w_ei w1 (w_ar ws (n_v vs 0) 1)) (w_fi w1 (n_v vs 0) 10) (w_fi w1 (n_v vs 0) 15) (w_fi w1 (n_v vs 0) 11) (w_fi w1 (n_v vs 0) 12) (w_ei w1 (w_ar ws (n_v vs 0) 2)) (w_fi w1 (n_v vs 0) 5) (w_ei w1 (w_ar ws (n_v vs 0) 3)) (w_ei w1 (w_ar ws (n_v vs 0) 4)) (w_fi w1 (n_v vs 0) 13) (w_fi w1 (n_v vs 0) 14) (w_fi w1 (n_v vs 0) 8) (w_fi ws (n_v vs 0) 8) (w_fi ws (n_v vs 0) 13) (w_fi ws (n_v vs 0) 14) (w_ei ws (w_ar ws (n_v vs 0) 2)) (w_ei ws (w_ar ws (n_v vs 0) 3)) (w_ei ws (w_ar ws (n_v vs 0) 4)) k2 k22 k24 fe_0_5_1 fe_0_8_1 fe_0_10_1 fe_0_11_1 fe_0_12_1 fe_0_13_1 fe_0_14_1 fe_0_15_1 hE_0_1_1 hE_0_2_1 hE_0_3_1 hE_0_4_1 kz_0_8 kz_0_10 kz_0_11 kz_0_12 kz_0_13 kz_0_14 kz_0_15
  have nf1 : fc_1 PRD (20, [7, 6], [50, 1, 1, 1005, 1002, 0, 6, 4, 2, 1, 0, 0, 1, 3, 1, 2, 4, 3, 2, 1, 5, 0, 2]) ws (vs) := by
    refine ⟨nf_in hl rfl, sgq_1009 ?_⟩
    · show (v_iv (n_v vs 7) + 1) ≤ w_ei ws (w_ar ws (n_v vs 6) 2) ((w_fi ws (n_v vs 6) 5 + 2))
      simp only [q6, q7]
      exact vc_Mo_met_at_g1_21_1 (v_iv (n_v vs 1)) (v_iv (n_v vs 7)) (v_iv (n_v vs 9)) (v_iv (n_v vs 11)) (v_iv (n_v vs 16)) (v_iv (n_v vs 18)) (v_iv (n_v vs 20)) (v_iv (n_v vs 21)) (v_iv (n_v vs 22)) (v_iv (n_v vs 24)) (v_iv (n_v vs 25)) (w_fi ws (n_v vs 0) 5) (w_fi ws (n_v vs 0) 15) (w_fi ws (n_v vs 0) 11) (w_ei ws (w_ar ws (n_v vs 0) 1)) (w_fi ws (n_v vs 0) 10) (w_fi ws (n_v vs 0) 12) (w_ei w1 (w_ar ws (n_v vs 0) 1)) (w_fi w1 (n_v vs 0) 10) (w_fi w1 (n_v vs 0) 15) (w_fi w1 (n_v vs 0) 11) (w_fi w1 (n_v vs 0) 12) (w_ei w1 (w_ar ws (n_v vs 0) 2)) (w_fi w1 (n_v vs 0) 5) (w_ei w1 (w_ar ws (n_v vs 0) 3)) (w_ei w1 (w_ar ws (n_v vs 0) 4)) (w_fi w1 (n_v vs 0) 13) (w_fi w1 (n_v vs 0) 14) (w_fi w1 (n_v vs 0) 8) (w_fi ws (n_v vs 0) 8) (w_fi ws (n_v vs 0) 13) (w_fi ws (n_v vs 0) 14) (w_ei ws (w_ar ws (n_v vs 0) 2)) (w_ei ws (w_ar ws (n_v vs 0) 3)) (w_ei ws (w_ar ws (n_v vs 0) 4)) k1 k7 k9 k11 k16 k18 k20 k21 k22 k24 k25 d0 d8 d13 d16 d17 g0 f19 f20 f21 f31 fe_0_5_1 fe_0_8_1 fe_0_10_1 fe_0_11_1 fe_0_12_1 fe_0_13_1 fe_0_14_1 fe_0_15_1 hE_0_1_1 hE_0_2_1 hE_0_3_1 hE_0_4_1 kz_0_8 kz_0_10 kz_0_11 kz_0_12 kz_0_13 kz_0_14 kz_0_15
  have nf2 : fc_1 PRD (20, [6, 9], [60, 1, 3, 200, 5, 2, 3, 4]) ws (vs) := by
    refine ⟨nf_in hl rfl, sgq_1803 ?_⟩
    · show RWN (w_fi ws (n_v vs 6) 5) (w_ei ws (w_ar ws (n_v vs 6) 2)) (w_ei ws (w_ar ws (n_v vs 6) 3)) (w_ei ws (w_ar ws (n_v vs 6) 4)) (v_iv (n_v vs 9))
      rw [q6]
      exact vc_Mo_met_at_g1_21_2 (v_iv (n_v vs 2)) (v_iv (n_v vs 9)) (v_iv (n_v vs 11)) (v_iv (n_v vs 16)) (v_iv (n_v vs 18)) (v_iv (n_v vs 20)) (v_iv (n_v vs 21)) (v_iv (n_v vs 22)) (v_iv (n_v vs 24)) (v_iv (n_v vs 25)) (w_fi ws (n_v vs 0) 5) (w_fi ws (n_v vs 0) 15) (w_fi ws (n_v vs 0) 11) (w_ei ws (w_ar ws (n_v vs 0) 1)) (w_fi ws (n_v vs 0) 10) (w_fi ws (n_v vs 0) 12) (w_ei w1 (w_ar ws (n_v vs 0) 1)) (w_fi w1 (n_v vs 0) 10) (w_fi w1 (n_v vs 0) 15) (w_fi w1 (n_v vs 0) 11) (w_fi w1 (n_v vs 0) 12) (w_ei w1 (w_ar ws (n_v vs 0) 2)) (w_fi w1 (n_v vs 0) 5) (w_ei w1 (w_ar ws (n_v vs 0) 3)) (w_ei w1 (w_ar ws (n_v vs 0) 4)) (w_fi w1 (n_v vs 0) 13) (w_fi w1 (n_v vs 0) 14) (w_fi w1 (n_v vs 0) 8) (w_fi ws (n_v vs 0) 8) (w_fi ws (n_v vs 0) 13) (w_fi ws (n_v vs 0) 14) (w_ei ws (w_ar ws (n_v vs 0) 2)) (w_ei ws (w_ar ws (n_v vs 0) 3)) (w_ei ws (w_ar ws (n_v vs 0) 4)) k2 k9 k11 k16 k18 k20 k21 k22 k24 k25 d0 d9 d13 g0 f19 f20 f21 f32 f33 fe_0_5_1 fe_0_8_1 fe_0_10_1 fe_0_11_1 fe_0_12_1 fe_0_13_1 fe_0_14_1 fe_0_15_1 hE_0_1_1 hE_0_2_1 hE_0_3_1 hE_0_4_1 kz_0_8 kz_0_10 kz_0_11 kz_0_12 kz_0_13 kz_0_14 kz_0_15
  have nf3 : fc_1 PRD (20, [6, 8, 9], [60, 1, 1, 243, 5, 2]) ws (vs) := by
    refine ⟨nf_in hl rfl, sgq_2115 ?_⟩
    · show MEN (w_fi ws (n_v vs 6) 5) (w_ei ws (w_ar ws (n_v vs 6) 2)) (v_iv (n_v vs 8)) (v_iv (n_v vs 9))
      simp only [q6, q8]
      exact vc_Mo_met_at_g1_21_3 (v_iv (n_v vs 2)) (v_iv (n_v vs 9)) (v_iv (n_v vs 11)) (v_iv (n_v vs 16)) (v_iv (n_v vs 18)) (v_iv (n_v vs 20)) (v_iv (n_v vs 21)) (v_iv (n_v vs 22)) (v_iv (n_v vs 24)) (v_iv (n_v vs 25)) (w_fi ws (n_v vs 0) 5) (w_fi ws (n_v vs 0) 15) (w_fi ws (n_v vs 0) 11) (w_ei ws (w_ar ws (n_v vs 0) 1)) (w_fi ws (n_v vs 0) 10) (w_fi ws (n_v vs 0) 12) (w_ei w1 (w_ar ws (n_v vs 0) 1)) (w_fi w1 (n_v vs 0) 10) (w_fi w1 (n_v vs 0) 15) (w_fi w1 (n_v vs 0) 11) (w_fi w1 (n_v vs 0) 12) (w_ei w1 (w_ar ws (n_v vs 0) 2)) (w_fi w1 (n_v vs 0) 5) (w_ei w1 (w_ar ws (n_v vs 0) 3)) (w_ei w1 (w_ar ws (n_v vs 0) 4)) (w_fi w1 (n_v vs 0) 13) (w_fi w1 (n_v vs 0) 14) (w_fi w1 (n_v vs 0) 8) (w_fi ws (n_v vs 0) 8) (w_fi ws (n_v vs 0) 13) (w_fi ws (n_v vs 0) 14) (w_ei ws (w_ar ws (n_v vs 0) 2)) (w_ei ws (w_ar ws (n_v vs 0) 3)) (w_ei ws (w_ar ws (n_v vs 0) 4)) k2 k9 k11 k16 k18 k20 k21 k22 k24 k25 d0 d9 d13 g0 f19 f20 f21 f32 f33 fe_0_5_1 fe_0_8_1 fe_0_10_1 fe_0_11_1 fe_0_12_1 fe_0_13_1 fe_0_14_1 fe_0_15_1 hE_0_1_1 hE_0_2_1 hE_0_3_1 hE_0_4_1 kz_0_8 kz_0_10 kz_0_11 kz_0_12 kz_0_13 kz_0_14 kz_0_15
  have nf4 : fc_1 PRD (20, [6, 9, 25, 7, 5], [60, 8, 2, 1004, 10, 11, 12, 13, 14, 15, 8, 5, 1, 2]) ws (vs) := by
    refine ⟨nf_in hl rfl, sgq_2123 ?_⟩
    · show zMN1 (w_fi ws (n_v vs 6) 10) (w_fi ws (n_v vs 6) 11) (w_fi ws (n_v vs 6) 12) (w_fi ws (n_v vs 6) 13) (w_fi ws (n_v vs 6) 14) (w_fi ws (n_v vs 6) 15) (w_fi ws (n_v vs 6) 8) (w_fi ws (n_v vs 6) 5) (w_ei ws (w_ar ws (n_v vs 6) 1)) (w_ei ws (w_ar ws (n_v vs 6) 2)) (v_iv (n_v vs 9)) (v_iv (n_v vs 25)) (v_iv (n_v vs 7)) (v_iv (n_v vs 5))
      simp only [q6, q7]
      exact vc_Mo_met_at_g1_21_4 (v_iv (n_v vs 1)) (v_iv (n_v vs 5)) (v_iv (n_v vs 9)) (v_iv (n_v vs 11)) (v_iv (n_v vs 12)) (v_iv (n_v vs 13)) (v_iv (n_v vs 14)) (v_iv (n_v vs 16)) (v_iv (n_v vs 18)) (v_iv (n_v vs 20)) (v_iv (n_v vs 21)) (v_iv (n_v vs 22)) (v_iv (n_v vs 23)) (v_iv (n_v vs 24)) (v_iv (n_v vs 25)) (w_fi ws (n_v vs 0) 5) (w_fi ws (n_v vs 0) 15) (w_fi ws (n_v vs 0) 11) (w_ei ws (w_ar ws (n_v vs 0) 1)) (w_fi ws (n_v vs 0) 10) (w_fi ws (n_v vs 0) 12) (w_ei w1 (w_ar ws (n_v vs 0) 1)) (w_fi w1 (n_v vs 0) 10) (w_fi w1 (n_v vs 0) 15) (w_fi w1 (n_v vs 0) 11) (w_fi w1 (n_v vs 0) 12) (w_ei w1 (w_ar ws (n_v vs 0) 2)) (w_fi w1 (n_v vs 0) 5) (w_ei w1 (w_ar ws (n_v vs 0) 3)) (w_ei w1 (w_ar ws (n_v vs 0) 4)) (w_fi w1 (n_v vs 0) 13) (w_fi w1 (n_v vs 0) 14) (w_fi w1 (n_v vs 0) 8) (w_fi ws (n_v vs 0) 8) (w_fi ws (n_v vs 0) 13) (w_fi ws (n_v vs 0) 14) (w_ei ws (w_ar ws (n_v vs 0) 2)) (w_ei ws (w_ar ws (n_v vs 0) 3)) (w_ei ws (w_ar ws (n_v vs 0) 4)) k1 k5 k9 k11 k12 k13 k14 k16 k18 k20 k21 k22 k23 k24 k25 d0 d13 d14 g0 g2 g3 f4 f16 f18 f19 f20 f21 f24 f29 f34 fe_0_5_1 fe_0_8_1 fe_0_10_1 fe_0_11_1 fe_0_12_1 fe_0_13_1 fe_0_14_1 fe_0_15_1 hE_0_1_1 hE_0_2_1 hE_0_3_1 hE_0_4_1 kz_0_8 kz_0_10 kz_0_11 kz_0_12 kz_0_13 kz_0_14 kz_0_15
  refine ⟨(fun _ h => (by cases h)), [], trivial, ?_, (fun _ h => (by cases h))⟩
  rw [List.append_nil]
  exact List.forall_mem_cons.mpr ⟨⟨show (20 : Nat) < 100 from by decide, nf0⟩, List.forall_mem_cons.mpr ⟨⟨show (20 : Nat) < 100 from by decide, nf1⟩, List.forall_mem_cons.mpr ⟨⟨show (20 : Nat) < 100 from by decide, nf2⟩, List.forall_mem_cons.mpr ⟨⟨show (20 : Nat) < 100 from by decide, nf3⟩, List.forall_mem_cons.mpr ⟨⟨show (20 : Nat) < 100 from by decide, nf4⟩, (fun _ h => (by cases h))⟩⟩⟩⟩⟩
def n_Mo_met_at_g1_an : List an_T := [(171, [(0, (2, 0, 0, [165])), (1, (0, 0, 7, [])), (2, (0, (Int.negSucc 0), (Int.negSucc 0), [])), (3, (0, 0, 23, [])), (4, (0, 0, 0, [])), (5, (0, 0, 8, []))], [], (0, 0), [(0, 0, 99829), (1, 11, 8), (0, 0, 100000)], [(1, 7, (Int.negSucc 999999999999), 0), (7, 1, (Int.negSucc 999999999999), 0)], [], [(2, 0, 0, [165]), (0, 0, 7, []), (0, (Int.negSucc 0), (Int.negSucc 0), []), (0, 0, 2000, []), (0, 0, 2000, []), (0, 0, 4, [])], 0, [], [(20, [6, 6], [30, 0, 1, 1, 15, (Int.negSucc 0), 1, 11]), (20, [6], [50, 3, 0, 12, 11, 15, 2, 21, 4, 7, 1, 3, 2, 0, 12, 0, 1, 0, 3, 2, 0, 11, 4, 3, 2, 0, 15, 0, 8, 3, 7, 1, 3, 2, 0, 12, 0, 0, 0, 7, 4, 3, 2, 0, 15, 0, 1, 2, 0, 11]), (20, [3, 6], [30, 0, 1, 0, 0, (Int.negSucc 0), 1, 11]), (20, [4, 6], [30, (Int.negSucc 0), 1, 0, 0, (Int.negSucc 0), 1, 11]), (20, [6], [50, 1, 0, 12, 1, 3, 2, 0, 12, 0, 1]), (20, [8, 6], [50, 1, 1, 1005, 1002, 3, 6, 0, 2, 1, 0, 0, (Int.negSucc 0), 0, 10, 3, 1, 2, 4, 3, 2, 1, 5, 0, 1, 0, 47]), (20, [7, 6], [50, 1, 1, 1005, 1002, 0, 6, 4, 2, 1, 0, 0, 1, 3, 1, 2, 4, 3, 2, 1, 5, 0, 2]), (20, [6, 9], [60, 1, 3, 200, 5, 2, 3, 4]), (20, [6, 8, 9], [60, 1, 1, 243, 5, 2]), (20, [6, 9, 11, 7, 5], [60, 8, 2, 1004, 10, 11, 12, 13, 14, 15, 8, 5, 1, 2]), (24, [0, 6], []), (24, [1, 7], []), (24, [2, 8], [])])]
def t_Mo_met_at_g1_ct : ct_L := [(1, 425, e_Mo_byteAt), (1, 460, e_Mo_next), (1, 463, e_Mo_wrong), (1, 475, e_Mo_nodes), (1, 481, e_Mo_isName), (1, 485, e_Mo_known)]
set_option maxRecDepth 100000 in
theorem c_Mo_met_at_g1 {l : Launch} {D : va_G} {kA : Nat → ClassId} (h_Mo_byteAt : ct_ok PRD l D kA GG y_Mo_byteAt z_Mo_byteAt e_Mo_byteAt) (h_Mo_isName : ct_ok PRD l D kA GG y_Mo_isName z_Mo_isName e_Mo_isName) (h_Mo_known : ct_ok PRD l D kA GG y_Mo_known z_Mo_known e_Mo_known) (h_Mo_next : ct_ok PRD l D kA GG y_Mo_next z_Mo_next e_Mo_next) (h_Mo_nodes : ct_ok PRD l D kA GG y_Mo_nodes z_Mo_nodes e_Mo_nodes) (h_Mo_wrong : ct_ok PRD l D kA GG y_Mo_wrong z_Mo_wrong e_Mo_wrong) : ct_ok PRD l D kA GG y_Mo_met_at_g1 z_Mo_met_at_g1 e_Mo_met_at_g1 := chk_all_ok (FT := [(16, 13, 2), (391, 13, 5), (413, 13, 8), (422, 13, 11), (428, 13, 13), (431, 13, 15)]) (PT := []) (CT := t_Mo_met_at_g1_ct) (KT := []) (NT := []) (AN := n_Mo_met_at_g1_an) (OT := [o_Mo_met_at_g1_0, o_Mo_met_at_g1_1, o_Mo_met_at_g1_2, o_Mo_met_at_g1_3, o_Mo_met_at_g1_4, o_Mo_met_at_g1_5, o_Mo_met_at_g1_6, o_Mo_met_at_g1_7, o_Mo_met_at_g1_8, o_Mo_met_at_g1_9, o_Mo_met_at_g1_10, o_Mo_met_at_g1_11, o_Mo_met_at_g1_12, o_Mo_met_at_g1_13, o_Mo_met_at_g1_14, o_Mo_met_at_g1_15, o_Mo_met_at_g1_16, o_Mo_met_at_g1_17, o_Mo_met_at_g1_18, o_Mo_met_at_g1_19, o_Mo_met_at_g1_20, o_Mo_met_at_g1_21]) 3 716 (List.forall_mem_cons.mpr ⟨oo_Mo_met_at_g1_0, List.forall_mem_cons.mpr ⟨oo_Mo_met_at_g1_1, List.forall_mem_cons.mpr ⟨oo_Mo_met_at_g1_2, List.forall_mem_cons.mpr ⟨oo_Mo_met_at_g1_3, List.forall_mem_cons.mpr ⟨oo_Mo_met_at_g1_4, List.forall_mem_cons.mpr ⟨oo_Mo_met_at_g1_5, List.forall_mem_cons.mpr ⟨oo_Mo_met_at_g1_6, List.forall_mem_cons.mpr ⟨oo_Mo_met_at_g1_7, List.forall_mem_cons.mpr ⟨oo_Mo_met_at_g1_8, List.forall_mem_cons.mpr ⟨oo_Mo_met_at_g1_9, List.forall_mem_cons.mpr ⟨oo_Mo_met_at_g1_10, List.forall_mem_cons.mpr ⟨oo_Mo_met_at_g1_11, List.forall_mem_cons.mpr ⟨oo_Mo_met_at_g1_12, List.forall_mem_cons.mpr ⟨oo_Mo_met_at_g1_13, List.forall_mem_cons.mpr ⟨oo_Mo_met_at_g1_14, List.forall_mem_cons.mpr ⟨oo_Mo_met_at_g1_15, List.forall_mem_cons.mpr ⟨oo_Mo_met_at_g1_16, List.forall_mem_cons.mpr ⟨oo_Mo_met_at_g1_17, List.forall_mem_cons.mpr ⟨oo_Mo_met_at_g1_18, List.forall_mem_cons.mpr ⟨oo_Mo_met_at_g1_19, List.forall_mem_cons.mpr ⟨oo_Mo_met_at_g1_20, List.forall_mem_cons.mpr ⟨oo_Mo_met_at_g1_21, List.forall_mem_nil _⟩⟩⟩⟩⟩⟩⟩⟩⟩⟩⟩⟩⟩⟩⟩⟩⟩⟩⟩⟩⟩⟩) (by decide +kernel) ⟨List.forall_mem_cons.mpr ⟨gf_Mo_16, List.forall_mem_cons.mpr ⟨gf_Mo_391, List.forall_mem_cons.mpr ⟨gf_Mo_413, List.forall_mem_cons.mpr ⟨gf_Mo_422, List.forall_mem_cons.mpr ⟨gf_Mo_428, List.forall_mem_cons.mpr ⟨gf_Mo_431, List.forall_mem_nil _⟩⟩⟩⟩⟩⟩, List.forall_mem_nil _, List.forall_mem_cons.mpr ⟨cl_virtual (y := y_Mo_byteAt) (ci := 13) rfl rfl ⟨_, _, rfl⟩ (by decide +kernel) h_Mo_byteAt wm_2986 wm_9 wm_2983 wm_2985 wv_12_12 ⟨by decide, by decide, by decide +kernel⟩ (by decide), List.forall_mem_cons.mpr ⟨cl_virtual (y := y_Mo_next) (ci := 13) rfl rfl ⟨_, _, rfl⟩ (by decide +kernel) h_Mo_next wm_2982 wm_9 wm_2979 wm_2981 wv_12_11 ⟨by decide, by decide, by decide +kernel⟩ (by decide), List.forall_mem_cons.mpr ⟨cl_virtual (y := y_Mo_wrong) (ci := 13) rfl rfl ⟨_, _, rfl⟩ (by decide +kernel) h_Mo_wrong wm_3017 wm_9 wm_3014 wm_3016 wv_13_1 ⟨by decide, by decide, by decide +kernel⟩ (by decide), List.forall_mem_cons.mpr ⟨cl_virtual (y := y_Mo_nodes) (ci := 13) rfl rfl ⟨_, _, rfl⟩ (by decide +kernel) h_Mo_nodes wm_3025 wm_9 wm_3022 wm_3024 wv_13_3 ⟨by decide, by decide, by decide +kernel⟩ (by decide), List.forall_mem_cons.mpr ⟨cl_virtual (y := y_Mo_isName) (ci := 13) rfl rfl ⟨_, _, rfl⟩ (by decide +kernel) h_Mo_isName wm_3012 wm_9 wm_3009 wm_3011 wv_13_0 ⟨by decide, by decide, by decide +kernel⟩ (by decide), List.forall_mem_cons.mpr ⟨cl_virtual (y := y_Mo_known) (ci := 13) rfl rfl ⟨_, _, rfl⟩ (by decide +kernel) h_Mo_known wm_3021 wm_9 wm_3018 wm_3020 wv_13_2 ⟨by decide, by decide, by decide +kernel⟩ (by decide), List.forall_mem_nil _⟩⟩⟩⟩⟩⟩, List.forall_mem_nil _, List.forall_mem_nil _, GG_pl⟩ (by decide +kernel)

set_option maxHeartbeats 4000000 in
theorem vc_Mo_met_at_g4_0_0 (x1 : Int) (x2 : Int) (x5 : Int) (x6 : Int) (x7 : Int) (x8 : Int) (x9 : Int) (x10 : Int) (x12 : Int) (x14 : Int) (x15 : Int) (fault_0 : Int) (place_0 : Int) (all_0 : Int → Int) (r_0 : Int) (tape_0 : Int → Int) (pos_0 : Int) (limit_0 : Int) (from_0 : Int) (kind_0 : Int) (value_0 : Int) (gx : Int) (k1 : 0 ≤ x1 ∧ x1 ≤ 7) (k2 : (-1) ≤ x2 ∧ x2 ≤ 23) (k5 : 0 ≤ x5 ∧ x5 ≤ 4) (k6 : 0 ≤ x6 ∧ x6 ≤ 48) (k7 : 0 ≤ x7 ∧ x7 ≤ 1) (k8 : 0 ≤ x8 ∧ x8 ≤ 0) (k9 : 1 ≤ x9 ∧ x9 ≤ 1) (k10 : (-1) ≤ x10 ∧ x10 ≤ (-1)) (k12 : 24 ≤ x12 ∧ x12 ≤ 24) (k14 : 3 ≤ x14 ∧ x14 ≤ 3) (k15 : 0 ≤ x15 ∧ x15 ≤ 2000) (g0 : x8 = fault_0) (g1 : x15 = place_0) (f3 : 1 * x12 + ((-1) * all_0 (r_0 + 0) + 0) ≤ 0) (f4 : (-1) * x12 + (1 * all_0 (r_0 + 0) + 0) ≤ 0) (f6 : x10 < 0) (f8 : KNQ (pos_0) (limit_0) (from_0) (r_0) (all_0) (tape_0) (x10)) (f9 : x9 ≠ 0) (f17 : zRS4 (limit_0) (pos_0) (kind_0) (place_0) (value_0) (from_0) (fault_0) (r_0) (tape_0) (all_0) (x2) (x6) (x7) (x1) (x5)) (f20 : NMQ (kind_0) (pos_0) (limit_0) (from_0) (tape_0) (x9)) (kz_0_8 : 0 ≤ fault_0 ∧ fault_0 ≤ 5) (kz_0_10 : 0 ≤ limit_0 ∧ limit_0 ≤ 2000) (kz_0_11 : 0 ≤ pos_0 ∧ pos_0 ≤ 2000) (kz_0_12 : 0 ≤ kind_0 ∧ kind_0 ≤ 4) (kz_0_13 : 0 ≤ place_0 ∧ place_0 ≤ 2000) (kz_0_14 : (-49) ≤ value_0 ∧ value_0 ≤ 1048575) (kz_0_15 : 0 ≤ from_0 ∧ from_0 ≤ 2000) (ex2 : gx = fault_0) : FSX (limit_0) (tape_0) (x14) (x15) := by
  first | subst g0 | skip
  first | subst g1 | skip
  first | subst ex2 | skip
  first
    | exact fsx_cg (met_full0 ‹zRSE _ _ _ _ _ _ _ _ _ _ _ _› ‹NMQ _ _ _ _ _ _› (by omega) ‹KNQ _ _ _ _ _ _ _› (by omega) (by omega)) (by omega) (by omega)
    | exact fsx_cg (met_full1 ‹zRS1 _ _ _ _ _ _ _ _ _ _ _ _› ‹NMQ _ _ _ _ _ _› (by omega) ‹KNQ _ _ _ _ _ _ _› (by omega) (by omega)) (by omega) (by omega)
    | exact fsx_cg (met_full4 ‹zRS4 _ _ _ _ _ _ _ _ _ _ _ _ _ _ _› ‹NMQ _ _ _ _ _ _› (by omega) ‹KNQ _ _ _ _ _ _ _› (Or.inl (by omega)) (Or.inl ⟨by omega, by omega⟩)) (by omega) (by omega)
    | exact fsx_cg (met_full4 ‹zRS4 _ _ _ _ _ _ _ _ _ _ _ _ _ _ _› ‹NMQ _ _ _ _ _ _› (by omega) ‹KNQ _ _ _ _ _ _ _› (Or.inl (by omega)) (Or.inr (by omega))) (by omega) (by omega)
    | exact fsx_cg (met_full4 ‹zRS4 _ _ _ _ _ _ _ _ _ _ _ _ _ _ _› ‹NMQ _ _ _ _ _ _› (by omega) ‹KNQ _ _ _ _ _ _ _› (Or.inr ⟨by omega, _, by omega, ‹BT2 _ _ _ _ _›⟩) (Or.inr (by omega))) (by omega) (by omega)
    | (exfalso; omega)
set_option maxHeartbeats 4000000 in
theorem vc_Mo_met_at_g4_0_1 (x8 : Int) (fault_0 : Int) (r_0 : Int) (gx : Int) (k8 : 0 ≤ x8 ∧ x8 ≤ 0) (g0 : x8 = fault_0) (kz_0_8 : 0 ≤ fault_0 ∧ fault_0 ≤ 5) (ex2 : gx = fault_0) : 1 * fault_0 + ((-1) * gx + 0) ≤ 0 := by
  first
    | omega
    | (have q1 := (hE_0_2_1 (r_0 + 2) (by omega)).2 (by omega)
       have q2 := (hE_0_2_2 (r_0 + 2) (by omega)).2 (by omega)
       omega)
    | (have q1 := (hE_0_2_1 (r_0 + 1) (by omega)).2 (by omega)
       have q2 := (hE_0_2_2 (r_0 + 1) (by omega)).2 (by omega)
       omega)
    | (have q1 := (hE_0_2_1 (r_0 + 2) (by omega)).2 (by omega)
       omega)
    | (have q1 := (hE_0_2_1 (r_0 + 1) (by omega)).2 (by omega)
       omega)
    | (have q1 := (hE_0_2_1 (r_0 + 2) (by omega)).2 (by omega)
       have q2 := (hE_0_2_2 (r_0 + 2) (by omega)).2 (by omega)
       have q3 := (hE_0_2_3 (r_0 + 2) (by omega)).1 (by omega)
       omega)
    | (have q1 := (hE_0_2_1 (r_0 + 2) (by omega)).2 (by omega)
       have q2 := (hE_0_2_2 (r_0 + 2) (by omega)).2 (by omega)
       have q3 := (hE_0_2_3 (r_0 + 2) (by omega)).2 (by omega)
       omega)
set_option maxHeartbeats 4000000 in
theorem vc_Mo_met_at_g4_0_2 (x8 : Int) (fault_0 : Int) (r_0 : Int) (gx : Int) (k8 : 0 ≤ x8 ∧ x8 ≤ 0) (g0 : x8 = fault_0) (kz_0_8 : 0 ≤ fault_0 ∧ fault_0 ≤ 5) (ex2 : gx = fault_0) : (-1) * fault_0 + (1 * gx + 0) ≤ 0 := by
  first
    | omega
    | (have q1 := (hE_0_2_1 (r_0 + 2) (by omega)).2 (by omega)
       have q2 := (hE_0_2_2 (r_0 + 2) (by omega)).2 (by omega)
       omega)
    | (have q1 := (hE_0_2_1 (r_0 + 1) (by omega)).2 (by omega)
       have q2 := (hE_0_2_2 (r_0 + 1) (by omega)).2 (by omega)
       omega)
    | (have q1 := (hE_0_2_1 (r_0 + 2) (by omega)).2 (by omega)
       omega)
    | (have q1 := (hE_0_2_1 (r_0 + 1) (by omega)).2 (by omega)
       omega)
    | (have q1 := (hE_0_2_1 (r_0 + 2) (by omega)).2 (by omega)
       have q2 := (hE_0_2_2 (r_0 + 2) (by omega)).2 (by omega)
       have q3 := (hE_0_2_3 (r_0 + 2) (by omega)).1 (by omega)
       omega)
    | (have q1 := (hE_0_2_1 (r_0 + 2) (by omega)).2 (by omega)
       have q2 := (hE_0_2_2 (r_0 + 2) (by omega)).2 (by omega)
       have q3 := (hE_0_2_3 (r_0 + 2) (by omega)).2 (by omega)
       omega)
set_option maxHeartbeats 4000000 in
theorem vc_Mo_met_at_g4_0_3 (x8 : Int) (fault_0 : Int) (gx : Int) (k8 : 0 ≤ x8 ∧ x8 ≤ 0) (g0 : x8 = fault_0) (kz_0_8 : 0 ≤ fault_0 ∧ fault_0 ≤ 5) (ex2 : gx = fault_0) : ZH0 (gx) := by
  first
    | exact ⟨by omega, by omega, trivial⟩
    | (have h := (rsq_0 (‹zRSE _ _ _ _ _ _ _ _ _ _ _ _›).1.1).1; exact ⟨by omega, by omega, trivial⟩)
    | (have h := (rsq_0 ‹zRS1 _ _ _ _ _ _ _ _ _ _ _ _›).1; exact ⟨by omega, by omega, trivial⟩)
    | (have h := (rsq_0 ‹zRS4 _ _ _ _ _ _ _ _ _ _ _ _ _ _ _›).1; exact ⟨by omega, by omega, trivial⟩)
def o_Mo_met_at_g4_0 : or_T := (110, 16, [(0, (2, 0, 0, [165])), (1, (0, 0, 7, [])), (2, (0, -1, 23, [])), (5, (0, 0, 4, [])), (6, (0, 0, 48, [])), (7, (0, 0, 1, [])), (8, (0, 0, 0, [])), (9, (0, 1, 1, [])), (10, (0, -1, -1, [])), (12, (0, 24, 24, [])), (14, (0, 3, 3, [])), (15, (0, 0, 2000, []))], [(9, [8, 0], [8]), (9, [15, 0], [13]), (20, [12, 0], [30, 0, 1, 0, 0, -1, 3, 2005000]), (20, [12, 0], [30, 0, -1, 0, 0, 1, 3, 2005000]), (8, [10], [2]), (20, [0, 10], [60, 4, 2, 1031, 11, 10, 15, 5, 2, 1]), (8, [9], [1]), (20, [0, 2, 6, 7, 1, 5], [60, 8, 2, 993, 10, 11, 12, 13, 14, 15, 8, 5, 1, 2]), (20, [0, 9], [60, 4, 1, 962, 12, 11, 10, 15, 1])], [], [(0, 0, 5, [])], [(20, [0, 14, 15], [60, 1, 1, 1026, 10, 1]), (20, [0, 16], [30, 0, 1, 1, 8, -1, 0, 0]), (20, [0, 16], [30, 0, -1, 1, 8, 1, 0, 0]), (20, [16], [61, 0, 1029])], [], [])
theorem oo_Mo_met_at_g4_0 {kA : Nat → ClassId} : or_ok PRD kA GG o_Mo_met_at_g4_0 := by
  refine or_mk fun A ta ws vs hD hth hl => ?_
  intro t0 r0 t1 k1 t2 k2 t5 k5 t6 k6 t7 k7 t8 k8 t9 k9 t10 k10 t12 k12 t14 k14 t15 k15 f0 f1 f3 f4 f6 f8 f9 f17 f20
  replace f0 := shm_293 f0
  replace f1 := shm_361 f1
  replace f3 := shm_126 f3
  replace f4 := shm_127 f4
  replace f6 := shm_39 f6
  replace f8 := shm_1233 f8
  replace f9 := shm_142 f9
  replace f17 := shm_2126 f17
  replace f20 := shm_1889 f20
  have g0 : v_iv (n_v vs 8) = w_fi ws (n_v vs 0) 8 := congrArg v_iv f0
  have g1 : v_iv (n_v vs 15) = w_fi ws (n_v vs 0) 13 := congrArg v_iv f1
  have kz_0_8 := fdq_34 hD hth r0
  have kz_0_10 := fdq_43 hD hth r0
  have kz_0_11 := fdq_237 hD hth r0
  have kz_0_12 := fdq_187 hD hth r0
  have kz_0_13 := fdq_238 hD hth r0
  have kz_0_14 := fdq_188 hD hth r0
  have kz_0_15 := fdq_239 hD hth r0
  obtain ⟨x, ex, hx⟩ := iv_ex (ta := ta) (lo := 0) (hi := 5) (z := w_fi ws (n_v vs 0) 8) (by omega) (by omega) (by omega) (by omega)
  have ex2 : v_iv (Value.int x) = w_fi ws (n_v vs 0) 8 := ex
  have ex3 : 0 ≤ v_iv (Value.int x) ∧ v_iv (Value.int x) ≤ 5 := tv_rng hx
  have e_0 : n_v (vs ++ [Value.int x]) 0 = n_v vs 0 := n_v_old (by rw [hl]; decide)
  have e_14 : n_v (vs ++ [Value.int x]) 14 = n_v vs 14 := n_v_old (by rw [hl]; decide)
  have e_15 : n_v (vs ++ [Value.int x]) 15 = n_v vs 15 := n_v_old (by rw [hl]; decide)
  have e_16 : n_v (vs ++ [Value.int x]) 16 = Value.int x := n_v_new hl
  have nf0 : fc_1 PRD (20, [0, 14, 15], [60, 1, 1, 1026, 10, 1]) ws (vs ++ [Value.int x]) := by
    refine ⟨nf_inA hl rfl, sgq_1724 ?_⟩
    · show FSX (w_fi ws (n_v (vs ++ [Value.int x]) 0) 10) (w_ei ws (w_ar ws (n_v (vs ++ [Value.int x]) 0) 1)) (v_iv (n_v (vs ++ [Value.int x]) 14)) (v_iv (n_v (vs ++ [Value.int x]) 15))
      simp only [e_0, e_14, e_15]
      exact vc_Mo_met_at_g4_0_0 (v_iv (n_v vs 1)) (v_iv (n_v vs 2)) (v_iv (n_v vs 5)) (v_iv (n_v vs 6)) (v_iv (n_v vs 7)) (v_iv (n_v vs 8)) (v_iv (n_v vs 9)) (v_iv (n_v vs 10)) (v_iv (n_v vs 12)) (v_iv (n_v vs 14)) (v_iv (n_v vs 15)) (w_fi ws (n_v vs 0) 8) (w_fi ws (n_v vs 0) 13) (w_ei ws (w_ar ws (n_v vs 0) 2)) (w_fi ws (n_v vs 0) 5) (w_ei ws (w_ar ws (n_v vs 0) 1)) (w_fi ws (n_v vs 0) 11) (w_fi ws (n_v vs 0) 10) (w_fi ws (n_v vs 0) 15) (w_fi ws (n_v vs 0) 12) (w_fi ws (n_v vs 0) 14) (v_iv (Value.int x)) k1 k2 k5 k6 k7 k8 k9 k10 k12 k14 k15 g0 g1 f3 f4 f6 f8 f9 f17 f20 kz_0_8 kz_0_10 kz_0_11 kz_0_12 kz_0_13 kz_0_14 kz_0_15 ex2
  have nf1 : fc_1 PRD (20, [0, 16], [30, 0, 1, 1, 8, -1, 0, 0]) ws (vs ++ [Value.int x]) := by
    refine ⟨nf_inA hl rfl, sgq_303 ?_⟩
    · show 1 * w_fi ws (n_v (vs ++ [Value.int x]) 0) 8 + ((-1) * v_iv (n_v (vs ++ [Value.int x]) 16) + 0) ≤ 0
      simp only [e_0, e_16]
      exact vc_Mo_met_at_g4_0_1 (v_iv (n_v vs 8)) (w_fi ws (n_v vs 0) 8) (w_fi ws (n_v vs 0) 5) (v_iv (Value.int x)) k8 g0 kz_0_8 ex2
  have nf2 : fc_1 PRD (20, [0, 16], [30, 0, -1, 1, 8, 1, 0, 0]) ws (vs ++ [Value.int x]) := by
    refine ⟨nf_inA hl rfl, sgq_304 ?_⟩
    · show (-1) * w_fi ws (n_v (vs ++ [Value.int x]) 0) 8 + (1 * v_iv (n_v (vs ++ [Value.int x]) 16) + 0) ≤ 0
      simp only [e_0, e_16]
      exact vc_Mo_met_at_g4_0_2 (v_iv (n_v vs 8)) (w_fi ws (n_v vs 0) 8) (w_fi ws (n_v vs 0) 5) (v_iv (Value.int x)) k8 g0 kz_0_8 ex2
  have nf3 : fc_1 PRD (20, [16], [61, 0, 1029]) ws (vs ++ [Value.int x]) := by
    refine ⟨nf_inA hl rfl, sgq_1725 ?_⟩
    · show ZH0 (v_iv (n_v (vs ++ [Value.int x]) 16))
      rw [e_16]
      exact vc_Mo_met_at_g4_0_3 (v_iv (n_v vs 8)) (w_fi ws (n_v vs 0) 8) (v_iv (Value.int x)) k8 g0 kz_0_8 ex2
  exact ⟨(fun _ h => (by cases h)), [Value.int x], ag_one hx, List.forall_mem_cons.mpr ⟨⟨show (20 : Nat) < 100 from by decide, nf0⟩, List.forall_mem_cons.mpr ⟨⟨show (20 : Nat) < 100 from by decide, nf1⟩, List.forall_mem_cons.mpr ⟨⟨show (20 : Nat) < 100 from by decide, nf2⟩, List.forall_mem_cons.mpr ⟨⟨show (20 : Nat) < 100 from by decide, nf3⟩, (fun _ h => (by cases h))⟩⟩⟩⟩, (fun _ h => (by cases h))⟩
set_option maxHeartbeats 4000000 in
theorem vc_Mo_met_at_g4_1_r0 (x17 : Int) (x18 : Int) (r_0 : Int) (fault_0 : Int) (k17 : 0 ≤ x17 ∧ x17 ≤ 0) (k18 : 0 ≤ x18 ∧ x18 ≤ 24) (g5 : x17 = fault_0) (f22 : (-1) * fault_0 + 0 ≤ (-1)) (kz_0_8 : 0 ≤ fault_0 ∧ fault_0 ≤ 5) : 0 ≤ x18 ∧ x18 ≤ 23 := by
  first
    | omega
    | (have q1 := (hE_0_2_1 (r_0 + 2) (by omega)).2 (by omega)
       have q2 := (hE_0_2_2 (r_0 + 2) (by omega)).2 (by omega)
       omega)
    | (have q1 := (hE_0_2_1 (r_0 + 1) (by omega)).2 (by omega)
       have q2 := (hE_0_2_2 (r_0 + 1) (by omega)).2 (by omega)
       omega)
    | (have q1 := (hE_0_2_1 (r_0 + 2) (by omega)).2 (by omega)
       omega)
    | (have q1 := (hE_0_2_1 (r_0 + 1) (by omega)).2 (by omega)
       omega)
    | (have q1 := (hE_0_2_1 (r_0 + 2) (by omega)).2 (by omega)
       have q2 := (hE_0_2_2 (r_0 + 2) (by omega)).2 (by omega)
       have q3 := (hE_0_2_3 (r_0 + 2) (by omega)).1 (by omega)
       omega)
    | (have q1 := (hE_0_2_1 (r_0 + 2) (by omega)).2 (by omega)
       have q2 := (hE_0_2_2 (r_0 + 2) (by omega)).2 (by omega)
       have q3 := (hE_0_2_3 (r_0 + 2) (by omega)).2 (by omega)
       omega)
def o_Mo_met_at_g4_1 : or_T := (130, 19, [(0, (2, 0, 0, [165])), (1, (0, 0, 7, [])), (2, (0, -1, 23, [])), (3, (0, 0, 2000, [])), (4, (0, 0, 2000, [])), (9, (0, 1, 1, [])), (10, (0, -1, -1, [])), (12, (0, 24, 24, [])), (13, (0, 24, 24, [])), (14, (0, 3, 3, [])), (15, (0, 0, 2000, [])), (16, (0, 0, 5, [])), (17, (0, 0, 0, [])), (18, (0, 0, 24, []))], [(9, [15, 0], [13]), (20, [18, 0], [30, 0, 1, 0, 0, -1, 3, 2005000]), (20, [18, 0], [30, 0, -1, 0, 0, 1, 3, 2005000]), (8, [10], [2]), (8, [17], [5]), (9, [17, 0], [8]), (20, [0, 14, 15], [60, 1, 1, 1026, 10, 1]), (20, [16], [61, 0, 1029]), (20, [12, 0], [30, 0, 1, 0, 0, -1, 3, 2005000]), (20, [12, 0], [30, 0, -1, 0, 0, 1, 3, 2005000]), (20, [0, 10], [60, 1, 1, 207, 5, 2]), (20, [0, 10], [60, 4, 2, 1031, 11, 10, 15, 5, 2, 1]), (20, [0, 0], [30, 0, 1, 1, 15, -1, 1, 11]), (20, [0], [50, 3, 0, 12, 11, 15, 2, 21, 4, 7, 1, 3, 2, 0, 12, 0, 1, 0, 3, 2, 0, 11, 4, 3, 2, 0, 15, 0, 8, 3, 7, 1, 3, 2, 0, 12, 0, 0, 0, 7, 4, 3, 2, 0, 15, 0, 1, 2, 0, 11]), (20, [3, 0], [30, 0, 1, 0, 0, -1, 1, 11]), (20, [0, 4], [50, 2, 0, 12, 11, 3, 7, 1, 3, 2, 0, 12, 0, 0, 0, 6, 4, 2, 1, 1, 0, 1, 2, 0, 11]), (20, [1, 0], [50, 1, 1, 1005, 1002, 0, 6, 4, 2, 1, 0, 0, 1, 3, 1, 2, 4, 3, 2, 1, 5, 0, 2]), (20, [0], [60, 1, 3, 199, 5, 2, 3, 4]), (20, [0, 2], [60, 1, 1, 241, 5, 2]), (20, [2], [50, 0, 0, 0, 2, 0, 0, 1, 0]), (20, [9, 0], [50, 1, 0, 1012, 4, 6, 1, 2, 1, 0, 0, 1, 1, 3, 2, 1, 12, 0, 1]), (20, [0, 9], [60, 4, 1, 962, 12, 11, 10, 15, 1]), (20, [0], [30, -1, -1, 1, 8]), (20, [16, 0, 14, 15], [50, 2, 0, 1008, 1009, 3, 15, 2, 6, 0, 2, 0, 1, 1, 0, 1, 3, 2, 1, 8, 1, 0, 2, 6, 1, 2, 1, 0, 0, 0, 2, 7, 1, 3, 2, 1, 8, 1, 2, 1, 3, 2, 1, 9, 1, 3]), (102, [16], [0, 165008, 165009]), (7, [12, 13], [0]), (8, [10], [2]), (8, [10], [2]), (8, [9], [1])], [(18, (0, 0, 23, []))], [], [], [], [])
theorem oo_Mo_met_at_g4_1 {kA : Nat → ClassId} : or_ok PRD kA GG o_Mo_met_at_g4_1 := by
  refine or_mk fun A ta ws vs hD hth hl => ?_
  intro t0 r0 t1 k1 t2 k2 t3 k3 t4 k4 t9 k9 t10 k10 t12 k12 t13 k13 t14 k14 t15 k15 t16 k16 t17 k17 t18 k18 f0 f1 f2 f3 f4 f5 f6 f7 f8 f9 f10 f11 f12 f13 f14 f15 f16 f17 f18 f19 f20 f21 f22 f23 ta1 w1 le1 s1 f25 f26 f27 f28
  replace f5 := shm_293 f5
  have g5 : v_iv (n_v vs 17) = w_fi ws (n_v vs 0) 8 := congrArg v_iv f5
  have kz_0_8 := fdq_34 hD hth r0
  have hrf0 : 0 ≤ v_iv (n_v vs 18) ∧ v_iv (n_v vs 18) ≤ 23 := vc_Mo_met_at_g4_1_r0 (v_iv (n_v vs 17)) (v_iv (n_v vs 18)) (w_fi ws (n_v vs 0) 5) (w_fi ws (n_v vs 0) 8) k17 k18 g5 (shm_305 f22) kz_0_8
  have rf18 : tv_ok ta (0, 0, 23, []) (n_v vs 18) := tv_in t18 (by first | omega | grind) (by first | omega | grind)
  refine ⟨List.forall_mem_cons.mpr ⟨rf18, (fun _ h => (by cases h))⟩, [], trivial, ?_, (fun _ h => (by cases h))⟩
  rw [List.append_nil]
  exact (fun _ h => (by cases h))
set_option maxHeartbeats 4000000 in
theorem vc_Mo_met_at_g4_2_r0 (x12 : Int) (x15 : Int) (x17 : Int) (x18 : Int) (x20 : Int) (x23 : Int) (place_0 : Int) (all_0 : Int → Int) (r_0 : Int) (fault_0 : Int) (k12 : 24 ≤ x12 ∧ x12 ≤ 24) (k15 : 0 ≤ x15 ∧ x15 ≤ 2000) (k17 : 0 ≤ x17 ∧ x17 ≤ 0) (k18 : 0 ≤ x18 ∧ x18 ≤ 23) (k20 : 0 ≤ x20 ∧ x20 ≤ 66297) (k23 : 1 ≤ x23 ∧ x23 ≤ 25) (g0 : x15 = place_0) (g3 : x20 = r_0) (f5 : 1 * x18 + ((-1) * all_0 (r_0 + 0) + 0) ≤ 0) (f6 : (-1) * x18 + (1 * all_0 (r_0 + 0) + 0) ≤ 0) (g9 : x17 = fault_0) (f12 : 1 * x12 + ((-1) * all_0 (r_0 + 0) + 0) ≤ 0) (kz_0_8 : 0 ≤ fault_0 ∧ fault_0 ≤ 5) (kz_0_13 : 0 ≤ place_0 ∧ place_0 ≤ 2000) : 1 ≤ x23 ∧ x23 ≤ 24 := by
  first | subst g0 | skip
  first | subst g3 | skip
  first | subst g9 | skip
  try simp only [Int.add_zero] at *
  omega
def o_Mo_met_at_g4_2 : or_T := (143, 24, [(0, (2, 0, 0, [165])), (1, (0, 0, 7, [])), (2, (0, -1, 23, [])), (3, (0, 0, 2000, [])), (4, (0, 0, 2000, [])), (9, (0, 1, 1, [])), (10, (0, -1, -1, [])), (12, (0, 24, 24, [])), (13, (0, 24, 24, [])), (14, (0, 3, 3, [])), (15, (0, 0, 2000, [])), (16, (0, 0, 5, [])), (17, (0, 0, 0, [])), (18, (0, 0, 23, [])), (19, (2, 0, 0, [167])), (20, (0, 0, 66297, [])), (21, (0, 0, 24, [])), (22, (0, 1, 1, [])), (23, (0, 1, 25, []))], [(9, [15, 0], [13]), (1, [23, 21, 22], []), (10, [21, 19, 20], []), (9, [20, 0], [5]), (9, [19, 0], [2]), (20, [18, 0], [30, 0, 1, 0, 0, -1, 3, 2005000]), (20, [18, 0], [30, 0, -1, 0, 0, 1, 3, 2005000]), (8, [10], [2]), (8, [17], [5]), (9, [17, 0], [8]), (20, [0, 14, 15], [60, 1, 1, 1026, 10, 1]), (20, [16], [61, 0, 1029]), (20, [12, 0], [30, 0, 1, 0, 0, -1, 3, 2005000]), (20, [12, 0], [30, 0, -1, 0, 0, 1, 3, 2005000]), (20, [0, 10], [60, 1, 1, 207, 5, 2]), (20, [0, 10], [60, 4, 2, 1031, 11, 10, 15, 5, 2, 1]), (20, [0, 0], [30, 0, 1, 1, 15, -1, 1, 11]), (20, [0], [50, 3, 0, 12, 11, 15, 2, 21, 4, 7, 1, 3, 2, 0, 12, 0, 1, 0, 3, 2, 0, 11, 4, 3, 2, 0, 15, 0, 8, 3, 7, 1, 3, 2, 0, 12, 0, 0, 0, 7, 4, 3, 2, 0, 15, 0, 1, 2, 0, 11]), (20, [3, 0], [30, 0, 1, 0, 0, -1, 1, 11]), (20, [0, 4], [50, 2, 0, 12, 11, 3, 7, 1, 3, 2, 0, 12, 0, 0, 0, 6, 4, 2, 1, 1, 0, 1, 2, 0, 11]), (20, [1, 0], [50, 1, 1, 1005, 1002, 0, 6, 4, 2, 1, 0, 0, 1, 3, 1, 2, 4, 3, 2, 1, 5, 0, 2]), (20, [0], [60, 1, 3, 199, 5, 2, 3, 4]), (20, [0, 2], [60, 1, 1, 241, 5, 2]), (20, [2], [50, 0, 0, 0, 2, 0, 0, 1, 0]), (20, [9, 0], [50, 1, 0, 1012, 4, 6, 1, 2, 1, 0, 0, 1, 1, 3, 2, 1, 12, 0, 1]), (20, [0, 9], [60, 4, 1, 962, 12, 11, 10, 15, 1]), (20, [0], [30, -1, -1, 1, 8]), (20, [16, 0, 14, 15], [50, 2, 0, 1008, 1009, 3, 15, 2, 6, 0, 2, 0, 1, 1, 0, 1, 3, 2, 1, 8, 1, 0, 2, 6, 1, 2, 1, 0, 0, 0, 2, 7, 1, 3, 2, 1, 8, 1, 2, 1, 3, 2, 1, 9, 1, 3]), (102, [16], [0, 165008, 165009]), (7, [12, 13], [0]), (8, [10], [2]), (8, [10], [2]), (8, [9], [1])], [(23, (0, 1, 24, []))], [], [], [], [(23, 21, 1, 1)])
theorem oo_Mo_met_at_g4_2 {kA : Nat → ClassId} : or_ok PRD kA GG o_Mo_met_at_g4_2 := by
  refine or_mk fun A ta ws vs hD hth hl => ?_
  intro t0 r0 t1 k1 t2 k2 t3 k3 t4 k4 t9 k9 t10 k10 t12 k12 t13 k13 t14 k14 t15 k15 t16 k16 t17 k17 t18 k18 t19 r19 t20 k20 t21 k21 t22 k22 t23 k23 d0 f0 f1 f2 f3 f4 f5 f6 f7 f8 f9 f10 f11 f12 f13 f14 f15 f16 f17 f18 f19 f20 f21 f22 f23 f24 f25 f26 f27 ta1 w1 le1 s1 f29 f30 f31 f32
  replace f0 := shm_361 f0
  replace f3 := shm_110 f3
  replace f9 := shm_293 f9
  have g0 : v_iv (n_v vs 15) = w_fi ws (n_v vs 0) 13 := congrArg v_iv f0
  have g3 : v_iv (n_v vs 20) = w_fi ws (n_v vs 0) 5 := congrArg v_iv f3
  have g9 : v_iv (n_v vs 17) = w_fi ws (n_v vs 0) 8 := congrArg v_iv f9
  have kz_0_8 := fdq_34 hD hth r0
  have kz_0_13 := fdq_238 hD hth r0
  have hrf0 : 1 ≤ v_iv (n_v vs 23) ∧ v_iv (n_v vs 23) ≤ 24 := vc_Mo_met_at_g4_2_r0 (v_iv (n_v vs 12)) (v_iv (n_v vs 15)) (v_iv (n_v vs 17)) (v_iv (n_v vs 18)) (v_iv (n_v vs 20)) (v_iv (n_v vs 23)) (w_fi ws (n_v vs 0) 13) (w_ei ws (w_ar ws (n_v vs 0) 2)) (w_fi ws (n_v vs 0) 5) (w_fi ws (n_v vs 0) 8) k12 k15 k17 k18 k20 k23 g0 g3 (shm_126 f5) (shm_127 f6) g9 (shm_126 f12) kz_0_8 kz_0_13
  have rf23 : tv_ok ta (0, 1, 24, []) (n_v vs 23) := tv_in t23 (by first | omega | grind) (by first | omega | grind)
  refine ⟨List.forall_mem_cons.mpr ⟨rf23, (fun _ h => (by cases h))⟩, [], trivial, ?_, (fun _ h => (by cases h))⟩
  rw [List.append_nil]
  exact (fun _ h => (by cases h))
set_option maxHeartbeats 4000000 in
theorem vc_Mo_met_at_g4_3_r0 (x17 : Int) (x20 : Int) (x23 : Int) (x29 : Int) (fault_0 : Int) (from_0 : Int) (pos_0 : Int) (r_0 : Int) (tape_0 : Int → Int) (limit_0 : Int) (kind_0 : Int) (faultPlace_0 : Int) (all_1 : Int → Int) (tape_1 : Int → Int) (limit_1 : Int) (r_1 : Int) (pos_1 : Int) (from_1 : Int) (kind_1 : Int) (now_1 : Int → Int) (latest_1 : Int → Int) (fault_1 : Int) (faultPlace_1 : Int) (all_0 : Int → Int) (now_0 : Int → Int) (latest_0 : Int → Int) (k17 : 0 ≤ x17 ∧ x17 ≤ 0) (k20 : 0 ≤ x20 ∧ x20 ≤ 66297) (k23 : 1 ≤ x23 ∧ x23 ≤ 24) (k29 : (-2000) ≤ x29 ∧ x29 ≤ 2000) (g0 : x17 = fault_0) (f18 : (-1) * fault_0 + 0 ≤ (-1)) (fe_0_5_1 : r_0 = r_1) (fe_0_8_1 : fault_0 = fault_1) (fe_0_9_1 : faultPlace_0 = faultPlace_1) (fe_0_10_1 : limit_0 = limit_1) (fe_0_11_1 : pos_0 = pos_1) (fe_0_12_1 : kind_0 = kind_1) (fe_0_15_1 : from_0 = from_1) (hE_0_1_1 : ∀ j : Int, tape_0 j = tape_1 j) (hE_0_2_1 : ∀ j : Int, 0 ≤ j → (j = x20 → all_0 j = x23) ∧ (j ≠ x20 → all_0 j = all_1 j)) (hE_0_3_1 : ∀ j : Int, now_0 j = now_1 j) (hE_0_4_1 : ∀ j : Int, latest_0 j = latest_1 j) (kz_0_8 : 0 ≤ fault_0 ∧ fault_0 ≤ 5) (kz_0_9 : 0 ≤ faultPlace_0 ∧ faultPlace_0 ≤ 2000) (kz_0_10 : 0 ≤ limit_0 ∧ limit_0 ≤ 2000) (kz_0_11 : 0 ≤ pos_0 ∧ pos_0 ≤ 2000) (kz_0_12 : 0 ≤ kind_0 ∧ kind_0 ≤ 4) (kz_0_15 : 0 ≤ from_0 ∧ from_0 ≤ 2000) : 0 ≤ x29 ∧ x29 ≤ 8 := by
  subst fe_0_5_1
  subst fe_0_8_1
  subst fe_0_9_1
  subst fe_0_10_1
  subst fe_0_11_1
  subst fe_0_12_1
  subst fe_0_15_1
  have e_hE_0_1_1 := funext hE_0_1_1; subst e_hE_0_1_1
  have e_hE_0_3_1 := funext hE_0_3_1; subst e_hE_0_3_1
  have e_hE_0_4_1 := funext hE_0_4_1; subst e_hE_0_4_1
  first
    | omega
    | (have q1 := (hE_0_2_1 (r_0 + 2) (by omega)).2 (by omega)
       have q2 := (hE_0_2_2 (r_0 + 2) (by omega)).2 (by omega)
       omega)
    | (have q1 := (hE_0_2_1 (r_0 + 1) (by omega)).2 (by omega)
       have q2 := (hE_0_2_2 (r_0 + 1) (by omega)).2 (by omega)
       omega)
    | (have q1 := (hE_0_2_1 (r_0 + 2) (by omega)).2 (by omega)
       omega)
    | (have q1 := (hE_0_2_1 (r_0 + 1) (by omega)).2 (by omega)
       omega)
    | (have q1 := (hE_0_2_1 (r_0 + 2) (by omega)).2 (by omega)
       have q2 := (hE_0_2_2 (r_0 + 2) (by omega)).2 (by omega)
       have q3 := (hE_0_2_3 (r_0 + 2) (by omega)).1 (by omega)
       omega)
    | (have q1 := (hE_0_2_1 (r_0 + 2) (by omega)).2 (by omega)
       have q2 := (hE_0_2_2 (r_0 + 2) (by omega)).2 (by omega)
       have q3 := (hE_0_2_3 (r_0 + 2) (by omega)).2 (by omega)
       omega)
def o_Mo_met_at_g4_3 : or_T := (167, 30, [(0, (2, 0, 0, [165])), (1, (0, 0, 7, [])), (2, (0, -1, 23, [])), (3, (0, 0, 2000, [])), (4, (0, 0, 2000, [])), (9, (0, 1, 1, [])), (10, (0, -1, -1, [])), (12, (0, 24, 24, [])), (13, (0, 24, 24, [])), (14, (0, 3, 3, [])), (15, (0, 0, 2000, [])), (16, (0, 0, 5, [])), (17, (0, 0, 0, [])), (18, (0, 0, 23, [])), (19, (2, 0, 0, [167])), (20, (0, 0, 66297, [])), (21, (0, 0, 24, [])), (22, (0, 1, 1, [])), (23, (0, 1, 24, [])), (24, (0, 195, 195, [])), (25, (0, 195, 66492, [])), (26, (0, 195, 66515, [])), (27, (0, 0, 2000, [])), (28, (0, 0, 2000, [])), (29, (0, -2000, 2000, []))], [(9, [17, 0], [8]), (9, [15, 0], [13]), (2, [29, 27, 28], []), (9, [28, 0], [15]), (9, [27, 0], [11]), (1, [26, 25, 18], []), (1, [25, 20, 24], []), (9, [20, 0], [5]), (9, [19, 0], [2]), (20, [0, 14, 15], [60, 1, 1, 1026, 10, 1]), (20, [16], [61, 0, 1029]), (20, [0, 0], [30, 0, 1, 1, 15, -1, 1, 11]), (20, [0], [50, 3, 0, 12, 11, 15, 2, 21, 4, 7, 1, 3, 2, 0, 12, 0, 1, 0, 3, 2, 0, 11, 4, 3, 2, 0, 15, 0, 8, 3, 7, 1, 3, 2, 0, 12, 0, 0, 0, 7, 4, 3, 2, 0, 15, 0, 1, 2, 0, 11]), (20, [3, 0], [30, 0, 1, 0, 0, -1, 1, 11]), (20, [0, 4], [50, 2, 0, 12, 11, 3, 7, 1, 3, 2, 0, 12, 0, 0, 0, 6, 4, 2, 1, 1, 0, 1, 2, 0, 11]), (20, [2], [50, 0, 0, 0, 2, 0, 0, 1, 0]), (20, [9, 0], [50, 1, 0, 1012, 4, 6, 1, 2, 1, 0, 0, 1, 1, 3, 2, 1, 12, 0, 1]), (20, [0, 9], [60, 4, 1, 962, 12, 11, 10, 15, 1]), (20, [0], [30, -1, -1, 1, 8]), (20, [16, 0, 14, 15], [50, 2, 0, 1008, 1009, 3, 15, 2, 6, 0, 2, 0, 1, 1, 0, 1, 3, 2, 1, 8, 1, 0, 2, 6, 1, 2, 1, 0, 0, 0, 2, 7, 1, 3, 2, 1, 8, 1, 2, 1, 3, 2, 1, 9, 1, 3]), (100, [19, 20, 23], []), (1, [23, 21, 22], []), (10, [21, 19, 20], []), (20, [18, 0], [30, 0, 1, 0, 0, -1, 3, 2005000]), (20, [18, 0], [30, 0, -1, 0, 0, 1, 3, 2005000]), (8, [10], [2]), (8, [17], [5]), (20, [0, 14, 15], [60, 1, 1, 1026, 10, 1]), (20, [16], [61, 0, 1029]), (20, [12, 0], [30, 0, 1, 0, 0, -1, 3, 2005000]), (20, [12, 0], [30, 0, -1, 0, 0, 1, 3, 2005000]), (20, [0, 10], [60, 1, 1, 207, 5, 2]), (20, [0, 10], [60, 4, 2, 1031, 11, 10, 15, 5, 2, 1]), (20, [0, 0], [30, 0, 1, 1, 15, -1, 1, 11]), (20, [0], [50, 3, 0, 12, 11, 15, 2, 21, 4, 7, 1, 3, 2, 0, 12, 0, 1, 0, 3, 2, 0, 11, 4, 3, 2, 0, 15, 0, 8, 3, 7, 1, 3, 2, 0, 12, 0, 0, 0, 7, 4, 3, 2, 0, 15, 0, 1, 2, 0, 11]), (20, [3, 0], [30, 0, 1, 0, 0, -1, 1, 11]), (20, [0, 4], [50, 2, 0, 12, 11, 3, 7, 1, 3, 2, 0, 12, 0, 0, 0, 6, 4, 2, 1, 1, 0, 1, 2, 0, 11]), (20, [1, 0], [50, 1, 1, 1005, 1002, 0, 6, 4, 2, 1, 0, 0, 1, 3, 1, 2, 4, 3, 2, 1, 5, 0, 2]), (20, [0], [60, 1, 3, 199, 5, 2, 3, 4]), (20, [0, 2], [60, 1, 1, 241, 5, 2]), (20, [2], [50, 0, 0, 0, 2, 0, 0, 1, 0]), (20, [9, 0], [50, 1, 0, 1012, 4, 6, 1, 2, 1, 0, 0, 1, 1, 3, 2, 1, 12, 0, 1]), (20, [0, 9], [60, 4, 1, 962, 12, 11, 10, 15, 1]), (20, [0], [30, -1, -1, 1, 8]), (20, [16, 0, 14, 15], [50, 2, 0, 1008, 1009, 3, 15, 2, 6, 0, 2, 0, 1, 1, 0, 1, 3, 2, 1, 8, 1, 0, 2, 6, 1, 2, 1, 0, 0, 0, 2, 7, 1, 3, 2, 1, 8, 1, 2, 1, 3, 2, 1, 9, 1, 3]), (102, [16], [0, 165008, 165009]), (7, [12, 13], [0]), (8, [10], [2]), (8, [10], [2]), (8, [9], [1])], [(29, (0, 0, 8, []))], [], [], [], [(29, 27, -2000, 0), (26, 18, 195, 66492), (26, 25, 0, 23), (26, 20, 195, 218), (25, 20, 195, 195), (23, 21, 1, 1)])
theorem oo_Mo_met_at_g4_3 {kA : Nat → ClassId} : or_ok PRD kA GG o_Mo_met_at_g4_3 := by
  refine or_mk fun A ta ws vs hD hth hl => ?_
  intro t0 r0 t1 k1 t2 k2 t3 k3 t4 k4 t9 k9 t10 k10 t12 k12 t13 k13 t14 k14 t15 k15 t16 k16 t17 k17 t18 k18 t19 r19 t20 k20 t21 k21 t22 k22 t23 k23 t24 k24 t25 k25 t26 k26 t27 k27 t28 k28 t29 k29 d0 d1 d2 d3 d4 d5 f0 f1 f2 f3 f4 f5 f6 f7 f8 f9 f10 f11 f12 f13 f14 f15 f16 f17 f18 f19 ta1 w1 le1 s1 f21 f22 f23 f24 f25 f26 f27 f28 f29 f30 f31 f32 f33 f34 f35 f36 f37 f38 f39 f40 f41 f42 f43 f44 ta2 w2 le2 s2 f46 f47 f48 f49
  replace f0 := shm_293 f0
  replace f1 := shm_361 f1
  replace f2 := shm_14 f2
  replace f3 := shm_177 f3
  replace f4 := shm_116 f4
  replace f5 := shm_12 f5
  replace f6 := shm_12 f6
  replace f7 := shm_110 f7
  replace f8 := shm_120 f8
  replace f9 := shm_1724 f9
  replace f10 := shm_1725 f10
  replace f11 := shm_1437 f11
  replace f12 := shm_1438 f12
  replace f13 := shm_1431 f13
  replace f14 := shm_2111 f14
  replace f15 := shm_722 f15
  replace f16 := shm_1856 f16
  replace f17 := shm_1889 f17
  replace f18 := shm_305 f18
  replace f19 := shm_306 f19
  have s1 : (∀ b j, w_el ws b j = if b = v_ad (n_v vs 19) ∧ j = (v_iv (n_v vs 20)).toNat then v_iv (n_v vs 23) else w_el w1 b j) ∧ ∀ b k, w_fd ws b k = w_fd w1 b k := s1.2
  replace f21 := shm_12 f21
  replace f22 := shm_107 f22
  replace f23 := shm_126 f23
  replace f24 := shm_127 f24
  replace f25 := shm_39 f25
  replace f26 := shm_295 f26
  replace f27 := shm_1724 f27
  replace f28 := shm_1725 f28
  replace f29 := shm_126 f29
  replace f30 := shm_127 f30
  replace f31 := shm_1232 f31
  replace f32 := shm_1233 f32
  replace f33 := shm_1437 f33
  replace f34 := shm_1438 f34
  replace f35 := shm_1431 f35
  replace f36 := shm_2111 f36
  replace f37 := shm_1009 f37
  replace f38 := shm_980 f38
  replace f39 := shm_2112 f39
  replace f40 := shm_722 f40
  replace f41 := shm_1856 f41
  replace f42 := shm_1889 f42
  replace f43 := shm_305 f43
  replace f44 := shm_306 f44
  replace f46 := shm_37 f46
  replace f47 := shm_39 f47
  replace f48 := shm_39 f48
  replace f49 := shm_142 f49
  have ar_0_1_1 : w_ar w1 (n_v vs 0) 1 = w_ar ws (n_v vs 0) 1 := congrArg v_ad (s1.2 _ _).symm
  have cr_0_1 := fdq_39 hD hth r0
  have ar_0_2_1 : w_ar w1 (n_v vs 0) 2 = w_ar ws (n_v vs 0) 2 := congrArg v_ad (s1.2 _ _).symm
  have cr_0_2 := fdq_10 hD hth r0
  have ar_0_3_1 : w_ar w1 (n_v vs 0) 3 = w_ar ws (n_v vs 0) 3 := congrArg v_ad (s1.2 _ _).symm
  have cr_0_3 := fdq_142 hD hth r0
  have ar_0_4_1 : w_ar w1 (n_v vs 0) 4 = w_ar ws (n_v vs 0) 4 := congrArg v_ad (s1.2 _ _).symm
  have cr_0_4 := fdq_143 hD hth r0
  have fi_0_5_1 : w_fi w1 (n_v vs 0) 5 = w_fi ws (n_v vs 0) 5 := by show v_iv (w_fd w1 _ _) = v_iv (w_fd ws _ _); rw [s1.2]
  have ad_19 : v_ad (n_v vs 19) = w_ar ws (n_v vs 0) 2 := congrArg v_ad f8
  have g0 : v_iv (n_v vs 17) = w_fi ws (n_v vs 0) 8 := congrArg v_iv f0
  have g1 : v_iv (n_v vs 15) = w_fi ws (n_v vs 0) 13 := congrArg v_iv f1
  have g3 : v_iv (n_v vs 28) = w_fi ws (n_v vs 0) 15 := congrArg v_iv f3
  have g4 : v_iv (n_v vs 27) = w_fi ws (n_v vs 0) 11 := congrArg v_iv f4
  have g7 : v_iv (n_v vs 20) = w_fi ws (n_v vs 0) 5 := congrArg v_iv f7
  simp only [ad_19] at f22
  have h22 : v_iv (n_v vs 21) = w_ei w1 (w_ar ws (n_v vs 0) 2) (v_iv (n_v vs 20)) := f22
  simp only [ar_0_2_1, ar_0_1_1, ar_0_3_1, ar_0_4_1] at f23 f24 f27 f29 f30 f31 f32 f37 f38 f39 f42
  simp only [fi_0_5_1] at f23 f24 f29 f30
  have fe_0_5_1 : w_fi ws (n_v vs 0) 5 = w_fi w1 (n_v vs 0) 5 := congrArg v_iv (s1.2 _ _)
  have fe_0_8_1 : w_fi ws (n_v vs 0) 8 = w_fi w1 (n_v vs 0) 8 := congrArg v_iv (s1.2 _ _)
  have fe_0_9_1 : w_fi ws (n_v vs 0) 9 = w_fi w1 (n_v vs 0) 9 := congrArg v_iv (s1.2 _ _)
  have fe_0_10_1 : w_fi ws (n_v vs 0) 10 = w_fi w1 (n_v vs 0) 10 := congrArg v_iv (s1.2 _ _)
  have fe_0_11_1 : w_fi ws (n_v vs 0) 11 = w_fi w1 (n_v vs 0) 11 := congrArg v_iv (s1.2 _ _)
  have fe_0_12_1 : w_fi ws (n_v vs 0) 12 = w_fi w1 (n_v vs 0) 12 := congrArg v_iv (s1.2 _ _)
  have fe_0_13_1 : w_fi ws (n_v vs 0) 13 = w_fi w1 (n_v vs 0) 13 := congrArg v_iv (s1.2 _ _)
  have fe_0_15_1 : w_fi ws (n_v vs 0) 15 = w_fi w1 (n_v vs 0) 15 := congrArg v_iv (s1.2 _ _)
  have hE_0_1_1 : ∀ j : Int, w_ei ws (w_ar ws (n_v vs 0) 1) j = w_ei w1 (w_ar ws (n_v vs 0) 1) j := el_kp s1.1 r19 cr_0_1 (by decide)
  have hK_0_1 := elq_7 hD hth cr_0_1
  have hE_0_2_1 : ∀ j : Int, 0 ≤ j → (j = v_iv (n_v vs 20) → w_ei ws (w_ar ws (n_v vs 0) 2) j = v_iv (n_v vs 23)) ∧ (j ≠ v_iv (n_v vs 20) → w_ei ws (w_ar ws (n_v vs 0) 2) j = w_ei w1 (w_ar ws (n_v vs 0) 2) j) := fun j hj => ⟨fun h => by unfold w_ei; rw [s1.1, if_pos ⟨ad_19.symm, by rw [h]⟩], fun h => by unfold w_ei; rw [s1.1, if_neg (fun e => h (by have := e.2; omega))]⟩
  have hE_0_3_1 : ∀ j : Int, w_ei ws (w_ar ws (n_v vs 0) 3) j = w_ei w1 (w_ar ws (n_v vs 0) 3) j := el_kp s1.1 r19 cr_0_3 (by decide)
  have hK_0_3 := elq_80 hD hth cr_0_3
  have hE_0_4_1 : ∀ j : Int, w_ei ws (w_ar ws (n_v vs 0) 4) j = w_ei w1 (w_ar ws (n_v vs 0) 4) j := el_kp s1.1 r19 cr_0_4 (by decide)
  have hK_0_4 := elq_81 hD hth cr_0_4
  have kz_0_8 := fdq_34 hD hth r0
  have kz_0_9 := fdq_44 hD hth r0
  have kz_0_10 := fdq_43 hD hth r0
  have kz_0_11 := fdq_237 hD hth r0
  have kz_0_12 := fdq_187 hD hth r0
  have kz_0_13 := fdq_238 hD hth r0
  have kz_0_15 := fdq_239 hD hth r0
  first | have hJ0 : w_ei w1 (w_ar ws (n_v vs 0) 2) ((w_fi w1 (n_v vs 0) 5 + 2)) = w_ei w1 (w_ar ws (n_v vs 0) 2) ((w_fi ws (n_v vs 0) 5 + 2)) := congrArg _ (show ((w_fi w1 (n_v vs 0) 5 + 2) : Int) = (w_fi ws (n_v vs 0) 5 + 2) from by omega) | skip
  first | have hI1 := (hE_0_2_1 ((w_fi ws (n_v vs 0) 5 + 2)) (by omega)).2 (by omega) | have hI1 := (hE_0_2_1 ((w_fi ws (n_v vs 0) 5 + 2)) (by omega)).1 (by omega) | skip
  have hrf0 : 0 ≤ v_iv (n_v vs 29) ∧ v_iv (n_v vs 29) ≤ 8 := vc_Mo_met_at_g4_3_r0 (v_iv (n_v vs 17)) (v_iv (n_v vs 20)) (v_iv (n_v vs 23)) (v_iv (n_v vs 29)) (w_fi ws (n_v vs 0) 8) (w_fi ws (n_v vs 0) 15) (w_fi ws (n_v vs 0) 11) (w_fi ws (n_v vs 0) 5) (w_ei ws (w_ar ws (n_v vs 0) 1)) (w_fi ws (n_v vs 0) 10) (w_fi ws (n_v vs 0) 12) (w_fi ws (n_v vs 0) 9) (w_ei w1 (w_ar ws (n_v vs 0) 2)) (w_ei w1 (w_ar ws (n_v vs 0) 1)) (w_fi w1 (n_v vs 0) 10) (w_fi w1 (n_v vs 0) 5) (w_fi w1 (n_v vs 0) 11) (w_fi w1 (n_v vs 0) 15) (w_fi w1 (n_v vs 0) 12) (w_ei w1 (w_ar ws (n_v vs 0) 3)) (w_ei w1 (w_ar ws (n_v vs 0) 4)) (w_fi w1 (n_v vs 0) 8) (w_fi w1 (n_v vs 0) 9) (w_ei ws (w_ar ws (n_v vs 0) 2)) (w_ei ws (w_ar ws (n_v vs 0) 3)) (w_ei ws (w_ar ws (n_v vs 0) 4)) k17 k20 k23 k29 g0 f18 fe_0_5_1 fe_0_8_1 fe_0_9_1 fe_0_10_1 fe_0_11_1 fe_0_12_1 fe_0_15_1 hE_0_1_1 hE_0_2_1 hE_0_3_1 hE_0_4_1 kz_0_8 kz_0_9 kz_0_10 kz_0_11 kz_0_12 kz_0_15
  have rf29 : tv_ok ta (0, 0, 8, []) (n_v vs 29) := tv_in t29 (by first | omega | grind) (by first | omega | grind)
  refine ⟨List.forall_mem_cons.mpr ⟨rf29, (fun _ h => (by cases h))⟩, [], trivial, ?_, (fun _ h => (by cases h))⟩
  rw [List.append_nil]
  exact (fun _ h => (by cases h))
set_option maxHeartbeats 4000000 in
theorem vc_Mo_met_at_g4_4_0 (x4 : Int) (x17 : Int) (x20 : Int) (x23 : Int) (x26 : Int) (x29 : Int) (from_0 : Int) (pos_0 : Int) (r_0 : Int) (fault_0 : Int) (place_0 : Int) (tape_0 : Int → Int) (limit_0 : Int) (kind_0 : Int) (faultPlace_0 : Int) (tape_1 : Int → Int) (limit_1 : Int) (from_1 : Int) (pos_1 : Int) (kind_1 : Int) (fault_1 : Int) (faultPlace_1 : Int) (all_2 : Int → Int) (tape_2 : Int → Int) (limit_2 : Int) (r_2 : Int) (pos_2 : Int) (from_2 : Int) (kind_2 : Int) (now_2 : Int → Int) (latest_2 : Int → Int) (fault_2 : Int) (faultPlace_2 : Int) (r_1 : Int) (place_1 : Int) (value_0 : Int) (value_1 : Int) (all_0 : Int → Int) (all_1 : Int → Int) (now_0 : Int → Int) (now_1 : Int → Int) (latest_0 : Int → Int) (latest_1 : Int → Int) (k4 : 0 ≤ x4 ∧ x4 ≤ 2000) (k17 : 0 ≤ x17 ∧ x17 ≤ 0) (k20 : 0 ≤ x20 ∧ x20 ≤ 66297) (k23 : 1 ≤ x23 ∧ x23 ≤ 24) (k26 : 195 ≤ x26 ∧ x26 ≤ 66515) (k29 : 0 ≤ x29 ∧ x29 ≤ 8) (g4 : x17 = fault_0) (f15 : (-1) * fault_0 + 0 ≤ (-1)) (fe_0_5_1 : r_0 = r_1) (fe_0_8_1 : fault_0 = fault_1) (fe_0_9_1 : faultPlace_0 = faultPlace_1) (fe_0_10_1 : limit_0 = limit_1) (fe_0_11_1 : pos_0 = pos_1) (fe_0_12_1 : kind_0 = kind_1) (fe_0_13_1 : place_0 = place_1) (fe_0_14_1 : value_0 = value_1) (fe_0_15_1 : from_0 = from_1) (fe_0_5_2 : r_1 = r_2) (fe_0_8_2 : fault_1 = fault_2) (fe_0_9_2 : faultPlace_1 = faultPlace_2) (fe_0_10_2 : limit_1 = limit_2) (fe_0_11_2 : pos_1 = pos_2) (fe_0_12_2 : kind_1 = kind_2) (fe_0_15_2 : from_1 = from_2) (hE_0_1_1 : ∀ j : Int, tape_0 j = tape_1 j) (hE_0_1_2 : ∀ j : Int, tape_1 j = tape_2 j) (hE_0_2_1 : ∀ j : Int, 0 ≤ j → (j = x26 → all_0 j = x29) ∧ (j ≠ x26 → all_0 j = all_1 j)) (hE_0_2_2 : ∀ j : Int, 0 ≤ j → (j = x20 → all_1 j = x23) ∧ (j ≠ x20 → all_1 j = all_2 j)) (hE_0_3_1 : ∀ j : Int, now_0 j = now_1 j) (hE_0_3_2 : ∀ j : Int, now_1 j = now_2 j) (hE_0_4_1 : ∀ j : Int, latest_0 j = latest_1 j) (hE_0_4_2 : ∀ j : Int, latest_1 j = latest_2 j) (kz_0_8 : 0 ≤ fault_0 ∧ fault_0 ≤ 5) (kz_0_9 : 0 ≤ faultPlace_0 ∧ faultPlace_0 ≤ 2000) (kz_0_10 : 0 ≤ limit_0 ∧ limit_0 ≤ 2000) (kz_0_11 : 0 ≤ pos_0 ∧ pos_0 ≤ 2000) (kz_0_12 : 0 ≤ kind_0 ∧ kind_0 ≤ 4) (kz_0_13 : 0 ≤ place_0 ∧ place_0 ≤ 2000) (kz_0_14 : (-49) ≤ value_0 ∧ value_0 ≤ 1048575) (kz_0_15 : 0 ≤ from_0 ∧ from_0 ≤ 2000) : 1 * x4 + ((-1) * pos_0 + 0) ≤ (-1) := by
  subst fe_0_5_1
  subst fe_0_8_1
  subst fe_0_9_1
  subst fe_0_10_1
  subst fe_0_11_1
  subst fe_0_12_1
  subst fe_0_13_1
  subst fe_0_14_1
  subst fe_0_15_1
  subst fe_0_5_2
  subst fe_0_8_2
  subst fe_0_9_2
  subst fe_0_10_2
  subst fe_0_11_2
  subst fe_0_12_2
  subst fe_0_15_2
  have e_hE_0_1_1 := funext hE_0_1_1; subst e_hE_0_1_1
  have e_hE_0_1_2 := funext hE_0_1_2; subst e_hE_0_1_2
  have e_hE_0_3_1 := funext hE_0_3_1; subst e_hE_0_3_1
  have e_hE_0_3_2 := funext hE_0_3_2; subst e_hE_0_3_2
  have e_hE_0_4_1 := funext hE_0_4_1; subst e_hE_0_4_1
  have e_hE_0_4_2 := funext hE_0_4_2; subst e_hE_0_4_2
  first
    | omega
    | (have q1 := (hE_0_2_1 (r_0 + 2) (by omega)).2 (by omega)
       have q2 := (hE_0_2_2 (r_0 + 2) (by omega)).2 (by omega)
       omega)
    | (have q1 := (hE_0_2_1 (r_0 + 1) (by omega)).2 (by omega)
       have q2 := (hE_0_2_2 (r_0 + 1) (by omega)).2 (by omega)
       omega)
    | (have q1 := (hE_0_2_1 (r_0 + 2) (by omega)).2 (by omega)
       omega)
    | (have q1 := (hE_0_2_1 (r_0 + 1) (by omega)).2 (by omega)
       omega)
    | (have q1 := (hE_0_2_1 (r_0 + 2) (by omega)).2 (by omega)
       have q2 := (hE_0_2_2 (r_0 + 2) (by omega)).2 (by omega)
       have q3 := (hE_0_2_3 (r_0 + 2) (by omega)).1 (by omega)
       omega)
    | (have q1 := (hE_0_2_1 (r_0 + 2) (by omega)).2 (by omega)
       have q2 := (hE_0_2_2 (r_0 + 2) (by omega)).2 (by omega)
       have q3 := (hE_0_2_3 (r_0 + 2) (by omega)).2 (by omega)
       omega)
set_option maxHeartbeats 4000000 in
theorem vc_Mo_met_at_g4_4_1 (x17 : Int) (x20 : Int) (x23 : Int) (x26 : Int) (x29 : Int) (from_0 : Int) (pos_0 : Int) (r_0 : Int) (fault_0 : Int) (place_0 : Int) (tape_0 : Int → Int) (limit_0 : Int) (kind_0 : Int) (faultPlace_0 : Int) (tape_1 : Int → Int) (limit_1 : Int) (from_1 : Int) (pos_1 : Int) (kind_1 : Int) (fault_1 : Int) (faultPlace_1 : Int) (all_2 : Int → Int) (tape_2 : Int → Int) (limit_2 : Int) (r_2 : Int) (pos_2 : Int) (from_2 : Int) (kind_2 : Int) (now_2 : Int → Int) (latest_2 : Int → Int) (fault_2 : Int) (faultPlace_2 : Int) (r_1 : Int) (place_1 : Int) (value_0 : Int) (value_1 : Int) (all_0 : Int → Int) (all_1 : Int → Int) (now_0 : Int → Int) (now_1 : Int → Int) (latest_0 : Int → Int) (latest_1 : Int → Int) (k17 : 0 ≤ x17 ∧ x17 ≤ 0) (k20 : 0 ≤ x20 ∧ x20 ≤ 66297) (k23 : 1 ≤ x23 ∧ x23 ≤ 24) (k26 : 195 ≤ x26 ∧ x26 ≤ 66515) (k29 : 0 ≤ x29 ∧ x29 ≤ 8) (g4 : x17 = fault_0) (f15 : (-1) * fault_0 + 0 ≤ (-1)) (fe_0_5_1 : r_0 = r_1) (fe_0_8_1 : fault_0 = fault_1) (fe_0_9_1 : faultPlace_0 = faultPlace_1) (fe_0_10_1 : limit_0 = limit_1) (fe_0_11_1 : pos_0 = pos_1) (fe_0_12_1 : kind_0 = kind_1) (fe_0_13_1 : place_0 = place_1) (fe_0_14_1 : value_0 = value_1) (fe_0_15_1 : from_0 = from_1) (fe_0_5_2 : r_1 = r_2) (fe_0_8_2 : fault_1 = fault_2) (fe_0_9_2 : faultPlace_1 = faultPlace_2) (fe_0_10_2 : limit_1 = limit_2) (fe_0_11_2 : pos_1 = pos_2) (fe_0_12_2 : kind_1 = kind_2) (fe_0_15_2 : from_1 = from_2) (hE_0_1_1 : ∀ j : Int, tape_0 j = tape_1 j) (hE_0_1_2 : ∀ j : Int, tape_1 j = tape_2 j) (hE_0_2_1 : ∀ j : Int, 0 ≤ j → (j = x26 → all_0 j = x29) ∧ (j ≠ x26 → all_0 j = all_1 j)) (hE_0_2_2 : ∀ j : Int, 0 ≤ j → (j = x20 → all_1 j = x23) ∧ (j ≠ x20 → all_1 j = all_2 j)) (hE_0_3_1 : ∀ j : Int, now_0 j = now_1 j) (hE_0_3_2 : ∀ j : Int, now_1 j = now_2 j) (hE_0_4_1 : ∀ j : Int, latest_0 j = latest_1 j) (hE_0_4_2 : ∀ j : Int, latest_1 j = latest_2 j) (kz_0_8 : 0 ≤ fault_0 ∧ fault_0 ≤ 5) (kz_0_9 : 0 ≤ faultPlace_0 ∧ faultPlace_0 ≤ 2000) (kz_0_10 : 0 ≤ limit_0 ∧ limit_0 ≤ 2000) (kz_0_11 : 0 ≤ pos_0 ∧ pos_0 ≤ 2000) (kz_0_12 : 0 ≤ kind_0 ∧ kind_0 ≤ 4) (kz_0_13 : 0 ≤ place_0 ∧ place_0 ≤ 2000) (kz_0_14 : (-49) ≤ value_0 ∧ value_0 ≤ 1048575) (kz_0_15 : 0 ≤ from_0 ∧ from_0 ≤ 2000) : kind_0 = 1 := by
  subst fe_0_5_1
  subst fe_0_8_1
  subst fe_0_9_1
  subst fe_0_10_1
  subst fe_0_11_1
  subst fe_0_12_1
  subst fe_0_13_1
  subst fe_0_14_1
  subst fe_0_15_1
  subst fe_0_5_2
  subst fe_0_8_2
  subst fe_0_9_2
  subst fe_0_10_2
  subst fe_0_11_2
  subst fe_0_12_2
  subst fe_0_15_2
  have e_hE_0_1_1 := funext hE_0_1_1; subst e_hE_0_1_1
  have e_hE_0_1_2 := funext hE_0_1_2; subst e_hE_0_1_2
  have e_hE_0_3_1 := funext hE_0_3_1; subst e_hE_0_3_1
  have e_hE_0_3_2 := funext hE_0_3_2; subst e_hE_0_3_2
  have e_hE_0_4_1 := funext hE_0_4_1; subst e_hE_0_4_1
  have e_hE_0_4_2 := funext hE_0_4_2; subst e_hE_0_4_2
  first
    | omega
    | (have q1 := (hE_0_2_1 (r_0 + 2) (by omega)).2 (by omega)
       have q2 := (hE_0_2_2 (r_0 + 2) (by omega)).2 (by omega)
       omega)
    | (have q1 := (hE_0_2_1 (r_0 + 1) (by omega)).2 (by omega)
       have q2 := (hE_0_2_2 (r_0 + 1) (by omega)).2 (by omega)
       omega)
    | (have q1 := (hE_0_2_1 (r_0 + 2) (by omega)).2 (by omega)
       omega)
    | (have q1 := (hE_0_2_1 (r_0 + 1) (by omega)).2 (by omega)
       omega)
    | (have q1 := (hE_0_2_1 (r_0 + 2) (by omega)).2 (by omega)
       have q2 := (hE_0_2_2 (r_0 + 2) (by omega)).2 (by omega)
       have q3 := (hE_0_2_3 (r_0 + 2) (by omega)).1 (by omega)
       omega)
    | (have q1 := (hE_0_2_1 (r_0 + 2) (by omega)).2 (by omega)
       have q2 := (hE_0_2_2 (r_0 + 2) (by omega)).2 (by omega)
       have q3 := (hE_0_2_3 (r_0 + 2) (by omega)).2 (by omega)
       omega)
set_option maxHeartbeats 4000000 in
theorem vc_Mo_met_at_g4_4_2 (x2 : Int) (x17 : Int) (x20 : Int) (x23 : Int) (x26 : Int) (x29 : Int) (from_0 : Int) (pos_0 : Int) (r_0 : Int) (fault_0 : Int) (place_0 : Int) (tape_0 : Int → Int) (limit_0 : Int) (kind_0 : Int) (faultPlace_0 : Int) (tape_1 : Int → Int) (limit_1 : Int) (from_1 : Int) (pos_1 : Int) (kind_1 : Int) (fault_1 : Int) (faultPlace_1 : Int) (all_2 : Int → Int) (tape_2 : Int → Int) (limit_2 : Int) (r_2 : Int) (pos_2 : Int) (from_2 : Int) (kind_2 : Int) (now_2 : Int → Int) (latest_2 : Int → Int) (fault_2 : Int) (faultPlace_2 : Int) (r_1 : Int) (place_1 : Int) (value_0 : Int) (value_1 : Int) (all_0 : Int → Int) (all_1 : Int → Int) (now_0 : Int → Int) (now_1 : Int → Int) (latest_0 : Int → Int) (latest_1 : Int → Int) (k2 : (-1) ≤ x2 ∧ x2 ≤ 23) (k17 : 0 ≤ x17 ∧ x17 ≤ 0) (k20 : 0 ≤ x20 ∧ x20 ≤ 66297) (k23 : 1 ≤ x23 ∧ x23 ≤ 24) (k26 : 195 ≤ x26 ∧ x26 ≤ 66515) (k29 : 0 ≤ x29 ∧ x29 ≤ 8) (g4 : x17 = fault_0) (f15 : (-1) * fault_0 + 0 ≤ (-1)) (fe_0_5_1 : r_0 = r_1) (fe_0_8_1 : fault_0 = fault_1) (fe_0_9_1 : faultPlace_0 = faultPlace_1) (fe_0_10_1 : limit_0 = limit_1) (fe_0_11_1 : pos_0 = pos_1) (fe_0_12_1 : kind_0 = kind_1) (fe_0_13_1 : place_0 = place_1) (fe_0_14_1 : value_0 = value_1) (fe_0_15_1 : from_0 = from_1) (fe_0_5_2 : r_1 = r_2) (fe_0_8_2 : fault_1 = fault_2) (fe_0_9_2 : faultPlace_1 = faultPlace_2) (fe_0_10_2 : limit_1 = limit_2) (fe_0_11_2 : pos_1 = pos_2) (fe_0_12_2 : kind_1 = kind_2) (fe_0_15_2 : from_1 = from_2) (hE_0_1_1 : ∀ j : Int, tape_0 j = tape_1 j) (hE_0_1_2 : ∀ j : Int, tape_1 j = tape_2 j) (hE_0_2_1 : ∀ j : Int, 0 ≤ j → (j = x26 → all_0 j = x29) ∧ (j ≠ x26 → all_0 j = all_1 j)) (hE_0_2_2 : ∀ j : Int, 0 ≤ j → (j = x20 → all_1 j = x23) ∧ (j ≠ x20 → all_1 j = all_2 j)) (hE_0_3_1 : ∀ j : Int, now_0 j = now_1 j) (hE_0_3_2 : ∀ j : Int, now_1 j = now_2 j) (hE_0_4_1 : ∀ j : Int, latest_0 j = latest_1 j) (hE_0_4_2 : ∀ j : Int, latest_1 j = latest_2 j) (kz_0_8 : 0 ≤ fault_0 ∧ fault_0 ≤ 5) (kz_0_9 : 0 ≤ faultPlace_0 ∧ faultPlace_0 ≤ 2000) (kz_0_10 : 0 ≤ limit_0 ∧ limit_0 ≤ 2000) (kz_0_11 : 0 ≤ pos_0 ∧ pos_0 ≤ 2000) (kz_0_12 : 0 ≤ kind_0 ∧ kind_0 ≤ 4) (kz_0_13 : 0 ≤ place_0 ∧ place_0 ≤ 2000) (kz_0_14 : (-49) ≤ value_0 ∧ value_0 ≤ 1048575) (kz_0_15 : 0 ≤ from_0 ∧ from_0 ≤ 2000) : (x2 ≤ (-1)) ∨ (all_0 ((r_0 + 1)) ≤ 47) := by
  subst fe_0_5_1
  subst fe_0_8_1
  subst fe_0_9_1
  subst fe_0_10_1
  subst fe_0_11_1
  subst fe_0_12_1
  subst fe_0_13_1
  subst fe_0_14_1
  subst fe_0_15_1
  subst fe_0_5_2
  subst fe_0_8_2
  subst fe_0_9_2
  subst fe_0_10_2
  subst fe_0_11_2
  subst fe_0_12_2
  subst fe_0_15_2
  have e_hE_0_1_1 := funext hE_0_1_1; subst e_hE_0_1_1
  have e_hE_0_1_2 := funext hE_0_1_2; subst e_hE_0_1_2
  have e_hE_0_3_1 := funext hE_0_3_1; subst e_hE_0_3_1
  have e_hE_0_3_2 := funext hE_0_3_2; subst e_hE_0_3_2
  have e_hE_0_4_1 := funext hE_0_4_1; subst e_hE_0_4_1
  have e_hE_0_4_2 := funext hE_0_4_2; subst e_hE_0_4_2
  first
    | omega
    | (have q1 := (hE_0_2_1 (r_0 + 2) (by omega)).2 (by omega)
       have q2 := (hE_0_2_2 (r_0 + 2) (by omega)).2 (by omega)
       omega)
    | (have q1 := (hE_0_2_1 (r_0 + 1) (by omega)).2 (by omega)
       have q2 := (hE_0_2_2 (r_0 + 1) (by omega)).2 (by omega)
       omega)
    | (have q1 := (hE_0_2_1 (r_0 + 2) (by omega)).2 (by omega)
       omega)
    | (have q1 := (hE_0_2_1 (r_0 + 1) (by omega)).2 (by omega)
       omega)
    | (have q1 := (hE_0_2_1 (r_0 + 2) (by omega)).2 (by omega)
       have q2 := (hE_0_2_2 (r_0 + 2) (by omega)).2 (by omega)
       have q3 := (hE_0_2_3 (r_0 + 2) (by omega)).1 (by omega)
       omega)
    | (have q1 := (hE_0_2_1 (r_0 + 2) (by omega)).2 (by omega)
       have q2 := (hE_0_2_2 (r_0 + 2) (by omega)).2 (by omega)
       have q3 := (hE_0_2_3 (r_0 + 2) (by omega)).2 (by omega)
       omega)
set_option maxHeartbeats 4000000 in
theorem vc_Mo_met_at_g4_4_3 (x1 : Int) (x17 : Int) (x20 : Int) (x23 : Int) (x26 : Int) (x29 : Int) (from_0 : Int) (pos_0 : Int) (r_0 : Int) (fault_0 : Int) (place_0 : Int) (tape_0 : Int → Int) (limit_0 : Int) (kind_0 : Int) (faultPlace_0 : Int) (tape_1 : Int → Int) (limit_1 : Int) (from_1 : Int) (pos_1 : Int) (kind_1 : Int) (fault_1 : Int) (faultPlace_1 : Int) (all_2 : Int → Int) (tape_2 : Int → Int) (limit_2 : Int) (r_2 : Int) (pos_2 : Int) (from_2 : Int) (kind_2 : Int) (now_2 : Int → Int) (latest_2 : Int → Int) (fault_2 : Int) (faultPlace_2 : Int) (r_1 : Int) (place_1 : Int) (value_0 : Int) (value_1 : Int) (all_0 : Int → Int) (all_1 : Int → Int) (now_0 : Int → Int) (now_1 : Int → Int) (latest_0 : Int → Int) (latest_1 : Int → Int) (k1 : 0 ≤ x1 ∧ x1 ≤ 7) (k17 : 0 ≤ x17 ∧ x17 ≤ 0) (k20 : 0 ≤ x20 ∧ x20 ≤ 66297) (k23 : 1 ≤ x23 ∧ x23 ≤ 24) (k26 : 195 ≤ x26 ∧ x26 ≤ 66515) (k29 : 0 ≤ x29 ∧ x29 ≤ 8) (g4 : x17 = fault_0) (f15 : (-1) * fault_0 + 0 ≤ (-1)) (fe_0_5_1 : r_0 = r_1) (fe_0_8_1 : fault_0 = fault_1) (fe_0_9_1 : faultPlace_0 = faultPlace_1) (fe_0_10_1 : limit_0 = limit_1) (fe_0_11_1 : pos_0 = pos_1) (fe_0_12_1 : kind_0 = kind_1) (fe_0_13_1 : place_0 = place_1) (fe_0_14_1 : value_0 = value_1) (fe_0_15_1 : from_0 = from_1) (fe_0_5_2 : r_1 = r_2) (fe_0_8_2 : fault_1 = fault_2) (fe_0_9_2 : faultPlace_1 = faultPlace_2) (fe_0_10_2 : limit_1 = limit_2) (fe_0_11_2 : pos_1 = pos_2) (fe_0_12_2 : kind_1 = kind_2) (fe_0_15_2 : from_1 = from_2) (hE_0_1_1 : ∀ j : Int, tape_0 j = tape_1 j) (hE_0_1_2 : ∀ j : Int, tape_1 j = tape_2 j) (hE_0_2_1 : ∀ j : Int, 0 ≤ j → (j = x26 → all_0 j = x29) ∧ (j ≠ x26 → all_0 j = all_1 j)) (hE_0_2_2 : ∀ j : Int, 0 ≤ j → (j = x20 → all_1 j = x23) ∧ (j ≠ x20 → all_1 j = all_2 j)) (hE_0_3_1 : ∀ j : Int, now_0 j = now_1 j) (hE_0_3_2 : ∀ j : Int, now_1 j = now_2 j) (hE_0_4_1 : ∀ j : Int, latest_0 j = latest_1 j) (hE_0_4_2 : ∀ j : Int, latest_1 j = latest_2 j) (kz_0_8 : 0 ≤ fault_0 ∧ fault_0 ≤ 5) (kz_0_9 : 0 ≤ faultPlace_0 ∧ faultPlace_0 ≤ 2000) (kz_0_10 : 0 ≤ limit_0 ∧ limit_0 ≤ 2000) (kz_0_11 : 0 ≤ pos_0 ∧ pos_0 ≤ 2000) (kz_0_12 : 0 ≤ kind_0 ∧ kind_0 ≤ 4) (kz_0_13 : 0 ≤ place_0 ∧ place_0 ≤ 2000) (kz_0_14 : (-49) ≤ value_0 ∧ value_0 ≤ 1048575) (kz_0_15 : 0 ≤ from_0 ∧ from_0 ≤ 2000) : (x1 + 1) ≤ all_0 ((r_0 + 2)) := by
  subst fe_0_5_1
  subst fe_0_8_1
  subst fe_0_9_1
  subst fe_0_10_1
  subst fe_0_11_1
  subst fe_0_12_1
  subst fe_0_13_1
  subst fe_0_14_1
  subst fe_0_15_1
  subst fe_0_5_2
  subst fe_0_8_2
  subst fe_0_9_2
  subst fe_0_10_2
  subst fe_0_11_2
  subst fe_0_12_2
  subst fe_0_15_2
  have e_hE_0_1_1 := funext hE_0_1_1; subst e_hE_0_1_1
  have e_hE_0_1_2 := funext hE_0_1_2; subst e_hE_0_1_2
  have e_hE_0_3_1 := funext hE_0_3_1; subst e_hE_0_3_1
  have e_hE_0_3_2 := funext hE_0_3_2; subst e_hE_0_3_2
  have e_hE_0_4_1 := funext hE_0_4_1; subst e_hE_0_4_1
  have e_hE_0_4_2 := funext hE_0_4_2; subst e_hE_0_4_2
  first
    | omega
    | (have q1 := (hE_0_2_1 (r_0 + 2) (by omega)).2 (by omega)
       have q2 := (hE_0_2_2 (r_0 + 2) (by omega)).2 (by omega)
       omega)
    | (have q1 := (hE_0_2_1 (r_0 + 1) (by omega)).2 (by omega)
       have q2 := (hE_0_2_2 (r_0 + 1) (by omega)).2 (by omega)
       omega)
    | (have q1 := (hE_0_2_1 (r_0 + 2) (by omega)).2 (by omega)
       omega)
    | (have q1 := (hE_0_2_1 (r_0 + 1) (by omega)).2 (by omega)
       omega)
    | (have q1 := (hE_0_2_1 (r_0 + 2) (by omega)).2 (by omega)
       have q2 := (hE_0_2_2 (r_0 + 2) (by omega)).2 (by omega)
       have q3 := (hE_0_2_3 (r_0 + 2) (by omega)).1 (by omega)
       omega)
    | (have q1 := (hE_0_2_1 (r_0 + 2) (by omega)).2 (by omega)
       have q2 := (hE_0_2_2 (r_0 + 2) (by omega)).2 (by omega)
       have q3 := (hE_0_2_3 (r_0 + 2) (by omega)).2 (by omega)
       omega)
set_option maxHeartbeats 4000000 in
theorem vc_Mo_met_at_g4_4_4 (x17 : Int) (x18 : Int) (from_0 : Int) (pos_0 : Int) (r_0 : Int) (fault_0 : Int) (place_0 : Int) (tape_0 : Int → Int) (limit_0 : Int) (kind_0 : Int) (faultPlace_0 : Int) (tape_1 : Int → Int) (limit_1 : Int) (from_1 : Int) (pos_1 : Int) (kind_1 : Int) (fault_1 : Int) (faultPlace_1 : Int) (tape_2 : Int → Int) (limit_2 : Int) (r_2 : Int) (pos_2 : Int) (from_2 : Int) (kind_2 : Int) (now_2 : Int → Int) (latest_2 : Int → Int) (fault_2 : Int) (faultPlace_2 : Int) (r_1 : Int) (place_1 : Int) (value_0 : Int) (value_1 : Int) (all_0 : Int → Int) (now_0 : Int → Int) (now_1 : Int → Int) (latest_0 : Int → Int) (latest_1 : Int → Int) (k17 : 0 ≤ x17 ∧ x17 ≤ 0) (k18 : 0 ≤ x18 ∧ x18 ≤ 23) (g4 : x17 = fault_0) (f15 : (-1) * fault_0 + 0 ≤ (-1)) (fe_0_5_1 : r_0 = r_1) (fe_0_8_1 : fault_0 = fault_1) (fe_0_9_1 : faultPlace_0 = faultPlace_1) (fe_0_10_1 : limit_0 = limit_1) (fe_0_11_1 : pos_0 = pos_1) (fe_0_12_1 : kind_0 = kind_1) (fe_0_13_1 : place_0 = place_1) (fe_0_14_1 : value_0 = value_1) (fe_0_15_1 : from_0 = from_1) (fe_0_5_2 : r_1 = r_2) (fe_0_8_2 : fault_1 = fault_2) (fe_0_9_2 : faultPlace_1 = faultPlace_2) (fe_0_10_2 : limit_1 = limit_2) (fe_0_11_2 : pos_1 = pos_2) (fe_0_12_2 : kind_1 = kind_2) (fe_0_15_2 : from_1 = from_2) (hE_0_1_1 : ∀ j : Int, tape_0 j = tape_1 j) (hE_0_1_2 : ∀ j : Int, tape_1 j = tape_2 j) (hE_0_3_1 : ∀ j : Int, now_0 j = now_1 j) (hE_0_3_2 : ∀ j : Int, now_1 j = now_2 j) (hE_0_4_1 : ∀ j : Int, latest_0 j = latest_1 j) (hE_0_4_2 : ∀ j : Int, latest_1 j = latest_2 j) (kz_0_8 : 0 ≤ fault_0 ∧ fault_0 ≤ 5) (kz_0_9 : 0 ≤ faultPlace_0 ∧ faultPlace_0 ≤ 2000) (kz_0_10 : 0 ≤ limit_0 ∧ limit_0 ≤ 2000) (kz_0_11 : 0 ≤ pos_0 ∧ pos_0 ≤ 2000) (kz_0_12 : 0 ≤ kind_0 ∧ kind_0 ≤ 4) (kz_0_13 : 0 ≤ place_0 ∧ place_0 ≤ 2000) (kz_0_14 : (-49) ≤ value_0 ∧ value_0 ≤ 1048575) (kz_0_15 : 0 ≤ from_0 ∧ from_0 ≤ 2000) : RWN (r_0) (all_0) (now_0) (latest_0) (x18) := by
  subst fe_0_5_1
  subst fe_0_8_1
  subst fe_0_9_1
  subst fe_0_10_1
  subst fe_0_11_1
  subst fe_0_12_1
  subst fe_0_13_1
  subst fe_0_14_1
  subst fe_0_15_1
  subst fe_0_5_2
  subst fe_0_8_2
  subst fe_0_9_2
  subst fe_0_10_2
  subst fe_0_11_2
  subst fe_0_12_2
  subst fe_0_15_2
  have e_hE_0_1_1 := funext hE_0_1_1; subst e_hE_0_1_1
  have e_hE_0_1_2 := funext hE_0_1_2; subst e_hE_0_1_2
  have e_hE_0_3_1 := funext hE_0_3_1; subst e_hE_0_3_1
  have e_hE_0_3_2 := funext hE_0_3_2; subst e_hE_0_3_2
  have e_hE_0_4_1 := funext hE_0_4_1; subst e_hE_0_4_1
  have e_hE_0_4_2 := funext hE_0_4_2; subst e_hE_0_4_2
  try simp only [Int.add_zero] at *
  first
    | (exfalso; omega)
set_option maxHeartbeats 4000000 in
theorem vc_Mo_met_at_g4_4_5 (x2 : Int) (x17 : Int) (x18 : Int) (from_0 : Int) (pos_0 : Int) (r_0 : Int) (fault_0 : Int) (place_0 : Int) (tape_0 : Int → Int) (limit_0 : Int) (kind_0 : Int) (faultPlace_0 : Int) (tape_1 : Int → Int) (limit_1 : Int) (from_1 : Int) (pos_1 : Int) (kind_1 : Int) (fault_1 : Int) (faultPlace_1 : Int) (tape_2 : Int → Int) (limit_2 : Int) (r_2 : Int) (pos_2 : Int) (from_2 : Int) (kind_2 : Int) (now_2 : Int → Int) (latest_2 : Int → Int) (fault_2 : Int) (faultPlace_2 : Int) (r_1 : Int) (place_1 : Int) (value_0 : Int) (value_1 : Int) (all_0 : Int → Int) (now_0 : Int → Int) (now_1 : Int → Int) (latest_0 : Int → Int) (latest_1 : Int → Int) (k2 : (-1) ≤ x2 ∧ x2 ≤ 23) (k17 : 0 ≤ x17 ∧ x17 ≤ 0) (k18 : 0 ≤ x18 ∧ x18 ≤ 23) (g4 : x17 = fault_0) (f15 : (-1) * fault_0 + 0 ≤ (-1)) (fe_0_5_1 : r_0 = r_1) (fe_0_8_1 : fault_0 = fault_1) (fe_0_9_1 : faultPlace_0 = faultPlace_1) (fe_0_10_1 : limit_0 = limit_1) (fe_0_11_1 : pos_0 = pos_1) (fe_0_12_1 : kind_0 = kind_1) (fe_0_13_1 : place_0 = place_1) (fe_0_14_1 : value_0 = value_1) (fe_0_15_1 : from_0 = from_1) (fe_0_5_2 : r_1 = r_2) (fe_0_8_2 : fault_1 = fault_2) (fe_0_9_2 : faultPlace_1 = faultPlace_2) (fe_0_10_2 : limit_1 = limit_2) (fe_0_11_2 : pos_1 = pos_2) (fe_0_12_2 : kind_1 = kind_2) (fe_0_15_2 : from_1 = from_2) (hE_0_1_1 : ∀ j : Int, tape_0 j = tape_1 j) (hE_0_1_2 : ∀ j : Int, tape_1 j = tape_2 j) (hE_0_3_1 : ∀ j : Int, now_0 j = now_1 j) (hE_0_3_2 : ∀ j : Int, now_1 j = now_2 j) (hE_0_4_1 : ∀ j : Int, latest_0 j = latest_1 j) (hE_0_4_2 : ∀ j : Int, latest_1 j = latest_2 j) (kz_0_8 : 0 ≤ fault_0 ∧ fault_0 ≤ 5) (kz_0_9 : 0 ≤ faultPlace_0 ∧ faultPlace_0 ≤ 2000) (kz_0_10 : 0 ≤ limit_0 ∧ limit_0 ≤ 2000) (kz_0_11 : 0 ≤ pos_0 ∧ pos_0 ≤ 2000) (kz_0_12 : 0 ≤ kind_0 ∧ kind_0 ≤ 4) (kz_0_13 : 0 ≤ place_0 ∧ place_0 ≤ 2000) (kz_0_14 : (-49) ≤ value_0 ∧ value_0 ≤ 1048575) (kz_0_15 : 0 ≤ from_0 ∧ from_0 ≤ 2000) : MEN (r_0) (all_0) (x2) (x18) := by
  subst fe_0_5_1
  subst fe_0_8_1
  subst fe_0_9_1
  subst fe_0_10_1
  subst fe_0_11_1
  subst fe_0_12_1
  subst fe_0_13_1
  subst fe_0_14_1
  subst fe_0_15_1
  subst fe_0_5_2
  subst fe_0_8_2
  subst fe_0_9_2
  subst fe_0_10_2
  subst fe_0_11_2
  subst fe_0_12_2
  subst fe_0_15_2
  have e_hE_0_1_1 := funext hE_0_1_1; subst e_hE_0_1_1
  have e_hE_0_1_2 := funext hE_0_1_2; subst e_hE_0_1_2
  have e_hE_0_3_1 := funext hE_0_3_1; subst e_hE_0_3_1
  have e_hE_0_3_2 := funext hE_0_3_2; subst e_hE_0_3_2
  have e_hE_0_4_1 := funext hE_0_4_1; subst e_hE_0_4_1
  have e_hE_0_4_2 := funext hE_0_4_2; subst e_hE_0_4_2
  try simp only [Int.add_zero] at *
  first
    | (exfalso; omega)
set_option maxHeartbeats 4000000 in
theorem vc_Mo_met_at_g4_4_6 (x1 : Int) (x2 : Int) (x5 : Int) (x6 : Int) (x7 : Int) (x12 : Int) (x15 : Int) (x17 : Int) (x18 : Int) (x20 : Int) (x25 : Int) (x26 : Int) (x27 : Int) (x28 : Int) (x30 : Int) (from_0 : Int) (pos_0 : Int) (r_0 : Int) (fault_0 : Int) (place_0 : Int) (tape_0 : Int → Int) (limit_0 : Int) (kind_0 : Int) (faultPlace_0 : Int) (tape_1 : Int → Int) (limit_1 : Int) (from_1 : Int) (pos_1 : Int) (kind_1 : Int) (fault_1 : Int) (faultPlace_1 : Int) (all_2 : Int → Int) (tape_2 : Int → Int) (limit_2 : Int) (r_2 : Int) (pos_2 : Int) (from_2 : Int) (kind_2 : Int) (now_2 : Int → Int) (latest_2 : Int → Int) (fault_2 : Int) (faultPlace_2 : Int) (r_1 : Int) (place_1 : Int) (value_0 : Int) (value_1 : Int) (all_0 : Int → Int) (now_0 : Int → Int) (now_1 : Int → Int) (latest_0 : Int → Int) (latest_1 : Int → Int) (k1 : 0 ≤ x1 ∧ x1 ≤ 7) (k2 : (-1) ≤ x2 ∧ x2 ≤ 23) (k5 : 0 ≤ x5 ∧ x5 ≤ 4) (k6 : 0 ≤ x6 ∧ x6 ≤ 48) (k7 : 0 ≤ x7 ∧ x7 ≤ 1) (k12 : 24 ≤ x12 ∧ x12 ≤ 24) (k15 : 0 ≤ x15 ∧ x15 ≤ 2000) (k17 : 0 ≤ x17 ∧ x17 ≤ 0) (k18 : 0 ≤ x18 ∧ x18 ≤ 23) (k20 : 0 ≤ x20 ∧ x20 ≤ 66297) (k25 : 195 ≤ x25 ∧ x25 ≤ 66492) (k26 : 195 ≤ x26 ∧ x26 ≤ 66515) (k27 : 0 ≤ x27 ∧ x27 ≤ 2000) (k28 : 0 ≤ x28 ∧ x28 ≤ 2000) (k30 : 0 ≤ x30 ∧ x30 ≤ 0) (d3 : x20 + 195 ≤ x26 ∧ x26 ≤ x20 + 218) (d4 : x20 + 195 ≤ x25 ∧ x25 ≤ x20 + 195) (g0 : x28 = from_0) (g1 : x27 = pos_0) (g2 : x20 = r_0) (g4 : x17 = fault_0) (g5 : x15 = place_0) (f19 : x26 = x25 + x18) (f35 : 1 * x18 + ((-1) * all_2 (r_0 + 0) + 0) ≤ 0) (f36 : (-1) * x18 + (1 * all_2 (r_0 + 0) + 0) ≤ 0) (f41 : 1 * x12 + ((-1) * all_2 (r_0 + 0) + 0) ≤ 0) (fe_0_5_1 : r_0 = r_1) (fe_0_8_1 : fault_0 = fault_1) (fe_0_9_1 : faultPlace_0 = faultPlace_1) (fe_0_10_1 : limit_0 = limit_1) (fe_0_11_1 : pos_0 = pos_1) (fe_0_12_1 : kind_0 = kind_1) (fe_0_13_1 : place_0 = place_1) (fe_0_14_1 : value_0 = value_1) (fe_0_15_1 : from_0 = from_1) (fe_0_5_2 : r_1 = r_2) (fe_0_8_2 : fault_1 = fault_2) (fe_0_9_2 : faultPlace_1 = faultPlace_2) (fe_0_10_2 : limit_1 = limit_2) (fe_0_11_2 : pos_1 = pos_2) (fe_0_12_2 : kind_1 = kind_2) (fe_0_15_2 : from_1 = from_2) (hE_0_1_1 : ∀ j : Int, tape_0 j = tape_1 j) (hE_0_1_2 : ∀ j : Int, tape_1 j = tape_2 j) (hE_0_3_1 : ∀ j : Int, now_0 j = now_1 j) (hE_0_3_2 : ∀ j : Int, now_1 j = now_2 j) (hE_0_4_1 : ∀ j : Int, latest_0 j = latest_1 j) (hE_0_4_2 : ∀ j : Int, latest_1 j = latest_2 j) (kz_0_8 : 0 ≤ fault_0 ∧ fault_0 ≤ 5) (kz_0_9 : 0 ≤ faultPlace_0 ∧ faultPlace_0 ≤ 2000) (kz_0_10 : 0 ≤ limit_0 ∧ limit_0 ≤ 2000) (kz_0_11 : 0 ≤ pos_0 ∧ pos_0 ≤ 2000) (kz_0_12 : 0 ≤ kind_0 ∧ kind_0 ≤ 4) (kz_0_13 : 0 ≤ place_0 ∧ place_0 ≤ 2000) (kz_0_14 : (-49) ≤ value_0 ∧ value_0 ≤ 1048575) (kz_0_15 : 0 ≤ from_0 ∧ from_0 ≤ 2000) : zMN4 (limit_0) (pos_0) (kind_0) (place_0) (value_0) (from_0) (fault_0) (r_0) (tape_0) (all_0) (x18) (x30) (x2) (x6) (x7) (x1) (x5) := by
  subst fe_0_5_1
  subst fe_0_8_1
  subst fe_0_9_1
  subst fe_0_10_1
  subst fe_0_11_1
  subst fe_0_12_1
  subst fe_0_13_1
  subst fe_0_14_1
  subst fe_0_15_1
  subst fe_0_5_2
  subst fe_0_8_2
  subst fe_0_9_2
  subst fe_0_10_2
  subst fe_0_11_2
  subst fe_0_12_2
  subst fe_0_15_2
  have e_hE_0_1_1 := funext hE_0_1_1; subst e_hE_0_1_1
  have e_hE_0_1_2 := funext hE_0_1_2; subst e_hE_0_1_2
  have e_hE_0_3_1 := funext hE_0_3_1; subst e_hE_0_3_1
  have e_hE_0_3_2 := funext hE_0_3_2; subst e_hE_0_3_2
  have e_hE_0_4_1 := funext hE_0_4_1; subst e_hE_0_4_1
  have e_hE_0_4_2 := funext hE_0_4_2; subst e_hE_0_4_2
  first | subst g0 | skip
  first | subst g1 | skip
  first | subst g2 | skip
  first | subst g4 | skip
  first | subst g5 | skip
  try simp only [Int.add_zero] at *
  first
    | exact mn_step4 ((rsq_lim (‹zMN4 _ _ _ _ _ _ _ _ _ _ _ _ _ _ _ _ _›).1).2.2.2 (by omega)).2 ‹zMN4 _ _ _ _ _ _ _ _ _ _ _ _ _ _ _ _ _› (by omega) (by assumption) (by omega) (rsq_byte (‹zMN4 _ _ _ _ _ _ _ _ _ _ _ _ _ _ _ _ _›).1 (by omega) (by assumption) (by omega) (by omega) (by omega)) (by omega) (by omega)
    | exact mn_start4 ‹zRS4 _ _ _ _ _ _ _ _ _ _ _ _ _ _ _› (by omega) ‹NMQ _ _ _ _ _ _› (by omega) ‹KNQ _ _ _ _ _ _ _› (by omega) (by simp only [Int.add_zero]; omega) (by omega) (by assumption) (by assumption) (by omega) (by omega) (by omega) (by omega) (by omega) (by omega)
    | (exfalso; omega)
def o_Mo_met_at_g4_4 : or_T := (171, 31, [(0, (2, 0, 0, [165])), (1, (0, 0, 7, [])), (2, (0, -1, 23, [])), (3, (0, 0, 2000, [])), (4, (0, 0, 2000, [])), (5, (0, 0, 4, [])), (6, (0, 0, 48, [])), (7, (0, 0, 1, [])), (9, (0, 1, 1, [])), (10, (0, -1, -1, [])), (12, (0, 24, 24, [])), (13, (0, 24, 24, [])), (14, (0, 3, 3, [])), (15, (0, 0, 2000, [])), (16, (0, 0, 5, [])), (17, (0, 0, 0, [])), (18, (0, 0, 23, [])), (19, (2, 0, 0, [167])), (20, (0, 0, 66297, [])), (21, (0, 0, 24, [])), (22, (0, 1, 1, [])), (23, (0, 1, 24, [])), (24, (0, 195, 195, [])), (25, (0, 195, 66492, [])), (26, (0, 195, 66515, [])), (27, (0, 0, 2000, [])), (28, (0, 0, 2000, [])), (29, (0, 0, 8, [])), (30, (0, 0, 0, []))], [(9, [28, 0], [15]), (9, [27, 0], [11]), (9, [20, 0], [5]), (9, [19, 0], [2]), (9, [17, 0], [8]), (9, [15, 0], [13]), (20, [0, 14, 15], [60, 1, 1, 1026, 10, 1]), (20, [16], [61, 0, 1029]), (20, [0, 0], [30, 0, 1, 1, 15, -1, 1, 11]), (20, [0], [50, 3, 0, 12, 11, 15, 2, 21, 4, 7, 1, 3, 2, 0, 12, 0, 1, 0, 3, 2, 0, 11, 4, 3, 2, 0, 15, 0, 8, 3, 7, 1, 3, 2, 0, 12, 0, 0, 0, 7, 4, 3, 2, 0, 15, 0, 1, 2, 0, 11]), (20, [3, 0], [30, 0, 1, 0, 0, -1, 1, 11]), (20, [0, 4], [50, 2, 0, 12, 11, 3, 7, 1, 3, 2, 0, 12, 0, 0, 0, 6, 4, 2, 1, 1, 0, 1, 2, 0, 11]), (20, [2], [50, 0, 0, 0, 2, 0, 0, 1, 0]), (20, [9, 0], [50, 1, 0, 1012, 4, 6, 1, 2, 1, 0, 0, 1, 1, 3, 2, 1, 12, 0, 1]), (20, [0, 9], [60, 4, 1, 962, 12, 11, 10, 15, 1]), (20, [0], [30, -1, -1, 1, 8]), (20, [16, 0, 14, 15], [50, 2, 0, 1008, 1009, 3, 15, 2, 6, 0, 2, 0, 1, 1, 0, 1, 3, 2, 1, 8, 1, 0, 2, 6, 1, 2, 1, 0, 0, 0, 2, 7, 1, 3, 2, 1, 8, 1, 2, 1, 3, 2, 1, 9, 1, 3]), (100, [19, 26, 29], []), (2, [29, 27, 28], []), (1, [26, 25, 18], []), (1, [25, 20, 24], []), (20, [0, 14, 15], [60, 1, 1, 1026, 10, 1]), (20, [16], [61, 0, 1029]), (20, [0, 0], [30, 0, 1, 1, 15, -1, 1, 11]), (20, [0], [50, 3, 0, 12, 11, 15, 2, 21, 4, 7, 1, 3, 2, 0, 12, 0, 1, 0, 3, 2, 0, 11, 4, 3, 2, 0, 15, 0, 8, 3, 7, 1, 3, 2, 0, 12, 0, 0, 0, 7, 4, 3, 2, 0, 15, 0, 1, 2, 0, 11]), (20, [3, 0], [30, 0, 1, 0, 0, -1, 1, 11]), (20, [0, 4], [50, 2, 0, 12, 11, 3, 7, 1, 3, 2, 0, 12, 0, 0, 0, 6, 4, 2, 1, 1, 0, 1, 2, 0, 11]), (20, [2], [50, 0, 0, 0, 2, 0, 0, 1, 0]), (20, [9, 0], [50, 1, 0, 1012, 4, 6, 1, 2, 1, 0, 0, 1, 1, 3, 2, 1, 12, 0, 1]), (20, [0, 9], [60, 4, 1, 962, 12, 11, 10, 15, 1]), (20, [0], [30, -1, -1, 1, 8]), (20, [16, 0, 14, 15], [50, 2, 0, 1008, 1009, 3, 15, 2, 6, 0, 2, 0, 1, 1, 0, 1, 3, 2, 1, 8, 1, 0, 2, 6, 1, 2, 1, 0, 0, 0, 2, 7, 1, 3, 2, 1, 8, 1, 2, 1, 3, 2, 1, 9, 1, 3]), (100, [19, 20, 23], []), (1, [23, 21, 22], []), (10, [21, 19, 20], []), (20, [18, 0], [30, 0, 1, 0, 0, -1, 3, 2005000]), (20, [18, 0], [30, 0, -1, 0, 0, 1, 3, 2005000]), (8, [10], [2]), (8, [17], [5]), (20, [0, 14, 15], [60, 1, 1, 1026, 10, 1]), (20, [16], [61, 0, 1029]), (20, [12, 0], [30, 0, 1, 0, 0, -1, 3, 2005000]), (20, [12, 0], [30, 0, -1, 0, 0, 1, 3, 2005000]), (20, [0, 10], [60, 1, 1, 207, 5, 2]), (20, [0, 10], [60, 4, 2, 1031, 11, 10, 15, 5, 2, 1]), (20, [0, 0], [30, 0, 1, 1, 15, -1, 1, 11]), (20, [0], [50, 3, 0, 12, 11, 15, 2, 21, 4, 7, 1, 3, 2, 0, 12, 0, 1, 0, 3, 2, 0, 11, 4, 3, 2, 0, 15, 0, 8, 3, 7, 1, 3, 2, 0, 12, 0, 0, 0, 7, 4, 3, 2, 0, 15, 0, 1, 2, 0, 11]), (20, [3, 0], [30, 0, 1, 0, 0, -1, 1, 11]), (20, [0, 4], [50, 2, 0, 12, 11, 3, 7, 1, 3, 2, 0, 12, 0, 0, 0, 6, 4, 2, 1, 1, 0, 1, 2, 0, 11]), (20, [1, 0], [50, 1, 1, 1005, 1002, 0, 6, 4, 2, 1, 0, 0, 1, 3, 1, 2, 4, 3, 2, 1, 5, 0, 2]), (20, [0], [60, 1, 3, 199, 5, 2, 3, 4]), (20, [0, 2], [60, 1, 1, 241, 5, 2]), (20, [2], [50, 0, 0, 0, 2, 0, 0, 1, 0]), (20, [9, 0], [50, 1, 0, 1012, 4, 6, 1, 2, 1, 0, 0, 1, 1, 3, 2, 1, 12, 0, 1]), (20, [0, 9], [60, 4, 1, 962, 12, 11, 10, 15, 1]), (20, [0], [30, -1, -1, 1, 8]), (20, [16, 0, 14, 15], [50, 2, 0, 1008, 1009, 3, 15, 2, 6, 0, 2, 0, 1, 1, 0, 1, 3, 2, 1, 8, 1, 0, 2, 6, 1, 2, 1, 0, 0, 0, 2, 7, 1, 3, 2, 1, 8, 1, 2, 1, 3, 2, 1, 9, 1, 3]), (102, [16], [0, 165008, 165009]), (7, [12, 13], [0]), (8, [10], [2]), (8, [10], [2]), (8, [9], [1])], [], [], [(20, [4, 0], [30, -1, 1, 0, 0, -1, 1, 11]), (20, [0], [50, 1, 0, 12, 1, 3, 2, 0, 12, 0, 1]), (20, [2, 0], [50, 1, 1, 1005, 1002, 3, 6, 0, 2, 1, 0, 0, -1, 0, 10, 3, 1, 2, 4, 3, 2, 1, 5, 0, 1, 0, 47]), (20, [1, 0], [50, 1, 1, 1005, 1002, 0, 6, 4, 2, 1, 0, 0, 1, 3, 1, 2, 4, 3, 2, 1, 5, 0, 2]), (20, [0, 18], [60, 1, 3, 200, 5, 2, 3, 4]), (20, [0, 2, 18], [60, 1, 1, 243, 5, 2]), (20, [0, 18, 30, 2, 6, 7, 1, 5], [60, 8, 2, 1005, 10, 11, 12, 13, 14, 15, 8, 5, 1, 2]), (24, [0, 0], []), (24, [1, 1], []), (24, [2, 2], [])], [], [(29, 27, -2000, 0), (26, 18, 195, 66492), (26, 25, 0, 23), (26, 20, 195, 218), (25, 20, 195, 195), (23, 21, 1, 1)])
theorem oo_Mo_met_at_g4_4 {kA : Nat → ClassId} : or_ok PRD kA GG o_Mo_met_at_g4_4 := by
  refine or_mk fun A ta ws vs hD hth hl => ?_
  intro t0 r0 t1 k1 t2 k2 t3 k3 t4 k4 t5 k5 t6 k6 t7 k7 t9 k9 t10 k10 t12 k12 t13 k13 t14 k14 t15 k15 t16 k16 t17 k17 t18 k18 t19 r19 t20 k20 t21 k21 t22 k22 t23 k23 t24 k24 t25 k25 t26 k26 t27 k27 t28 k28 t29 k29 t30 k30 d0 d1 d2 d3 d4 d5 f0 f1 f2 f3 f4 f5 f6 f7 f8 f9 f10 f11 f12 f13 f14 f15 f16 ta1 w1 le1 s1 f18 f19 f20 f21 f22 f23 f24 f25 f26 f27 f28 f29 f30 f31 ta2 w2 le2 s2 f33 f34 f35 f36 f37 f38 f39 f40 f41 f42 f43 f44 f45 f46 f47 f48 f49 f50 f51 f52 f53 f54 f55 f56 ta3 w3 le3 s3 f58 f59 f60 f61
  replace f0 := shm_177 f0
  replace f1 := shm_116 f1
  replace f2 := shm_110 f2
  replace f3 := shm_120 f3
  replace f4 := shm_293 f4
  replace f5 := shm_361 f5
  replace f6 := shm_1724 f6
  replace f7 := shm_1725 f7
  replace f8 := shm_1437 f8
  replace f9 := shm_1438 f9
  replace f10 := shm_1431 f10
  replace f11 := shm_2111 f11
  replace f12 := shm_722 f12
  replace f13 := shm_1856 f13
  replace f14 := shm_1889 f14
  replace f15 := shm_305 f15
  replace f16 := shm_306 f16
  have s1 : (∀ b j, w_el ws b j = if b = v_ad (n_v vs 19) ∧ j = (v_iv (n_v vs 26)).toNat then v_iv (n_v vs 29) else w_el w1 b j) ∧ ∀ b k, w_fd ws b k = w_fd w1 b k := s1.2
  replace f18 := shm_14 f18
  replace f19 := shm_12 f19
  replace f20 := shm_12 f20
  replace f21 := shm_1724 f21
  replace f22 := shm_1725 f22
  replace f23 := shm_1437 f23
  replace f24 := shm_1438 f24
  replace f25 := shm_1431 f25
  replace f26 := shm_2111 f26
  replace f27 := shm_722 f27
  replace f28 := shm_1856 f28
  replace f29 := shm_1889 f29
  replace f30 := shm_305 f30
  replace f31 := shm_306 f31
  have s2 : (∀ b j, w_el w1 b j = if b = v_ad (n_v vs 19) ∧ j = (v_iv (n_v vs 20)).toNat then v_iv (n_v vs 23) else w_el w2 b j) ∧ ∀ b k, w_fd w1 b k = w_fd w2 b k := s2.2
  replace f33 := shm_12 f33
  replace f34 := shm_107 f34
  replace f35 := shm_126 f35
  replace f36 := shm_127 f36
  replace f37 := shm_39 f37
  replace f38 := shm_295 f38
  replace f39 := shm_1724 f39
  replace f40 := shm_1725 f40
  replace f41 := shm_126 f41
  replace f42 := shm_127 f42
  replace f43 := shm_1232 f43
  replace f44 := shm_1233 f44
  replace f45 := shm_1437 f45
  replace f46 := shm_1438 f46
  replace f47 := shm_1431 f47
  replace f48 := shm_2111 f48
  replace f49 := shm_1009 f49
  replace f50 := shm_980 f50
  replace f51 := shm_2112 f51
  replace f52 := shm_722 f52
  replace f53 := shm_1856 f53
  replace f54 := shm_1889 f54
  replace f55 := shm_305 f55
  replace f56 := shm_306 f56
  replace f58 := shm_37 f58
  replace f59 := shm_39 f59
  replace f60 := shm_39 f60
  replace f61 := shm_142 f61
  have ar_0_1_1 : w_ar w1 (n_v vs 0) 1 = w_ar ws (n_v vs 0) 1 := congrArg v_ad (s1.2 _ _).symm
  have ar_0_1_2 : w_ar w2 (n_v vs 0) 1 = w_ar ws (n_v vs 0) 1 := by rw [← ar_0_1_1]; show v_ad (w_fd w2 _ _) = v_ad (w_fd w1 _ _); rw [s2.2]
  have cr_0_1 := fdq_39 hD hth r0
  have ar_0_2_1 : w_ar w1 (n_v vs 0) 2 = w_ar ws (n_v vs 0) 2 := congrArg v_ad (s1.2 _ _).symm
  have ar_0_2_2 : w_ar w2 (n_v vs 0) 2 = w_ar ws (n_v vs 0) 2 := by rw [← ar_0_2_1]; show v_ad (w_fd w2 _ _) = v_ad (w_fd w1 _ _); rw [s2.2]
  have cr_0_2 := fdq_10 hD hth r0
  have ar_0_3_1 : w_ar w1 (n_v vs 0) 3 = w_ar ws (n_v vs 0) 3 := congrArg v_ad (s1.2 _ _).symm
  have ar_0_3_2 : w_ar w2 (n_v vs 0) 3 = w_ar ws (n_v vs 0) 3 := by rw [← ar_0_3_1]; show v_ad (w_fd w2 _ _) = v_ad (w_fd w1 _ _); rw [s2.2]
  have cr_0_3 := fdq_142 hD hth r0
  have ar_0_4_1 : w_ar w1 (n_v vs 0) 4 = w_ar ws (n_v vs 0) 4 := congrArg v_ad (s1.2 _ _).symm
  have ar_0_4_2 : w_ar w2 (n_v vs 0) 4 = w_ar ws (n_v vs 0) 4 := by rw [← ar_0_4_1]; show v_ad (w_fd w2 _ _) = v_ad (w_fd w1 _ _); rw [s2.2]
  have cr_0_4 := fdq_143 hD hth r0
  have fi_0_5_1 : w_fi w1 (n_v vs 0) 5 = w_fi ws (n_v vs 0) 5 := by show v_iv (w_fd w1 _ _) = v_iv (w_fd ws _ _); rw [s1.2]
  have fi_0_5_2 : w_fi w2 (n_v vs 0) 5 = w_fi ws (n_v vs 0) 5 := by rw [← fi_0_5_1]; show v_iv (w_fd w2 _ _) = v_iv (w_fd w1 _ _); rw [s2.2]
  have ad_19 : v_ad (n_v vs 19) = w_ar ws (n_v vs 0) 2 := congrArg v_ad f3
  have g0 : v_iv (n_v vs 28) = w_fi ws (n_v vs 0) 15 := congrArg v_iv f0
  have g1 : v_iv (n_v vs 27) = w_fi ws (n_v vs 0) 11 := congrArg v_iv f1
  have g2 : v_iv (n_v vs 20) = w_fi ws (n_v vs 0) 5 := congrArg v_iv f2
  have g4 : v_iv (n_v vs 17) = w_fi ws (n_v vs 0) 8 := congrArg v_iv f4
  have g5 : v_iv (n_v vs 15) = w_fi ws (n_v vs 0) 13 := congrArg v_iv f5
  simp only [ar_0_1_1, ad_19] at f21 f29 f34
  have h34 : v_iv (n_v vs 21) = w_ei w2 (w_ar ws (n_v vs 0) 2) (v_iv (n_v vs 20)) := f34
  simp only [ar_0_2_2, ar_0_1_2, ar_0_3_2, ar_0_4_2] at f35 f36 f39 f41 f42 f43 f44 f49 f50 f51 f54
  simp only [fi_0_5_2] at f35 f36 f41 f42
  have fe_0_5_1 : w_fi ws (n_v vs 0) 5 = w_fi w1 (n_v vs 0) 5 := congrArg v_iv (s1.2 _ _)
  have fe_0_8_1 : w_fi ws (n_v vs 0) 8 = w_fi w1 (n_v vs 0) 8 := congrArg v_iv (s1.2 _ _)
  have fe_0_9_1 : w_fi ws (n_v vs 0) 9 = w_fi w1 (n_v vs 0) 9 := congrArg v_iv (s1.2 _ _)
  have fe_0_10_1 : w_fi ws (n_v vs 0) 10 = w_fi w1 (n_v vs 0) 10 := congrArg v_iv (s1.2 _ _)
  have fe_0_11_1 : w_fi ws (n_v vs 0) 11 = w_fi w1 (n_v vs 0) 11 := congrArg v_iv (s1.2 _ _)
  have fe_0_12_1 : w_fi ws (n_v vs 0) 12 = w_fi w1 (n_v vs 0) 12 := congrArg v_iv (s1.2 _ _)
  have fe_0_13_1 : w_fi ws (n_v vs 0) 13 = w_fi w1 (n_v vs 0) 13 := congrArg v_iv (s1.2 _ _)
  have fe_0_14_1 : w_fi ws (n_v vs 0) 14 = w_fi w1 (n_v vs 0) 14 := congrArg v_iv (s1.2 _ _)
  have fe_0_15_1 : w_fi ws (n_v vs 0) 15 = w_fi w1 (n_v vs 0) 15 := congrArg v_iv (s1.2 _ _)
  have fe_0_5_2 : w_fi w1 (n_v vs 0) 5 = w_fi w2 (n_v vs 0) 5 := congrArg v_iv (s2.2 _ _)
  have fe_0_8_2 : w_fi w1 (n_v vs 0) 8 = w_fi w2 (n_v vs 0) 8 := congrArg v_iv (s2.2 _ _)
  have fe_0_9_2 : w_fi w1 (n_v vs 0) 9 = w_fi w2 (n_v vs 0) 9 := congrArg v_iv (s2.2 _ _)
  have fe_0_10_2 : w_fi w1 (n_v vs 0) 10 = w_fi w2 (n_v vs 0) 10 := congrArg v_iv (s2.2 _ _)
  have fe_0_11_2 : w_fi w1 (n_v vs 0) 11 = w_fi w2 (n_v vs 0) 11 := congrArg v_iv (s2.2 _ _)
  have fe_0_12_2 : w_fi w1 (n_v vs 0) 12 = w_fi w2 (n_v vs 0) 12 := congrArg v_iv (s2.2 _ _)
  have fe_0_13_2 : w_fi w1 (n_v vs 0) 13 = w_fi w2 (n_v vs 0) 13 := congrArg v_iv (s2.2 _ _)
  have fe_0_14_2 : w_fi w1 (n_v vs 0) 14 = w_fi w2 (n_v vs 0) 14 := congrArg v_iv (s2.2 _ _)
  have fe_0_15_2 : w_fi w1 (n_v vs 0) 15 = w_fi w2 (n_v vs 0) 15 := congrArg v_iv (s2.2 _ _)
  have hE_0_1_1 : ∀ j : Int, w_ei ws (w_ar ws (n_v vs 0) 1) j = w_ei w1 (w_ar ws (n_v vs 0) 1) j := el_kp s1.1 r19 cr_0_1 (by decide)
  have hE_0_1_2 : ∀ j : Int, w_ei w1 (w_ar ws (n_v vs 0) 1) j = w_ei w2 (w_ar ws (n_v vs 0) 1) j := el_kp s2.1 r19 cr_0_1 (by decide)
  have hK_0_1 := elq_7 hD hth cr_0_1
  have hE_0_2_1 : ∀ j : Int, 0 ≤ j → (j = v_iv (n_v vs 26) → w_ei ws (w_ar ws (n_v vs 0) 2) j = v_iv (n_v vs 29)) ∧ (j ≠ v_iv (n_v vs 26) → w_ei ws (w_ar ws (n_v vs 0) 2) j = w_ei w1 (w_ar ws (n_v vs 0) 2) j) := fun j hj => ⟨fun h => by unfold w_ei; rw [s1.1, if_pos ⟨ad_19.symm, by rw [h]⟩], fun h => by unfold w_ei; rw [s1.1, if_neg (fun e => h (by have := e.2; omega))]⟩
  have hE_0_2_2 : ∀ j : Int, 0 ≤ j → (j = v_iv (n_v vs 20) → w_ei w1 (w_ar ws (n_v vs 0) 2) j = v_iv (n_v vs 23)) ∧ (j ≠ v_iv (n_v vs 20) → w_ei w1 (w_ar ws (n_v vs 0) 2) j = w_ei w2 (w_ar ws (n_v vs 0) 2) j) := fun j hj => ⟨fun h => by unfold w_ei; rw [s2.1, if_pos ⟨ad_19.symm, by rw [h]⟩], fun h => by unfold w_ei; rw [s2.1, if_neg (fun e => h (by have := e.2; omega))]⟩
  have hE_0_3_1 : ∀ j : Int, w_ei ws (w_ar ws (n_v vs 0) 3) j = w_ei w1 (w_ar ws (n_v vs 0) 3) j := el_kp s1.1 r19 cr_0_3 (by decide)
  have hE_0_3_2 : ∀ j : Int, w_ei w1 (w_ar ws (n_v vs 0) 3) j = w_ei w2 (w_ar ws (n_v vs 0) 3) j := el_kp s2.1 r19 cr_0_3 (by decide)
  have hK_0_3 := elq_80 hD hth cr_0_3
  have hE_0_4_1 : ∀ j : Int, w_ei ws (w_ar ws (n_v vs 0) 4) j = w_ei w1 (w_ar ws (n_v vs 0) 4) j := el_kp s1.1 r19 cr_0_4 (by decide)
  have hE_0_4_2 : ∀ j : Int, w_ei w1 (w_ar ws (n_v vs 0) 4) j = w_ei w2 (w_ar ws (n_v vs 0) 4) j := el_kp s2.1 r19 cr_0_4 (by decide)
  have hK_0_4 := elq_81 hD hth cr_0_4
  have kz_0_8 := fdq_34 hD hth r0
  have kz_0_9 := fdq_44 hD hth r0
  have kz_0_10 := fdq_43 hD hth r0
  have kz_0_11 := fdq_237 hD hth r0
  have kz_0_12 := fdq_187 hD hth r0
  have kz_0_13 := fdq_238 hD hth r0
  have kz_0_14 := fdq_188 hD hth r0
  have kz_0_15 := fdq_239 hD hth r0
  first | have hJ0 : w_ei w2 (w_ar ws (n_v vs 0) 2) ((w_fi w2 (n_v vs 0) 5 + 2)) = w_ei w2 (w_ar ws (n_v vs 0) 2) ((w_fi ws (n_v vs 0) 5 + 2)) := congrArg _ (show ((w_fi w2 (n_v vs 0) 5 + 2) : Int) = (w_fi ws (n_v vs 0) 5 + 2) from by omega) | skip
  first | have hI1 := (hE_0_2_1 ((w_fi ws (n_v vs 0) 5 + 2)) (by omega)).2 (by omega) | have hI1 := (hE_0_2_1 ((w_fi ws (n_v vs 0) 5 + 2)) (by omega)).1 (by omega) | skip
  first | have hI2 := (hE_0_2_2 ((w_fi ws (n_v vs 0) 5 + 2)) (by omega)).2 (by omega) | have hI2 := (hE_0_2_2 ((w_fi ws (n_v vs 0) 5 + 2)) (by omega)).1 (by omega) | skip
  first | have hI3 := (hE_0_2_1 ((w_fi ws (n_v vs 0) 5 + 1)) (by omega)).2 (by omega) | have hI3 := (hE_0_2_1 ((w_fi ws (n_v vs 0) 5 + 1)) (by omega)).1 (by omega) | skip
  first | have hI4 := (hE_0_2_2 ((w_fi ws (n_v vs 0) 5 + 1)) (by omega)).2 (by omega) | have hI4 := (hE_0_2_2 ((w_fi ws (n_v vs 0) 5 + 1)) (by omega)).1 (by omega) | skip
  have nf0 : fc_1 PRD (20, [4, 0], [30, -1, 1, 0, 0, -1, 1, 11]) ws (vs) := ⟨nf_in hl rfl, sgq_2005 (vc_Mo_met_at_g4_4_0 (v_iv (n_v vs 4)) (v_iv (n_v vs 17)) (v_iv (n_v vs 20)) (v_iv (n_v vs 23)) (v_iv (n_v vs 26)) (v_iv (n_v vs 29)) (w_fi ws (n_v vs 0) 15) (w_fi ws (n_v vs 0) 11) (w_fi ws (n_v vs 0) 5) (w_fi ws (n_v vs 0) 8) (w_fi ws (n_v vs 0) 13) (w_ei ws (w_ar ws (n_v vs 0) 1)) (w_fi ws (n_v vs 0) 10) (w_fi ws (n_v vs 0) 12) (w_fi ws (n_v vs 0) 9) (w_ei w1 (w_ar ws (n_v vs 0) 1)) (w_fi w1 (n_v vs 0) 10) (w_fi w1 (n_v vs 0) 15) (w_fi w1 (n_v vs 0) 11) (w_fi w1 (n_v vs 0) 12) (w_fi w1 (n_v vs 0) 8) (w_fi w1 (n_v vs 0) 9) (w_ei w2 (w_ar ws (n_v vs 0) 2)) (w_ei w2 (w_ar ws (n_v vs 0) 1)) (w_fi w2 (n_v vs 0) 10) (w_fi w2 (n_v vs 0) 5) (w_fi w2 (n_v vs 0) 11) (w_fi w2 (n_v vs 0) 15) (w_fi w2 (n_v vs 0) 12) (w_ei w2 (w_ar ws (n_v vs 0) 3)) (w_ei w2 (w_ar ws (n_v vs 0) 4)) (w_fi w2 (n_v vs 0) 8) (w_fi w2 (n_v vs 0) 9) (w_fi w1 (n_v vs 0) 5) (w_fi w1 (n_v vs 0) 13) (w_fi ws (n_v vs 0) 14) (w_fi w1 (n_v vs 0) 14) (w_ei ws (w_ar ws (n_v vs 0) 2)) (w_ei w1 (w_ar ws (n_v vs 0) 2)) (w_ei ws (w_ar ws (n_v vs 0) 3)) (w_ei w1 (w_ar ws (n_v vs 0) 3)) (w_ei ws (w_ar ws (n_v vs 0) 4)) (w_ei w1 (w_ar ws (n_v vs 0) 4)) k4 k17 k20 k23 k26 k29 g4 f15 fe_0_5_1 fe_0_8_1 fe_0_9_1 fe_0_10_1 fe_0_11_1 fe_0_12_1 fe_0_13_1 fe_0_14_1 fe_0_15_1 fe_0_5_2 fe_0_8_2 fe_0_9_2 fe_0_10_2 fe_0_11_2 fe_0_12_2 fe_0_15_2 hE_0_1_1 hE_0_1_2 hE_0_2_1 hE_0_2_2 hE_0_3_1 hE_0_3_2 hE_0_4_1 hE_0_4_2 kz_0_8 kz_0_9 kz_0_10 kz_0_11 kz_0_12 kz_0_13 kz_0_14 kz_0_15)⟩
  have nf1 : fc_1 PRD (20, [0], [50, 1, 0, 12, 1, 3, 2, 0, 12, 0, 1]) ws (vs) := ⟨nf_in hl rfl, sgq_1890 (vc_Mo_met_at_g4_4_1 (v_iv (n_v vs 17)) (v_iv (n_v vs 20)) (v_iv (n_v vs 23)) (v_iv (n_v vs 26)) (v_iv (n_v vs 29)) (w_fi ws (n_v vs 0) 15) (w_fi ws (n_v vs 0) 11) (w_fi ws (n_v vs 0) 5) (w_fi ws (n_v vs 0) 8) (w_fi ws (n_v vs 0) 13) (w_ei ws (w_ar ws (n_v vs 0) 1)) (w_fi ws (n_v vs 0) 10) (w_fi ws (n_v vs 0) 12) (w_fi ws (n_v vs 0) 9) (w_ei w1 (w_ar ws (n_v vs 0) 1)) (w_fi w1 (n_v vs 0) 10) (w_fi w1 (n_v vs 0) 15) (w_fi w1 (n_v vs 0) 11) (w_fi w1 (n_v vs 0) 12) (w_fi w1 (n_v vs 0) 8) (w_fi w1 (n_v vs 0) 9) (w_ei w2 (w_ar ws (n_v vs 0) 2)) (w_ei w2 (w_ar ws (n_v vs 0) 1)) (w_fi w2 (n_v vs 0) 10) (w_fi w2 (n_v vs 0) 5) (w_fi w2 (n_v vs 0) 11) (w_fi w2 (n_v vs 0) 15) (w_fi w2 (n_v vs 0) 12) (w_ei w2 (w_ar ws (n_v vs 0) 3)) (w_ei w2 (w_ar ws (n_v vs 0) 4)) (w_fi w2 (n_v vs 0) 8) (w_fi w2 (n_v vs 0) 9) (w_fi w1 (n_v vs 0) 5) (w_fi w1 (n_v vs 0) 13) (w_fi ws (n_v vs 0) 14) (w_fi w1 (n_v vs 0) 14) (w_ei ws (w_ar ws (n_v vs 0) 2)) (w_ei w1 (w_ar ws (n_v vs 0) 2)) (w_ei ws (w_ar ws (n_v vs 0) 3)) (w_ei w1 (w_ar ws (n_v vs 0) 3)) (w_ei ws (w_ar ws (n_v vs 0) 4)) (w_ei w1 (w_ar ws (n_v vs 0) 4)) k17 k20 k23 k26 k29 g4 f15 fe_0_5_1 fe_0_8_1 fe_0_9_1 fe_0_10_1 fe_0_11_1 fe_0_12_1 fe_0_13_1 fe_0_14_1 fe_0_15_1 fe_0_5_2 fe_0_8_2 fe_0_9_2 fe_0_10_2 fe_0_11_2 fe_0_12_2 fe_0_15_2 hE_0_1_1 hE_0_1_2 hE_0_2_1 hE_0_2_2 hE_0_3_1 hE_0_3_2 hE_0_4_1 hE_0_4_2 kz_0_8 kz_0_9 kz_0_10 kz_0_11 kz_0_12 kz_0_13 kz_0_14 kz_0_15)⟩
  have nf2 : fc_1 PRD (20, [2, 0], [50, 1, 1, 1005, 1002, 3, 6, 0, 2, 1, 0, 0, -1, 0, 10, 3, 1, 2, 4, 3, 2, 1, 5, 0, 1, 0, 47]) ws (vs) := ⟨nf_in hl rfl, sgq_2114 (vc_Mo_met_at_g4_4_2 (v_iv (n_v vs 2)) (v_iv (n_v vs 17)) (v_iv (n_v vs 20)) (v_iv (n_v vs 23)) (v_iv (n_v vs 26)) (v_iv (n_v vs 29)) (w_fi ws (n_v vs 0) 15) (w_fi ws (n_v vs 0) 11) (w_fi ws (n_v vs 0) 5) (w_fi ws (n_v vs 0) 8) (w_fi ws (n_v vs 0) 13) (w_ei ws (w_ar ws (n_v vs 0) 1)) (w_fi ws (n_v vs 0) 10) (w_fi ws (n_v vs 0) 12) (w_fi ws (n_v vs 0) 9) (w_ei w1 (w_ar ws (n_v vs 0) 1)) (w_fi w1 (n_v vs 0) 10) (w_fi w1 (n_v vs 0) 15) (w_fi w1 (n_v vs 0) 11) (w_fi w1 (n_v vs 0) 12) (w_fi w1 (n_v vs 0) 8) (w_fi w1 (n_v vs 0) 9) (w_ei w2 (w_ar ws (n_v vs 0) 2)) (w_ei w2 (w_ar ws (n_v vs 0) 1)) (w_fi w2 (n_v vs 0) 10) (w_fi w2 (n_v vs 0) 5) (w_fi w2 (n_v vs 0) 11) (w_fi w2 (n_v vs 0) 15) (w_fi w2 (n_v vs 0) 12) (w_ei w2 (w_ar ws (n_v vs 0) 3)) (w_ei w2 (w_ar ws (n_v vs 0) 4)) (w_fi w2 (n_v vs 0) 8) (w_fi w2 (n_v vs 0) 9) (w_fi w1 (n_v vs 0) 5) (w_fi w1 (n_v vs 0) 13) (w_fi ws (n_v vs 0) 14) (w_fi w1 (n_v vs 0) 14) (w_ei ws (w_ar ws (n_v vs 0) 2)) (w_ei w1 (w_ar ws (n_v vs 0) 2)) (w_ei ws (w_ar ws (n_v vs 0) 3)) (w_ei w1 (w_ar ws (n_v vs 0) 3)) (w_ei ws (w_ar ws (n_v vs 0) 4)) (w_ei w1 (w_ar ws (n_v vs 0) 4)) k2 k17 k20 k23 k26 k29 g4 f15 fe_0_5_1 fe_0_8_1 fe_0_9_1 fe_0_10_1 fe_0_11_1 fe_0_12_1 fe_0_13_1 fe_0_14_1 fe_0_15_1 fe_0_5_2 fe_0_8_2 fe_0_9_2 fe_0_10_2 fe_0_11_2 fe_0_12_2 fe_0_15_2 hE_0_1_1 hE_0_1_2 hE_0_2_1 hE_0_2_2 hE_0_3_1 hE_0_3_2 hE_0_4_1 hE_0_4_2 kz_0_8 kz_0_9 kz_0_10 kz_0_11 kz_0_12 kz_0_13 kz_0_14 kz_0_15)⟩
  have nf3 : fc_1 PRD (20, [1, 0], [50, 1, 1, 1005, 1002, 0, 6, 4, 2, 1, 0, 0, 1, 3, 1, 2, 4, 3, 2, 1, 5, 0, 2]) ws (vs) := ⟨nf_in hl rfl, sgq_1009 (vc_Mo_met_at_g4_4_3 (v_iv (n_v vs 1)) (v_iv (n_v vs 17)) (v_iv (n_v vs 20)) (v_iv (n_v vs 23)) (v_iv (n_v vs 26)) (v_iv (n_v vs 29)) (w_fi ws (n_v vs 0) 15) (w_fi ws (n_v vs 0) 11) (w_fi ws (n_v vs 0) 5) (w_fi ws (n_v vs 0) 8) (w_fi ws (n_v vs 0) 13) (w_ei ws (w_ar ws (n_v vs 0) 1)) (w_fi ws (n_v vs 0) 10) (w_fi ws (n_v vs 0) 12) (w_fi ws (n_v vs 0) 9) (w_ei w1 (w_ar ws (n_v vs 0) 1)) (w_fi w1 (n_v vs 0) 10) (w_fi w1 (n_v vs 0) 15) (w_fi w1 (n_v vs 0) 11) (w_fi w1 (n_v vs 0) 12) (w_fi w1 (n_v vs 0) 8) (w_fi w1 (n_v vs 0) 9) (w_ei w2 (w_ar ws (n_v vs 0) 2)) (w_ei w2 (w_ar ws (n_v vs 0) 1)) (w_fi w2 (n_v vs 0) 10) (w_fi w2 (n_v vs 0) 5) (w_fi w2 (n_v vs 0) 11) (w_fi w2 (n_v vs 0) 15) (w_fi w2 (n_v vs 0) 12) (w_ei w2 (w_ar ws (n_v vs 0) 3)) (w_ei w2 (w_ar ws (n_v vs 0) 4)) (w_fi w2 (n_v vs 0) 8) (w_fi w2 (n_v vs 0) 9) (w_fi w1 (n_v vs 0) 5) (w_fi w1 (n_v vs 0) 13) (w_fi ws (n_v vs 0) 14) (w_fi w1 (n_v vs 0) 14) (w_ei ws (w_ar ws (n_v vs 0) 2)) (w_ei w1 (w_ar ws (n_v vs 0) 2)) (w_ei ws (w_ar ws (n_v vs 0) 3)) (w_ei w1 (w_ar ws (n_v vs 0) 3)) (w_ei ws (w_ar ws (n_v vs 0) 4)) (w_ei w1 (w_ar ws (n_v vs 0) 4)) k1 k17 k20 k23 k26 k29 g4 f15 fe_0_5_1 fe_0_8_1 fe_0_9_1 fe_0_10_1 fe_0_11_1 fe_0_12_1 fe_0_13_1 fe_0_14_1 fe_0_15_1 fe_0_5_2 fe_0_8_2 fe_0_9_2 fe_0_10_2 fe_0_11_2 fe_0_12_2 fe_0_15_2 hE_0_1_1 hE_0_1_2 hE_0_2_1 hE_0_2_2 hE_0_3_1 hE_0_3_2 hE_0_4_1 hE_0_4_2 kz_0_8 kz_0_9 kz_0_10 kz_0_11 kz_0_12 kz_0_13 kz_0_14 kz_0_15)⟩
  have nf4 : fc_1 PRD (20, [0, 18], [60, 1, 3, 200, 5, 2, 3, 4]) ws (vs) := ⟨nf_in hl rfl, sgq_1803 (vc_Mo_met_at_g4_4_4 (v_iv (n_v vs 17)) (v_iv (n_v vs 18)) (w_fi ws (n_v vs 0) 15) (w_fi ws (n_v vs 0) 11) (w_fi ws (n_v vs 0) 5) (w_fi ws (n_v vs 0) 8) (w_fi ws (n_v vs 0) 13) (w_ei ws (w_ar ws (n_v vs 0) 1)) (w_fi ws (n_v vs 0) 10) (w_fi ws (n_v vs 0) 12) (w_fi ws (n_v vs 0) 9) (w_ei w1 (w_ar ws (n_v vs 0) 1)) (w_fi w1 (n_v vs 0) 10) (w_fi w1 (n_v vs 0) 15) (w_fi w1 (n_v vs 0) 11) (w_fi w1 (n_v vs 0) 12) (w_fi w1 (n_v vs 0) 8) (w_fi w1 (n_v vs 0) 9) (w_ei w2 (w_ar ws (n_v vs 0) 1)) (w_fi w2 (n_v vs 0) 10) (w_fi w2 (n_v vs 0) 5) (w_fi w2 (n_v vs 0) 11) (w_fi w2 (n_v vs 0) 15) (w_fi w2 (n_v vs 0) 12) (w_ei w2 (w_ar ws (n_v vs 0) 3)) (w_ei w2 (w_ar ws (n_v vs 0) 4)) (w_fi w2 (n_v vs 0) 8) (w_fi w2 (n_v vs 0) 9) (w_fi w1 (n_v vs 0) 5) (w_fi w1 (n_v vs 0) 13) (w_fi ws (n_v vs 0) 14) (w_fi w1 (n_v vs 0) 14) (w_ei ws (w_ar ws (n_v vs 0) 2)) (w_ei ws (w_ar ws (n_v vs 0) 3)) (w_ei w1 (w_ar ws (n_v vs 0) 3)) (w_ei ws (w_ar ws (n_v vs 0) 4)) (w_ei w1 (w_ar ws (n_v vs 0) 4)) k17 k18 g4 f15 fe_0_5_1 fe_0_8_1 fe_0_9_1 fe_0_10_1 fe_0_11_1 fe_0_12_1 fe_0_13_1 fe_0_14_1 fe_0_15_1 fe_0_5_2 fe_0_8_2 fe_0_9_2 fe_0_10_2 fe_0_11_2 fe_0_12_2 fe_0_15_2 hE_0_1_1 hE_0_1_2 hE_0_3_1 hE_0_3_2 hE_0_4_1 hE_0_4_2 kz_0_8 kz_0_9 kz_0_10 kz_0_11 kz_0_12 kz_0_13 kz_0_14 kz_0_15)⟩
  have nf5 : fc_1 PRD (20, [0, 2, 18], [60, 1, 1, 243, 5, 2]) ws (vs) := ⟨nf_in hl rfl, sgq_2115 (vc_Mo_met_at_g4_4_5 (v_iv (n_v vs 2)) (v_iv (n_v vs 17)) (v_iv (n_v vs 18)) (w_fi ws (n_v vs 0) 15) (w_fi ws (n_v vs 0) 11) (w_fi ws (n_v vs 0) 5) (w_fi ws (n_v vs 0) 8) (w_fi ws (n_v vs 0) 13) (w_ei ws (w_ar ws (n_v vs 0) 1)) (w_fi ws (n_v vs 0) 10) (w_fi ws (n_v vs 0) 12) (w_fi ws (n_v vs 0) 9) (w_ei w1 (w_ar ws (n_v vs 0) 1)) (w_fi w1 (n_v vs 0) 10) (w_fi w1 (n_v vs 0) 15) (w_fi w1 (n_v vs 0) 11) (w_fi w1 (n_v vs 0) 12) (w_fi w1 (n_v vs 0) 8) (w_fi w1 (n_v vs 0) 9) (w_ei w2 (w_ar ws (n_v vs 0) 1)) (w_fi w2 (n_v vs 0) 10) (w_fi w2 (n_v vs 0) 5) (w_fi w2 (n_v vs 0) 11) (w_fi w2 (n_v vs 0) 15) (w_fi w2 (n_v vs 0) 12) (w_ei w2 (w_ar ws (n_v vs 0) 3)) (w_ei w2 (w_ar ws (n_v vs 0) 4)) (w_fi w2 (n_v vs 0) 8) (w_fi w2 (n_v vs 0) 9) (w_fi w1 (n_v vs 0) 5) (w_fi w1 (n_v vs 0) 13) (w_fi ws (n_v vs 0) 14) (w_fi w1 (n_v vs 0) 14) (w_ei ws (w_ar ws (n_v vs 0) 2)) (w_ei ws (w_ar ws (n_v vs 0) 3)) (w_ei w1 (w_ar ws (n_v vs 0) 3)) (w_ei ws (w_ar ws (n_v vs 0) 4)) (w_ei w1 (w_ar ws (n_v vs 0) 4)) k2 k17 k18 g4 f15 fe_0_5_1 fe_0_8_1 fe_0_9_1 fe_0_10_1 fe_0_11_1 fe_0_12_1 fe_0_13_1 fe_0_14_1 fe_0_15_1 fe_0_5_2 fe_0_8_2 fe_0_9_2 fe_0_10_2 fe_0_11_2 fe_0_12_2 fe_0_15_2 hE_0_1_1 hE_0_1_2 hE_0_3_1 hE_0_3_2 hE_0_4_1 hE_0_4_2 kz_0_8 kz_0_9 kz_0_10 kz_0_11 kz_0_12 kz_0_13 kz_0_14 kz_0_15)⟩
  have nf6 : fc_1 PRD (20, [0, 18, 30, 2, 6, 7, 1, 5], [60, 8, 2, 1005, 10, 11, 12, 13, 14, 15, 8, 5, 1, 2]) ws (vs) := ⟨nf_in hl rfl, sgq_2127 (vc_Mo_met_at_g4_4_6 (v_iv (n_v vs 1)) (v_iv (n_v vs 2)) (v_iv (n_v vs 5)) (v_iv (n_v vs 6)) (v_iv (n_v vs 7)) (v_iv (n_v vs 12)) (v_iv (n_v vs 15)) (v_iv (n_v vs 17)) (v_iv (n_v vs 18)) (v_iv (n_v vs 20)) (v_iv (n_v vs 25)) (v_iv (n_v vs 26)) (v_iv (n_v vs 27)) (v_iv (n_v vs 28)) (v_iv (n_v vs 30)) (w_fi ws (n_v vs 0) 15) (w_fi ws (n_v vs 0) 11) (w_fi ws (n_v vs 0) 5) (w_fi ws (n_v vs 0) 8) (w_fi ws (n_v vs 0) 13) (w_ei ws (w_ar ws (n_v vs 0) 1)) (w_fi ws (n_v vs 0) 10) (w_fi ws (n_v vs 0) 12) (w_fi ws (n_v vs 0) 9) (w_ei w1 (w_ar ws (n_v vs 0) 1)) (w_fi w1 (n_v vs 0) 10) (w_fi w1 (n_v vs 0) 15) (w_fi w1 (n_v vs 0) 11) (w_fi w1 (n_v vs 0) 12) (w_fi w1 (n_v vs 0) 8) (w_fi w1 (n_v vs 0) 9) (w_ei w2 (w_ar ws (n_v vs 0) 2)) (w_ei w2 (w_ar ws (n_v vs 0) 1)) (w_fi w2 (n_v vs 0) 10) (w_fi w2 (n_v vs 0) 5) (w_fi w2 (n_v vs 0) 11) (w_fi w2 (n_v vs 0) 15) (w_fi w2 (n_v vs 0) 12) (w_ei w2 (w_ar ws (n_v vs 0) 3)) (w_ei w2 (w_ar ws (n_v vs 0) 4)) (w_fi w2 (n_v vs 0) 8) (w_fi w2 (n_v vs 0) 9) (w_fi w1 (n_v vs 0) 5) (w_fi w1 (n_v vs 0) 13) (w_fi ws (n_v vs 0) 14) (w_fi w1 (n_v vs 0) 14) (w_ei ws (w_ar ws (n_v vs 0) 2)) (w_ei ws (w_ar ws (n_v vs 0) 3)) (w_ei w1 (w_ar ws (n_v vs 0) 3)) (w_ei ws (w_ar ws (n_v vs 0) 4)) (w_ei w1 (w_ar ws (n_v vs 0) 4)) k1 k2 k5 k6 k7 k12 k15 k17 k18 k20 k25 k26 k27 k28 k30 d3 d4 g0 g1 g2 g4 g5 f19 f35 f36 f41 fe_0_5_1 fe_0_8_1 fe_0_9_1 fe_0_10_1 fe_0_11_1 fe_0_12_1 fe_0_13_1 fe_0_14_1 fe_0_15_1 fe_0_5_2 fe_0_8_2 fe_0_9_2 fe_0_10_2 fe_0_11_2 fe_0_12_2 fe_0_15_2 hE_0_1_1 hE_0_1_2 hE_0_3_1 hE_0_3_2 hE_0_4_1 hE_0_4_2 kz_0_8 kz_0_9 kz_0_10 kz_0_11 kz_0_12 kz_0_13 kz_0_14 kz_0_15)⟩
  have nf7 : fc_1 PRD (24, [0, 0], []) ws (vs) := by
    refine ⟨nf_in hl rfl, sgq_1 ?_⟩
    · show n_v vs 0 = n_v vs 0
      first | rfl | simp only [true_and]
  have nf8 : fc_1 PRD (24, [1, 1], []) ws (vs) := by
    refine ⟨nf_in hl rfl, sgq_1 ?_⟩
    · show n_v vs 1 = n_v vs 1
      first | rfl | simp only [true_and]
  have nf9 : fc_1 PRD (24, [2, 2], []) ws (vs) := by
    refine ⟨nf_in hl rfl, sgq_1 ?_⟩
    · show n_v vs 2 = n_v vs 2
      first | rfl | simp only [true_and]
  refine ⟨(fun _ h => (by cases h)), [], trivial, ?_, (fun _ h => (by cases h))⟩
  rw [List.append_nil]
  exact List.forall_mem_cons.mpr ⟨⟨show (20 : Nat) < 100 from by decide, nf0⟩, List.forall_mem_cons.mpr ⟨⟨show (20 : Nat) < 100 from by decide, nf1⟩, List.forall_mem_cons.mpr ⟨⟨show (20 : Nat) < 100 from by decide, nf2⟩, List.forall_mem_cons.mpr ⟨⟨show (20 : Nat) < 100 from by decide, nf3⟩, List.forall_mem_cons.mpr ⟨⟨show (20 : Nat) < 100 from by decide, nf4⟩, List.forall_mem_cons.mpr ⟨⟨show (20 : Nat) < 100 from by decide, nf5⟩, List.forall_mem_cons.mpr ⟨⟨show (20 : Nat) < 100 from by decide, nf6⟩, List.forall_mem_cons.mpr ⟨⟨show (24 : Nat) < 100 from by decide, nf7⟩, List.forall_mem_cons.mpr ⟨⟨show (24 : Nat) < 100 from by decide, nf8⟩, List.forall_mem_cons.mpr ⟨⟨show (24 : Nat) < 100 from by decide, nf9⟩, (fun _ h => (by cases h))⟩⟩⟩⟩⟩⟩⟩⟩⟩⟩
set_option maxHeartbeats 4000000 in
theorem vc_Mo_met_at_g4_5_0 (x3 : Int) (x17 : Int) (fault_0 : Int) (r_0 : Int) (pos_0 : Int) (kind_0 : Int) (k3 : 0 ≤ x3 ∧ x3 ≤ 2000) (k17 : 1 ≤ x17 ∧ x17 ≤ 5) (g2 : x17 = fault_0) (kz_0_8 : 0 ≤ fault_0 ∧ fault_0 ≤ 5) (kz_0_11 : 0 ≤ pos_0 ∧ pos_0 ≤ 2000) (kz_0_12 : 0 ≤ kind_0 ∧ kind_0 ≤ 4) : (1 ≤ fault_0) ∨ ((kind_0 = 0) ∨ ((x3 + 1) ≤ pos_0)) := by
  first
    | omega
    | (have q1 := (hE_0_2_1 (r_0 + 2) (by omega)).2 (by omega)
       have q2 := (hE_0_2_2 (r_0 + 2) (by omega)).2 (by omega)
       omega)
    | (have q1 := (hE_0_2_1 (r_0 + 1) (by omega)).2 (by omega)
       have q2 := (hE_0_2_2 (r_0 + 1) (by omega)).2 (by omega)
       omega)
    | (have q1 := (hE_0_2_1 (r_0 + 2) (by omega)).2 (by omega)
       omega)
    | (have q1 := (hE_0_2_1 (r_0 + 1) (by omega)).2 (by omega)
       omega)
    | (have q1 := (hE_0_2_1 (r_0 + 2) (by omega)).2 (by omega)
       have q2 := (hE_0_2_2 (r_0 + 2) (by omega)).2 (by omega)
       have q3 := (hE_0_2_3 (r_0 + 2) (by omega)).1 (by omega)
       omega)
    | (have q1 := (hE_0_2_1 (r_0 + 2) (by omega)).2 (by omega)
       have q2 := (hE_0_2_2 (r_0 + 2) (by omega)).2 (by omega)
       have q3 := (hE_0_2_3 (r_0 + 2) (by omega)).2 (by omega)
       omega)
set_option maxHeartbeats 4000000 in
theorem vc_Mo_met_at_g4_5_1 (x4 : Int) (x17 : Int) (fault_0 : Int) (r_0 : Int) (pos_0 : Int) (k4 : 0 ≤ x4 ∧ x4 ≤ 2000) (k17 : 1 ≤ x17 ∧ x17 ≤ 5) (g2 : x17 = fault_0) (kz_0_8 : 0 ≤ fault_0 ∧ fault_0 ≤ 5) (kz_0_11 : 0 ≤ pos_0 ∧ pos_0 ≤ 2000) : (1 ≤ fault_0) ∨ ((x4 + 1) ≤ pos_0) := by
  first
    | omega
    | (have q1 := (hE_0_2_1 (r_0 + 2) (by omega)).2 (by omega)
       have q2 := (hE_0_2_2 (r_0 + 2) (by omega)).2 (by omega)
       omega)
    | (have q1 := (hE_0_2_1 (r_0 + 1) (by omega)).2 (by omega)
       have q2 := (hE_0_2_2 (r_0 + 1) (by omega)).2 (by omega)
       omega)
    | (have q1 := (hE_0_2_1 (r_0 + 2) (by omega)).2 (by omega)
       omega)
    | (have q1 := (hE_0_2_1 (r_0 + 1) (by omega)).2 (by omega)
       omega)
    | (have q1 := (hE_0_2_1 (r_0 + 2) (by omega)).2 (by omega)
       have q2 := (hE_0_2_2 (r_0 + 2) (by omega)).2 (by omega)
       have q3 := (hE_0_2_3 (r_0 + 2) (by omega)).1 (by omega)
       omega)
    | (have q1 := (hE_0_2_1 (r_0 + 2) (by omega)).2 (by omega)
       have q2 := (hE_0_2_2 (r_0 + 2) (by omega)).2 (by omega)
       have q3 := (hE_0_2_3 (r_0 + 2) (by omega)).2 (by omega)
       omega)
set_option maxHeartbeats 4000000 in
theorem vc_Mo_met_at_g4_5_2 (x17 : Int) (x18 : Int) (fault_0 : Int) (r_0 : Int) (k17 : 1 ≤ x17 ∧ x17 ≤ 5) (k18 : (-1) ≤ x18 ∧ x18 ≤ (-1)) (g2 : x17 = fault_0) (kz_0_8 : 0 ≤ fault_0 ∧ fault_0 ≤ 5) : ((-1) * fault_0 + 0 ≤ (-1)) ∨ ((-1) * x18 + 0 ≤ 0) := by
  first
    | omega
    | (have q1 := (hE_0_2_1 (r_0 + 2) (by omega)).2 (by omega)
       have q2 := (hE_0_2_2 (r_0 + 2) (by omega)).2 (by omega)
       omega)
    | (have q1 := (hE_0_2_1 (r_0 + 1) (by omega)).2 (by omega)
       have q2 := (hE_0_2_2 (r_0 + 1) (by omega)).2 (by omega)
       omega)
    | (have q1 := (hE_0_2_1 (r_0 + 2) (by omega)).2 (by omega)
       omega)
    | (have q1 := (hE_0_2_1 (r_0 + 1) (by omega)).2 (by omega)
       omega)
    | (have q1 := (hE_0_2_1 (r_0 + 2) (by omega)).2 (by omega)
       have q2 := (hE_0_2_2 (r_0 + 2) (by omega)).2 (by omega)
       have q3 := (hE_0_2_3 (r_0 + 2) (by omega)).1 (by omega)
       omega)
    | (have q1 := (hE_0_2_1 (r_0 + 2) (by omega)).2 (by omega)
       have q2 := (hE_0_2_2 (r_0 + 2) (by omega)).2 (by omega)
       have q3 := (hE_0_2_3 (r_0 + 2) (by omega)).2 (by omega)
       omega)
set_option maxHeartbeats 4000000 in
theorem vc_Mo_met_at_g4_5_3 (x2 : Int) (x17 : Int) (fault_0 : Int) (all_0 : Int → Int) (r_0 : Int) (k2 : (-1) ≤ x2 ∧ x2 ≤ 23) (k17 : 1 ≤ x17 ∧ x17 ≤ 5) (g2 : x17 = fault_0) (kz_0_8 : 0 ≤ fault_0 ∧ fault_0 ≤ 5) : (1 ≤ fault_0) ∨ ((x2 ≤ (-1)) ∨ (all_0 ((r_0 + 1)) ≤ 47)) := by
  first
    | omega
    | (have q1 := (hE_0_2_1 (r_0 + 2) (by omega)).2 (by omega)
       have q2 := (hE_0_2_2 (r_0 + 2) (by omega)).2 (by omega)
       omega)
    | (have q1 := (hE_0_2_1 (r_0 + 1) (by omega)).2 (by omega)
       have q2 := (hE_0_2_2 (r_0 + 1) (by omega)).2 (by omega)
       omega)
    | (have q1 := (hE_0_2_1 (r_0 + 2) (by omega)).2 (by omega)
       omega)
    | (have q1 := (hE_0_2_1 (r_0 + 1) (by omega)).2 (by omega)
       omega)
    | (have q1 := (hE_0_2_1 (r_0 + 2) (by omega)).2 (by omega)
       have q2 := (hE_0_2_2 (r_0 + 2) (by omega)).2 (by omega)
       have q3 := (hE_0_2_3 (r_0 + 2) (by omega)).1 (by omega)
       omega)
    | (have q1 := (hE_0_2_1 (r_0 + 2) (by omega)).2 (by omega)
       have q2 := (hE_0_2_2 (r_0 + 2) (by omega)).2 (by omega)
       have q3 := (hE_0_2_3 (r_0 + 2) (by omega)).2 (by omega)
       omega)
set_option maxHeartbeats 4000000 in
theorem vc_Mo_met_at_g4_5_4 (x2 : Int) (x17 : Int) (x18 : Int) (fault_0 : Int) (all_0 : Int → Int) (r_0 : Int) (k2 : (-1) ≤ x2 ∧ x2 ≤ 23) (k17 : 1 ≤ x17 ∧ x17 ≤ 5) (k18 : (-1) ≤ x18 ∧ x18 ≤ (-1)) (g2 : x17 = fault_0) (kz_0_8 : 0 ≤ fault_0 ∧ fault_0 ≤ 5) : MET (r_0) (fault_0) (all_0) (x2) (x18) := by
  first
    | (intro q; exfalso; omega)
    | exact fun _ => ‹MEN _ _ _ _›
set_option maxHeartbeats 4000000 in
theorem vc_Mo_met_at_g4_5_5 (x1 : Int) (x2 : Int) (x5 : Int) (x6 : Int) (x7 : Int) (x14 : Int) (x15 : Int) (x16 : Int) (x17 : Int) (x18 : Int) (place_0 : Int) (fault_0 : Int) (tape_0 : Int → Int) (limit_0 : Int) (all_0 : Int → Int) (r_0 : Int) (pos_0 : Int) (from_0 : Int) (kind_0 : Int) (faultPlace_0 : Int) (value_0 : Int) (k1 : 0 ≤ x1 ∧ x1 ≤ 7) (k2 : (-1) ≤ x2 ∧ x2 ≤ 23) (k5 : 0 ≤ x5 ∧ x5 ≤ 4) (k6 : 0 ≤ x6 ∧ x6 ≤ 48) (k7 : 0 ≤ x7 ∧ x7 ≤ 1) (k14 : 3 ≤ x14 ∧ x14 ≤ 3) (k15 : 0 ≤ x15 ∧ x15 ≤ 2000) (k16 : 0 ≤ x16 ∧ x16 ≤ 5) (k17 : 1 ≤ x17 ∧ x17 ≤ 5) (k18 : (-1) ≤ x18 ∧ x18 ≤ (-1)) (g0 : x15 = place_0) (g2 : x17 = fault_0) (f3 : FSX (limit_0) (tape_0) (x14) (x15)) (f4 : ZH0 (x16)) (f20 : ((1 ≤ x16) ∧ (fault_0 = x16)) ∨ ((x16 = 0) ∧ ((fault_0 = x14) ∧ (faultPlace_0 = x15)))) (kz_0_8 : 0 ≤ fault_0 ∧ fault_0 ≤ 5) (kz_0_9 : 0 ≤ faultPlace_0 ∧ faultPlace_0 ≤ 2000) (kz_0_10 : 0 ≤ limit_0 ∧ limit_0 ≤ 2000) (kz_0_11 : 0 ≤ pos_0 ∧ pos_0 ≤ 2000) (kz_0_12 : 0 ≤ kind_0 ∧ kind_0 ≤ 4) (kz_0_13 : 0 ≤ place_0 ∧ place_0 ≤ 2000) (kz_0_14 : (-49) ≤ value_0 ∧ value_0 ≤ 1048575) (kz_0_15 : 0 ≤ from_0 ∧ from_0 ≤ 2000) : zOP8 (limit_0) (pos_0) (kind_0) (place_0) (value_0) (from_0) (fault_0) (faultPlace_0) (r_0) (tape_0) (all_0) (x18) (x6) (x2) (x7) (x1) (x5) := by
  first | subst g0 | skip
  first | subst g2 | skip
  first
    | (exfalso; have h := (rsq_0 ‹zRS4 _ _ _ _ _ _ _ _ _ _ _ _ _ _ _›).1; omega)
    | (refine Or.inl (fs_w ?_ ?_ (by assumption)) <;> assumption)
    | exact Or.inr (rsq_of ‹zTP8 _ _ _ _ _ _ _ _ _ _ _ _› ‹TKR _ _ _ _ _ _ _ _›)
    | (exfalso; omega)
def o_Mo_met_at_g4_5 : or_T := (121, 19, [(0, (2, 0, 0, [165])), (1, (0, 0, 7, [])), (2, (0, -1, 23, [])), (3, (0, 0, 2000, [])), (4, (0, 0, 2000, [])), (5, (0, 0, 4, [])), (6, (0, 0, 48, [])), (7, (0, 0, 1, [])), (14, (0, 3, 3, [])), (15, (0, 0, 2000, [])), (16, (0, 0, 5, [])), (17, (0, 1, 5, [])), (18, (0, -1, -1, []))], [(9, [15, 0], [13]), (9, [17, 0], [8]), (20, [0, 14, 15], [60, 1, 1, 1026, 10, 1]), (20, [16], [61, 0, 1029]), (20, [16, 0, 14, 15], [50, 2, 0, 1008, 1009, 3, 15, 2, 6, 0, 2, 0, 1, 1, 0, 1, 3, 2, 1, 8, 1, 0, 2, 6, 1, 2, 1, 0, 0, 0, 2, 7, 1, 3, 2, 1, 8, 1, 2, 1, 3, 2, 1, 9, 1, 3])], [], [], [(20, [0, 3], [50, 3, 0, 8, 12, 11, 3, 7, 0, 2, 0, 1, 2, 0, 8, 3, 7, 1, 3, 2, 0, 12, 0, 0, 0, 6, 4, 2, 1, 1, 0, 1, 2, 0, 11]), (20, [0, 4], [50, 2, 0, 8, 11, 3, 7, 0, 2, 0, 1, 2, 0, 8, 0, 6, 4, 2, 1, 1, 0, 1, 2, 0, 11]), (20, [0, 18], [31, 1, -1, -1, 1, 8, 0, -1, 0, 0]), (20, [0, 2], [50, 2, 1, 8, 5, 2, 3, 7, 0, 2, 0, 1, 2, 0, 8, 3, 6, 0, 2, 1, 1, 0, -1, 0, 10, 3, 0, 2, 4, 3, 2, 0, 5, 0, 1, 0, 47]), (20, [0, 2, 18], [60, 2, 1, 240, 5, 8, 2]), (20, [0, 18, 6, 2, 7, 1, 5], [60, 9, 2, 1011, 10, 11, 12, 13, 14, 15, 8, 9, 5, 1, 2])], [], [])
theorem oo_Mo_met_at_g4_5 {kA : Nat → ClassId} : or_ok PRD kA GG o_Mo_met_at_g4_5 := by
  refine or_mk fun A ta ws vs hD hth hl => ?_
  intro t0 r0 t1 k1 t2 k2 t3 k3 t4 k4 t5 k5 t6 k6 t7 k7 t14 k14 t15 k15 t16 k16 t17 k17 t18 k18 f0 f2 f3 f4 f20
  replace f0 := shm_361 f0
  replace f2 := shm_293 f2
  have g0 : v_iv (n_v vs 15) = w_fi ws (n_v vs 0) 13 := congrArg v_iv f0
  have g2 : v_iv (n_v vs 17) = w_fi ws (n_v vs 0) 8 := congrArg v_iv f2
  have kz_0_8 := fdq_34 hD hth r0
  have kz_0_9 := fdq_44 hD hth r0
  have kz_0_10 := fdq_43 hD hth r0
  have kz_0_11 := fdq_237 hD hth r0
  have kz_0_12 := fdq_187 hD hth r0
  have kz_0_13 := fdq_238 hD hth r0
  have kz_0_14 := fdq_188 hD hth r0
  have kz_0_15 := fdq_239 hD hth r0
  have nf0 : fc_1 PRD (20, [0, 3], [50, 3, 0, 8, 12, 11, 3, 7, 0, 2, 0, 1, 2, 0, 8, 3, 7, 1, 3, 2, 0, 12, 0, 0, 0, 6, 4, 2, 1, 1, 0, 1, 2, 0, 11]) ws (vs) := ⟨nf_in hl rfl, sgq_1722 (vc_Mo_met_at_g4_5_0 (v_iv (n_v vs 3)) (v_iv (n_v vs 17)) (w_fi ws (n_v vs 0) 8) (w_fi ws (n_v vs 0) 5) (w_fi ws (n_v vs 0) 11) (w_fi ws (n_v vs 0) 12) k3 k17 g2 kz_0_8 kz_0_11 kz_0_12)⟩
  have nf1 : fc_1 PRD (20, [0, 4], [50, 2, 0, 8, 11, 3, 7, 0, 2, 0, 1, 2, 0, 8, 0, 6, 4, 2, 1, 1, 0, 1, 2, 0, 11]) ws (vs) := ⟨nf_in hl rfl, sgq_1726 (vc_Mo_met_at_g4_5_1 (v_iv (n_v vs 4)) (v_iv (n_v vs 17)) (w_fi ws (n_v vs 0) 8) (w_fi ws (n_v vs 0) 5) (w_fi ws (n_v vs 0) 11) k4 k17 g2 kz_0_8 kz_0_11)⟩
  have nf2 : fc_1 PRD (20, [0, 18], [31, 1, -1, -1, 1, 8, 0, -1, 0, 0]) ws (vs) := ⟨nf_in hl rfl, sgq_2117 (vc_Mo_met_at_g4_5_2 (v_iv (n_v vs 17)) (v_iv (n_v vs 18)) (w_fi ws (n_v vs 0) 8) (w_fi ws (n_v vs 0) 5) k17 k18 g2 kz_0_8)⟩
  have nf3 : fc_1 PRD (20, [0, 2], [50, 2, 1, 8, 5, 2, 3, 7, 0, 2, 0, 1, 2, 0, 8, 3, 6, 0, 2, 1, 1, 0, -1, 0, 10, 3, 0, 2, 4, 3, 2, 0, 5, 0, 1, 0, 47]) ws (vs) := ⟨nf_in hl rfl, sgq_2118 (vc_Mo_met_at_g4_5_3 (v_iv (n_v vs 2)) (v_iv (n_v vs 17)) (w_fi ws (n_v vs 0) 8) (w_ei ws (w_ar ws (n_v vs 0) 2)) (w_fi ws (n_v vs 0) 5) k2 k17 g2 kz_0_8)⟩
  have nf4 : fc_1 PRD (20, [0, 2, 18], [60, 2, 1, 240, 5, 8, 2]) ws (vs) := ⟨nf_in hl rfl, sgq_2119 (vc_Mo_met_at_g4_5_4 (v_iv (n_v vs 2)) (v_iv (n_v vs 17)) (v_iv (n_v vs 18)) (w_fi ws (n_v vs 0) 8) (w_ei ws (w_ar ws (n_v vs 0) 2)) (w_fi ws (n_v vs 0) 5) k2 k17 k18 g2 kz_0_8)⟩
  have nf5 : fc_1 PRD (20, [0, 18, 6, 2, 7, 1, 5], [60, 9, 2, 1011, 10, 11, 12, 13, 14, 15, 8, 9, 5, 1, 2]) ws (vs) := ⟨nf_in hl rfl, sgq_2128 (vc_Mo_met_at_g4_5_5 (v_iv (n_v vs 1)) (v_iv (n_v vs 2)) (v_iv (n_v vs 5)) (v_iv (n_v vs 6)) (v_iv (n_v vs 7)) (v_iv (n_v vs 14)) (v_iv (n_v vs 15)) (v_iv (n_v vs 16)) (v_iv (n_v vs 17)) (v_iv (n_v vs 18)) (w_fi ws (n_v vs 0) 13) (w_fi ws (n_v vs 0) 8) (w_ei ws (w_ar ws (n_v vs 0) 1)) (w_fi ws (n_v vs 0) 10) (w_ei ws (w_ar ws (n_v vs 0) 2)) (w_fi ws (n_v vs 0) 5) (w_fi ws (n_v vs 0) 11) (w_fi ws (n_v vs 0) 15) (w_fi ws (n_v vs 0) 12) (w_fi ws (n_v vs 0) 9) (w_fi ws (n_v vs 0) 14) k1 k2 k5 k6 k7 k14 k15 k16 k17 k18 g0 g2 (shm_1724 f3) (shm_1725 f4) (shm_306 f20) kz_0_8 kz_0_9 kz_0_10 kz_0_11 kz_0_12 kz_0_13 kz_0_14 kz_0_15)⟩
  refine ⟨(fun _ h => (by cases h)), [], trivial, ?_, (fun _ h => (by cases h))⟩
  rw [List.append_nil]
  exact List.forall_mem_cons.mpr ⟨⟨show (20 : Nat) < 100 from by decide, nf0⟩, List.forall_mem_cons.mpr ⟨⟨show (20 : Nat) < 100 from by decide, nf1⟩, List.forall_mem_cons.mpr ⟨⟨show (20 : Nat) < 100 from by decide, nf2⟩, List.forall_mem_cons.mpr ⟨⟨show (20 : Nat) < 100 from by decide, nf3⟩, List.forall_mem_cons.mpr ⟨⟨show (20 : Nat) < 100 from by decide, nf4⟩, List.forall_mem_cons.mpr ⟨⟨show (20 : Nat) < 100 from by decide, nf5⟩, (fun _ h => (by cases h))⟩⟩⟩⟩⟩⟩
set_option maxHeartbeats 4000000 in
theorem vc_Mo_met_at_g4_6_r0 (x2 : Int) (x14 : Int) (r_0 : Int) (k2 : (-1) ≤ x2 ∧ x2 ≤ (-1)) (k14 : 0 ≤ x14 ∧ x14 ≤ 24) (f22 : 0 ≤ x2) : 0 ≤ x14 ∧ x14 ≤ 23 := by
  first
    | omega
    | (have q1 := (hE_0_2_1 (r_0 + 2) (by omega)).2 (by omega)
       have q2 := (hE_0_2_2 (r_0 + 2) (by omega)).2 (by omega)
       omega)
    | (have q1 := (hE_0_2_1 (r_0 + 1) (by omega)).2 (by omega)
       have q2 := (hE_0_2_2 (r_0 + 1) (by omega)).2 (by omega)
       omega)
    | (have q1 := (hE_0_2_1 (r_0 + 2) (by omega)).2 (by omega)
       omega)
    | (have q1 := (hE_0_2_1 (r_0 + 1) (by omega)).2 (by omega)
       omega)
    | (have q1 := (hE_0_2_1 (r_0 + 2) (by omega)).2 (by omega)
       have q2 := (hE_0_2_2 (r_0 + 2) (by omega)).2 (by omega)
       have q3 := (hE_0_2_3 (r_0 + 2) (by omega)).1 (by omega)
       omega)
    | (have q1 := (hE_0_2_1 (r_0 + 2) (by omega)).2 (by omega)
       have q2 := (hE_0_2_2 (r_0 + 2) (by omega)).2 (by omega)
       have q3 := (hE_0_2_3 (r_0 + 2) (by omega)).2 (by omega)
       omega)
def o_Mo_met_at_g4_6 : or_T := (130, 15, [(0, (2, 0, 0, [165])), (1, (0, 0, 7, [])), (2, (0, -1, -1, [])), (3, (0, 0, 2000, [])), (4, (0, 0, 2000, [])), (5, (0, 0, 4, [])), (6, (0, 0, 48, [])), (7, (0, 0, 1, [])), (8, (0, 0, 0, [])), (9, (0, 1, 1, [])), (10, (0, -1, -1, [])), (12, (0, 0, 23, [])), (13, (0, 24, 24, [])), (14, (0, 0, 24, []))], [(20, [14, 0], [30, 0, 1, 0, 0, -1, 3, 2005000]), (20, [14, 0], [30, 0, -1, 0, 0, 1, 3, 2005000]), (8, [10], [2]), (8, [8], [5]), (9, [8, 0], [8]), (8, [2], [2]), (7, [12, 13], [1]), (20, [12, 0], [30, 0, 1, 0, 0, -1, 3, 2005000]), (20, [12, 0], [30, 0, -1, 0, 0, 1, 3, 2005000]), (8, [10], [2]), (8, [10], [2]), (20, [0, 10], [60, 1, 1, 207, 5, 2]), (20, [0, 10], [60, 4, 2, 1031, 11, 10, 15, 5, 2, 1]), (8, [9], [1]), (20, [0, 0], [30, 0, 1, 1, 15, -1, 1, 11]), (20, [0], [50, 3, 0, 12, 11, 15, 2, 21, 4, 7, 1, 3, 2, 0, 12, 0, 1, 0, 3, 2, 0, 11, 4, 3, 2, 0, 15, 0, 8, 3, 7, 1, 3, 2, 0, 12, 0, 0, 0, 7, 4, 3, 2, 0, 15, 0, 1, 2, 0, 11]), (20, [3, 0], [30, 0, 1, 0, 0, -1, 1, 11]), (20, [0, 4], [50, 2, 0, 12, 11, 3, 7, 1, 3, 2, 0, 12, 0, 0, 0, 6, 4, 2, 1, 1, 0, 1, 2, 0, 11]), (20, [1, 0], [50, 1, 1, 1005, 1002, 0, 6, 4, 2, 1, 0, 0, 1, 3, 1, 2, 4, 3, 2, 1, 5, 0, 2]), (20, [0], [60, 1, 3, 199, 5, 2, 3, 4]), (20, [0, 2], [60, 1, 1, 241, 5, 2]), (20, [0, 2, 6, 7, 1, 5], [60, 8, 2, 993, 10, 11, 12, 13, 14, 15, 8, 5, 1, 2]), (20, [2], [50, 0, 0, 0, 2, 0, 0, 1, 0]), (20, [9, 0], [50, 1, 0, 1012, 4, 6, 1, 2, 1, 0, 0, 1, 1, 3, 2, 1, 12, 0, 1]), (20, [0, 9], [60, 4, 1, 962, 12, 11, 10, 15, 1]), (102, [8], [0]), (8, [8], [5])], [(14, (0, 0, 23, []))], [], [], [], [])
theorem oo_Mo_met_at_g4_6 {kA : Nat → ClassId} : or_ok PRD kA GG o_Mo_met_at_g4_6 := by
  refine or_mk fun A ta ws vs hD hth hl => ?_
  intro t0 r0 t1 k1 t2 k2 t3 k3 t4 k4 t5 k5 t6 k6 t7 k7 t8 k8 t9 k9 t10 k10 t12 k12 t13 k13 t14 k14 f0 f1 f2 f3 f4 f5 f6 f7 f8 f9 f10 f11 f12 f13 f14 f15 f16 f17 f18 f19 f20 f21 f22 f23 f24 ta1 w1 le1 s1 f26
  have hrf0 : 0 ≤ v_iv (n_v vs 14) ∧ v_iv (n_v vs 14) ≤ 23 := vc_Mo_met_at_g4_6_r0 (v_iv (n_v vs 2)) (v_iv (n_v vs 14)) (w_fi ws (n_v vs 0) 5) k2 k14 (shm_722 f22)
  have rf14 : tv_ok ta (0, 0, 23, []) (n_v vs 14) := tv_in t14 (by first | omega | grind) (by first | omega | grind)
  refine ⟨List.forall_mem_cons.mpr ⟨rf14, (fun _ h => (by cases h))⟩, [], trivial, ?_, (fun _ h => (by cases h))⟩
  rw [List.append_nil]
  exact (fun _ h => (by cases h))
set_option maxHeartbeats 4000000 in
theorem vc_Mo_met_at_g4_7_r0 (x2 : Int) (x8 : Int) (x16 : Int) (x19 : Int) (r_0 : Int) (fault_0 : Int) (k2 : (-1) ≤ x2 ∧ x2 ≤ (-1)) (k8 : 0 ≤ x8 ∧ x8 ≤ 0) (k16 : 0 ≤ x16 ∧ x16 ≤ 66297) (k19 : 1 ≤ x19 ∧ x19 ≤ 25) (g2 : x16 = r_0) (g8 : x8 = fault_0) (f26 : 0 ≤ x2) (kz_0_8 : 0 ≤ fault_0 ∧ fault_0 ≤ 5) : 1 ≤ x19 ∧ x19 ≤ 24 := by
  first | subst g2 | skip
  first | subst g8 | skip
  try simp only [Int.add_zero] at *
  omega
def o_Mo_met_at_g4_7 : or_T := (143, 20, [(0, (2, 0, 0, [165])), (1, (0, 0, 7, [])), (2, (0, -1, -1, [])), (3, (0, 0, 2000, [])), (4, (0, 0, 2000, [])), (5, (0, 0, 4, [])), (6, (0, 0, 48, [])), (7, (0, 0, 1, [])), (8, (0, 0, 0, [])), (9, (0, 1, 1, [])), (10, (0, -1, -1, [])), (12, (0, 0, 23, [])), (13, (0, 24, 24, [])), (14, (0, 0, 23, [])), (15, (2, 0, 0, [167])), (16, (0, 0, 66297, [])), (17, (0, 0, 24, [])), (18, (0, 1, 1, [])), (19, (0, 1, 25, []))], [(1, [19, 17, 18], []), (10, [17, 15, 16], []), (9, [16, 0], [5]), (9, [15, 0], [2]), (20, [14, 0], [30, 0, 1, 0, 0, -1, 3, 2005000]), (20, [14, 0], [30, 0, -1, 0, 0, 1, 3, 2005000]), (8, [10], [2]), (8, [8], [5]), (9, [8, 0], [8]), (8, [2], [2]), (7, [12, 13], [1]), (20, [12, 0], [30, 0, 1, 0, 0, -1, 3, 2005000]), (20, [12, 0], [30, 0, -1, 0, 0, 1, 3, 2005000]), (8, [10], [2]), (8, [10], [2]), (20, [0, 10], [60, 1, 1, 207, 5, 2]), (20, [0, 10], [60, 4, 2, 1031, 11, 10, 15, 5, 2, 1]), (8, [9], [1]), (20, [0, 0], [30, 0, 1, 1, 15, -1, 1, 11]), (20, [0], [50, 3, 0, 12, 11, 15, 2, 21, 4, 7, 1, 3, 2, 0, 12, 0, 1, 0, 3, 2, 0, 11, 4, 3, 2, 0, 15, 0, 8, 3, 7, 1, 3, 2, 0, 12, 0, 0, 0, 7, 4, 3, 2, 0, 15, 0, 1, 2, 0, 11]), (20, [3, 0], [30, 0, 1, 0, 0, -1, 1, 11]), (20, [0, 4], [50, 2, 0, 12, 11, 3, 7, 1, 3, 2, 0, 12, 0, 0, 0, 6, 4, 2, 1, 1, 0, 1, 2, 0, 11]), (20, [1, 0], [50, 1, 1, 1005, 1002, 0, 6, 4, 2, 1, 0, 0, 1, 3, 1, 2, 4, 3, 2, 1, 5, 0, 2]), (20, [0], [60, 1, 3, 199, 5, 2, 3, 4]), (20, [0, 2], [60, 1, 1, 241, 5, 2]), (20, [0, 2, 6, 7, 1, 5], [60, 8, 2, 993, 10, 11, 12, 13, 14, 15, 8, 5, 1, 2]), (20, [2], [50, 0, 0, 0, 2, 0, 0, 1, 0]), (20, [9, 0], [50, 1, 0, 1012, 4, 6, 1, 2, 1, 0, 0, 1, 1, 3, 2, 1, 12, 0, 1]), (20, [0, 9], [60, 4, 1, 962, 12, 11, 10, 15, 1]), (102, [8], [0]), (8, [8], [5])], [(19, (0, 1, 24, []))], [], [], [], [(19, 17, 1, 1)])
theorem oo_Mo_met_at_g4_7 {kA : Nat → ClassId} : or_ok PRD kA GG o_Mo_met_at_g4_7 := by
  refine or_mk fun A ta ws vs hD hth hl => ?_
  intro t0 r0 t1 k1 t2 k2 t3 k3 t4 k4 t5 k5 t6 k6 t7 k7 t8 k8 t9 k9 t10 k10 t12 k12 t13 k13 t14 k14 t15 r15 t16 k16 t17 k17 t18 k18 t19 k19 d0 f0 f1 f2 f3 f4 f5 f6 f7 f8 f9 f10 f11 f12 f13 f14 f15 f16 f17 f18 f19 f20 f21 f22 f23 f24 f25 f26 f27 f28 ta1 w1 le1 s1 f30
  replace f2 := shm_110 f2
  replace f8 := shm_293 f8
  have g2 : v_iv (n_v vs 16) = w_fi ws (n_v vs 0) 5 := congrArg v_iv f2
  have g8 : v_iv (n_v vs 8) = w_fi ws (n_v vs 0) 8 := congrArg v_iv f8
  have kz_0_8 := fdq_34 hD hth r0
  have hrf0 : 1 ≤ v_iv (n_v vs 19) ∧ v_iv (n_v vs 19) ≤ 24 := vc_Mo_met_at_g4_7_r0 (v_iv (n_v vs 2)) (v_iv (n_v vs 8)) (v_iv (n_v vs 16)) (v_iv (n_v vs 19)) (w_fi ws (n_v vs 0) 5) (w_fi ws (n_v vs 0) 8) k2 k8 k16 k19 g2 g8 (shm_722 f26) kz_0_8
  have rf19 : tv_ok ta (0, 1, 24, []) (n_v vs 19) := tv_in t19 (by first | omega | grind) (by first | omega | grind)
  refine ⟨List.forall_mem_cons.mpr ⟨rf19, (fun _ h => (by cases h))⟩, [], trivial, ?_, (fun _ h => (by cases h))⟩
  rw [List.append_nil]
  exact (fun _ h => (by cases h))
set_option maxHeartbeats 4000000 in
theorem vc_Mo_met_at_g4_8_r0 (x2 : Int) (x16 : Int) (x19 : Int) (x25 : Int) (fault_0 : Int) (from_0 : Int) (pos_0 : Int) (r_0 : Int) (kind_0 : Int) (tape_0 : Int → Int) (limit_0 : Int) (all_1 : Int → Int) (r_1 : Int) (tape_1 : Int → Int) (pos_1 : Int) (limit_1 : Int) (from_1 : Int) (kind_1 : Int) (now_1 : Int → Int) (latest_1 : Int → Int) (place_1 : Int) (value_1 : Int) (fault_1 : Int) (place_0 : Int) (value_0 : Int) (all_0 : Int → Int) (now_0 : Int → Int) (latest_0 : Int → Int) (k2 : (-1) ≤ x2 ∧ x2 ≤ (-1)) (k16 : 0 ≤ x16 ∧ x16 ≤ 66297) (k19 : 1 ≤ x19 ∧ x19 ≤ 24) (k25 : (-2000) ≤ x25 ∧ x25 ≤ 2000) (f12 : 0 ≤ x2) (fe_0_5_1 : r_0 = r_1) (fe_0_8_1 : fault_0 = fault_1) (fe_0_10_1 : limit_0 = limit_1) (fe_0_11_1 : pos_0 = pos_1) (fe_0_12_1 : kind_0 = kind_1) (fe_0_13_1 : place_0 = place_1) (fe_0_14_1 : value_0 = value_1) (fe_0_15_1 : from_0 = from_1) (hE_0_1_1 : ∀ j : Int, tape_0 j = tape_1 j) (hE_0_2_1 : ∀ j : Int, 0 ≤ j → (j = x16 → all_0 j = x19) ∧ (j ≠ x16 → all_0 j = all_1 j)) (hE_0_3_1 : ∀ j : Int, now_0 j = now_1 j) (hE_0_4_1 : ∀ j : Int, latest_0 j = latest_1 j) (kz_0_8 : 0 ≤ fault_0 ∧ fault_0 ≤ 5) (kz_0_10 : 0 ≤ limit_0 ∧ limit_0 ≤ 2000) (kz_0_11 : 0 ≤ pos_0 ∧ pos_0 ≤ 2000) (kz_0_12 : 0 ≤ kind_0 ∧ kind_0 ≤ 4) (kz_0_13 : 0 ≤ place_0 ∧ place_0 ≤ 2000) (kz_0_14 : (-49) ≤ value_0 ∧ value_0 ≤ 1048575) (kz_0_15 : 0 ≤ from_0 ∧ from_0 ≤ 2000) : 0 ≤ x25 ∧ x25 ≤ 8 := by
  subst fe_0_5_1
  subst fe_0_8_1
  subst fe_0_10_1
  subst fe_0_11_1
  subst fe_0_12_1
  subst fe_0_13_1
  subst fe_0_14_1
  subst fe_0_15_1
  have e_hE_0_1_1 := funext hE_0_1_1; subst e_hE_0_1_1
  have e_hE_0_3_1 := funext hE_0_3_1; subst e_hE_0_3_1
  have e_hE_0_4_1 := funext hE_0_4_1; subst e_hE_0_4_1
  first
    | omega
    | (have q1 := (hE_0_2_1 (r_0 + 2) (by omega)).2 (by omega)
       have q2 := (hE_0_2_2 (r_0 + 2) (by omega)).2 (by omega)
       omega)
    | (have q1 := (hE_0_2_1 (r_0 + 1) (by omega)).2 (by omega)
       have q2 := (hE_0_2_2 (r_0 + 1) (by omega)).2 (by omega)
       omega)
    | (have q1 := (hE_0_2_1 (r_0 + 2) (by omega)).2 (by omega)
       omega)
    | (have q1 := (hE_0_2_1 (r_0 + 1) (by omega)).2 (by omega)
       omega)
    | (have q1 := (hE_0_2_1 (r_0 + 2) (by omega)).2 (by omega)
       have q2 := (hE_0_2_2 (r_0 + 2) (by omega)).2 (by omega)
       have q3 := (hE_0_2_3 (r_0 + 2) (by omega)).1 (by omega)
       omega)
    | (have q1 := (hE_0_2_1 (r_0 + 2) (by omega)).2 (by omega)
       have q2 := (hE_0_2_2 (r_0 + 2) (by omega)).2 (by omega)
       have q3 := (hE_0_2_3 (r_0 + 2) (by omega)).2 (by omega)
       omega)
def o_Mo_met_at_g4_8 : or_T := (167, 26, [(0, (2, 0, 0, [165])), (1, (0, 0, 7, [])), (2, (0, -1, -1, [])), (3, (0, 0, 2000, [])), (4, (0, 0, 2000, [])), (5, (0, 0, 4, [])), (6, (0, 0, 48, [])), (7, (0, 0, 1, [])), (8, (0, 0, 0, [])), (9, (0, 1, 1, [])), (10, (0, -1, -1, [])), (12, (0, 0, 23, [])), (13, (0, 24, 24, [])), (14, (0, 0, 23, [])), (15, (2, 0, 0, [167])), (16, (0, 0, 66297, [])), (17, (0, 0, 24, [])), (18, (0, 1, 1, [])), (19, (0, 1, 24, [])), (20, (0, 195, 195, [])), (21, (0, 195, 66492, [])), (22, (0, 195, 66515, [])), (23, (0, 0, 2000, [])), (24, (0, 0, 2000, [])), (25, (0, -2000, 2000, []))], [(9, [8, 0], [8]), (2, [25, 23, 24], []), (9, [24, 0], [15]), (9, [23, 0], [11]), (1, [22, 21, 14], []), (1, [21, 16, 20], []), (9, [16, 0], [5]), (9, [15, 0], [2]), (20, [0, 0], [30, 0, 1, 1, 15, -1, 1, 11]), (20, [0], [50, 3, 0, 12, 11, 15, 2, 21, 4, 7, 1, 3, 2, 0, 12, 0, 1, 0, 3, 2, 0, 11, 4, 3, 2, 0, 15, 0, 8, 3, 7, 1, 3, 2, 0, 12, 0, 0, 0, 7, 4, 3, 2, 0, 15, 0, 1, 2, 0, 11]), (20, [3, 0], [30, 0, 1, 0, 0, -1, 1, 11]), (20, [0, 4], [50, 2, 0, 12, 11, 3, 7, 1, 3, 2, 0, 12, 0, 0, 0, 6, 4, 2, 1, 1, 0, 1, 2, 0, 11]), (20, [2], [50, 0, 0, 0, 2, 0, 0, 1, 0]), (20, [9, 0], [50, 1, 0, 1012, 4, 6, 1, 2, 1, 0, 0, 1, 1, 3, 2, 1, 12, 0, 1]), (20, [0, 9], [60, 4, 1, 962, 12, 11, 10, 15, 1]), (100, [15, 16, 19], []), (1, [19, 17, 18], []), (10, [17, 15, 16], []), (20, [14, 0], [30, 0, 1, 0, 0, -1, 3, 2005000]), (20, [14, 0], [30, 0, -1, 0, 0, 1, 3, 2005000]), (8, [10], [2]), (8, [8], [5]), (8, [2], [2]), (7, [12, 13], [1]), (20, [12, 0], [30, 0, 1, 0, 0, -1, 3, 2005000]), (20, [12, 0], [30, 0, -1, 0, 0, 1, 3, 2005000]), (8, [10], [2]), (8, [10], [2]), (20, [0, 10], [60, 1, 1, 207, 5, 2]), (20, [0, 10], [60, 4, 2, 1031, 11, 10, 15, 5, 2, 1]), (8, [9], [1]), (20, [0, 0], [30, 0, 1, 1, 15, -1, 1, 11]), (20, [0], [50, 3, 0, 12, 11, 15, 2, 21, 4, 7, 1, 3, 2, 0, 12, 0, 1, 0, 3, 2, 0, 11, 4, 3, 2, 0, 15, 0, 8, 3, 7, 1, 3, 2, 0, 12, 0, 0, 0, 7, 4, 3, 2, 0, 15, 0, 1, 2, 0, 11]), (20, [3, 0], [30, 0, 1, 0, 0, -1, 1, 11]), (20, [0, 4], [50, 2, 0, 12, 11, 3, 7, 1, 3, 2, 0, 12, 0, 0, 0, 6, 4, 2, 1, 1, 0, 1, 2, 0, 11]), (20, [1, 0], [50, 1, 1, 1005, 1002, 0, 6, 4, 2, 1, 0, 0, 1, 3, 1, 2, 4, 3, 2, 1, 5, 0, 2]), (20, [0], [60, 1, 3, 199, 5, 2, 3, 4]), (20, [0, 2], [60, 1, 1, 241, 5, 2]), (20, [0, 2, 6, 7, 1, 5], [60, 8, 2, 993, 10, 11, 12, 13, 14, 15, 8, 5, 1, 2]), (20, [2], [50, 0, 0, 0, 2, 0, 0, 1, 0]), (20, [9, 0], [50, 1, 0, 1012, 4, 6, 1, 2, 1, 0, 0, 1, 1, 3, 2, 1, 12, 0, 1]), (20, [0, 9], [60, 4, 1, 962, 12, 11, 10, 15, 1]), (102, [8], [0]), (8, [8], [5])], [(25, (0, 0, 8, []))], [], [], [], [(25, 23, -2000, 0), (22, 14, 195, 66492), (22, 21, 0, 23), (22, 16, 195, 218), (21, 16, 195, 195), (19, 17, 1, 1)])
theorem oo_Mo_met_at_g4_8 {kA : Nat → ClassId} : or_ok PRD kA GG o_Mo_met_at_g4_8 := by
  refine or_mk fun A ta ws vs hD hth hl => ?_
  intro t0 r0 t1 k1 t2 k2 t3 k3 t4 k4 t5 k5 t6 k6 t7 k7 t8 k8 t9 k9 t10 k10 t12 k12 t13 k13 t14 k14 t15 r15 t16 k16 t17 k17 t18 k18 t19 k19 t20 k20 t21 k21 t22 k22 t23 k23 t24 k24 t25 k25 d0 d1 d2 d3 d4 d5 f0 f1 f2 f3 f4 f5 f6 f7 f8 f9 f10 f11 f12 f13 f14 ta1 w1 le1 s1 f16 f17 f18 f19 f20 f21 f22 f23 f24 f25 f26 f27 f28 f29 f30 f31 f32 f33 f34 f35 f36 f37 f38 f39 f40 f41 ta2 w2 le2 s2 f43
  replace f0 := shm_293 f0
  replace f1 := shm_14 f1
  replace f2 := shm_177 f2
  replace f3 := shm_116 f3
  replace f4 := shm_12 f4
  replace f5 := shm_12 f5
  replace f6 := shm_110 f6
  replace f7 := shm_120 f7
  replace f8 := shm_1437 f8
  replace f9 := shm_1438 f9
  replace f10 := shm_1431 f10
  replace f11 := shm_2111 f11
  replace f12 := shm_722 f12
  replace f13 := shm_1856 f13
  replace f14 := shm_1889 f14
  have s1 : (∀ b j, w_el ws b j = if b = v_ad (n_v vs 15) ∧ j = (v_iv (n_v vs 16)).toNat then v_iv (n_v vs 19) else w_el w1 b j) ∧ ∀ b k, w_fd ws b k = w_fd w1 b k := s1.2
  replace f16 := shm_12 f16
  replace f17 := shm_107 f17
  replace f18 := shm_126 f18
  replace f19 := shm_127 f19
  replace f20 := shm_39 f20
  replace f21 := shm_295 f21
  replace f22 := shm_39 f22
  replace f23 := shm_40 f23
  replace f24 := shm_126 f24
  replace f25 := shm_127 f25
  replace f26 := shm_39 f26
  replace f27 := shm_39 f27
  replace f28 := shm_1232 f28
  replace f29 := shm_1233 f29
  replace f30 := shm_142 f30
  replace f31 := shm_1437 f31
  replace f32 := shm_1438 f32
  replace f33 := shm_1431 f33
  replace f34 := shm_2111 f34
  replace f35 := shm_1009 f35
  replace f36 := shm_980 f36
  replace f37 := shm_2112 f37
  replace f38 := shm_2126 f38
  replace f39 := shm_722 f39
  replace f40 := shm_1856 f40
  replace f41 := shm_1889 f41
  replace f43 := shm_295 f43
  have ar_0_1_1 : w_ar w1 (n_v vs 0) 1 = w_ar ws (n_v vs 0) 1 := congrArg v_ad (s1.2 _ _).symm
  have cr_0_1 := fdq_39 hD hth r0
  have ar_0_2_1 : w_ar w1 (n_v vs 0) 2 = w_ar ws (n_v vs 0) 2 := congrArg v_ad (s1.2 _ _).symm
  have cr_0_2 := fdq_10 hD hth r0
  have ar_0_3_1 : w_ar w1 (n_v vs 0) 3 = w_ar ws (n_v vs 0) 3 := congrArg v_ad (s1.2 _ _).symm
  have cr_0_3 := fdq_142 hD hth r0
  have ar_0_4_1 : w_ar w1 (n_v vs 0) 4 = w_ar ws (n_v vs 0) 4 := congrArg v_ad (s1.2 _ _).symm
  have cr_0_4 := fdq_143 hD hth r0
  have fi_0_5_1 : w_fi w1 (n_v vs 0) 5 = w_fi ws (n_v vs 0) 5 := by show v_iv (w_fd w1 _ _) = v_iv (w_fd ws _ _); rw [s1.2]
  have ad_15 : v_ad (n_v vs 15) = w_ar ws (n_v vs 0) 2 := congrArg v_ad f7
  have g0 : v_iv (n_v vs 8) = w_fi ws (n_v vs 0) 8 := congrArg v_iv f0
  have g2 : v_iv (n_v vs 24) = w_fi ws (n_v vs 0) 15 := congrArg v_iv f2
  have g3 : v_iv (n_v vs 23) = w_fi ws (n_v vs 0) 11 := congrArg v_iv f3
  have g6 : v_iv (n_v vs 16) = w_fi ws (n_v vs 0) 5 := congrArg v_iv f6
  simp only [ad_15] at f17
  have h17 : v_iv (n_v vs 17) = w_ei w1 (w_ar ws (n_v vs 0) 2) (v_iv (n_v vs 16)) := f17
  simp only [ar_0_2_1, ar_0_1_1, ar_0_3_1, ar_0_4_1] at f18 f19 f24 f25 f28 f29 f35 f36 f37 f38 f41
  simp only [fi_0_5_1] at f18 f19 f24 f25
  have fe_0_5_1 : w_fi ws (n_v vs 0) 5 = w_fi w1 (n_v vs 0) 5 := congrArg v_iv (s1.2 _ _)
  have fe_0_8_1 : w_fi ws (n_v vs 0) 8 = w_fi w1 (n_v vs 0) 8 := congrArg v_iv (s1.2 _ _)
  have fe_0_10_1 : w_fi ws (n_v vs 0) 10 = w_fi w1 (n_v vs 0) 10 := congrArg v_iv (s1.2 _ _)
  have fe_0_11_1 : w_fi ws (n_v vs 0) 11 = w_fi w1 (n_v vs 0) 11 := congrArg v_iv (s1.2 _ _)
  have fe_0_12_1 : w_fi ws (n_v vs 0) 12 = w_fi w1 (n_v vs 0) 12 := congrArg v_iv (s1.2 _ _)
  have fe_0_13_1 : w_fi ws (n_v vs 0) 13 = w_fi w1 (n_v vs 0) 13 := congrArg v_iv (s1.2 _ _)
  have fe_0_14_1 : w_fi ws (n_v vs 0) 14 = w_fi w1 (n_v vs 0) 14 := congrArg v_iv (s1.2 _ _)
  have fe_0_15_1 : w_fi ws (n_v vs 0) 15 = w_fi w1 (n_v vs 0) 15 := congrArg v_iv (s1.2 _ _)
  have hE_0_1_1 : ∀ j : Int, w_ei ws (w_ar ws (n_v vs 0) 1) j = w_ei w1 (w_ar ws (n_v vs 0) 1) j := el_kp s1.1 r15 cr_0_1 (by decide)
  have hK_0_1 := elq_7 hD hth cr_0_1
  have hE_0_2_1 : ∀ j : Int, 0 ≤ j → (j = v_iv (n_v vs 16) → w_ei ws (w_ar ws (n_v vs 0) 2) j = v_iv (n_v vs 19)) ∧ (j ≠ v_iv (n_v vs 16) → w_ei ws (w_ar ws (n_v vs 0) 2) j = w_ei w1 (w_ar ws (n_v vs 0) 2) j) := fun j hj => ⟨fun h => by unfold w_ei; rw [s1.1, if_pos ⟨ad_15.symm, by rw [h]⟩], fun h => by unfold w_ei; rw [s1.1, if_neg (fun e => h (by have := e.2; omega))]⟩
  have hE_0_3_1 : ∀ j : Int, w_ei ws (w_ar ws (n_v vs 0) 3) j = w_ei w1 (w_ar ws (n_v vs 0) 3) j := el_kp s1.1 r15 cr_0_3 (by decide)
  have hK_0_3 := elq_80 hD hth cr_0_3
  have hE_0_4_1 : ∀ j : Int, w_ei ws (w_ar ws (n_v vs 0) 4) j = w_ei w1 (w_ar ws (n_v vs 0) 4) j := el_kp s1.1 r15 cr_0_4 (by decide)
  have hK_0_4 := elq_81 hD hth cr_0_4
  have kz_0_8 := fdq_34 hD hth r0
  have kz_0_10 := fdq_43 hD hth r0
  have kz_0_11 := fdq_237 hD hth r0
  have kz_0_12 := fdq_187 hD hth r0
  have kz_0_13 := fdq_238 hD hth r0
  have kz_0_14 := fdq_188 hD hth r0
  have kz_0_15 := fdq_239 hD hth r0
  first | have hJ0 : w_ei w1 (w_ar ws (n_v vs 0) 2) ((w_fi w1 (n_v vs 0) 5 + 2)) = w_ei w1 (w_ar ws (n_v vs 0) 2) ((w_fi ws (n_v vs 0) 5 + 2)) := congrArg _ (show ((w_fi w1 (n_v vs 0) 5 + 2) : Int) = (w_fi ws (n_v vs 0) 5 + 2) from by omega) | skip
  first | have hI1 := (hE_0_2_1 ((w_fi ws (n_v vs 0) 5 + 2)) (by omega)).2 (by omega) | have hI1 := (hE_0_2_1 ((w_fi ws (n_v vs 0) 5 + 2)) (by omega)).1 (by omega) | skip
  have hrf0 : 0 ≤ v_iv (n_v vs 25) ∧ v_iv (n_v vs 25) ≤ 8 := vc_Mo_met_at_g4_8_r0 (v_iv (n_v vs 2)) (v_iv (n_v vs 16)) (v_iv (n_v vs 19)) (v_iv (n_v vs 25)) (w_fi ws (n_v vs 0) 8) (w_fi ws (n_v vs 0) 15) (w_fi ws (n_v vs 0) 11) (w_fi ws (n_v vs 0) 5) (w_fi ws (n_v vs 0) 12) (w_ei ws (w_ar ws (n_v vs 0) 1)) (w_fi ws (n_v vs 0) 10) (w_ei w1 (w_ar ws (n_v vs 0) 2)) (w_fi w1 (n_v vs 0) 5) (w_ei w1 (w_ar ws (n_v vs 0) 1)) (w_fi w1 (n_v vs 0) 11) (w_fi w1 (n_v vs 0) 10) (w_fi w1 (n_v vs 0) 15) (w_fi w1 (n_v vs 0) 12) (w_ei w1 (w_ar ws (n_v vs 0) 3)) (w_ei w1 (w_ar ws (n_v vs 0) 4)) (w_fi w1 (n_v vs 0) 13) (w_fi w1 (n_v vs 0) 14) (w_fi w1 (n_v vs 0) 8) (w_fi ws (n_v vs 0) 13) (w_fi ws (n_v vs 0) 14) (w_ei ws (w_ar ws (n_v vs 0) 2)) (w_ei ws (w_ar ws (n_v vs 0) 3)) (w_ei ws (w_ar ws (n_v vs 0) 4)) k2 k16 k19 k25 f12 fe_0_5_1 fe_0_8_1 fe_0_10_1 fe_0_11_1 fe_0_12_1 fe_0_13_1 fe_0_14_1 fe_0_15_1 hE_0_1_1 hE_0_2_1 hE_0_3_1 hE_0_4_1 kz_0_8 kz_0_10 kz_0_11 kz_0_12 kz_0_13 kz_0_14 kz_0_15
  have rf25 : tv_ok ta (0, 0, 8, []) (n_v vs 25) := tv_in t25 (by first | omega | grind) (by first | omega | grind)
  refine ⟨List.forall_mem_cons.mpr ⟨rf25, (fun _ h => (by cases h))⟩, [], trivial, ?_, (fun _ h => (by cases h))⟩
  rw [List.append_nil]
  exact (fun _ h => (by cases h))
set_option maxHeartbeats 4000000 in
theorem vc_Mo_met_at_g4_9_0 (x2 : Int) (x4 : Int) (x16 : Int) (x19 : Int) (x22 : Int) (x25 : Int) (from_0 : Int) (pos_0 : Int) (r_0 : Int) (fault_0 : Int) (kind_0 : Int) (tape_0 : Int → Int) (limit_0 : Int) (from_1 : Int) (pos_1 : Int) (kind_1 : Int) (tape_1 : Int → Int) (limit_1 : Int) (all_2 : Int → Int) (r_2 : Int) (tape_2 : Int → Int) (pos_2 : Int) (limit_2 : Int) (from_2 : Int) (kind_2 : Int) (now_2 : Int → Int) (latest_2 : Int → Int) (place_2 : Int) (value_2 : Int) (fault_2 : Int) (r_1 : Int) (fault_1 : Int) (place_0 : Int) (place_1 : Int) (value_0 : Int) (value_1 : Int) (all_0 : Int → Int) (all_1 : Int → Int) (now_0 : Int → Int) (now_1 : Int → Int) (latest_0 : Int → Int) (latest_1 : Int → Int) (k2 : (-1) ≤ x2 ∧ x2 ≤ (-1)) (k4 : 0 ≤ x4 ∧ x4 ≤ 2000) (k16 : 0 ≤ x16 ∧ x16 ≤ 66297) (k19 : 1 ≤ x19 ∧ x19 ≤ 24) (k22 : 195 ≤ x22 ∧ x22 ≤ 66515) (k25 : 0 ≤ x25 ∧ x25 ≤ 8) (f9 : 0 ≤ x2) (fe_0_5_1 : r_0 = r_1) (fe_0_8_1 : fault_0 = fault_1) (fe_0_10_1 : limit_0 = limit_1) (fe_0_11_1 : pos_0 = pos_1) (fe_0_12_1 : kind_0 = kind_1) (fe_0_13_1 : place_0 = place_1) (fe_0_14_1 : value_0 = value_1) (fe_0_15_1 : from_0 = from_1) (fe_0_5_2 : r_1 = r_2) (fe_0_8_2 : fault_1 = fault_2) (fe_0_10_2 : limit_1 = limit_2) (fe_0_11_2 : pos_1 = pos_2) (fe_0_12_2 : kind_1 = kind_2) (fe_0_13_2 : place_1 = place_2) (fe_0_14_2 : value_1 = value_2) (fe_0_15_2 : from_1 = from_2) (hE_0_1_1 : ∀ j : Int, tape_0 j = tape_1 j) (hE_0_1_2 : ∀ j : Int, tape_1 j = tape_2 j) (hE_0_2_1 : ∀ j : Int, 0 ≤ j → (j = x22 → all_0 j = x25) ∧ (j ≠ x22 → all_0 j = all_1 j)) (hE_0_2_2 : ∀ j : Int, 0 ≤ j → (j = x16 → all_1 j = x19) ∧ (j ≠ x16 → all_1 j = all_2 j)) (hE_0_3_1 : ∀ j : Int, now_0 j = now_1 j) (hE_0_3_2 : ∀ j : Int, now_1 j = now_2 j) (hE_0_4_1 : ∀ j : Int, latest_0 j = latest_1 j) (hE_0_4_2 : ∀ j : Int, latest_1 j = latest_2 j) (kz_0_8 : 0 ≤ fault_0 ∧ fault_0 ≤ 5) (kz_0_10 : 0 ≤ limit_0 ∧ limit_0 ≤ 2000) (kz_0_11 : 0 ≤ pos_0 ∧ pos_0 ≤ 2000) (kz_0_12 : 0 ≤ kind_0 ∧ kind_0 ≤ 4) (kz_0_13 : 0 ≤ place_0 ∧ place_0 ≤ 2000) (kz_0_14 : (-49) ≤ value_0 ∧ value_0 ≤ 1048575) (kz_0_15 : 0 ≤ from_0 ∧ from_0 ≤ 2000) : 1 * x4 + ((-1) * pos_0 + 0) ≤ (-1) := by
  subst fe_0_5_1
  subst fe_0_8_1
  subst fe_0_10_1
  subst fe_0_11_1
  subst fe_0_12_1
  subst fe_0_13_1
  subst fe_0_14_1
  subst fe_0_15_1
  subst fe_0_5_2
  subst fe_0_8_2
  subst fe_0_10_2
  subst fe_0_11_2
  subst fe_0_12_2
  subst fe_0_13_2
  subst fe_0_14_2
  subst fe_0_15_2
  have e_hE_0_1_1 := funext hE_0_1_1; subst e_hE_0_1_1
  have e_hE_0_1_2 := funext hE_0_1_2; subst e_hE_0_1_2
  have e_hE_0_3_1 := funext hE_0_3_1; subst e_hE_0_3_1
  have e_hE_0_3_2 := funext hE_0_3_2; subst e_hE_0_3_2
  have e_hE_0_4_1 := funext hE_0_4_1; subst e_hE_0_4_1
  have e_hE_0_4_2 := funext hE_0_4_2; subst e_hE_0_4_2
  first
    | omega
    | (have q1 := (hE_0_2_1 (r_0 + 2) (by omega)).2 (by omega)
       have q2 := (hE_0_2_2 (r_0 + 2) (by omega)).2 (by omega)
       omega)
    | (have q1 := (hE_0_2_1 (r_0 + 1) (by omega)).2 (by omega)
       have q2 := (hE_0_2_2 (r_0 + 1) (by omega)).2 (by omega)
       omega)
    | (have q1 := (hE_0_2_1 (r_0 + 2) (by omega)).2 (by omega)
       omega)
    | (have q1 := (hE_0_2_1 (r_0 + 1) (by omega)).2 (by omega)
       omega)
    | (have q1 := (hE_0_2_1 (r_0 + 2) (by omega)).2 (by omega)
       have q2 := (hE_0_2_2 (r_0 + 2) (by omega)).2 (by omega)
       have q3 := (hE_0_2_3 (r_0 + 2) (by omega)).1 (by omega)
       omega)
    | (have q1 := (hE_0_2_1 (r_0 + 2) (by omega)).2 (by omega)
       have q2 := (hE_0_2_2 (r_0 + 2) (by omega)).2 (by omega)
       have q3 := (hE_0_2_3 (r_0 + 2) (by omega)).2 (by omega)
       omega)
set_option maxHeartbeats 4000000 in
theorem vc_Mo_met_at_g4_9_1 (x2 : Int) (x16 : Int) (x19 : Int) (x22 : Int) (x25 : Int) (from_0 : Int) (pos_0 : Int) (r_0 : Int) (fault_0 : Int) (kind_0 : Int) (tape_0 : Int → Int) (limit_0 : Int) (from_1 : Int) (pos_1 : Int) (kind_1 : Int) (tape_1 : Int → Int) (limit_1 : Int) (all_2 : Int → Int) (r_2 : Int) (tape_2 : Int → Int) (pos_2 : Int) (limit_2 : Int) (from_2 : Int) (kind_2 : Int) (now_2 : Int → Int) (latest_2 : Int → Int) (place_2 : Int) (value_2 : Int) (fault_2 : Int) (r_1 : Int) (fault_1 : Int) (place_0 : Int) (place_1 : Int) (value_0 : Int) (value_1 : Int) (all_0 : Int → Int) (all_1 : Int → Int) (now_0 : Int → Int) (now_1 : Int → Int) (latest_0 : Int → Int) (latest_1 : Int → Int) (k2 : (-1) ≤ x2 ∧ x2 ≤ (-1)) (k16 : 0 ≤ x16 ∧ x16 ≤ 66297) (k19 : 1 ≤ x19 ∧ x19 ≤ 24) (k22 : 195 ≤ x22 ∧ x22 ≤ 66515) (k25 : 0 ≤ x25 ∧ x25 ≤ 8) (f9 : 0 ≤ x2) (fe_0_5_1 : r_0 = r_1) (fe_0_8_1 : fault_0 = fault_1) (fe_0_10_1 : limit_0 = limit_1) (fe_0_11_1 : pos_0 = pos_1) (fe_0_12_1 : kind_0 = kind_1) (fe_0_13_1 : place_0 = place_1) (fe_0_14_1 : value_0 = value_1) (fe_0_15_1 : from_0 = from_1) (fe_0_5_2 : r_1 = r_2) (fe_0_8_2 : fault_1 = fault_2) (fe_0_10_2 : limit_1 = limit_2) (fe_0_11_2 : pos_1 = pos_2) (fe_0_12_2 : kind_1 = kind_2) (fe_0_13_2 : place_1 = place_2) (fe_0_14_2 : value_1 = value_2) (fe_0_15_2 : from_1 = from_2) (hE_0_1_1 : ∀ j : Int, tape_0 j = tape_1 j) (hE_0_1_2 : ∀ j : Int, tape_1 j = tape_2 j) (hE_0_2_1 : ∀ j : Int, 0 ≤ j → (j = x22 → all_0 j = x25) ∧ (j ≠ x22 → all_0 j = all_1 j)) (hE_0_2_2 : ∀ j : Int, 0 ≤ j → (j = x16 → all_1 j = x19) ∧ (j ≠ x16 → all_1 j = all_2 j)) (hE_0_3_1 : ∀ j : Int, now_0 j = now_1 j) (hE_0_3_2 : ∀ j : Int, now_1 j = now_2 j) (hE_0_4_1 : ∀ j : Int, latest_0 j = latest_1 j) (hE_0_4_2 : ∀ j : Int, latest_1 j = latest_2 j) (kz_0_8 : 0 ≤ fault_0 ∧ fault_0 ≤ 5) (kz_0_10 : 0 ≤ limit_0 ∧ limit_0 ≤ 2000) (kz_0_11 : 0 ≤ pos_0 ∧ pos_0 ≤ 2000) (kz_0_12 : 0 ≤ kind_0 ∧ kind_0 ≤ 4) (kz_0_13 : 0 ≤ place_0 ∧ place_0 ≤ 2000) (kz_0_14 : (-49) ≤ value_0 ∧ value_0 ≤ 1048575) (kz_0_15 : 0 ≤ from_0 ∧ from_0 ≤ 2000) : kind_0 = 1 := by
  subst fe_0_5_1
  subst fe_0_8_1
  subst fe_0_10_1
  subst fe_0_11_1
  subst fe_0_12_1
  subst fe_0_13_1
  subst fe_0_14_1
  subst fe_0_15_1
  subst fe_0_5_2
  subst fe_0_8_2
  subst fe_0_10_2
  subst fe_0_11_2
  subst fe_0_12_2
  subst fe_0_13_2
  subst fe_0_14_2
  subst fe_0_15_2
  have e_hE_0_1_1 := funext hE_0_1_1; subst e_hE_0_1_1
  have e_hE_0_1_2 := funext hE_0_1_2; subst e_hE_0_1_2
  have e_hE_0_3_1 := funext hE_0_3_1; subst e_hE_0_3_1
  have e_hE_0_3_2 := funext hE_0_3_2; subst e_hE_0_3_2
  have e_hE_0_4_1 := funext hE_0_4_1; subst e_hE_0_4_1
  have e_hE_0_4_2 := funext hE_0_4_2; subst e_hE_0_4_2
  first
    | omega
    | (have q1 := (hE_0_2_1 (r_0 + 2) (by omega)).2 (by omega)
       have q2 := (hE_0_2_2 (r_0 + 2) (by omega)).2 (by omega)
       omega)
    | (have q1 := (hE_0_2_1 (r_0 + 1) (by omega)).2 (by omega)
       have q2 := (hE_0_2_2 (r_0 + 1) (by omega)).2 (by omega)
       omega)
    | (have q1 := (hE_0_2_1 (r_0 + 2) (by omega)).2 (by omega)
       omega)
    | (have q1 := (hE_0_2_1 (r_0 + 1) (by omega)).2 (by omega)
       omega)
    | (have q1 := (hE_0_2_1 (r_0 + 2) (by omega)).2 (by omega)
       have q2 := (hE_0_2_2 (r_0 + 2) (by omega)).2 (by omega)
       have q3 := (hE_0_2_3 (r_0 + 2) (by omega)).1 (by omega)
       omega)
    | (have q1 := (hE_0_2_1 (r_0 + 2) (by omega)).2 (by omega)
       have q2 := (hE_0_2_2 (r_0 + 2) (by omega)).2 (by omega)
       have q3 := (hE_0_2_3 (r_0 + 2) (by omega)).2 (by omega)
       omega)
set_option maxHeartbeats 4000000 in
theorem vc_Mo_met_at_g4_9_2 (x2 : Int) (x16 : Int) (x19 : Int) (x22 : Int) (x25 : Int) (from_0 : Int) (pos_0 : Int) (r_0 : Int) (fault_0 : Int) (kind_0 : Int) (tape_0 : Int → Int) (limit_0 : Int) (from_1 : Int) (pos_1 : Int) (kind_1 : Int) (tape_1 : Int → Int) (limit_1 : Int) (all_2 : Int → Int) (r_2 : Int) (tape_2 : Int → Int) (pos_2 : Int) (limit_2 : Int) (from_2 : Int) (kind_2 : Int) (now_2 : Int → Int) (latest_2 : Int → Int) (place_2 : Int) (value_2 : Int) (fault_2 : Int) (r_1 : Int) (fault_1 : Int) (place_0 : Int) (place_1 : Int) (value_0 : Int) (value_1 : Int) (all_0 : Int → Int) (all_1 : Int → Int) (now_0 : Int → Int) (now_1 : Int → Int) (latest_0 : Int → Int) (latest_1 : Int → Int) (k2 : (-1) ≤ x2 ∧ x2 ≤ (-1)) (k16 : 0 ≤ x16 ∧ x16 ≤ 66297) (k19 : 1 ≤ x19 ∧ x19 ≤ 24) (k22 : 195 ≤ x22 ∧ x22 ≤ 66515) (k25 : 0 ≤ x25 ∧ x25 ≤ 8) (f9 : 0 ≤ x2) (fe_0_5_1 : r_0 = r_1) (fe_0_8_1 : fault_0 = fault_1) (fe_0_10_1 : limit_0 = limit_1) (fe_0_11_1 : pos_0 = pos_1) (fe_0_12_1 : kind_0 = kind_1) (fe_0_13_1 : place_0 = place_1) (fe_0_14_1 : value_0 = value_1) (fe_0_15_1 : from_0 = from_1) (fe_0_5_2 : r_1 = r_2) (fe_0_8_2 : fault_1 = fault_2) (fe_0_10_2 : limit_1 = limit_2) (fe_0_11_2 : pos_1 = pos_2) (fe_0_12_2 : kind_1 = kind_2) (fe_0_13_2 : place_1 = place_2) (fe_0_14_2 : value_1 = value_2) (fe_0_15_2 : from_1 = from_2) (hE_0_1_1 : ∀ j : Int, tape_0 j = tape_1 j) (hE_0_1_2 : ∀ j : Int, tape_1 j = tape_2 j) (hE_0_2_1 : ∀ j : Int, 0 ≤ j → (j = x22 → all_0 j = x25) ∧ (j ≠ x22 → all_0 j = all_1 j)) (hE_0_2_2 : ∀ j : Int, 0 ≤ j → (j = x16 → all_1 j = x19) ∧ (j ≠ x16 → all_1 j = all_2 j)) (hE_0_3_1 : ∀ j : Int, now_0 j = now_1 j) (hE_0_3_2 : ∀ j : Int, now_1 j = now_2 j) (hE_0_4_1 : ∀ j : Int, latest_0 j = latest_1 j) (hE_0_4_2 : ∀ j : Int, latest_1 j = latest_2 j) (kz_0_8 : 0 ≤ fault_0 ∧ fault_0 ≤ 5) (kz_0_10 : 0 ≤ limit_0 ∧ limit_0 ≤ 2000) (kz_0_11 : 0 ≤ pos_0 ∧ pos_0 ≤ 2000) (kz_0_12 : 0 ≤ kind_0 ∧ kind_0 ≤ 4) (kz_0_13 : 0 ≤ place_0 ∧ place_0 ≤ 2000) (kz_0_14 : (-49) ≤ value_0 ∧ value_0 ≤ 1048575) (kz_0_15 : 0 ≤ from_0 ∧ from_0 ≤ 2000) : (x2 ≤ (-1)) ∨ (all_0 ((r_0 + 1)) ≤ 47) := by
  subst fe_0_5_1
  subst fe_0_8_1
  subst fe_0_10_1
  subst fe_0_11_1
  subst fe_0_12_1
  subst fe_0_13_1
  subst fe_0_14_1
  subst fe_0_15_1
  subst fe_0_5_2
  subst fe_0_8_2
  subst fe_0_10_2
  subst fe_0_11_2
  subst fe_0_12_2
  subst fe_0_13_2
  subst fe_0_14_2
  subst fe_0_15_2
  have e_hE_0_1_1 := funext hE_0_1_1; subst e_hE_0_1_1
  have e_hE_0_1_2 := funext hE_0_1_2; subst e_hE_0_1_2
  have e_hE_0_3_1 := funext hE_0_3_1; subst e_hE_0_3_1
  have e_hE_0_3_2 := funext hE_0_3_2; subst e_hE_0_3_2
  have e_hE_0_4_1 := funext hE_0_4_1; subst e_hE_0_4_1
  have e_hE_0_4_2 := funext hE_0_4_2; subst e_hE_0_4_2
  first
    | omega
    | (have q1 := (hE_0_2_1 (r_0 + 2) (by omega)).2 (by omega)
       have q2 := (hE_0_2_2 (r_0 + 2) (by omega)).2 (by omega)
       omega)
    | (have q1 := (hE_0_2_1 (r_0 + 1) (by omega)).2 (by omega)
       have q2 := (hE_0_2_2 (r_0 + 1) (by omega)).2 (by omega)
       omega)
    | (have q1 := (hE_0_2_1 (r_0 + 2) (by omega)).2 (by omega)
       omega)
    | (have q1 := (hE_0_2_1 (r_0 + 1) (by omega)).2 (by omega)
       omega)
    | (have q1 := (hE_0_2_1 (r_0 + 2) (by omega)).2 (by omega)
       have q2 := (hE_0_2_2 (r_0 + 2) (by omega)).2 (by omega)
       have q3 := (hE_0_2_3 (r_0 + 2) (by omega)).1 (by omega)
       omega)
    | (have q1 := (hE_0_2_1 (r_0 + 2) (by omega)).2 (by omega)
       have q2 := (hE_0_2_2 (r_0 + 2) (by omega)).2 (by omega)
       have q3 := (hE_0_2_3 (r_0 + 2) (by omega)).2 (by omega)
       omega)
set_option maxHeartbeats 4000000 in
theorem vc_Mo_met_at_g4_9_3 (x1 : Int) (x2 : Int) (x16 : Int) (x19 : Int) (x22 : Int) (x25 : Int) (from_0 : Int) (pos_0 : Int) (r_0 : Int) (fault_0 : Int) (kind_0 : Int) (tape_0 : Int → Int) (limit_0 : Int) (from_1 : Int) (pos_1 : Int) (kind_1 : Int) (tape_1 : Int → Int) (limit_1 : Int) (all_2 : Int → Int) (r_2 : Int) (tape_2 : Int → Int) (pos_2 : Int) (limit_2 : Int) (from_2 : Int) (kind_2 : Int) (now_2 : Int → Int) (latest_2 : Int → Int) (place_2 : Int) (value_2 : Int) (fault_2 : Int) (r_1 : Int) (fault_1 : Int) (place_0 : Int) (place_1 : Int) (value_0 : Int) (value_1 : Int) (all_0 : Int → Int) (all_1 : Int → Int) (now_0 : Int → Int) (now_1 : Int → Int) (latest_0 : Int → Int) (latest_1 : Int → Int) (k1 : 0 ≤ x1 ∧ x1 ≤ 7) (k2 : (-1) ≤ x2 ∧ x2 ≤ (-1)) (k16 : 0 ≤ x16 ∧ x16 ≤ 66297) (k19 : 1 ≤ x19 ∧ x19 ≤ 24) (k22 : 195 ≤ x22 ∧ x22 ≤ 66515) (k25 : 0 ≤ x25 ∧ x25 ≤ 8) (f9 : 0 ≤ x2) (fe_0_5_1 : r_0 = r_1) (fe_0_8_1 : fault_0 = fault_1) (fe_0_10_1 : limit_0 = limit_1) (fe_0_11_1 : pos_0 = pos_1) (fe_0_12_1 : kind_0 = kind_1) (fe_0_13_1 : place_0 = place_1) (fe_0_14_1 : value_0 = value_1) (fe_0_15_1 : from_0 = from_1) (fe_0_5_2 : r_1 = r_2) (fe_0_8_2 : fault_1 = fault_2) (fe_0_10_2 : limit_1 = limit_2) (fe_0_11_2 : pos_1 = pos_2) (fe_0_12_2 : kind_1 = kind_2) (fe_0_13_2 : place_1 = place_2) (fe_0_14_2 : value_1 = value_2) (fe_0_15_2 : from_1 = from_2) (hE_0_1_1 : ∀ j : Int, tape_0 j = tape_1 j) (hE_0_1_2 : ∀ j : Int, tape_1 j = tape_2 j) (hE_0_2_1 : ∀ j : Int, 0 ≤ j → (j = x22 → all_0 j = x25) ∧ (j ≠ x22 → all_0 j = all_1 j)) (hE_0_2_2 : ∀ j : Int, 0 ≤ j → (j = x16 → all_1 j = x19) ∧ (j ≠ x16 → all_1 j = all_2 j)) (hE_0_3_1 : ∀ j : Int, now_0 j = now_1 j) (hE_0_3_2 : ∀ j : Int, now_1 j = now_2 j) (hE_0_4_1 : ∀ j : Int, latest_0 j = latest_1 j) (hE_0_4_2 : ∀ j : Int, latest_1 j = latest_2 j) (kz_0_8 : 0 ≤ fault_0 ∧ fault_0 ≤ 5) (kz_0_10 : 0 ≤ limit_0 ∧ limit_0 ≤ 2000) (kz_0_11 : 0 ≤ pos_0 ∧ pos_0 ≤ 2000) (kz_0_12 : 0 ≤ kind_0 ∧ kind_0 ≤ 4) (kz_0_13 : 0 ≤ place_0 ∧ place_0 ≤ 2000) (kz_0_14 : (-49) ≤ value_0 ∧ value_0 ≤ 1048575) (kz_0_15 : 0 ≤ from_0 ∧ from_0 ≤ 2000) : (x1 + 1) ≤ all_0 ((r_0 + 2)) := by
  subst fe_0_5_1
  subst fe_0_8_1
  subst fe_0_10_1
  subst fe_0_11_1
  subst fe_0_12_1
  subst fe_0_13_1
  subst fe_0_14_1
  subst fe_0_15_1
  subst fe_0_5_2
  subst fe_0_8_2
  subst fe_0_10_2
  subst fe_0_11_2
  subst fe_0_12_2
  subst fe_0_13_2
  subst fe_0_14_2
  subst fe_0_15_2
  have e_hE_0_1_1 := funext hE_0_1_1; subst e_hE_0_1_1
  have e_hE_0_1_2 := funext hE_0_1_2; subst e_hE_0_1_2
  have e_hE_0_3_1 := funext hE_0_3_1; subst e_hE_0_3_1
  have e_hE_0_3_2 := funext hE_0_3_2; subst e_hE_0_3_2
  have e_hE_0_4_1 := funext hE_0_4_1; subst e_hE_0_4_1
  have e_hE_0_4_2 := funext hE_0_4_2; subst e_hE_0_4_2
  first
    | omega
    | (have q1 := (hE_0_2_1 (r_0 + 2) (by omega)).2 (by omega)
       have q2 := (hE_0_2_2 (r_0 + 2) (by omega)).2 (by omega)
       omega)
    | (have q1 := (hE_0_2_1 (r_0 + 1) (by omega)).2 (by omega)
       have q2 := (hE_0_2_2 (r_0 + 1) (by omega)).2 (by omega)
       omega)
    | (have q1 := (hE_0_2_1 (r_0 + 2) (by omega)).2 (by omega)
       omega)
    | (have q1 := (hE_0_2_1 (r_0 + 1) (by omega)).2 (by omega)
       omega)
    | (have q1 := (hE_0_2_1 (r_0 + 2) (by omega)).2 (by omega)
       have q2 := (hE_0_2_2 (r_0 + 2) (by omega)).2 (by omega)
       have q3 := (hE_0_2_3 (r_0 + 2) (by omega)).1 (by omega)
       omega)
    | (have q1 := (hE_0_2_1 (r_0 + 2) (by omega)).2 (by omega)
       have q2 := (hE_0_2_2 (r_0 + 2) (by omega)).2 (by omega)
       have q3 := (hE_0_2_3 (r_0 + 2) (by omega)).2 (by omega)
       omega)
set_option maxHeartbeats 4000000 in
theorem vc_Mo_met_at_g4_9_4 (x2 : Int) (x14 : Int) (from_0 : Int) (pos_0 : Int) (r_0 : Int) (fault_0 : Int) (kind_0 : Int) (tape_0 : Int → Int) (limit_0 : Int) (from_1 : Int) (pos_1 : Int) (kind_1 : Int) (tape_1 : Int → Int) (limit_1 : Int) (r_2 : Int) (tape_2 : Int → Int) (pos_2 : Int) (limit_2 : Int) (from_2 : Int) (kind_2 : Int) (now_2 : Int → Int) (latest_2 : Int → Int) (place_2 : Int) (value_2 : Int) (fault_2 : Int) (r_1 : Int) (fault_1 : Int) (place_0 : Int) (place_1 : Int) (value_0 : Int) (value_1 : Int) (all_0 : Int → Int) (now_0 : Int → Int) (now_1 : Int → Int) (latest_0 : Int → Int) (latest_1 : Int → Int) (k2 : (-1) ≤ x2 ∧ x2 ≤ (-1)) (k14 : 0 ≤ x14 ∧ x14 ≤ 23) (f9 : 0 ≤ x2) (fe_0_5_1 : r_0 = r_1) (fe_0_8_1 : fault_0 = fault_1) (fe_0_10_1 : limit_0 = limit_1) (fe_0_11_1 : pos_0 = pos_1) (fe_0_12_1 : kind_0 = kind_1) (fe_0_13_1 : place_0 = place_1) (fe_0_14_1 : value_0 = value_1) (fe_0_15_1 : from_0 = from_1) (fe_0_5_2 : r_1 = r_2) (fe_0_8_2 : fault_1 = fault_2) (fe_0_10_2 : limit_1 = limit_2) (fe_0_11_2 : pos_1 = pos_2) (fe_0_12_2 : kind_1 = kind_2) (fe_0_13_2 : place_1 = place_2) (fe_0_14_2 : value_1 = value_2) (fe_0_15_2 : from_1 = from_2) (hE_0_1_1 : ∀ j : Int, tape_0 j = tape_1 j) (hE_0_1_2 : ∀ j : Int, tape_1 j = tape_2 j) (hE_0_3_1 : ∀ j : Int, now_0 j = now_1 j) (hE_0_3_2 : ∀ j : Int, now_1 j = now_2 j) (hE_0_4_1 : ∀ j : Int, latest_0 j = latest_1 j) (hE_0_4_2 : ∀ j : Int, latest_1 j = latest_2 j) (kz_0_8 : 0 ≤ fault_0 ∧ fault_0 ≤ 5) (kz_0_10 : 0 ≤ limit_0 ∧ limit_0 ≤ 2000) (kz_0_11 : 0 ≤ pos_0 ∧ pos_0 ≤ 2000) (kz_0_12 : 0 ≤ kind_0 ∧ kind_0 ≤ 4) (kz_0_13 : 0 ≤ place_0 ∧ place_0 ≤ 2000) (kz_0_14 : (-49) ≤ value_0 ∧ value_0 ≤ 1048575) (kz_0_15 : 0 ≤ from_0 ∧ from_0 ≤ 2000) : RWN (r_0) (all_0) (now_0) (latest_0) (x14) := by
  subst fe_0_5_1
  subst fe_0_8_1
  subst fe_0_10_1
  subst fe_0_11_1
  subst fe_0_12_1
  subst fe_0_13_1
  subst fe_0_14_1
  subst fe_0_15_1
  subst fe_0_5_2
  subst fe_0_8_2
  subst fe_0_10_2
  subst fe_0_11_2
  subst fe_0_12_2
  subst fe_0_13_2
  subst fe_0_14_2
  subst fe_0_15_2
  have e_hE_0_1_1 := funext hE_0_1_1; subst e_hE_0_1_1
  have e_hE_0_1_2 := funext hE_0_1_2; subst e_hE_0_1_2
  have e_hE_0_3_1 := funext hE_0_3_1; subst e_hE_0_3_1
  have e_hE_0_3_2 := funext hE_0_3_2; subst e_hE_0_3_2
  have e_hE_0_4_1 := funext hE_0_4_1; subst e_hE_0_4_1
  have e_hE_0_4_2 := funext hE_0_4_2; subst e_hE_0_4_2
  try simp only [Int.add_zero] at *
  first
    | (exfalso; omega)
set_option maxHeartbeats 4000000 in
theorem vc_Mo_met_at_g4_9_5 (x2 : Int) (x14 : Int) (from_0 : Int) (pos_0 : Int) (r_0 : Int) (fault_0 : Int) (kind_0 : Int) (tape_0 : Int → Int) (limit_0 : Int) (from_1 : Int) (pos_1 : Int) (kind_1 : Int) (tape_1 : Int → Int) (limit_1 : Int) (r_2 : Int) (tape_2 : Int → Int) (pos_2 : Int) (limit_2 : Int) (from_2 : Int) (kind_2 : Int) (now_2 : Int → Int) (latest_2 : Int → Int) (place_2 : Int) (value_2 : Int) (fault_2 : Int) (r_1 : Int) (fault_1 : Int) (place_0 : Int) (place_1 : Int) (value_0 : Int) (value_1 : Int) (all_0 : Int → Int) (now_0 : Int → Int) (now_1 : Int → Int) (latest_0 : Int → Int) (latest_1 : Int → Int) (k2 : (-1) ≤ x2 ∧ x2 ≤ (-1)) (k14 : 0 ≤ x14 ∧ x14 ≤ 23) (f9 : 0 ≤ x2) (fe_0_5_1 : r_0 = r_1) (fe_0_8_1 : fault_0 = fault_1) (fe_0_10_1 : limit_0 = limit_1) (fe_0_11_1 : pos_0 = pos_1) (fe_0_12_1 : kind_0 = kind_1) (fe_0_13_1 : place_0 = place_1) (fe_0_14_1 : value_0 = value_1) (fe_0_15_1 : from_0 = from_1) (fe_0_5_2 : r_1 = r_2) (fe_0_8_2 : fault_1 = fault_2) (fe_0_10_2 : limit_1 = limit_2) (fe_0_11_2 : pos_1 = pos_2) (fe_0_12_2 : kind_1 = kind_2) (fe_0_13_2 : place_1 = place_2) (fe_0_14_2 : value_1 = value_2) (fe_0_15_2 : from_1 = from_2) (hE_0_1_1 : ∀ j : Int, tape_0 j = tape_1 j) (hE_0_1_2 : ∀ j : Int, tape_1 j = tape_2 j) (hE_0_3_1 : ∀ j : Int, now_0 j = now_1 j) (hE_0_3_2 : ∀ j : Int, now_1 j = now_2 j) (hE_0_4_1 : ∀ j : Int, latest_0 j = latest_1 j) (hE_0_4_2 : ∀ j : Int, latest_1 j = latest_2 j) (kz_0_8 : 0 ≤ fault_0 ∧ fault_0 ≤ 5) (kz_0_10 : 0 ≤ limit_0 ∧ limit_0 ≤ 2000) (kz_0_11 : 0 ≤ pos_0 ∧ pos_0 ≤ 2000) (kz_0_12 : 0 ≤ kind_0 ∧ kind_0 ≤ 4) (kz_0_13 : 0 ≤ place_0 ∧ place_0 ≤ 2000) (kz_0_14 : (-49) ≤ value_0 ∧ value_0 ≤ 1048575) (kz_0_15 : 0 ≤ from_0 ∧ from_0 ≤ 2000) : MEN (r_0) (all_0) (x2) (x14) := by
  subst fe_0_5_1
  subst fe_0_8_1
  subst fe_0_10_1
  subst fe_0_11_1
  subst fe_0_12_1
  subst fe_0_13_1
  subst fe_0_14_1
  subst fe_0_15_1
  subst fe_0_5_2
  subst fe_0_8_2
  subst fe_0_10_2
  subst fe_0_11_2
  subst fe_0_12_2
  subst fe_0_13_2
  subst fe_0_14_2
  subst fe_0_15_2
  have e_hE_0_1_1 := funext hE_0_1_1; subst e_hE_0_1_1
  have e_hE_0_1_2 := funext hE_0_1_2; subst e_hE_0_1_2
  have e_hE_0_3_1 := funext hE_0_3_1; subst e_hE_0_3_1
  have e_hE_0_3_2 := funext hE_0_3_2; subst e_hE_0_3_2
  have e_hE_0_4_1 := funext hE_0_4_1; subst e_hE_0_4_1
  have e_hE_0_4_2 := funext hE_0_4_2; subst e_hE_0_4_2
  try simp only [Int.add_zero] at *
  first
    | (exfalso; omega)
set_option maxHeartbeats 4000000 in
theorem vc_Mo_met_at_g4_9_6 (x1 : Int) (x2 : Int) (x5 : Int) (x6 : Int) (x7 : Int) (x8 : Int) (x9 : Int) (x10 : Int) (x14 : Int) (x16 : Int) (x19 : Int) (x22 : Int) (x23 : Int) (x24 : Int) (x25 : Int) (x26 : Int) (from_0 : Int) (pos_0 : Int) (r_0 : Int) (fault_0 : Int) (kind_0 : Int) (tape_0 : Int → Int) (limit_0 : Int) (from_1 : Int) (pos_1 : Int) (kind_1 : Int) (tape_1 : Int → Int) (limit_1 : Int) (all_2 : Int → Int) (r_2 : Int) (tape_2 : Int → Int) (pos_2 : Int) (limit_2 : Int) (from_2 : Int) (kind_2 : Int) (now_2 : Int → Int) (latest_2 : Int → Int) (place_2 : Int) (value_2 : Int) (fault_2 : Int) (r_1 : Int) (fault_1 : Int) (place_0 : Int) (place_1 : Int) (value_0 : Int) (value_1 : Int) (all_0 : Int → Int) (all_1 : Int → Int) (now_0 : Int → Int) (now_1 : Int → Int) (latest_0 : Int → Int) (latest_1 : Int → Int) (k1 : 0 ≤ x1 ∧ x1 ≤ 7) (k2 : (-1) ≤ x2 ∧ x2 ≤ (-1)) (k5 : 0 ≤ x5 ∧ x5 ≤ 4) (k6 : 0 ≤ x6 ∧ x6 ≤ 48) (k7 : 0 ≤ x7 ∧ x7 ≤ 1) (k8 : 0 ≤ x8 ∧ x8 ≤ 0) (k9 : 1 ≤ x9 ∧ x9 ≤ 1) (k10 : (-1) ≤ x10 ∧ x10 ≤ (-1)) (k14 : 0 ≤ x14 ∧ x14 ≤ 23) (k16 : 0 ≤ x16 ∧ x16 ≤ 66297) (k19 : 1 ≤ x19 ∧ x19 ≤ 24) (k22 : 195 ≤ x22 ∧ x22 ≤ 66515) (k23 : 0 ≤ x23 ∧ x23 ≤ 2000) (k24 : 0 ≤ x24 ∧ x24 ≤ 2000) (k25 : 0 ≤ x25 ∧ x25 ≤ 8) (k26 : 0 ≤ x26 ∧ x26 ≤ 0) (g0 : x24 = from_0) (g1 : x23 = pos_0) (g2 : x16 = r_0) (g4 : x8 = fault_0) (f9 : 0 ≤ x2) (f13 : x25 = x23 - x24) (f35 : x10 < 0) (f37 : KNQ (pos_2) (limit_2) (from_2) (r_2) (all_2) (tape_2) (x10)) (f38 : x9 ≠ 0) (f46 : zRS4 (limit_2) (pos_2) (kind_2) (place_2) (value_2) (from_2) (fault_2) (r_2) (tape_2) (all_2) (x2) (x6) (x7) (x1) (x5)) (f49 : NMQ (kind_2) (pos_2) (limit_2) (from_2) (tape_2) (x9)) (fe_0_5_1 : r_0 = r_1) (fe_0_8_1 : fault_0 = fault_1) (fe_0_10_1 : limit_0 = limit_1) (fe_0_11_1 : pos_0 = pos_1) (fe_0_12_1 : kind_0 = kind_1) (fe_0_13_1 : place_0 = place_1) (fe_0_14_1 : value_0 = value_1) (fe_0_15_1 : from_0 = from_1) (fe_0_5_2 : r_1 = r_2) (fe_0_8_2 : fault_1 = fault_2) (fe_0_10_2 : limit_1 = limit_2) (fe_0_11_2 : pos_1 = pos_2) (fe_0_12_2 : kind_1 = kind_2) (fe_0_13_2 : place_1 = place_2) (fe_0_14_2 : value_1 = value_2) (fe_0_15_2 : from_1 = from_2) (hE_0_1_1 : ∀ j : Int, tape_0 j = tape_1 j) (hE_0_1_2 : ∀ j : Int, tape_1 j = tape_2 j) (hE_0_2_1 : ∀ j : Int, 0 ≤ j → (j = x22 → all_0 j = x25) ∧ (j ≠ x22 → all_0 j = all_1 j)) (hE_0_2_2 : ∀ j : Int, 0 ≤ j → (j = x16 → all_1 j = x19) ∧ (j ≠ x16 → all_1 j = all_2 j)) (hE_0_3_1 : ∀ j : Int, now_0 j = now_1 j) (hE_0_3_2 : ∀ j : Int, now_1 j = now_2 j) (hE_0_4_1 : ∀ j : Int, latest_0 j = latest_1 j) (hE_0_4_2 : ∀ j : Int, latest_1 j = latest_2 j) (kz_0_8 : 0 ≤ fault_0 ∧ fault_0 ≤ 5) (kz_0_10 : 0 ≤ limit_0 ∧ limit_0 ≤ 2000) (kz_0_11 : 0 ≤ pos_0 ∧ pos_0 ≤ 2000) (kz_0_12 : 0 ≤ kind_0 ∧ kind_0 ≤ 4) (kz_0_13 : 0 ≤ place_0 ∧ place_0 ≤ 2000) (kz_0_14 : (-49) ≤ value_0 ∧ value_0 ≤ 1048575) (kz_0_15 : 0 ≤ from_0 ∧ from_0 ≤ 2000) : zMN4 (limit_0) (pos_0) (kind_0) (place_0) (value_0) (from_0) (fault_0) (r_0) (tape_0) (all_0) (x14) (x26) (x2) (x6) (x7) (x1) (x5) := by
  subst fe_0_5_1
  subst fe_0_8_1
  subst fe_0_10_1
  subst fe_0_11_1
  subst fe_0_12_1
  subst fe_0_13_1
  subst fe_0_14_1
  subst fe_0_15_1
  subst fe_0_5_2
  subst fe_0_8_2
  subst fe_0_10_2
  subst fe_0_11_2
  subst fe_0_12_2
  subst fe_0_13_2
  subst fe_0_14_2
  subst fe_0_15_2
  have e_hE_0_1_1 := funext hE_0_1_1; subst e_hE_0_1_1
  have e_hE_0_1_2 := funext hE_0_1_2; subst e_hE_0_1_2
  have e_hE_0_3_1 := funext hE_0_3_1; subst e_hE_0_3_1
  have e_hE_0_3_2 := funext hE_0_3_2; subst e_hE_0_3_2
  have e_hE_0_4_1 := funext hE_0_4_1; subst e_hE_0_4_1
  have e_hE_0_4_2 := funext hE_0_4_2; subst e_hE_0_4_2
  first | subst g0 | skip
  first | subst g1 | skip
  first | subst g2 | skip
  first | subst g4 | skip
  try simp only [Int.add_zero] at *
  first
    | exact mn_step4 ((rsq_lim (‹zMN4 _ _ _ _ _ _ _ _ _ _ _ _ _ _ _ _ _›).1).2.2.2 (by omega)).2 ‹zMN4 _ _ _ _ _ _ _ _ _ _ _ _ _ _ _ _ _› (by omega) (by assumption) (by omega) (rsq_byte (‹zMN4 _ _ _ _ _ _ _ _ _ _ _ _ _ _ _ _ _›).1 (by omega) (by assumption) (by omega) (by omega) (by omega)) (by omega) (by omega)
    | exact mn_start4 ‹zRS4 _ _ _ _ _ _ _ _ _ _ _ _ _ _ _› (by omega) ‹NMQ _ _ _ _ _ _› (by omega) ‹KNQ _ _ _ _ _ _ _› (by omega) (by simp only [Int.add_zero]; omega) (by omega) (by assumption) (by assumption) (by omega) (by omega) (by omega) (by omega) (by omega) (by omega)
    | (exfalso; omega)
def o_Mo_met_at_g4_9 : or_T := (171, 27, [(0, (2, 0, 0, [165])), (1, (0, 0, 7, [])), (2, (0, -1, -1, [])), (3, (0, 0, 2000, [])), (4, (0, 0, 2000, [])), (5, (0, 0, 4, [])), (6, (0, 0, 48, [])), (7, (0, 0, 1, [])), (8, (0, 0, 0, [])), (9, (0, 1, 1, [])), (10, (0, -1, -1, [])), (12, (0, 0, 23, [])), (13, (0, 24, 24, [])), (14, (0, 0, 23, [])), (15, (2, 0, 0, [167])), (16, (0, 0, 66297, [])), (17, (0, 0, 24, [])), (18, (0, 1, 1, [])), (19, (0, 1, 24, [])), (20, (0, 195, 195, [])), (21, (0, 195, 66492, [])), (22, (0, 195, 66515, [])), (23, (0, 0, 2000, [])), (24, (0, 0, 2000, [])), (25, (0, 0, 8, [])), (26, (0, 0, 0, []))], [(9, [24, 0], [15]), (9, [23, 0], [11]), (9, [16, 0], [5]), (9, [15, 0], [2]), (9, [8, 0], [8]), (20, [0, 0], [30, 0, 1, 1, 15, -1, 1, 11]), (20, [0], [50, 3, 0, 12, 11, 15, 2, 21, 4, 7, 1, 3, 2, 0, 12, 0, 1, 0, 3, 2, 0, 11, 4, 3, 2, 0, 15, 0, 8, 3, 7, 1, 3, 2, 0, 12, 0, 0, 0, 7, 4, 3, 2, 0, 15, 0, 1, 2, 0, 11]), (20, [3, 0], [30, 0, 1, 0, 0, -1, 1, 11]), (20, [0, 4], [50, 2, 0, 12, 11, 3, 7, 1, 3, 2, 0, 12, 0, 0, 0, 6, 4, 2, 1, 1, 0, 1, 2, 0, 11]), (20, [2], [50, 0, 0, 0, 2, 0, 0, 1, 0]), (20, [9, 0], [50, 1, 0, 1012, 4, 6, 1, 2, 1, 0, 0, 1, 1, 3, 2, 1, 12, 0, 1]), (20, [0, 9], [60, 4, 1, 962, 12, 11, 10, 15, 1]), (100, [15, 22, 25], []), (2, [25, 23, 24], []), (1, [22, 21, 14], []), (1, [21, 16, 20], []), (20, [0, 0], [30, 0, 1, 1, 15, -1, 1, 11]), (20, [0], [50, 3, 0, 12, 11, 15, 2, 21, 4, 7, 1, 3, 2, 0, 12, 0, 1, 0, 3, 2, 0, 11, 4, 3, 2, 0, 15, 0, 8, 3, 7, 1, 3, 2, 0, 12, 0, 0, 0, 7, 4, 3, 2, 0, 15, 0, 1, 2, 0, 11]), (20, [3, 0], [30, 0, 1, 0, 0, -1, 1, 11]), (20, [0, 4], [50, 2, 0, 12, 11, 3, 7, 1, 3, 2, 0, 12, 0, 0, 0, 6, 4, 2, 1, 1, 0, 1, 2, 0, 11]), (20, [2], [50, 0, 0, 0, 2, 0, 0, 1, 0]), (20, [9, 0], [50, 1, 0, 1012, 4, 6, 1, 2, 1, 0, 0, 1, 1, 3, 2, 1, 12, 0, 1]), (20, [0, 9], [60, 4, 1, 962, 12, 11, 10, 15, 1]), (100, [15, 16, 19], []), (1, [19, 17, 18], []), (10, [17, 15, 16], []), (20, [14, 0], [30, 0, 1, 0, 0, -1, 3, 2005000]), (20, [14, 0], [30, 0, -1, 0, 0, 1, 3, 2005000]), (8, [10], [2]), (8, [8], [5]), (8, [2], [2]), (7, [12, 13], [1]), (20, [12, 0], [30, 0, 1, 0, 0, -1, 3, 2005000]), (20, [12, 0], [30, 0, -1, 0, 0, 1, 3, 2005000]), (8, [10], [2]), (8, [10], [2]), (20, [0, 10], [60, 1, 1, 207, 5, 2]), (20, [0, 10], [60, 4, 2, 1031, 11, 10, 15, 5, 2, 1]), (8, [9], [1]), (20, [0, 0], [30, 0, 1, 1, 15, -1, 1, 11]), (20, [0], [50, 3, 0, 12, 11, 15, 2, 21, 4, 7, 1, 3, 2, 0, 12, 0, 1, 0, 3, 2, 0, 11, 4, 3, 2, 0, 15, 0, 8, 3, 7, 1, 3, 2, 0, 12, 0, 0, 0, 7, 4, 3, 2, 0, 15, 0, 1, 2, 0, 11]), (20, [3, 0], [30, 0, 1, 0, 0, -1, 1, 11]), (20, [0, 4], [50, 2, 0, 12, 11, 3, 7, 1, 3, 2, 0, 12, 0, 0, 0, 6, 4, 2, 1, 1, 0, 1, 2, 0, 11]), (20, [1, 0], [50, 1, 1, 1005, 1002, 0, 6, 4, 2, 1, 0, 0, 1, 3, 1, 2, 4, 3, 2, 1, 5, 0, 2]), (20, [0], [60, 1, 3, 199, 5, 2, 3, 4]), (20, [0, 2], [60, 1, 1, 241, 5, 2]), (20, [0, 2, 6, 7, 1, 5], [60, 8, 2, 993, 10, 11, 12, 13, 14, 15, 8, 5, 1, 2]), (20, [2], [50, 0, 0, 0, 2, 0, 0, 1, 0]), (20, [9, 0], [50, 1, 0, 1012, 4, 6, 1, 2, 1, 0, 0, 1, 1, 3, 2, 1, 12, 0, 1]), (20, [0, 9], [60, 4, 1, 962, 12, 11, 10, 15, 1]), (102, [8], [0]), (8, [8], [5])], [], [], [(20, [4, 0], [30, -1, 1, 0, 0, -1, 1, 11]), (20, [0], [50, 1, 0, 12, 1, 3, 2, 0, 12, 0, 1]), (20, [2, 0], [50, 1, 1, 1005, 1002, 3, 6, 0, 2, 1, 0, 0, -1, 0, 10, 3, 1, 2, 4, 3, 2, 1, 5, 0, 1, 0, 47]), (20, [1, 0], [50, 1, 1, 1005, 1002, 0, 6, 4, 2, 1, 0, 0, 1, 3, 1, 2, 4, 3, 2, 1, 5, 0, 2]), (20, [0, 14], [60, 1, 3, 200, 5, 2, 3, 4]), (20, [0, 2, 14], [60, 1, 1, 243, 5, 2]), (20, [0, 14, 26, 2, 6, 7, 1, 5], [60, 8, 2, 1005, 10, 11, 12, 13, 14, 15, 8, 5, 1, 2]), (24, [0, 0], []), (24, [1, 1], []), (24, [2, 2], [])], [], [(25, 23, -2000, 0), (22, 14, 195, 66492), (22, 21, 0, 23), (22, 16, 195, 218), (21, 16, 195, 195), (19, 17, 1, 1)])
theorem oo_Mo_met_at_g4_9 {kA : Nat → ClassId} : or_ok PRD kA GG o_Mo_met_at_g4_9 := by
  refine or_mk fun A ta ws vs hD hth hl => ?_
  intro t0 r0 t1 k1 t2 k2 t3 k3 t4 k4 t5 k5 t6 k6 t7 k7 t8 k8 t9 k9 t10 k10 t12 k12 t13 k13 t14 k14 t15 r15 t16 k16 t17 k17 t18 k18 t19 k19 t20 k20 t21 k21 t22 k22 t23 k23 t24 k24 t25 k25 t26 k26 d0 d1 d2 d3 d4 d5 f0 f1 f2 f3 f4 f5 f6 f7 f8 f9 f10 f11 ta1 w1 le1 s1 f13 f14 f15 f16 f17 f18 f19 f20 f21 f22 ta2 w2 le2 s2 f24 f25 f26 f27 f28 f29 f30 f31 f32 f33 f34 f35 f36 f37 f38 f39 f40 f41 f42 f43 f44 f45 f46 f47 f48 f49 ta3 w3 le3 s3 f51
  replace f0 := shm_177 f0
  replace f1 := shm_116 f1
  replace f2 := shm_110 f2
  replace f3 := shm_120 f3
  replace f4 := shm_293 f4
  replace f5 := shm_1437 f5
  replace f6 := shm_1438 f6
  replace f7 := shm_1431 f7
  replace f8 := shm_2111 f8
  replace f9 := shm_722 f9
  replace f10 := shm_1856 f10
  replace f11 := shm_1889 f11
  have s1 : (∀ b j, w_el ws b j = if b = v_ad (n_v vs 15) ∧ j = (v_iv (n_v vs 22)).toNat then v_iv (n_v vs 25) else w_el w1 b j) ∧ ∀ b k, w_fd ws b k = w_fd w1 b k := s1.2
  replace f13 := shm_14 f13
  replace f14 := shm_12 f14
  replace f15 := shm_12 f15
  replace f16 := shm_1437 f16
  replace f17 := shm_1438 f17
  replace f18 := shm_1431 f18
  replace f19 := shm_2111 f19
  replace f20 := shm_722 f20
  replace f21 := shm_1856 f21
  replace f22 := shm_1889 f22
  have s2 : (∀ b j, w_el w1 b j = if b = v_ad (n_v vs 15) ∧ j = (v_iv (n_v vs 16)).toNat then v_iv (n_v vs 19) else w_el w2 b j) ∧ ∀ b k, w_fd w1 b k = w_fd w2 b k := s2.2
  replace f24 := shm_12 f24
  replace f25 := shm_107 f25
  replace f26 := shm_126 f26
  replace f27 := shm_127 f27
  replace f28 := shm_39 f28
  replace f29 := shm_295 f29
  replace f30 := shm_39 f30
  replace f31 := shm_40 f31
  replace f32 := shm_126 f32
  replace f33 := shm_127 f33
  replace f34 := shm_39 f34
  replace f35 := shm_39 f35
  replace f36 := shm_1232 f36
  replace f37 := shm_1233 f37
  replace f38 := shm_142 f38
  replace f39 := shm_1437 f39
  replace f40 := shm_1438 f40
  replace f41 := shm_1431 f41
  replace f42 := shm_2111 f42
  replace f43 := shm_1009 f43
  replace f44 := shm_980 f44
  replace f45 := shm_2112 f45
  replace f46 := shm_2126 f46
  replace f47 := shm_722 f47
  replace f48 := shm_1856 f48
  replace f49 := shm_1889 f49
  replace f51 := shm_295 f51
  have ar_0_1_1 : w_ar w1 (n_v vs 0) 1 = w_ar ws (n_v vs 0) 1 := congrArg v_ad (s1.2 _ _).symm
  have ar_0_1_2 : w_ar w2 (n_v vs 0) 1 = w_ar ws (n_v vs 0) 1 := by rw [← ar_0_1_1]; show v_ad (w_fd w2 _ _) = v_ad (w_fd w1 _ _); rw [s2.2]
  have cr_0_1 := fdq_39 hD hth r0
  have ar_0_2_1 : w_ar w1 (n_v vs 0) 2 = w_ar ws (n_v vs 0) 2 := congrArg v_ad (s1.2 _ _).symm
  have ar_0_2_2 : w_ar w2 (n_v vs 0) 2 = w_ar ws (n_v vs 0) 2 := by rw [← ar_0_2_1]; show v_ad (w_fd w2 _ _) = v_ad (w_fd w1 _ _); rw [s2.2]
  have cr_0_2 := fdq_10 hD hth r0
  have ar_0_3_1 : w_ar w1 (n_v vs 0) 3 = w_ar ws (n_v vs 0) 3 := congrArg v_ad (s1.2 _ _).symm
  have ar_0_3_2 : w_ar w2 (n_v vs 0) 3 = w_ar ws (n_v vs 0) 3 := by rw [← ar_0_3_1]; show v_ad (w_fd w2 _ _) = v_ad (w_fd w1 _ _); rw [s2.2]
  have cr_0_3 := fdq_142 hD hth r0
  have ar_0_4_1 : w_ar w1 (n_v vs 0) 4 = w_ar ws (n_v vs 0) 4 := congrArg v_ad (s1.2 _ _).symm
  have ar_0_4_2 : w_ar w2 (n_v vs 0) 4 = w_ar ws (n_v vs 0) 4 := by rw [← ar_0_4_1]; show v_ad (w_fd w2 _ _) = v_ad (w_fd w1 _ _); rw [s2.2]
  have cr_0_4 := fdq_143 hD hth r0
  have fi_0_5_1 : w_fi w1 (n_v vs 0) 5 = w_fi ws (n_v vs 0) 5 := by show v_iv (w_fd w1 _ _) = v_iv (w_fd ws _ _); rw [s1.2]
  have fi_0_5_2 : w_fi w2 (n_v vs 0) 5 = w_fi ws (n_v vs 0) 5 := by rw [← fi_0_5_1]; show v_iv (w_fd w2 _ _) = v_iv (w_fd w1 _ _); rw [s2.2]
  have ad_15 : v_ad (n_v vs 15) = w_ar ws (n_v vs 0) 2 := congrArg v_ad f3
  have g0 : v_iv (n_v vs 24) = w_fi ws (n_v vs 0) 15 := congrArg v_iv f0
  have g1 : v_iv (n_v vs 23) = w_fi ws (n_v vs 0) 11 := congrArg v_iv f1
  have g2 : v_iv (n_v vs 16) = w_fi ws (n_v vs 0) 5 := congrArg v_iv f2
  have g4 : v_iv (n_v vs 8) = w_fi ws (n_v vs 0) 8 := congrArg v_iv f4
  simp only [ar_0_1_1, ad_15] at f22 f25
  have h25 : v_iv (n_v vs 17) = w_ei w2 (w_ar ws (n_v vs 0) 2) (v_iv (n_v vs 16)) := f25
  simp only [ar_0_2_2, ar_0_1_2, ar_0_3_2, ar_0_4_2] at f26 f27 f32 f33 f36 f37 f43 f44 f45 f46 f49
  simp only [fi_0_5_2] at f26 f27 f32 f33
  have fe_0_5_1 : w_fi ws (n_v vs 0) 5 = w_fi w1 (n_v vs 0) 5 := congrArg v_iv (s1.2 _ _)
  have fe_0_8_1 : w_fi ws (n_v vs 0) 8 = w_fi w1 (n_v vs 0) 8 := congrArg v_iv (s1.2 _ _)
  have fe_0_10_1 : w_fi ws (n_v vs 0) 10 = w_fi w1 (n_v vs 0) 10 := congrArg v_iv (s1.2 _ _)
  have fe_0_11_1 : w_fi ws (n_v vs 0) 11 = w_fi w1 (n_v vs 0) 11 := congrArg v_iv (s1.2 _ _)
  have fe_0_12_1 : w_fi ws (n_v vs 0) 12 = w_fi w1 (n_v vs 0) 12 := congrArg v_iv (s1.2 _ _)
  have fe_0_13_1 : w_fi ws (n_v vs 0) 13 = w_fi w1 (n_v vs 0) 13 := congrArg v_iv (s1.2 _ _)
  have fe_0_14_1 : w_fi ws (n_v vs 0) 14 = w_fi w1 (n_v vs 0) 14 := congrArg v_iv (s1.2 _ _)
  have fe_0_15_1 : w_fi ws (n_v vs 0) 15 = w_fi w1 (n_v vs 0) 15 := congrArg v_iv (s1.2 _ _)
  have fe_0_5_2 : w_fi w1 (n_v vs 0) 5 = w_fi w2 (n_v vs 0) 5 := congrArg v_iv (s2.2 _ _)
  have fe_0_8_2 : w_fi w1 (n_v vs 0) 8 = w_fi w2 (n_v vs 0) 8 := congrArg v_iv (s2.2 _ _)
  have fe_0_10_2 : w_fi w1 (n_v vs 0) 10 = w_fi w2 (n_v vs 0) 10 := congrArg v_iv (s2.2 _ _)
  have fe_0_11_2 : w_fi w1 (n_v vs 0) 11 = w_fi w2 (n_v vs 0) 11 := congrArg v_iv (s2.2 _ _)
  have fe_0_12_2 : w_fi w1 (n_v vs 0) 12 = w_fi w2 (n_v vs 0) 12 := congrArg v_iv (s2.2 _ _)
  have fe_0_13_2 : w_fi w1 (n_v vs 0) 13 = w_fi w2 (n_v vs 0) 13 := congrArg v_iv (s2.2 _ _)
  have fe_0_14_2 : w_fi w1 (n_v vs 0) 14 = w_fi w2 (n_v vs 0) 14 := congrArg v_iv (s2.2 _ _)
  have fe_0_15_2 : w_fi w1 (n_v vs 0) 15 = w_fi w2 (n_v vs 0) 15 := congrArg v_iv (s2.2 _ _)
  have hE_0_1_1 : ∀ j : Int, w_ei ws (w_ar ws (n_v vs 0) 1) j = w_ei w1 (w_ar ws (n_v vs 0) 1) j := el_kp s1.1 r15 cr_0_1 (by decide)
  have hE_0_1_2 : ∀ j : Int, w_ei w1 (w_ar ws (n_v vs 0) 1) j = w_ei w2 (w_ar ws (n_v vs 0) 1) j := el_kp s2.1 r15 cr_0_1 (by decide)
  have hK_0_1 := elq_7 hD hth cr_0_1
  have hE_0_2_1 : ∀ j : Int, 0 ≤ j → (j = v_iv (n_v vs 22) → w_ei ws (w_ar ws (n_v vs 0) 2) j = v_iv (n_v vs 25)) ∧ (j ≠ v_iv (n_v vs 22) → w_ei ws (w_ar ws (n_v vs 0) 2) j = w_ei w1 (w_ar ws (n_v vs 0) 2) j) := fun j hj => ⟨fun h => by unfold w_ei; rw [s1.1, if_pos ⟨ad_15.symm, by rw [h]⟩], fun h => by unfold w_ei; rw [s1.1, if_neg (fun e => h (by have := e.2; omega))]⟩
  have hE_0_2_2 : ∀ j : Int, 0 ≤ j → (j = v_iv (n_v vs 16) → w_ei w1 (w_ar ws (n_v vs 0) 2) j = v_iv (n_v vs 19)) ∧ (j ≠ v_iv (n_v vs 16) → w_ei w1 (w_ar ws (n_v vs 0) 2) j = w_ei w2 (w_ar ws (n_v vs 0) 2) j) := fun j hj => ⟨fun h => by unfold w_ei; rw [s2.1, if_pos ⟨ad_15.symm, by rw [h]⟩], fun h => by unfold w_ei; rw [s2.1, if_neg (fun e => h (by have := e.2; omega))]⟩
  have hE_0_3_1 : ∀ j : Int, w_ei ws (w_ar ws (n_v vs 0) 3) j = w_ei w1 (w_ar ws (n_v vs 0) 3) j := el_kp s1.1 r15 cr_0_3 (by decide)
  have hE_0_3_2 : ∀ j : Int, w_ei w1 (w_ar ws (n_v vs 0) 3) j = w_ei w2 (w_ar ws (n_v vs 0) 3) j := el_kp s2.1 r15 cr_0_3 (by decide)
  have hK_0_3 := elq_80 hD hth cr_0_3
  have hE_0_4_1 : ∀ j : Int, w_ei ws (w_ar ws (n_v vs 0) 4) j = w_ei w1 (w_ar ws (n_v vs 0) 4) j := el_kp s1.1 r15 cr_0_4 (by decide)
  have hE_0_4_2 : ∀ j : Int, w_ei w1 (w_ar ws (n_v vs 0) 4) j = w_ei w2 (w_ar ws (n_v vs 0) 4) j := el_kp s2.1 r15 cr_0_4 (by decide)
  have hK_0_4 := elq_81 hD hth cr_0_4
  have kz_0_8 := fdq_34 hD hth r0
  have kz_0_10 := fdq_43 hD hth r0
  have kz_0_11 := fdq_237 hD hth r0
  have kz_0_12 := fdq_187 hD hth r0
  have kz_0_13 := fdq_238 hD hth r0
  have kz_0_14 := fdq_188 hD hth r0
  have kz_0_15 := fdq_239 hD hth r0
  first | have hJ0 : w_ei w2 (w_ar ws (n_v vs 0) 2) ((w_fi w2 (n_v vs 0) 5 + 2)) = w_ei w2 (w_ar ws (n_v vs 0) 2) ((w_fi ws (n_v vs 0) 5 + 2)) := congrArg _ (show ((w_fi w2 (n_v vs 0) 5 + 2) : Int) = (w_fi ws (n_v vs 0) 5 + 2) from by omega) | skip
  first | have hI1 := (hE_0_2_1 ((w_fi ws (n_v vs 0) 5 + 2)) (by omega)).2 (by omega) | have hI1 := (hE_0_2_1 ((w_fi ws (n_v vs 0) 5 + 2)) (by omega)).1 (by omega) | skip
  first | have hI2 := (hE_0_2_2 ((w_fi ws (n_v vs 0) 5 + 2)) (by omega)).2 (by omega) | have hI2 := (hE_0_2_2 ((w_fi ws (n_v vs 0) 5 + 2)) (by omega)).1 (by omega) | skip
  first | have hI3 := (hE_0_2_1 ((w_fi ws (n_v vs 0) 5 + 1)) (by omega)).2 (by omega) | have hI3 := (hE_0_2_1 ((w_fi ws (n_v vs 0) 5 + 1)) (by omega)).1 (by omega) | skip
  first | have hI4 := (hE_0_2_2 ((w_fi ws (n_v vs 0) 5 + 1)) (by omega)).2 (by omega) | have hI4 := (hE_0_2_2 ((w_fi ws (n_v vs 0) 5 + 1)) (by omega)).1 (by omega) | skip
  have nf0 : fc_1 PRD (20, [4, 0], [30, -1, 1, 0, 0, -1, 1, 11]) ws (vs) := ⟨nf_in hl rfl, sgq_2005 (vc_Mo_met_at_g4_9_0 (v_iv (n_v vs 2)) (v_iv (n_v vs 4)) (v_iv (n_v vs 16)) (v_iv (n_v vs 19)) (v_iv (n_v vs 22)) (v_iv (n_v vs 25)) (w_fi ws (n_v vs 0) 15) (w_fi ws (n_v vs 0) 11) (w_fi ws (n_v vs 0) 5) (w_fi ws (n_v vs 0) 8) (w_fi ws (n_v vs 0) 12) (w_ei ws (w_ar ws (n_v vs 0) 1)) (w_fi ws (n_v vs 0) 10) (w_fi w1 (n_v vs 0) 15) (w_fi w1 (n_v vs 0) 11) (w_fi w1 (n_v vs 0) 12) (w_ei w1 (w_ar ws (n_v vs 0) 1)) (w_fi w1 (n_v vs 0) 10) (w_ei w2 (w_ar ws (n_v vs 0) 2)) (w_fi w2 (n_v vs 0) 5) (w_ei w2 (w_ar ws (n_v vs 0) 1)) (w_fi w2 (n_v vs 0) 11) (w_fi w2 (n_v vs 0) 10) (w_fi w2 (n_v vs 0) 15) (w_fi w2 (n_v vs 0) 12) (w_ei w2 (w_ar ws (n_v vs 0) 3)) (w_ei w2 (w_ar ws (n_v vs 0) 4)) (w_fi w2 (n_v vs 0) 13) (w_fi w2 (n_v vs 0) 14) (w_fi w2 (n_v vs 0) 8) (w_fi w1 (n_v vs 0) 5) (w_fi w1 (n_v vs 0) 8) (w_fi ws (n_v vs 0) 13) (w_fi w1 (n_v vs 0) 13) (w_fi ws (n_v vs 0) 14) (w_fi w1 (n_v vs 0) 14) (w_ei ws (w_ar ws (n_v vs 0) 2)) (w_ei w1 (w_ar ws (n_v vs 0) 2)) (w_ei ws (w_ar ws (n_v vs 0) 3)) (w_ei w1 (w_ar ws (n_v vs 0) 3)) (w_ei ws (w_ar ws (n_v vs 0) 4)) (w_ei w1 (w_ar ws (n_v vs 0) 4)) k2 k4 k16 k19 k22 k25 f9 fe_0_5_1 fe_0_8_1 fe_0_10_1 fe_0_11_1 fe_0_12_1 fe_0_13_1 fe_0_14_1 fe_0_15_1 fe_0_5_2 fe_0_8_2 fe_0_10_2 fe_0_11_2 fe_0_12_2 fe_0_13_2 fe_0_14_2 fe_0_15_2 hE_0_1_1 hE_0_1_2 hE_0_2_1 hE_0_2_2 hE_0_3_1 hE_0_3_2 hE_0_4_1 hE_0_4_2 kz_0_8 kz_0_10 kz_0_11 kz_0_12 kz_0_13 kz_0_14 kz_0_15)⟩
  have nf1 : fc_1 PRD (20, [0], [50, 1, 0, 12, 1, 3, 2, 0, 12, 0, 1]) ws (vs) := ⟨nf_in hl rfl, sgq_1890 (vc_Mo_met_at_g4_9_1 (v_iv (n_v vs 2)) (v_iv (n_v vs 16)) (v_iv (n_v vs 19)) (v_iv (n_v vs 22)) (v_iv (n_v vs 25)) (w_fi ws (n_v vs 0) 15) (w_fi ws (n_v vs 0) 11) (w_fi ws (n_v vs 0) 5) (w_fi ws (n_v vs 0) 8) (w_fi ws (n_v vs 0) 12) (w_ei ws (w_ar ws (n_v vs 0) 1)) (w_fi ws (n_v vs 0) 10) (w_fi w1 (n_v vs 0) 15) (w_fi w1 (n_v vs 0) 11) (w_fi w1 (n_v vs 0) 12) (w_ei w1 (w_ar ws (n_v vs 0) 1)) (w_fi w1 (n_v vs 0) 10) (w_ei w2 (w_ar ws (n_v vs 0) 2)) (w_fi w2 (n_v vs 0) 5) (w_ei w2 (w_ar ws (n_v vs 0) 1)) (w_fi w2 (n_v vs 0) 11) (w_fi w2 (n_v vs 0) 10) (w_fi w2 (n_v vs 0) 15) (w_fi w2 (n_v vs 0) 12) (w_ei w2 (w_ar ws (n_v vs 0) 3)) (w_ei w2 (w_ar ws (n_v vs 0) 4)) (w_fi w2 (n_v vs 0) 13) (w_fi w2 (n_v vs 0) 14) (w_fi w2 (n_v vs 0) 8) (w_fi w1 (n_v vs 0) 5) (w_fi w1 (n_v vs 0) 8) (w_fi ws (n_v vs 0) 13) (w_fi w1 (n_v vs 0) 13) (w_fi ws (n_v vs 0) 14) (w_fi w1 (n_v vs 0) 14) (w_ei ws (w_ar ws (n_v vs 0) 2)) (w_ei w1 (w_ar ws (n_v vs 0) 2)) (w_ei ws (w_ar ws (n_v vs 0) 3)) (w_ei w1 (w_ar ws (n_v vs 0) 3)) (w_ei ws (w_ar ws (n_v vs 0) 4)) (w_ei w1 (w_ar ws (n_v vs 0) 4)) k2 k16 k19 k22 k25 f9 fe_0_5_1 fe_0_8_1 fe_0_10_1 fe_0_11_1 fe_0_12_1 fe_0_13_1 fe_0_14_1 fe_0_15_1 fe_0_5_2 fe_0_8_2 fe_0_10_2 fe_0_11_2 fe_0_12_2 fe_0_13_2 fe_0_14_2 fe_0_15_2 hE_0_1_1 hE_0_1_2 hE_0_2_1 hE_0_2_2 hE_0_3_1 hE_0_3_2 hE_0_4_1 hE_0_4_2 kz_0_8 kz_0_10 kz_0_11 kz_0_12 kz_0_13 kz_0_14 kz_0_15)⟩
  have nf2 : fc_1 PRD (20, [2, 0], [50, 1, 1, 1005, 1002, 3, 6, 0, 2, 1, 0, 0, -1, 0, 10, 3, 1, 2, 4, 3, 2, 1, 5, 0, 1, 0, 47]) ws (vs) := ⟨nf_in hl rfl, sgq_2114 (vc_Mo_met_at_g4_9_2 (v_iv (n_v vs 2)) (v_iv (n_v vs 16)) (v_iv (n_v vs 19)) (v_iv (n_v vs 22)) (v_iv (n_v vs 25)) (w_fi ws (n_v vs 0) 15) (w_fi ws (n_v vs 0) 11) (w_fi ws (n_v vs 0) 5) (w_fi ws (n_v vs 0) 8) (w_fi ws (n_v vs 0) 12) (w_ei ws (w_ar ws (n_v vs 0) 1)) (w_fi ws (n_v vs 0) 10) (w_fi w1 (n_v vs 0) 15) (w_fi w1 (n_v vs 0) 11) (w_fi w1 (n_v vs 0) 12) (w_ei w1 (w_ar ws (n_v vs 0) 1)) (w_fi w1 (n_v vs 0) 10) (w_ei w2 (w_ar ws (n_v vs 0) 2)) (w_fi w2 (n_v vs 0) 5) (w_ei w2 (w_ar ws (n_v vs 0) 1)) (w_fi w2 (n_v vs 0) 11) (w_fi w2 (n_v vs 0) 10) (w_fi w2 (n_v vs 0) 15) (w_fi w2 (n_v vs 0) 12) (w_ei w2 (w_ar ws (n_v vs 0) 3)) (w_ei w2 (w_ar ws (n_v vs 0) 4)) (w_fi w2 (n_v vs 0) 13) (w_fi w2 (n_v vs 0) 14) (w_fi w2 (n_v vs 0) 8) (w_fi w1 (n_v vs 0) 5) (w_fi w1 (n_v vs 0) 8) (w_fi ws (n_v vs 0) 13) (w_fi w1 (n_v vs 0) 13) (w_fi ws (n_v vs 0) 14) (w_fi w1 (n_v vs 0) 14) (w_ei ws (w_ar ws (n_v vs 0) 2)) (w_ei w1 (w_ar ws (n_v vs 0) 2)) (w_ei ws (w_ar ws (n_v vs 0) 3)) (w_ei w1 (w_ar ws (n_v vs 0) 3)) (w_ei ws (w_ar ws (n_v vs 0) 4)) (w_ei w1 (w_ar ws (n_v vs 0) 4)) k2 k16 k19 k22 k25 f9 fe_0_5_1 fe_0_8_1 fe_0_10_1 fe_0_11_1 fe_0_12_1 fe_0_13_1 fe_0_14_1 fe_0_15_1 fe_0_5_2 fe_0_8_2 fe_0_10_2 fe_0_11_2 fe_0_12_2 fe_0_13_2 fe_0_14_2 fe_0_15_2 hE_0_1_1 hE_0_1_2 hE_0_2_1 hE_0_2_2 hE_0_3_1 hE_0_3_2 hE_0_4_1 hE_0_4_2 kz_0_8 kz_0_10 kz_0_11 kz_0_12 kz_0_13 kz_0_14 kz_0_15)⟩
  have nf3 : fc_1 PRD (20, [1, 0], [50, 1, 1, 1005, 1002, 0, 6, 4, 2, 1, 0, 0, 1, 3, 1, 2, 4, 3, 2, 1, 5, 0, 2]) ws (vs) := ⟨nf_in hl rfl, sgq_1009 (vc_Mo_met_at_g4_9_3 (v_iv (n_v vs 1)) (v_iv (n_v vs 2)) (v_iv (n_v vs 16)) (v_iv (n_v vs 19)) (v_iv (n_v vs 22)) (v_iv (n_v vs 25)) (w_fi ws (n_v vs 0) 15) (w_fi ws (n_v vs 0) 11) (w_fi ws (n_v vs 0) 5) (w_fi ws (n_v vs 0) 8) (w_fi ws (n_v vs 0) 12) (w_ei ws (w_ar ws (n_v vs 0) 1)) (w_fi ws (n_v vs 0) 10) (w_fi w1 (n_v vs 0) 15) (w_fi w1 (n_v vs 0) 11) (w_fi w1 (n_v vs 0) 12) (w_ei w1 (w_ar ws (n_v vs 0) 1)) (w_fi w1 (n_v vs 0) 10) (w_ei w2 (w_ar ws (n_v vs 0) 2)) (w_fi w2 (n_v vs 0) 5) (w_ei w2 (w_ar ws (n_v vs 0) 1)) (w_fi w2 (n_v vs 0) 11) (w_fi w2 (n_v vs 0) 10) (w_fi w2 (n_v vs 0) 15) (w_fi w2 (n_v vs 0) 12) (w_ei w2 (w_ar ws (n_v vs 0) 3)) (w_ei w2 (w_ar ws (n_v vs 0) 4)) (w_fi w2 (n_v vs 0) 13) (w_fi w2 (n_v vs 0) 14) (w_fi w2 (n_v vs 0) 8) (w_fi w1 (n_v vs 0) 5) (w_fi w1 (n_v vs 0) 8) (w_fi ws (n_v vs 0) 13) (w_fi w1 (n_v vs 0) 13) (w_fi ws (n_v vs 0) 14) (w_fi w1 (n_v vs 0) 14) (w_ei ws (w_ar ws (n_v vs 0) 2)) (w_ei w1 (w_ar ws (n_v vs 0) 2)) (w_ei ws (w_ar ws (n_v vs 0) 3)) (w_ei w1 (w_ar ws (n_v vs 0) 3)) (w_ei ws (w_ar ws (n_v vs 0) 4)) (w_ei w1 (w_ar ws (n_v vs 0) 4)) k1 k2 k16 k19 k22 k25 f9 fe_0_5_1 fe_0_8_1 fe_0_10_1 fe_0_11_1 fe_0_12_1 fe_0_13_1 fe_0_14_1 fe_0_15_1 fe_0_5_2 fe_0_8_2 fe_0_10_2 fe_0_11_2 fe_0_12_2 fe_0_13_2 fe_0_14_2 fe_0_15_2 hE_0_1_1 hE_0_1_2 hE_0_2_1 hE_0_2_2 hE_0_3_1 hE_0_3_2 hE_0_4_1 hE_0_4_2 kz_0_8 kz_0_10 kz_0_11 kz_0_12 kz_0_13 kz_0_14 kz_0_15)⟩
  have nf4 : fc_1 PRD (20, [0, 14], [60, 1, 3, 200, 5, 2, 3, 4]) ws (vs) := ⟨nf_in hl rfl, sgq_1803 (vc_Mo_met_at_g4_9_4 (v_iv (n_v vs 2)) (v_iv (n_v vs 14)) (w_fi ws (n_v vs 0) 15) (w_fi ws (n_v vs 0) 11) (w_fi ws (n_v vs 0) 5) (w_fi ws (n_v vs 0) 8) (w_fi ws (n_v vs 0) 12) (w_ei ws (w_ar ws (n_v vs 0) 1)) (w_fi ws (n_v vs 0) 10) (w_fi w1 (n_v vs 0) 15) (w_fi w1 (n_v vs 0) 11) (w_fi w1 (n_v vs 0) 12) (w_ei w1 (w_ar ws (n_v vs 0) 1)) (w_fi w1 (n_v vs 0) 10) (w_fi w2 (n_v vs 0) 5) (w_ei w2 (w_ar ws (n_v vs 0) 1)) (w_fi w2 (n_v vs 0) 11) (w_fi w2 (n_v vs 0) 10) (w_fi w2 (n_v vs 0) 15) (w_fi w2 (n_v vs 0) 12) (w_ei w2 (w_ar ws (n_v vs 0) 3)) (w_ei w2 (w_ar ws (n_v vs 0) 4)) (w_fi w2 (n_v vs 0) 13) (w_fi w2 (n_v vs 0) 14) (w_fi w2 (n_v vs 0) 8) (w_fi w1 (n_v vs 0) 5) (w_fi w1 (n_v vs 0) 8) (w_fi ws (n_v vs 0) 13) (w_fi w1 (n_v vs 0) 13) (w_fi ws (n_v vs 0) 14) (w_fi w1 (n_v vs 0) 14) (w_ei ws (w_ar ws (n_v vs 0) 2)) (w_ei ws (w_ar ws (n_v vs 0) 3)) (w_ei w1 (w_ar ws (n_v vs 0) 3)) (w_ei ws (w_ar ws (n_v vs 0) 4)) (w_ei w1 (w_ar ws (n_v vs 0) 4)) k2 k14 f9 fe_0_5_1 fe_0_8_1 fe_0_10_1 fe_0_11_1 fe_0_12_1 fe_0_13_1 fe_0_14_1 fe_0_15_1 fe_0_5_2 fe_0_8_2 fe_0_10_2 fe_0_11_2 fe_0_12_2 fe_0_13_2 fe_0_14_2 fe_0_15_2 hE_0_1_1 hE_0_1_2 hE_0_3_1 hE_0_3_2 hE_0_4_1 hE_0_4_2 kz_0_8 kz_0_10 kz_0_11 kz_0_12 kz_0_13 kz_0_14 kz_0_15)⟩
  have nf5 : fc_1 PRD (20, [0, 2, 14], [60, 1, 1, 243, 5, 2]) ws (vs) := ⟨nf_in hl rfl, sgq_2115 (vc_Mo_met_at_g4_9_5 (v_iv (n_v vs 2)) (v_iv (n_v vs 14)) (w_fi ws (n_v vs 0) 15) (w_fi ws (n_v vs 0) 11) (w_fi ws (n_v vs 0) 5) (w_fi ws (n_v vs 0) 8) (w_fi ws (n_v vs 0) 12) (w_ei ws (w_ar ws (n_v vs 0) 1)) (w_fi ws (n_v vs 0) 10) (w_fi w1 (n_v vs 0) 15) (w_fi w1 (n_v vs 0) 11) (w_fi w1 (n_v vs 0) 12) (w_ei w1 (w_ar ws (n_v vs 0) 1)) (w_fi w1 (n_v vs 0) 10) (w_fi w2 (n_v vs 0) 5) (w_ei w2 (w_ar ws (n_v vs 0) 1)) (w_fi w2 (n_v vs 0) 11) (w_fi w2 (n_v vs 0) 10) (w_fi w2 (n_v vs 0) 15) (w_fi w2 (n_v vs 0) 12) (w_ei w2 (w_ar ws (n_v vs 0) 3)) (w_ei w2 (w_ar ws (n_v vs 0) 4)) (w_fi w2 (n_v vs 0) 13) (w_fi w2 (n_v vs 0) 14) (w_fi w2 (n_v vs 0) 8) (w_fi w1 (n_v vs 0) 5) (w_fi w1 (n_v vs 0) 8) (w_fi ws (n_v vs 0) 13) (w_fi w1 (n_v vs 0) 13) (w_fi ws (n_v vs 0) 14) (w_fi w1 (n_v vs 0) 14) (w_ei ws (w_ar ws (n_v vs 0) 2)) (w_ei ws (w_ar ws (n_v vs 0) 3)) (w_ei w1 (w_ar ws (n_v vs 0) 3)) (w_ei ws (w_ar ws (n_v vs 0) 4)) (w_ei w1 (w_ar ws (n_v vs 0) 4)) k2 k14 f9 fe_0_5_1 fe_0_8_1 fe_0_10_1 fe_0_11_1 fe_0_12_1 fe_0_13_1 fe_0_14_1 fe_0_15_1 fe_0_5_2 fe_0_8_2 fe_0_10_2 fe_0_11_2 fe_0_12_2 fe_0_13_2 fe_0_14_2 fe_0_15_2 hE_0_1_1 hE_0_1_2 hE_0_3_1 hE_0_3_2 hE_0_4_1 hE_0_4_2 kz_0_8 kz_0_10 kz_0_11 kz_0_12 kz_0_13 kz_0_14 kz_0_15)⟩
  have nf6 : fc_1 PRD (20, [0, 14, 26, 2, 6, 7, 1, 5], [60, 8, 2, 1005, 10, 11, 12, 13, 14, 15, 8, 5, 1, 2]) ws (vs) := ⟨nf_in hl rfl, sgq_2127 (vc_Mo_met_at_g4_9_6 (v_iv (n_v vs 1)) (v_iv (n_v vs 2)) (v_iv (n_v vs 5)) (v_iv (n_v vs 6)) (v_iv (n_v vs 7)) (v_iv (n_v vs 8)) (v_iv (n_v vs 9)) (v_iv (n_v vs 10)) (v_iv (n_v vs 14)) (v_iv (n_v vs 16)) (v_iv (n_v vs 19)) (v_iv (n_v vs 22)) (v_iv (n_v vs 23)) (v_iv (n_v vs 24)) (v_iv (n_v vs 25)) (v_iv (n_v vs 26)) (w_fi ws (n_v vs 0) 15) (w_fi ws (n_v vs 0) 11) (w_fi ws (n_v vs 0) 5) (w_fi ws (n_v vs 0) 8) (w_fi ws (n_v vs 0) 12) (w_ei ws (w_ar ws (n_v vs 0) 1)) (w_fi ws (n_v vs 0) 10) (w_fi w1 (n_v vs 0) 15) (w_fi w1 (n_v vs 0) 11) (w_fi w1 (n_v vs 0) 12) (w_ei w1 (w_ar ws (n_v vs 0) 1)) (w_fi w1 (n_v vs 0) 10) (w_ei w2 (w_ar ws (n_v vs 0) 2)) (w_fi w2 (n_v vs 0) 5) (w_ei w2 (w_ar ws (n_v vs 0) 1)) (w_fi w2 (n_v vs 0) 11) (w_fi w2 (n_v vs 0) 10) (w_fi w2 (n_v vs 0) 15) (w_fi w2 (n_v vs 0) 12) (w_ei w2 (w_ar ws (n_v vs 0) 3)) (w_ei w2 (w_ar ws (n_v vs 0) 4)) (w_fi w2 (n_v vs 0) 13) (w_fi w2 (n_v vs 0) 14) (w_fi w2 (n_v vs 0) 8) (w_fi w1 (n_v vs 0) 5) (w_fi w1 (n_v vs 0) 8) (w_fi ws (n_v vs 0) 13) (w_fi w1 (n_v vs 0) 13) (w_fi ws (n_v vs 0) 14) (w_fi w1 (n_v vs 0) 14) (w_ei ws (w_ar ws (n_v vs 0) 2)) (w_ei w1 (w_ar ws (n_v vs 0) 2)) (w_ei ws (w_ar ws (n_v vs 0) 3)) (w_ei w1 (w_ar ws (n_v vs 0) 3)) (w_ei ws (w_ar ws (n_v vs 0) 4)) (w_ei w1 (w_ar ws (n_v vs 0) 4)) k1 k2 k5 k6 k7 k8 k9 k10 k14 k16 k19 k22 k23 k24 k25 k26 g0 g1 g2 g4 f9 f13 f35 f37 f38 f46 f49 fe_0_5_1 fe_0_8_1 fe_0_10_1 fe_0_11_1 fe_0_12_1 fe_0_13_1 fe_0_14_1 fe_0_15_1 fe_0_5_2 fe_0_8_2 fe_0_10_2 fe_0_11_2 fe_0_12_2 fe_0_13_2 fe_0_14_2 fe_0_15_2 hE_0_1_1 hE_0_1_2 hE_0_2_1 hE_0_2_2 hE_0_3_1 hE_0_3_2 hE_0_4_1 hE_0_4_2 kz_0_8 kz_0_10 kz_0_11 kz_0_12 kz_0_13 kz_0_14 kz_0_15)⟩
  have nf7 : fc_1 PRD (24, [0, 0], []) ws (vs) := by
    refine ⟨nf_in hl rfl, sgq_1 ?_⟩
    · show n_v vs 0 = n_v vs 0
      first | rfl | simp only [true_and]
  have nf8 : fc_1 PRD (24, [1, 1], []) ws (vs) := by
    refine ⟨nf_in hl rfl, sgq_1 ?_⟩
    · show n_v vs 1 = n_v vs 1
      first | rfl | simp only [true_and]
  have nf9 : fc_1 PRD (24, [2, 2], []) ws (vs) := by
    refine ⟨nf_in hl rfl, sgq_1 ?_⟩
    · show n_v vs 2 = n_v vs 2
      first | rfl | simp only [true_and]
  refine ⟨(fun _ h => (by cases h)), [], trivial, ?_, (fun _ h => (by cases h))⟩
  rw [List.append_nil]
  exact List.forall_mem_cons.mpr ⟨⟨show (20 : Nat) < 100 from by decide, nf0⟩, List.forall_mem_cons.mpr ⟨⟨show (20 : Nat) < 100 from by decide, nf1⟩, List.forall_mem_cons.mpr ⟨⟨show (20 : Nat) < 100 from by decide, nf2⟩, List.forall_mem_cons.mpr ⟨⟨show (20 : Nat) < 100 from by decide, nf3⟩, List.forall_mem_cons.mpr ⟨⟨show (20 : Nat) < 100 from by decide, nf4⟩, List.forall_mem_cons.mpr ⟨⟨show (20 : Nat) < 100 from by decide, nf5⟩, List.forall_mem_cons.mpr ⟨⟨show (20 : Nat) < 100 from by decide, nf6⟩, List.forall_mem_cons.mpr ⟨⟨show (24 : Nat) < 100 from by decide, nf7⟩, List.forall_mem_cons.mpr ⟨⟨show (24 : Nat) < 100 from by decide, nf8⟩, List.forall_mem_cons.mpr ⟨⟨show (24 : Nat) < 100 from by decide, nf9⟩, (fun _ h => (by cases h))⟩⟩⟩⟩⟩⟩⟩⟩⟩⟩
set_option maxHeartbeats 4000000 in
theorem vc_Mo_met_at_g4_10_r0 (x12 : Int) (x16 : Int) (all_0 : Int → Int) (r_0 : Int) (k12 : 0 ≤ x12 ∧ x12 ≤ 23) (k16 : 0 ≤ x16 ∧ x16 ≤ 24) (f0 : 1 * x16 + ((-1) * all_0 (r_0 + 0) + 0) ≤ 0) (f1 : (-1) * x16 + (1 * all_0 (r_0 + 0) + 0) ≤ 0) (f10 : 1 * x12 + ((-1) * all_0 (r_0 + 0) + 0) ≤ 0) (f11 : (-1) * x12 + (1 * all_0 (r_0 + 0) + 0) ≤ 0) : 0 ≤ x16 ∧ x16 ≤ 23 := by
  first
    | omega
    | (have q1 := (hE_0_2_1 (r_0 + 2) (by omega)).2 (by omega)
       have q2 := (hE_0_2_2 (r_0 + 2) (by omega)).2 (by omega)
       omega)
    | (have q1 := (hE_0_2_1 (r_0 + 1) (by omega)).2 (by omega)
       have q2 := (hE_0_2_2 (r_0 + 1) (by omega)).2 (by omega)
       omega)
    | (have q1 := (hE_0_2_1 (r_0 + 2) (by omega)).2 (by omega)
       omega)
    | (have q1 := (hE_0_2_1 (r_0 + 1) (by omega)).2 (by omega)
       omega)
    | (have q1 := (hE_0_2_1 (r_0 + 2) (by omega)).2 (by omega)
       have q2 := (hE_0_2_2 (r_0 + 2) (by omega)).2 (by omega)
       have q3 := (hE_0_2_3 (r_0 + 2) (by omega)).1 (by omega)
       omega)
    | (have q1 := (hE_0_2_1 (r_0 + 2) (by omega)).2 (by omega)
       have q2 := (hE_0_2_2 (r_0 + 2) (by omega)).2 (by omega)
       have q3 := (hE_0_2_3 (r_0 + 2) (by omega)).2 (by omega)
       omega)
def o_Mo_met_at_g4_10 : or_T := (130, 17, [(0, (2, 0, 0, [165])), (1, (0, 0, 7, [])), (2, (0, 0, 23, [])), (3, (0, 0, 2000, [])), (4, (0, 0, 2000, [])), (5, (0, 0, 4, [])), (6, (0, 0, 48, [])), (7, (0, 0, 1, [])), (8, (0, 0, 0, [])), (9, (0, 1, 1, [])), (10, (0, -1, -1, [])), (12, (0, 0, 23, [])), (13, (0, 24, 24, [])), (14, (0, 0, 47, [])), (15, (0, 48, 48, [])), (16, (0, 0, 24, []))], [(20, [16, 0], [30, 0, 1, 0, 0, -1, 3, 2005000]), (20, [16, 0], [30, 0, -1, 0, 0, 1, 3, 2005000]), (8, [10], [2]), (8, [8], [5]), (9, [8, 0], [8]), (7, [14, 15], [1]), (20, [14, 0], [30, 0, 1, 0, 0, -1, 3, 2005001]), (20, [14, 0], [30, 0, -1, 0, 0, 1, 3, 2005001]), (8, [2], [3]), (7, [12, 13], [1]), (20, [12, 0], [30, 0, 1, 0, 0, -1, 3, 2005000]), (20, [12, 0], [30, 0, -1, 0, 0, 1, 3, 2005000]), (8, [10], [2]), (8, [10], [2]), (20, [0, 10], [60, 1, 1, 207, 5, 2]), (20, [0, 10], [60, 4, 2, 1031, 11, 10, 15, 5, 2, 1]), (8, [9], [1]), (20, [0, 0], [30, 0, 1, 1, 15, -1, 1, 11]), (20, [0], [50, 3, 0, 12, 11, 15, 2, 21, 4, 7, 1, 3, 2, 0, 12, 0, 1, 0, 3, 2, 0, 11, 4, 3, 2, 0, 15, 0, 8, 3, 7, 1, 3, 2, 0, 12, 0, 0, 0, 7, 4, 3, 2, 0, 15, 0, 1, 2, 0, 11]), (20, [3, 0], [30, 0, 1, 0, 0, -1, 1, 11]), (20, [0, 4], [50, 2, 0, 12, 11, 3, 7, 1, 3, 2, 0, 12, 0, 0, 0, 6, 4, 2, 1, 1, 0, 1, 2, 0, 11]), (20, [1, 0], [50, 1, 1, 1005, 1002, 0, 6, 4, 2, 1, 0, 0, 1, 3, 1, 2, 4, 3, 2, 1, 5, 0, 2]), (20, [0], [60, 1, 3, 199, 5, 2, 3, 4]), (20, [0, 2], [60, 1, 1, 241, 5, 2]), (20, [0, 2, 6, 7, 1, 5], [60, 8, 2, 993, 10, 11, 12, 13, 14, 15, 8, 5, 1, 2]), (20, [2], [50, 0, 0, 0, 2, 0, 0, 1, 0]), (20, [9, 0], [50, 1, 0, 1012, 4, 6, 1, 2, 1, 0, 0, 1, 1, 3, 2, 1, 12, 0, 1]), (20, [0, 9], [60, 4, 1, 962, 12, 11, 10, 15, 1]), (102, [8], [0]), (8, [8], [5])], [(16, (0, 0, 23, []))], [], [], [], [])
theorem oo_Mo_met_at_g4_10 {kA : Nat → ClassId} : or_ok PRD kA GG o_Mo_met_at_g4_10 := by
  refine or_mk fun A ta ws vs hD hth hl => ?_
  intro t0 r0 t1 k1 t2 k2 t3 k3 t4 k4 t5 k5 t6 k6 t7 k7 t8 k8 t9 k9 t10 k10 t12 k12 t13 k13 t14 k14 t15 k15 t16 k16 f0 f1 f2 f3 f4 f5 f6 f7 f8 f9 f10 f11 f12 f13 f14 f15 f16 f17 f18 f19 f20 f21 f22 f23 f24 f25 f26 f27 ta1 w1 le1 s1 f29
  have hrf0 : 0 ≤ v_iv (n_v vs 16) ∧ v_iv (n_v vs 16) ≤ 23 := vc_Mo_met_at_g4_10_r0 (v_iv (n_v vs 12)) (v_iv (n_v vs 16)) (w_ei ws (w_ar ws (n_v vs 0) 2)) (w_fi ws (n_v vs 0) 5) k12 k16 (shm_126 f0) (shm_127 f1) (shm_126 f10) (shm_127 f11)
  have rf16 : tv_ok ta (0, 0, 23, []) (n_v vs 16) := tv_in t16 (by first | omega | grind) (by first | omega | grind)
  refine ⟨List.forall_mem_cons.mpr ⟨rf16, (fun _ h => (by cases h))⟩, [], trivial, ?_, (fun _ h => (by cases h))⟩
  rw [List.append_nil]
  exact (fun _ h => (by cases h))
set_option maxHeartbeats 4000000 in
theorem vc_Mo_met_at_g4_11_r0 (x8 : Int) (x12 : Int) (x18 : Int) (x19 : Int) (x21 : Int) (all_0 : Int → Int) (r_0 : Int) (fault_0 : Int) (k8 : 0 ≤ x8 ∧ x8 ≤ 0) (k12 : 0 ≤ x12 ∧ x12 ≤ 23) (k18 : 0 ≤ x18 ∧ x18 ≤ 66297) (k19 : 0 ≤ x19 ∧ x19 ≤ 24) (k21 : 1 ≤ x21 ∧ x21 ≤ 25) (d0 : x19 + 1 ≤ x21 ∧ x21 ≤ x19 + 1) (h1 : x19 = all_0 (x18)) (g2 : x18 = r_0) (g8 : x8 = fault_0) (f14 : 1 * x12 + ((-1) * all_0 (r_0 + 0) + 0) ≤ 0) (f15 : (-1) * x12 + (1 * all_0 (r_0 + 0) + 0) ≤ 0) (kz_0_8 : 0 ≤ fault_0 ∧ fault_0 ≤ 5) : 1 ≤ x21 ∧ x21 ≤ 24 := by
  first | subst g2 | skip
  first | subst g8 | skip
  try simp only [Int.add_zero] at *
  omega
def o_Mo_met_at_g4_11 : or_T := (143, 22, [(0, (2, 0, 0, [165])), (1, (0, 0, 7, [])), (2, (0, 0, 23, [])), (3, (0, 0, 2000, [])), (4, (0, 0, 2000, [])), (5, (0, 0, 4, [])), (6, (0, 0, 48, [])), (7, (0, 0, 1, [])), (8, (0, 0, 0, [])), (9, (0, 1, 1, [])), (10, (0, -1, -1, [])), (12, (0, 0, 23, [])), (13, (0, 24, 24, [])), (14, (0, 0, 47, [])), (15, (0, 48, 48, [])), (16, (0, 0, 23, [])), (17, (2, 0, 0, [167])), (18, (0, 0, 66297, [])), (19, (0, 0, 24, [])), (20, (0, 1, 1, [])), (21, (0, 1, 25, []))], [(1, [21, 19, 20], []), (10, [19, 17, 18], []), (9, [18, 0], [5]), (9, [17, 0], [2]), (20, [16, 0], [30, 0, 1, 0, 0, -1, 3, 2005000]), (20, [16, 0], [30, 0, -1, 0, 0, 1, 3, 2005000]), (8, [10], [2]), (8, [8], [5]), (9, [8, 0], [8]), (7, [14, 15], [1]), (20, [14, 0], [30, 0, 1, 0, 0, -1, 3, 2005001]), (20, [14, 0], [30, 0, -1, 0, 0, 1, 3, 2005001]), (8, [2], [3]), (7, [12, 13], [1]), (20, [12, 0], [30, 0, 1, 0, 0, -1, 3, 2005000]), (20, [12, 0], [30, 0, -1, 0, 0, 1, 3, 2005000]), (8, [10], [2]), (8, [10], [2]), (20, [0, 10], [60, 1, 1, 207, 5, 2]), (20, [0, 10], [60, 4, 2, 1031, 11, 10, 15, 5, 2, 1]), (8, [9], [1]), (20, [0, 0], [30, 0, 1, 1, 15, -1, 1, 11]), (20, [0], [50, 3, 0, 12, 11, 15, 2, 21, 4, 7, 1, 3, 2, 0, 12, 0, 1, 0, 3, 2, 0, 11, 4, 3, 2, 0, 15, 0, 8, 3, 7, 1, 3, 2, 0, 12, 0, 0, 0, 7, 4, 3, 2, 0, 15, 0, 1, 2, 0, 11]), (20, [3, 0], [30, 0, 1, 0, 0, -1, 1, 11]), (20, [0, 4], [50, 2, 0, 12, 11, 3, 7, 1, 3, 2, 0, 12, 0, 0, 0, 6, 4, 2, 1, 1, 0, 1, 2, 0, 11]), (20, [1, 0], [50, 1, 1, 1005, 1002, 0, 6, 4, 2, 1, 0, 0, 1, 3, 1, 2, 4, 3, 2, 1, 5, 0, 2]), (20, [0], [60, 1, 3, 199, 5, 2, 3, 4]), (20, [0, 2], [60, 1, 1, 241, 5, 2]), (20, [0, 2, 6, 7, 1, 5], [60, 8, 2, 993, 10, 11, 12, 13, 14, 15, 8, 5, 1, 2]), (20, [2], [50, 0, 0, 0, 2, 0, 0, 1, 0]), (20, [9, 0], [50, 1, 0, 1012, 4, 6, 1, 2, 1, 0, 0, 1, 1, 3, 2, 1, 12, 0, 1]), (20, [0, 9], [60, 4, 1, 962, 12, 11, 10, 15, 1]), (102, [8], [0]), (8, [8], [5])], [(21, (0, 1, 24, []))], [], [], [], [(21, 19, 1, 1)])
theorem oo_Mo_met_at_g4_11 {kA : Nat → ClassId} : or_ok PRD kA GG o_Mo_met_at_g4_11 := by
  refine or_mk fun A ta ws vs hD hth hl => ?_
  intro t0 r0 t1 k1 t2 k2 t3 k3 t4 k4 t5 k5 t6 k6 t7 k7 t8 k8 t9 k9 t10 k10 t12 k12 t13 k13 t14 k14 t15 k15 t16 k16 t17 r17 t18 k18 t19 k19 t20 k20 t21 k21 d0 f0 f1 f2 f3 f4 f5 f6 f7 f8 f9 f10 f11 f12 f13 f14 f15 f16 f17 f18 f19 f20 f21 f22 f23 f24 f25 f26 f27 f28 f29 f30 f31 ta1 w1 le1 s1 f33
  replace f1 := shm_107 f1
  replace f2 := shm_110 f2
  replace f3 := shm_120 f3
  replace f8 := shm_293 f8
  have ad_17 : v_ad (n_v vs 17) = w_ar ws (n_v vs 0) 2 := congrArg v_ad f3
  simp only [ad_17] at f1
  have h1 : v_iv (n_v vs 19) = w_ei ws (w_ar ws (n_v vs 0) 2) (v_iv (n_v vs 18)) := f1
  have g2 : v_iv (n_v vs 18) = w_fi ws (n_v vs 0) 5 := congrArg v_iv f2
  have g8 : v_iv (n_v vs 8) = w_fi ws (n_v vs 0) 8 := congrArg v_iv f8
  have kz_0_8 := fdq_34 hD hth r0
  have hrf0 : 1 ≤ v_iv (n_v vs 21) ∧ v_iv (n_v vs 21) ≤ 24 := vc_Mo_met_at_g4_11_r0 (v_iv (n_v vs 8)) (v_iv (n_v vs 12)) (v_iv (n_v vs 18)) (v_iv (n_v vs 19)) (v_iv (n_v vs 21)) (w_ei ws (w_ar ws (n_v vs 0) 2)) (w_fi ws (n_v vs 0) 5) (w_fi ws (n_v vs 0) 8) k8 k12 k18 k19 k21 d0 h1 g2 g8 (shm_126 f14) (shm_127 f15) kz_0_8
  have rf21 : tv_ok ta (0, 1, 24, []) (n_v vs 21) := tv_in t21 (by first | omega | grind) (by first | omega | grind)
  refine ⟨List.forall_mem_cons.mpr ⟨rf21, (fun _ h => (by cases h))⟩, [], trivial, ?_, (fun _ h => (by cases h))⟩
  rw [List.append_nil]
  exact (fun _ h => (by cases h))
set_option maxHeartbeats 4000000 in
theorem vc_Mo_met_at_g4_12_r0 (x4 : Int) (x9 : Int) (x18 : Int) (x21 : Int) (x25 : Int) (x26 : Int) (x27 : Int) (fault_0 : Int) (from_0 : Int) (pos_0 : Int) (r_0 : Int) (kind_0 : Int) (tape_0 : Int → Int) (limit_0 : Int) (all_1 : Int → Int) (r_1 : Int) (tape_1 : Int → Int) (pos_1 : Int) (limit_1 : Int) (from_1 : Int) (kind_1 : Int) (now_1 : Int → Int) (latest_1 : Int → Int) (place_1 : Int) (value_1 : Int) (fault_1 : Int) (place_0 : Int) (value_0 : Int) (all_0 : Int → Int) (now_0 : Int → Int) (latest_0 : Int → Int) (k4 : 0 ≤ x4 ∧ x4 ≤ 2000) (k9 : 1 ≤ x9 ∧ x9 ≤ 1) (k18 : 0 ≤ x18 ∧ x18 ≤ 66297) (k21 : 1 ≤ x21 ∧ x21 ≤ 24) (k25 : 0 ≤ x25 ∧ x25 ≤ 2000) (k26 : 0 ≤ x26 ∧ x26 ≤ 2000) (k27 : (-2000) ≤ x27 ∧ x27 ≤ 2000) (f1 : x27 = x25 - x26) (g2 : x26 = from_0) (g3 : x25 = pos_0) (f8 : 1 * from_0 + ((-1) * pos_0 + 0) ≤ 0) (f35 : ((kind_1 = 1) → (pos_1 ≤ (from_1 + 8))) ∧ ((kind_1 = 0) ∨ ((from_1 + 1) ≤ pos_1))) (f37 : (kind_1 = 0) ∨ ((x4 + 1) ≤ pos_1)) (f43 : (x9 = 1) → (kind_1 = 1)) (fe_0_5_1 : r_0 = r_1) (fe_0_8_1 : fault_0 = fault_1) (fe_0_10_1 : limit_0 = limit_1) (fe_0_11_1 : pos_0 = pos_1) (fe_0_12_1 : kind_0 = kind_1) (fe_0_13_1 : place_0 = place_1) (fe_0_14_1 : value_0 = value_1) (fe_0_15_1 : from_0 = from_1) (hE_0_1_1 : ∀ j : Int, tape_0 j = tape_1 j) (hE_0_2_1 : ∀ j : Int, 0 ≤ j → (j = x18 → all_0 j = x21) ∧ (j ≠ x18 → all_0 j = all_1 j)) (hE_0_3_1 : ∀ j : Int, now_0 j = now_1 j) (hE_0_4_1 : ∀ j : Int, latest_0 j = latest_1 j) (kz_0_8 : 0 ≤ fault_0 ∧ fault_0 ≤ 5) (kz_0_10 : 0 ≤ limit_0 ∧ limit_0 ≤ 2000) (kz_0_11 : 0 ≤ pos_0 ∧ pos_0 ≤ 2000) (kz_0_12 : 0 ≤ kind_0 ∧ kind_0 ≤ 4) (kz_0_13 : 0 ≤ place_0 ∧ place_0 ≤ 2000) (kz_0_14 : (-49) ≤ value_0 ∧ value_0 ≤ 1048575) (kz_0_15 : 0 ≤ from_0 ∧ from_0 ≤ 2000) : 0 ≤ x27 ∧ x27 ≤ 8 := by
  subst fe_0_5_1
  subst fe_0_8_1
  subst fe_0_10_1
  subst fe_0_11_1
  subst fe_0_12_1
  subst fe_0_13_1
  subst fe_0_14_1
  subst fe_0_15_1
  have e_hE_0_1_1 := funext hE_0_1_1; subst e_hE_0_1_1
  have e_hE_0_3_1 := funext hE_0_3_1; subst e_hE_0_3_1
  have e_hE_0_4_1 := funext hE_0_4_1; subst e_hE_0_4_1
  first
    | omega
    | (have q1 := (hE_0_2_1 (r_0 + 2) (by omega)).2 (by omega)
       have q2 := (hE_0_2_2 (r_0 + 2) (by omega)).2 (by omega)
       omega)
    | (have q1 := (hE_0_2_1 (r_0 + 1) (by omega)).2 (by omega)
       have q2 := (hE_0_2_2 (r_0 + 1) (by omega)).2 (by omega)
       omega)
    | (have q1 := (hE_0_2_1 (r_0 + 2) (by omega)).2 (by omega)
       omega)
    | (have q1 := (hE_0_2_1 (r_0 + 1) (by omega)).2 (by omega)
       omega)
    | (have q1 := (hE_0_2_1 (r_0 + 2) (by omega)).2 (by omega)
       have q2 := (hE_0_2_2 (r_0 + 2) (by omega)).2 (by omega)
       have q3 := (hE_0_2_3 (r_0 + 2) (by omega)).1 (by omega)
       omega)
    | (have q1 := (hE_0_2_1 (r_0 + 2) (by omega)).2 (by omega)
       have q2 := (hE_0_2_2 (r_0 + 2) (by omega)).2 (by omega)
       have q3 := (hE_0_2_3 (r_0 + 2) (by omega)).2 (by omega)
       omega)
def o_Mo_met_at_g4_12 : or_T := (167, 28, [(0, (2, 0, 0, [165])), (1, (0, 0, 7, [])), (2, (0, 0, 23, [])), (3, (0, 0, 2000, [])), (4, (0, 0, 2000, [])), (5, (0, 0, 4, [])), (6, (0, 0, 48, [])), (7, (0, 0, 1, [])), (8, (0, 0, 0, [])), (9, (0, 1, 1, [])), (10, (0, -1, -1, [])), (12, (0, 0, 23, [])), (13, (0, 24, 24, [])), (14, (0, 0, 47, [])), (15, (0, 48, 48, [])), (16, (0, 0, 23, [])), (17, (2, 0, 0, [167])), (18, (0, 0, 66297, [])), (19, (0, 0, 24, [])), (20, (0, 1, 1, [])), (21, (0, 1, 24, [])), (22, (0, 195, 195, [])), (23, (0, 195, 66492, [])), (24, (0, 195, 66515, [])), (25, (0, 0, 2000, [])), (26, (0, 0, 2000, [])), (27, (0, -2000, 2000, []))], [(9, [8, 0], [8]), (2, [27, 25, 26], []), (9, [26, 0], [15]), (9, [25, 0], [11]), (1, [24, 23, 16], []), (1, [23, 18, 22], []), (9, [18, 0], [5]), (9, [17, 0], [2]), (20, [0, 0], [30, 0, 1, 1, 15, -1, 1, 11]), (20, [0], [50, 3, 0, 12, 11, 15, 2, 21, 4, 7, 1, 3, 2, 0, 12, 0, 1, 0, 3, 2, 0, 11, 4, 3, 2, 0, 15, 0, 8, 3, 7, 1, 3, 2, 0, 12, 0, 0, 0, 7, 4, 3, 2, 0, 15, 0, 1, 2, 0, 11]), (20, [3, 0], [30, 0, 1, 0, 0, -1, 1, 11]), (20, [0, 4], [50, 2, 0, 12, 11, 3, 7, 1, 3, 2, 0, 12, 0, 0, 0, 6, 4, 2, 1, 1, 0, 1, 2, 0, 11]), (20, [2], [50, 0, 0, 0, 2, 0, 0, 1, 0]), (20, [9, 0], [50, 1, 0, 1012, 4, 6, 1, 2, 1, 0, 0, 1, 1, 3, 2, 1, 12, 0, 1]), (20, [0, 9], [60, 4, 1, 962, 12, 11, 10, 15, 1]), (100, [17, 18, 21], []), (1, [21, 19, 20], []), (10, [19, 17, 18], []), (20, [16, 0], [30, 0, 1, 0, 0, -1, 3, 2005000]), (20, [16, 0], [30, 0, -1, 0, 0, 1, 3, 2005000]), (8, [10], [2]), (8, [8], [5]), (7, [14, 15], [1]), (20, [14, 0], [30, 0, 1, 0, 0, -1, 3, 2005001]), (20, [14, 0], [30, 0, -1, 0, 0, 1, 3, 2005001]), (8, [2], [3]), (7, [12, 13], [1]), (20, [12, 0], [30, 0, 1, 0, 0, -1, 3, 2005000]), (20, [12, 0], [30, 0, -1, 0, 0, 1, 3, 2005000]), (8, [10], [2]), (8, [10], [2]), (20, [0, 10], [60, 1, 1, 207, 5, 2]), (20, [0, 10], [60, 4, 2, 1031, 11, 10, 15, 5, 2, 1]), (8, [9], [1]), (20, [0, 0], [30, 0, 1, 1, 15, -1, 1, 11]), (20, [0], [50, 3, 0, 12, 11, 15, 2, 21, 4, 7, 1, 3, 2, 0, 12, 0, 1, 0, 3, 2, 0, 11, 4, 3, 2, 0, 15, 0, 8, 3, 7, 1, 3, 2, 0, 12, 0, 0, 0, 7, 4, 3, 2, 0, 15, 0, 1, 2, 0, 11]), (20, [3, 0], [30, 0, 1, 0, 0, -1, 1, 11]), (20, [0, 4], [50, 2, 0, 12, 11, 3, 7, 1, 3, 2, 0, 12, 0, 0, 0, 6, 4, 2, 1, 1, 0, 1, 2, 0, 11]), (20, [1, 0], [50, 1, 1, 1005, 1002, 0, 6, 4, 2, 1, 0, 0, 1, 3, 1, 2, 4, 3, 2, 1, 5, 0, 2]), (20, [0], [60, 1, 3, 199, 5, 2, 3, 4]), (20, [0, 2], [60, 1, 1, 241, 5, 2]), (20, [0, 2, 6, 7, 1, 5], [60, 8, 2, 993, 10, 11, 12, 13, 14, 15, 8, 5, 1, 2]), (20, [2], [50, 0, 0, 0, 2, 0, 0, 1, 0]), (20, [9, 0], [50, 1, 0, 1012, 4, 6, 1, 2, 1, 0, 0, 1, 1, 3, 2, 1, 12, 0, 1]), (20, [0, 9], [60, 4, 1, 962, 12, 11, 10, 15, 1]), (102, [8], [0]), (8, [8], [5])], [(27, (0, 0, 8, []))], [], [], [], [(27, 25, -2000, 0), (24, 16, 195, 66492), (24, 23, 0, 23), (24, 18, 195, 218), (23, 18, 195, 195), (21, 19, 1, 1)])
theorem oo_Mo_met_at_g4_12 {kA : Nat → ClassId} : or_ok PRD kA GG o_Mo_met_at_g4_12 := by
  refine or_mk fun A ta ws vs hD hth hl => ?_
  intro t0 r0 t1 k1 t2 k2 t3 k3 t4 k4 t5 k5 t6 k6 t7 k7 t8 k8 t9 k9 t10 k10 t12 k12 t13 k13 t14 k14 t15 k15 t16 k16 t17 r17 t18 k18 t19 k19 t20 k20 t21 k21 t22 k22 t23 k23 t24 k24 t25 k25 t26 k26 t27 k27 d0 d1 d2 d3 d4 d5 f0 f1 f2 f3 f4 f5 f6 f7 f8 f9 f10 f11 f12 f13 f14 ta1 w1 le1 s1 f16 f17 f18 f19 f20 f21 f22 f23 f24 f25 f26 f27 f28 f29 f30 f31 f32 f33 f34 f35 f36 f37 f38 f39 f40 f41 f42 f43 f44 ta2 w2 le2 s2 f46
  replace f0 := shm_293 f0
  replace f1 := shm_14 f1
  replace f2 := shm_177 f2
  replace f3 := shm_116 f3
  replace f4 := shm_12 f4
  replace f5 := shm_12 f5
  replace f6 := shm_110 f6
  replace f7 := shm_120 f7
  replace f8 := shm_1437 f8
  replace f9 := shm_1438 f9
  replace f10 := shm_1431 f10
  replace f11 := shm_2111 f11
  replace f12 := shm_722 f12
  replace f13 := shm_1856 f13
  replace f14 := shm_1889 f14
  have s1 : (∀ b j, w_el ws b j = if b = v_ad (n_v vs 17) ∧ j = (v_iv (n_v vs 18)).toNat then v_iv (n_v vs 21) else w_el w1 b j) ∧ ∀ b k, w_fd ws b k = w_fd w1 b k := s1.2
  replace f16 := shm_12 f16
  replace f17 := shm_107 f17
  replace f18 := shm_126 f18
  replace f19 := shm_127 f19
  replace f20 := shm_39 f20
  replace f21 := shm_295 f21
  replace f22 := shm_40 f22
  replace f23 := shm_121 f23
  replace f24 := shm_122 f24
  replace f25 := shm_32 f25
  replace f26 := shm_40 f26
  replace f27 := shm_126 f27
  replace f28 := shm_127 f28
  replace f29 := shm_39 f29
  replace f30 := shm_39 f30
  replace f31 := shm_1232 f31
  replace f32 := shm_1233 f32
  replace f33 := shm_142 f33
  replace f34 := shm_1437 f34
  replace f35 := shm_1438 f35
  replace f36 := shm_1431 f36
  replace f37 := shm_2111 f37
  replace f38 := shm_1009 f38
  replace f39 := shm_980 f39
  replace f40 := shm_2112 f40
  replace f41 := shm_2126 f41
  replace f42 := shm_722 f42
  replace f43 := shm_1856 f43
  replace f44 := shm_1889 f44
  replace f46 := shm_295 f46
  have ar_0_1_1 : w_ar w1 (n_v vs 0) 1 = w_ar ws (n_v vs 0) 1 := congrArg v_ad (s1.2 _ _).symm
  have cr_0_1 := fdq_39 hD hth r0
  have ar_0_2_1 : w_ar w1 (n_v vs 0) 2 = w_ar ws (n_v vs 0) 2 := congrArg v_ad (s1.2 _ _).symm
  have cr_0_2 := fdq_10 hD hth r0
  have ar_0_3_1 : w_ar w1 (n_v vs 0) 3 = w_ar ws (n_v vs 0) 3 := congrArg v_ad (s1.2 _ _).symm
  have cr_0_3 := fdq_142 hD hth r0
  have ar_0_4_1 : w_ar w1 (n_v vs 0) 4 = w_ar ws (n_v vs 0) 4 := congrArg v_ad (s1.2 _ _).symm
  have cr_0_4 := fdq_143 hD hth r0
  have fi_0_5_1 : w_fi w1 (n_v vs 0) 5 = w_fi ws (n_v vs 0) 5 := by show v_iv (w_fd w1 _ _) = v_iv (w_fd ws _ _); rw [s1.2]
  have ad_17 : v_ad (n_v vs 17) = w_ar ws (n_v vs 0) 2 := congrArg v_ad f7
  have g0 : v_iv (n_v vs 8) = w_fi ws (n_v vs 0) 8 := congrArg v_iv f0
  have g2 : v_iv (n_v vs 26) = w_fi ws (n_v vs 0) 15 := congrArg v_iv f2
  have g3 : v_iv (n_v vs 25) = w_fi ws (n_v vs 0) 11 := congrArg v_iv f3
  have g6 : v_iv (n_v vs 18) = w_fi ws (n_v vs 0) 5 := congrArg v_iv f6
  simp only [ad_17] at f17
  have h17 : v_iv (n_v vs 19) = w_ei w1 (w_ar ws (n_v vs 0) 2) (v_iv (n_v vs 18)) := f17
  simp only [ar_0_2_1, ar_0_1_1, ar_0_3_1, ar_0_4_1] at f18 f19 f23 f24 f27 f28 f31 f32 f38 f39 f40 f41 f44
  simp only [fi_0_5_1] at f18 f19 f23 f24 f27 f28
  have fe_0_5_1 : w_fi ws (n_v vs 0) 5 = w_fi w1 (n_v vs 0) 5 := congrArg v_iv (s1.2 _ _)
  have fe_0_8_1 : w_fi ws (n_v vs 0) 8 = w_fi w1 (n_v vs 0) 8 := congrArg v_iv (s1.2 _ _)
  have fe_0_10_1 : w_fi ws (n_v vs 0) 10 = w_fi w1 (n_v vs 0) 10 := congrArg v_iv (s1.2 _ _)
  have fe_0_11_1 : w_fi ws (n_v vs 0) 11 = w_fi w1 (n_v vs 0) 11 := congrArg v_iv (s1.2 _ _)
  have fe_0_12_1 : w_fi ws (n_v vs 0) 12 = w_fi w1 (n_v vs 0) 12 := congrArg v_iv (s1.2 _ _)
  have fe_0_13_1 : w_fi ws (n_v vs 0) 13 = w_fi w1 (n_v vs 0) 13 := congrArg v_iv (s1.2 _ _)
  have fe_0_14_1 : w_fi ws (n_v vs 0) 14 = w_fi w1 (n_v vs 0) 14 := congrArg v_iv (s1.2 _ _)
  have fe_0_15_1 : w_fi ws (n_v vs 0) 15 = w_fi w1 (n_v vs 0) 15 := congrArg v_iv (s1.2 _ _)
  have hE_0_1_1 : ∀ j : Int, w_ei ws (w_ar ws (n_v vs 0) 1) j = w_ei w1 (w_ar ws (n_v vs 0) 1) j := el_kp s1.1 r17 cr_0_1 (by decide)
  have hK_0_1 := elq_7 hD hth cr_0_1
  have hE_0_2_1 : ∀ j : Int, 0 ≤ j → (j = v_iv (n_v vs 18) → w_ei ws (w_ar ws (n_v vs 0) 2) j = v_iv (n_v vs 21)) ∧ (j ≠ v_iv (n_v vs 18) → w_ei ws (w_ar ws (n_v vs 0) 2) j = w_ei w1 (w_ar ws (n_v vs 0) 2) j) := fun j hj => ⟨fun h => by unfold w_ei; rw [s1.1, if_pos ⟨ad_17.symm, by rw [h]⟩], fun h => by unfold w_ei; rw [s1.1, if_neg (fun e => h (by have := e.2; omega))]⟩
  have hE_0_3_1 : ∀ j : Int, w_ei ws (w_ar ws (n_v vs 0) 3) j = w_ei w1 (w_ar ws (n_v vs 0) 3) j := el_kp s1.1 r17 cr_0_3 (by decide)
  have hK_0_3 := elq_80 hD hth cr_0_3
  have hE_0_4_1 : ∀ j : Int, w_ei ws (w_ar ws (n_v vs 0) 4) j = w_ei w1 (w_ar ws (n_v vs 0) 4) j := el_kp s1.1 r17 cr_0_4 (by decide)
  have hK_0_4 := elq_81 hD hth cr_0_4
  have kz_0_8 := fdq_34 hD hth r0
  have kz_0_10 := fdq_43 hD hth r0
  have kz_0_11 := fdq_237 hD hth r0
  have kz_0_12 := fdq_187 hD hth r0
  have kz_0_13 := fdq_238 hD hth r0
  have kz_0_14 := fdq_188 hD hth r0
  have kz_0_15 := fdq_239 hD hth r0
  first | have hJ0 : w_ei w1 (w_ar ws (n_v vs 0) 2) ((w_fi w1 (n_v vs 0) 5 + 2)) = w_ei w1 (w_ar ws (n_v vs 0) 2) ((w_fi ws (n_v vs 0) 5 + 2)) := congrArg _ (show ((w_fi w1 (n_v vs 0) 5 + 2) : Int) = (w_fi ws (n_v vs 0) 5 + 2) from by omega) | skip
  first | have hI1 := (hE_0_2_1 ((w_fi ws (n_v vs 0) 5 + 2)) (by omega)).2 (by omega) | have hI1 := (hE_0_2_1 ((w_fi ws (n_v vs 0) 5 + 2)) (by omega)).1 (by omega) | skip
  have hrf0 : 0 ≤ v_iv (n_v vs 27) ∧ v_iv (n_v vs 27) ≤ 8 := vc_Mo_met_at_g4_12_r0 (v_iv (n_v vs 4)) (v_iv (n_v vs 9)) (v_iv (n_v vs 18)) (v_iv (n_v vs 21)) (v_iv (n_v vs 25)) (v_iv (n_v vs 26)) (v_iv (n_v vs 27)) (w_fi ws (n_v vs 0) 8) (w_fi ws (n_v vs 0) 15) (w_fi ws (n_v vs 0) 11) (w_fi ws (n_v vs 0) 5) (w_fi ws (n_v vs 0) 12) (w_ei ws (w_ar ws (n_v vs 0) 1)) (w_fi ws (n_v vs 0) 10) (w_ei w1 (w_ar ws (n_v vs 0) 2)) (w_fi w1 (n_v vs 0) 5) (w_ei w1 (w_ar ws (n_v vs 0) 1)) (w_fi w1 (n_v vs 0) 11) (w_fi w1 (n_v vs 0) 10) (w_fi w1 (n_v vs 0) 15) (w_fi w1 (n_v vs 0) 12) (w_ei w1 (w_ar ws (n_v vs 0) 3)) (w_ei w1 (w_ar ws (n_v vs 0) 4)) (w_fi w1 (n_v vs 0) 13) (w_fi w1 (n_v vs 0) 14) (w_fi w1 (n_v vs 0) 8) (w_fi ws (n_v vs 0) 13) (w_fi ws (n_v vs 0) 14) (w_ei ws (w_ar ws (n_v vs 0) 2)) (w_ei ws (w_ar ws (n_v vs 0) 3)) (w_ei ws (w_ar ws (n_v vs 0) 4)) k4 k9 k18 k21 k25 k26 k27 f1 g2 g3 f8 f35 f37 f43 fe_0_5_1 fe_0_8_1 fe_0_10_1 fe_0_11_1 fe_0_12_1 fe_0_13_1 fe_0_14_1 fe_0_15_1 hE_0_1_1 hE_0_2_1 hE_0_3_1 hE_0_4_1 kz_0_8 kz_0_10 kz_0_11 kz_0_12 kz_0_13 kz_0_14 kz_0_15
  have rf27 : tv_ok ta (0, 0, 8, []) (n_v vs 27) := tv_in t27 (by first | omega | grind) (by first | omega | grind)
  refine ⟨List.forall_mem_cons.mpr ⟨rf27, (fun _ h => (by cases h))⟩, [], trivial, ?_, (fun _ h => (by cases h))⟩
  rw [List.append_nil]
  exact (fun _ h => (by cases h))
set_option maxHeartbeats 4000000 in
theorem vc_Mo_met_at_g4_13_0 (x4 : Int) (x9 : Int) (x18 : Int) (x21 : Int) (x24 : Int) (x27 : Int) (from_0 : Int) (pos_0 : Int) (r_0 : Int) (fault_0 : Int) (kind_0 : Int) (tape_0 : Int → Int) (limit_0 : Int) (from_1 : Int) (pos_1 : Int) (kind_1 : Int) (tape_1 : Int → Int) (limit_1 : Int) (all_2 : Int → Int) (r_2 : Int) (tape_2 : Int → Int) (pos_2 : Int) (limit_2 : Int) (from_2 : Int) (kind_2 : Int) (now_2 : Int → Int) (latest_2 : Int → Int) (place_2 : Int) (value_2 : Int) (fault_2 : Int) (r_1 : Int) (fault_1 : Int) (place_0 : Int) (place_1 : Int) (value_0 : Int) (value_1 : Int) (all_0 : Int → Int) (all_1 : Int → Int) (now_0 : Int → Int) (now_1 : Int → Int) (latest_0 : Int → Int) (latest_1 : Int → Int) (k4 : 0 ≤ x4 ∧ x4 ≤ 2000) (k9 : 1 ≤ x9 ∧ x9 ≤ 1) (k18 : 0 ≤ x18 ∧ x18 ≤ 66297) (k21 : 1 ≤ x21 ∧ x21 ≤ 24) (k24 : 195 ≤ x24 ∧ x24 ≤ 66515) (k27 : 0 ≤ x27 ∧ x27 ≤ 8) (f43 : ((kind_2 = 1) → (pos_2 ≤ (from_2 + 8))) ∧ ((kind_2 = 0) ∨ ((from_2 + 1) ≤ pos_2))) (f45 : (kind_2 = 0) ∨ ((x4 + 1) ≤ pos_2)) (f51 : (x9 = 1) → (kind_2 = 1)) (fe_0_5_1 : r_0 = r_1) (fe_0_8_1 : fault_0 = fault_1) (fe_0_10_1 : limit_0 = limit_1) (fe_0_11_1 : pos_0 = pos_1) (fe_0_12_1 : kind_0 = kind_1) (fe_0_13_1 : place_0 = place_1) (fe_0_14_1 : value_0 = value_1) (fe_0_15_1 : from_0 = from_1) (fe_0_5_2 : r_1 = r_2) (fe_0_8_2 : fault_1 = fault_2) (fe_0_10_2 : limit_1 = limit_2) (fe_0_11_2 : pos_1 = pos_2) (fe_0_12_2 : kind_1 = kind_2) (fe_0_13_2 : place_1 = place_2) (fe_0_14_2 : value_1 = value_2) (fe_0_15_2 : from_1 = from_2) (hE_0_1_1 : ∀ j : Int, tape_0 j = tape_1 j) (hE_0_1_2 : ∀ j : Int, tape_1 j = tape_2 j) (hE_0_2_1 : ∀ j : Int, 0 ≤ j → (j = x24 → all_0 j = x27) ∧ (j ≠ x24 → all_0 j = all_1 j)) (hE_0_2_2 : ∀ j : Int, 0 ≤ j → (j = x18 → all_1 j = x21) ∧ (j ≠ x18 → all_1 j = all_2 j)) (hE_0_3_1 : ∀ j : Int, now_0 j = now_1 j) (hE_0_3_2 : ∀ j : Int, now_1 j = now_2 j) (hE_0_4_1 : ∀ j : Int, latest_0 j = latest_1 j) (hE_0_4_2 : ∀ j : Int, latest_1 j = latest_2 j) (kz_0_8 : 0 ≤ fault_0 ∧ fault_0 ≤ 5) (kz_0_10 : 0 ≤ limit_0 ∧ limit_0 ≤ 2000) (kz_0_11 : 0 ≤ pos_0 ∧ pos_0 ≤ 2000) (kz_0_12 : 0 ≤ kind_0 ∧ kind_0 ≤ 4) (kz_0_13 : 0 ≤ place_0 ∧ place_0 ≤ 2000) (kz_0_14 : (-49) ≤ value_0 ∧ value_0 ≤ 1048575) (kz_0_15 : 0 ≤ from_0 ∧ from_0 ≤ 2000) : 1 * x4 + ((-1) * pos_0 + 0) ≤ (-1) := by
  subst fe_0_5_1
  subst fe_0_8_1
  subst fe_0_10_1
  subst fe_0_11_1
  subst fe_0_12_1
  subst fe_0_13_1
  subst fe_0_14_1
  subst fe_0_15_1
  subst fe_0_5_2
  subst fe_0_8_2
  subst fe_0_10_2
  subst fe_0_11_2
  subst fe_0_12_2
  subst fe_0_13_2
  subst fe_0_14_2
  subst fe_0_15_2
  have e_hE_0_1_1 := funext hE_0_1_1; subst e_hE_0_1_1
  have e_hE_0_1_2 := funext hE_0_1_2; subst e_hE_0_1_2
  have e_hE_0_3_1 := funext hE_0_3_1; subst e_hE_0_3_1
  have e_hE_0_3_2 := funext hE_0_3_2; subst e_hE_0_3_2
  have e_hE_0_4_1 := funext hE_0_4_1; subst e_hE_0_4_1
  have e_hE_0_4_2 := funext hE_0_4_2; subst e_hE_0_4_2
  first
    | omega
    | (have q1 := (hE_0_2_1 (r_0 + 2) (by omega)).2 (by omega)
       have q2 := (hE_0_2_2 (r_0 + 2) (by omega)).2 (by omega)
       omega)
    | (have q1 := (hE_0_2_1 (r_0 + 1) (by omega)).2 (by omega)
       have q2 := (hE_0_2_2 (r_0 + 1) (by omega)).2 (by omega)
       omega)
    | (have q1 := (hE_0_2_1 (r_0 + 2) (by omega)).2 (by omega)
       omega)
    | (have q1 := (hE_0_2_1 (r_0 + 1) (by omega)).2 (by omega)
       omega)
    | (have q1 := (hE_0_2_1 (r_0 + 2) (by omega)).2 (by omega)
       have q2 := (hE_0_2_2 (r_0 + 2) (by omega)).2 (by omega)
       have q3 := (hE_0_2_3 (r_0 + 2) (by omega)).1 (by omega)
       omega)
    | (have q1 := (hE_0_2_1 (r_0 + 2) (by omega)).2 (by omega)
       have q2 := (hE_0_2_2 (r_0 + 2) (by omega)).2 (by omega)
       have q3 := (hE_0_2_3 (r_0 + 2) (by omega)).2 (by omega)
       omega)
set_option maxHeartbeats 4000000 in
theorem vc_Mo_met_at_g4_13_1 (x4 : Int) (x9 : Int) (x18 : Int) (x21 : Int) (x24 : Int) (x27 : Int) (from_0 : Int) (pos_0 : Int) (r_0 : Int) (fault_0 : Int) (kind_0 : Int) (tape_0 : Int → Int) (limit_0 : Int) (from_1 : Int) (pos_1 : Int) (kind_1 : Int) (tape_1 : Int → Int) (limit_1 : Int) (all_2 : Int → Int) (r_2 : Int) (tape_2 : Int → Int) (pos_2 : Int) (limit_2 : Int) (from_2 : Int) (kind_2 : Int) (now_2 : Int → Int) (latest_2 : Int → Int) (place_2 : Int) (value_2 : Int) (fault_2 : Int) (r_1 : Int) (fault_1 : Int) (place_0 : Int) (place_1 : Int) (value_0 : Int) (value_1 : Int) (all_0 : Int → Int) (all_1 : Int → Int) (now_0 : Int → Int) (now_1 : Int → Int) (latest_0 : Int → Int) (latest_1 : Int → Int) (k4 : 0 ≤ x4 ∧ x4 ≤ 2000) (k9 : 1 ≤ x9 ∧ x9 ≤ 1) (k18 : 0 ≤ x18 ∧ x18 ≤ 66297) (k21 : 1 ≤ x21 ∧ x21 ≤ 24) (k24 : 195 ≤ x24 ∧ x24 ≤ 66515) (k27 : 0 ≤ x27 ∧ x27 ≤ 8) (f43 : ((kind_2 = 1) → (pos_2 ≤ (from_2 + 8))) ∧ ((kind_2 = 0) ∨ ((from_2 + 1) ≤ pos_2))) (f45 : (kind_2 = 0) ∨ ((x4 + 1) ≤ pos_2)) (f51 : (x9 = 1) → (kind_2 = 1)) (fe_0_5_1 : r_0 = r_1) (fe_0_8_1 : fault_0 = fault_1) (fe_0_10_1 : limit_0 = limit_1) (fe_0_11_1 : pos_0 = pos_1) (fe_0_12_1 : kind_0 = kind_1) (fe_0_13_1 : place_0 = place_1) (fe_0_14_1 : value_0 = value_1) (fe_0_15_1 : from_0 = from_1) (fe_0_5_2 : r_1 = r_2) (fe_0_8_2 : fault_1 = fault_2) (fe_0_10_2 : limit_1 = limit_2) (fe_0_11_2 : pos_1 = pos_2) (fe_0_12_2 : kind_1 = kind_2) (fe_0_13_2 : place_1 = place_2) (fe_0_14_2 : value_1 = value_2) (fe_0_15_2 : from_1 = from_2) (hE_0_1_1 : ∀ j : Int, tape_0 j = tape_1 j) (hE_0_1_2 : ∀ j : Int, tape_1 j = tape_2 j) (hE_0_2_1 : ∀ j : Int, 0 ≤ j → (j = x24 → all_0 j = x27) ∧ (j ≠ x24 → all_0 j = all_1 j)) (hE_0_2_2 : ∀ j : Int, 0 ≤ j → (j = x18 → all_1 j = x21) ∧ (j ≠ x18 → all_1 j = all_2 j)) (hE_0_3_1 : ∀ j : Int, now_0 j = now_1 j) (hE_0_3_2 : ∀ j : Int, now_1 j = now_2 j) (hE_0_4_1 : ∀ j : Int, latest_0 j = latest_1 j) (hE_0_4_2 : ∀ j : Int, latest_1 j = latest_2 j) (kz_0_8 : 0 ≤ fault_0 ∧ fault_0 ≤ 5) (kz_0_10 : 0 ≤ limit_0 ∧ limit_0 ≤ 2000) (kz_0_11 : 0 ≤ pos_0 ∧ pos_0 ≤ 2000) (kz_0_12 : 0 ≤ kind_0 ∧ kind_0 ≤ 4) (kz_0_13 : 0 ≤ place_0 ∧ place_0 ≤ 2000) (kz_0_14 : (-49) ≤ value_0 ∧ value_0 ≤ 1048575) (kz_0_15 : 0 ≤ from_0 ∧ from_0 ≤ 2000) : kind_0 = 1 := by
  subst fe_0_5_1
  subst fe_0_8_1
  subst fe_0_10_1
  subst fe_0_11_1
  subst fe_0_12_1
  subst fe_0_13_1
  subst fe_0_14_1
  subst fe_0_15_1
  subst fe_0_5_2
  subst fe_0_8_2
  subst fe_0_10_2
  subst fe_0_11_2
  subst fe_0_12_2
  subst fe_0_13_2
  subst fe_0_14_2
  subst fe_0_15_2
  have e_hE_0_1_1 := funext hE_0_1_1; subst e_hE_0_1_1
  have e_hE_0_1_2 := funext hE_0_1_2; subst e_hE_0_1_2
  have e_hE_0_3_1 := funext hE_0_3_1; subst e_hE_0_3_1
  have e_hE_0_3_2 := funext hE_0_3_2; subst e_hE_0_3_2
  have e_hE_0_4_1 := funext hE_0_4_1; subst e_hE_0_4_1
  have e_hE_0_4_2 := funext hE_0_4_2; subst e_hE_0_4_2
  first
    | omega
    | (have q1 := (hE_0_2_1 (r_0 + 2) (by omega)).2 (by omega)
       have q2 := (hE_0_2_2 (r_0 + 2) (by omega)).2 (by omega)
       omega)
    | (have q1 := (hE_0_2_1 (r_0 + 1) (by omega)).2 (by omega)
       have q2 := (hE_0_2_2 (r_0 + 1) (by omega)).2 (by omega)
       omega)
    | (have q1 := (hE_0_2_1 (r_0 + 2) (by omega)).2 (by omega)
       omega)
    | (have q1 := (hE_0_2_1 (r_0 + 1) (by omega)).2 (by omega)
       omega)
    | (have q1 := (hE_0_2_1 (r_0 + 2) (by omega)).2 (by omega)
       have q2 := (hE_0_2_2 (r_0 + 2) (by omega)).2 (by omega)
       have q3 := (hE_0_2_3 (r_0 + 2) (by omega)).1 (by omega)
       omega)
    | (have q1 := (hE_0_2_1 (r_0 + 2) (by omega)).2 (by omega)
       have q2 := (hE_0_2_2 (r_0 + 2) (by omega)).2 (by omega)
       have q3 := (hE_0_2_3 (r_0 + 2) (by omega)).2 (by omega)
       omega)
set_option maxHeartbeats 4000000 in
theorem vc_Mo_met_at_g4_13_2 (x2 : Int) (x12 : Int) (x14 : Int) (x16 : Int) (x18 : Int) (x21 : Int) (x23 : Int) (x24 : Int) (x27 : Int) (from_0 : Int) (pos_0 : Int) (r_0 : Int) (fault_0 : Int) (kind_0 : Int) (tape_0 : Int → Int) (limit_0 : Int) (from_1 : Int) (pos_1 : Int) (kind_1 : Int) (tape_1 : Int → Int) (limit_1 : Int) (all_2 : Int → Int) (r_2 : Int) (tape_2 : Int → Int) (pos_2 : Int) (limit_2 : Int) (from_2 : Int) (kind_2 : Int) (now_2 : Int → Int) (latest_2 : Int → Int) (place_2 : Int) (value_2 : Int) (fault_2 : Int) (r_1 : Int) (fault_1 : Int) (place_0 : Int) (place_1 : Int) (value_0 : Int) (value_1 : Int) (all_0 : Int → Int) (all_1 : Int → Int) (now_0 : Int → Int) (now_1 : Int → Int) (latest_0 : Int → Int) (latest_1 : Int → Int) (k2 : 0 ≤ x2 ∧ x2 ≤ 23) (k12 : 0 ≤ x12 ∧ x12 ≤ 23) (k14 : 0 ≤ x14 ∧ x14 ≤ 47) (k16 : 0 ≤ x16 ∧ x16 ≤ 23) (k18 : 0 ≤ x18 ∧ x18 ≤ 66297) (k21 : 1 ≤ x21 ∧ x21 ≤ 24) (k23 : 195 ≤ x23 ∧ x23 ≤ 66492) (k24 : 195 ≤ x24 ∧ x24 ≤ 66515) (k27 : 0 ≤ x27 ∧ x27 ≤ 8) (d1 : x16 + 195 ≤ x24 ∧ x24 ≤ x16 + 66492) (d4 : x18 + 195 ≤ x23 ∧ x23 ≤ x18 + 195) (g2 : x18 = r_0) (f14 : x24 = x23 + x16) (f26 : 1 * x16 + ((-1) * all_2 (r_0 + 0) + 0) ≤ 0) (f27 : (-1) * x16 + (1 * all_2 (r_0 + 0) + 0) ≤ 0) (f31 : 1 * x14 + ((-1) * all_2 (r_0 + 1) + 0) ≤ 0) (f32 : (-1) * x14 + (1 * all_2 (r_0 + 1) + 0) ≤ 0) (f35 : 1 * x12 + ((-1) * all_2 (r_0 + 0) + 0) ≤ 0) (f36 : (-1) * x12 + (1 * all_2 (r_0 + 0) + 0) ≤ 0) (fe_0_5_1 : r_0 = r_1) (fe_0_8_1 : fault_0 = fault_1) (fe_0_10_1 : limit_0 = limit_1) (fe_0_11_1 : pos_0 = pos_1) (fe_0_12_1 : kind_0 = kind_1) (fe_0_13_1 : place_0 = place_1) (fe_0_14_1 : value_0 = value_1) (fe_0_15_1 : from_0 = from_1) (fe_0_5_2 : r_1 = r_2) (fe_0_8_2 : fault_1 = fault_2) (fe_0_10_2 : limit_1 = limit_2) (fe_0_11_2 : pos_1 = pos_2) (fe_0_12_2 : kind_1 = kind_2) (fe_0_13_2 : place_1 = place_2) (fe_0_14_2 : value_1 = value_2) (fe_0_15_2 : from_1 = from_2) (hE_0_1_1 : ∀ j : Int, tape_0 j = tape_1 j) (hE_0_1_2 : ∀ j : Int, tape_1 j = tape_2 j) (hE_0_2_1 : ∀ j : Int, 0 ≤ j → (j = x24 → all_0 j = x27) ∧ (j ≠ x24 → all_0 j = all_1 j)) (hE_0_2_2 : ∀ j : Int, 0 ≤ j → (j = x18 → all_1 j = x21) ∧ (j ≠ x18 → all_1 j = all_2 j)) (hE_0_3_1 : ∀ j : Int, now_0 j = now_1 j) (hE_0_3_2 : ∀ j : Int, now_1 j = now_2 j) (hE_0_4_1 : ∀ j : Int, latest_0 j = latest_1 j) (hE_0_4_2 : ∀ j : Int, latest_1 j = latest_2 j) (kz_0_8 : 0 ≤ fault_0 ∧ fault_0 ≤ 5) (kz_0_10 : 0 ≤ limit_0 ∧ limit_0 ≤ 2000) (kz_0_11 : 0 ≤ pos_0 ∧ pos_0 ≤ 2000) (kz_0_12 : 0 ≤ kind_0 ∧ kind_0 ≤ 4) (kz_0_13 : 0 ≤ place_0 ∧ place_0 ≤ 2000) (kz_0_14 : (-49) ≤ value_0 ∧ value_0 ≤ 1048575) (kz_0_15 : 0 ≤ from_0 ∧ from_0 ≤ 2000) : (x2 ≤ (-1)) ∨ (all_0 ((r_0 + 1)) ≤ 47) := by
  subst fe_0_5_1
  subst fe_0_8_1
  subst fe_0_10_1
  subst fe_0_11_1
  subst fe_0_12_1
  subst fe_0_13_1
  subst fe_0_14_1
  subst fe_0_15_1
  subst fe_0_5_2
  subst fe_0_8_2
  subst fe_0_10_2
  subst fe_0_11_2
  subst fe_0_12_2
  subst fe_0_13_2
  subst fe_0_14_2
  subst fe_0_15_2
  have e_hE_0_1_1 := funext hE_0_1_1; subst e_hE_0_1_1
  have e_hE_0_1_2 := funext hE_0_1_2; subst e_hE_0_1_2
  have e_hE_0_3_1 := funext hE_0_3_1; subst e_hE_0_3_1
  have e_hE_0_3_2 := funext hE_0_3_2; subst e_hE_0_3_2
  have e_hE_0_4_1 := funext hE_0_4_1; subst e_hE_0_4_1
  have e_hE_0_4_2 := funext hE_0_4_2; subst e_hE_0_4_2
  first
    | omega
    | (have q1 := (hE_0_2_1 (r_0 + 2) (by omega)).2 (by omega)
       have q2 := (hE_0_2_2 (r_0 + 2) (by omega)).2 (by omega)
       omega)
    | (have q1 := (hE_0_2_1 (r_0 + 1) (by omega)).2 (by omega)
       have q2 := (hE_0_2_2 (r_0 + 1) (by omega)).2 (by omega)
       omega)
    | (have q1 := (hE_0_2_1 (r_0 + 2) (by omega)).2 (by omega)
       omega)
    | (have q1 := (hE_0_2_1 (r_0 + 1) (by omega)).2 (by omega)
       omega)
    | (have q1 := (hE_0_2_1 (r_0 + 2) (by omega)).2 (by omega)
       have q2 := (hE_0_2_2 (r_0 + 2) (by omega)).2 (by omega)
       have q3 := (hE_0_2_3 (r_0 + 2) (by omega)).1 (by omega)
       omega)
    | (have q1 := (hE_0_2_1 (r_0 + 2) (by omega)).2 (by omega)
       have q2 := (hE_0_2_2 (r_0 + 2) (by omega)).2 (by omega)
       have q3 := (hE_0_2_3 (r_0 + 2) (by omega)).2 (by omega)
       omega)
set_option maxHeartbeats 4000000 in
theorem vc_Mo_met_at_g4_13_3 (x1 : Int) (x12 : Int) (x16 : Int) (x18 : Int) (x21 : Int) (x23 : Int) (x24 : Int) (x27 : Int) (from_0 : Int) (pos_0 : Int) (r_0 : Int) (fault_0 : Int) (kind_0 : Int) (tape_0 : Int → Int) (limit_0 : Int) (from_1 : Int) (pos_1 : Int) (kind_1 : Int) (tape_1 : Int → Int) (limit_1 : Int) (all_2 : Int → Int) (r_2 : Int) (tape_2 : Int → Int) (pos_2 : Int) (limit_2 : Int) (from_2 : Int) (kind_2 : Int) (now_2 : Int → Int) (latest_2 : Int → Int) (place_2 : Int) (value_2 : Int) (fault_2 : Int) (r_1 : Int) (fault_1 : Int) (place_0 : Int) (place_1 : Int) (value_0 : Int) (value_1 : Int) (all_0 : Int → Int) (all_1 : Int → Int) (now_0 : Int → Int) (now_1 : Int → Int) (latest_0 : Int → Int) (latest_1 : Int → Int) (k1 : 0 ≤ x1 ∧ x1 ≤ 7) (k12 : 0 ≤ x12 ∧ x12 ≤ 23) (k16 : 0 ≤ x16 ∧ x16 ≤ 23) (k18 : 0 ≤ x18 ∧ x18 ≤ 66297) (k21 : 1 ≤ x21 ∧ x21 ≤ 24) (k23 : 195 ≤ x23 ∧ x23 ≤ 66492) (k24 : 195 ≤ x24 ∧ x24 ≤ 66515) (k27 : 0 ≤ x27 ∧ x27 ≤ 8) (d1 : x16 + 195 ≤ x24 ∧ x24 ≤ x16 + 66492) (d4 : x18 + 195 ≤ x23 ∧ x23 ≤ x18 + 195) (g2 : x18 = r_0) (f14 : x24 = x23 + x16) (f26 : 1 * x16 + ((-1) * all_2 (r_0 + 0) + 0) ≤ 0) (f27 : (-1) * x16 + (1 * all_2 (r_0 + 0) + 0) ≤ 0) (f35 : 1 * x12 + ((-1) * all_2 (r_0 + 0) + 0) ≤ 0) (f36 : (-1) * x12 + (1 * all_2 (r_0 + 0) + 0) ≤ 0) (f46 : (x1 + 1) ≤ all_2 ((r_2 + 2))) (fe_0_5_1 : r_0 = r_1) (fe_0_8_1 : fault_0 = fault_1) (fe_0_10_1 : limit_0 = limit_1) (fe_0_11_1 : pos_0 = pos_1) (fe_0_12_1 : kind_0 = kind_1) (fe_0_13_1 : place_0 = place_1) (fe_0_14_1 : value_0 = value_1) (fe_0_15_1 : from_0 = from_1) (fe_0_5_2 : r_1 = r_2) (fe_0_8_2 : fault_1 = fault_2) (fe_0_10_2 : limit_1 = limit_2) (fe_0_11_2 : pos_1 = pos_2) (fe_0_12_2 : kind_1 = kind_2) (fe_0_13_2 : place_1 = place_2) (fe_0_14_2 : value_1 = value_2) (fe_0_15_2 : from_1 = from_2) (hE_0_1_1 : ∀ j : Int, tape_0 j = tape_1 j) (hE_0_1_2 : ∀ j : Int, tape_1 j = tape_2 j) (hE_0_2_1 : ∀ j : Int, 0 ≤ j → (j = x24 → all_0 j = x27) ∧ (j ≠ x24 → all_0 j = all_1 j)) (hE_0_2_2 : ∀ j : Int, 0 ≤ j → (j = x18 → all_1 j = x21) ∧ (j ≠ x18 → all_1 j = all_2 j)) (hE_0_3_1 : ∀ j : Int, now_0 j = now_1 j) (hE_0_3_2 : ∀ j : Int, now_1 j = now_2 j) (hE_0_4_1 : ∀ j : Int, latest_0 j = latest_1 j) (hE_0_4_2 : ∀ j : Int, latest_1 j = latest_2 j) (kz_0_8 : 0 ≤ fault_0 ∧ fault_0 ≤ 5) (kz_0_10 : 0 ≤ limit_0 ∧ limit_0 ≤ 2000) (kz_0_11 : 0 ≤ pos_0 ∧ pos_0 ≤ 2000) (kz_0_12 : 0 ≤ kind_0 ∧ kind_0 ≤ 4) (kz_0_13 : 0 ≤ place_0 ∧ place_0 ≤ 2000) (kz_0_14 : (-49) ≤ value_0 ∧ value_0 ≤ 1048575) (kz_0_15 : 0 ≤ from_0 ∧ from_0 ≤ 2000) : (x1 + 1) ≤ all_0 ((r_0 + 2)) := by
  subst fe_0_5_1
  subst fe_0_8_1
  subst fe_0_10_1
  subst fe_0_11_1
  subst fe_0_12_1
  subst fe_0_13_1
  subst fe_0_14_1
  subst fe_0_15_1
  subst fe_0_5_2
  subst fe_0_8_2
  subst fe_0_10_2
  subst fe_0_11_2
  subst fe_0_12_2
  subst fe_0_13_2
  subst fe_0_14_2
  subst fe_0_15_2
  have e_hE_0_1_1 := funext hE_0_1_1; subst e_hE_0_1_1
  have e_hE_0_1_2 := funext hE_0_1_2; subst e_hE_0_1_2
  have e_hE_0_3_1 := funext hE_0_3_1; subst e_hE_0_3_1
  have e_hE_0_3_2 := funext hE_0_3_2; subst e_hE_0_3_2
  have e_hE_0_4_1 := funext hE_0_4_1; subst e_hE_0_4_1
  have e_hE_0_4_2 := funext hE_0_4_2; subst e_hE_0_4_2
  first
    | omega
    | (have q1 := (hE_0_2_1 (r_0 + 2) (by omega)).2 (by omega)
       have q2 := (hE_0_2_2 (r_0 + 2) (by omega)).2 (by omega)
       omega)
    | (have q1 := (hE_0_2_1 (r_0 + 1) (by omega)).2 (by omega)
       have q2 := (hE_0_2_2 (r_0 + 1) (by omega)).2 (by omega)
       omega)
    | (have q1 := (hE_0_2_1 (r_0 + 2) (by omega)).2 (by omega)
       omega)
    | (have q1 := (hE_0_2_1 (r_0 + 1) (by omega)).2 (by omega)
       omega)
    | (have q1 := (hE_0_2_1 (r_0 + 2) (by omega)).2 (by omega)
       have q2 := (hE_0_2_2 (r_0 + 2) (by omega)).2 (by omega)
       have q3 := (hE_0_2_3 (r_0 + 2) (by omega)).1 (by omega)
       omega)
    | (have q1 := (hE_0_2_1 (r_0 + 2) (by omega)).2 (by omega)
       have q2 := (hE_0_2_2 (r_0 + 2) (by omega)).2 (by omega)
       have q3 := (hE_0_2_3 (r_0 + 2) (by omega)).2 (by omega)
       omega)
set_option maxHeartbeats 4000000 in
theorem vc_Mo_met_at_g4_13_4 (x12 : Int) (x16 : Int) (x18 : Int) (x19 : Int) (x21 : Int) (x23 : Int) (x24 : Int) (x27 : Int) (from_0 : Int) (pos_0 : Int) (r_0 : Int) (fault_0 : Int) (kind_0 : Int) (tape_0 : Int → Int) (limit_0 : Int) (from_1 : Int) (pos_1 : Int) (kind_1 : Int) (tape_1 : Int → Int) (limit_1 : Int) (all_2 : Int → Int) (r_2 : Int) (tape_2 : Int → Int) (pos_2 : Int) (limit_2 : Int) (from_2 : Int) (kind_2 : Int) (now_2 : Int → Int) (latest_2 : Int → Int) (place_2 : Int) (value_2 : Int) (fault_2 : Int) (r_1 : Int) (fault_1 : Int) (place_0 : Int) (place_1 : Int) (value_0 : Int) (value_1 : Int) (all_0 : Int → Int) (all_1 : Int → Int) (now_0 : Int → Int) (now_1 : Int → Int) (latest_0 : Int → Int) (latest_1 : Int → Int) (k12 : 0 ≤ x12 ∧ x12 ≤ 23) (k16 : 0 ≤ x16 ∧ x16 ≤ 23) (k18 : 0 ≤ x18 ∧ x18 ≤ 66297) (k19 : 0 ≤ x19 ∧ x19 ≤ 24) (k21 : 1 ≤ x21 ∧ x21 ≤ 24) (k23 : 195 ≤ x23 ∧ x23 ≤ 66492) (k24 : 195 ≤ x24 ∧ x24 ≤ 66515) (k27 : 0 ≤ x27 ∧ x27 ≤ 8) (d4 : x18 + 195 ≤ x23 ∧ x23 ≤ x18 + 195) (d5 : x19 + 1 ≤ x21 ∧ x21 ≤ x19 + 1) (g2 : x18 = r_0) (f14 : x24 = x23 + x16) (h25 : x19 = all_2 (x18)) (f26 : 1 * x16 + ((-1) * all_2 (r_0 + 0) + 0) ≤ 0) (f27 : (-1) * x16 + (1 * all_2 (r_0 + 0) + 0) ≤ 0) (f35 : 1 * x12 + ((-1) * all_2 (r_0 + 0) + 0) ≤ 0) (f36 : (-1) * x12 + (1 * all_2 (r_0 + 0) + 0) ≤ 0) (f47 : RWS (r_2) (all_2) (now_2) (latest_2)) (fe_0_5_1 : r_0 = r_1) (fe_0_8_1 : fault_0 = fault_1) (fe_0_10_1 : limit_0 = limit_1) (fe_0_11_1 : pos_0 = pos_1) (fe_0_12_1 : kind_0 = kind_1) (fe_0_13_1 : place_0 = place_1) (fe_0_14_1 : value_0 = value_1) (fe_0_15_1 : from_0 = from_1) (fe_0_5_2 : r_1 = r_2) (fe_0_8_2 : fault_1 = fault_2) (fe_0_10_2 : limit_1 = limit_2) (fe_0_11_2 : pos_1 = pos_2) (fe_0_12_2 : kind_1 = kind_2) (fe_0_13_2 : place_1 = place_2) (fe_0_14_2 : value_1 = value_2) (fe_0_15_2 : from_1 = from_2) (hE_0_1_1 : ∀ j : Int, tape_0 j = tape_1 j) (hE_0_1_2 : ∀ j : Int, tape_1 j = tape_2 j) (hE_0_2_1 : ∀ j : Int, 0 ≤ j → (j = x24 → all_0 j = x27) ∧ (j ≠ x24 → all_0 j = all_1 j)) (hE_0_2_2 : ∀ j : Int, 0 ≤ j → (j = x18 → all_1 j = x21) ∧ (j ≠ x18 → all_1 j = all_2 j)) (hE_0_3_1 : ∀ j : Int, now_0 j = now_1 j) (hE_0_3_2 : ∀ j : Int, now_1 j = now_2 j) (hE_0_4_1 : ∀ j : Int, latest_0 j = latest_1 j) (hE_0_4_2 : ∀ j : Int, latest_1 j = latest_2 j) (kz_0_8 : 0 ≤ fault_0 ∧ fault_0 ≤ 5) (kz_0_10 : 0 ≤ limit_0 ∧ limit_0 ≤ 2000) (kz_0_11 : 0 ≤ pos_0 ∧ pos_0 ≤ 2000) (kz_0_12 : 0 ≤ kind_0 ∧ kind_0 ≤ 4) (kz_0_13 : 0 ≤ place_0 ∧ place_0 ≤ 2000) (kz_0_14 : (-49) ≤ value_0 ∧ value_0 ≤ 1048575) (kz_0_15 : 0 ≤ from_0 ∧ from_0 ≤ 2000) : RWN (r_0) (all_0) (now_0) (latest_0) (x16) := by
  subst fe_0_5_1
  subst fe_0_8_1
  subst fe_0_10_1
  subst fe_0_11_1
  subst fe_0_12_1
  subst fe_0_13_1
  subst fe_0_14_1
  subst fe_0_15_1
  subst fe_0_5_2
  subst fe_0_8_2
  subst fe_0_10_2
  subst fe_0_11_2
  subst fe_0_12_2
  subst fe_0_13_2
  subst fe_0_14_2
  subst fe_0_15_2
  have e_hE_0_1_1 := funext hE_0_1_1; subst e_hE_0_1_1
  have e_hE_0_1_2 := funext hE_0_1_2; subst e_hE_0_1_2
  have e_hE_0_3_1 := funext hE_0_3_1; subst e_hE_0_3_1
  have e_hE_0_3_2 := funext hE_0_3_2; subst e_hE_0_3_2
  have e_hE_0_4_1 := funext hE_0_4_1; subst e_hE_0_4_1
  have e_hE_0_4_2 := funext hE_0_4_2; subst e_hE_0_4_2
  try simp only [Int.add_zero] at *
  first
    | (have hr := rws_r ‹RWS _ _ _ _›
       have hb := (rws_sg ‹RWS _ _ _ _›).1
       exact rwn_off (rwn_start ‹RWS _ _ _ _› (by assumption) (by omega) (by omega) (by omega) (by omega)) (by assumption) (by omega))
set_option maxHeartbeats 4000000 in
theorem vc_Mo_met_at_g4_13_5 (x2 : Int) (x12 : Int) (x14 : Int) (x16 : Int) (x18 : Int) (x19 : Int) (x21 : Int) (x23 : Int) (x24 : Int) (x27 : Int) (from_0 : Int) (pos_0 : Int) (r_0 : Int) (fault_0 : Int) (kind_0 : Int) (tape_0 : Int → Int) (limit_0 : Int) (from_1 : Int) (pos_1 : Int) (kind_1 : Int) (tape_1 : Int → Int) (limit_1 : Int) (all_2 : Int → Int) (r_2 : Int) (tape_2 : Int → Int) (pos_2 : Int) (limit_2 : Int) (from_2 : Int) (kind_2 : Int) (now_2 : Int → Int) (latest_2 : Int → Int) (place_2 : Int) (value_2 : Int) (fault_2 : Int) (r_1 : Int) (fault_1 : Int) (place_0 : Int) (place_1 : Int) (value_0 : Int) (value_1 : Int) (all_0 : Int → Int) (all_1 : Int → Int) (now_0 : Int → Int) (now_1 : Int → Int) (latest_0 : Int → Int) (latest_1 : Int → Int) (k2 : 0 ≤ x2 ∧ x2 ≤ 23) (k12 : 0 ≤ x12 ∧ x12 ≤ 23) (k14 : 0 ≤ x14 ∧ x14 ≤ 47) (k16 : 0 ≤ x16 ∧ x16 ≤ 23) (k18 : 0 ≤ x18 ∧ x18 ≤ 66297) (k19 : 0 ≤ x19 ∧ x19 ≤ 24) (k21 : 1 ≤ x21 ∧ x21 ≤ 24) (k23 : 195 ≤ x23 ∧ x23 ≤ 66492) (k24 : 195 ≤ x24 ∧ x24 ≤ 66515) (k27 : 0 ≤ x27 ∧ x27 ≤ 8) (d1 : x16 + 195 ≤ x24 ∧ x24 ≤ x16 + 66492) (d4 : x18 + 195 ≤ x23 ∧ x23 ≤ x18 + 195) (d5 : x19 + 1 ≤ x21 ∧ x21 ≤ x19 + 1) (g2 : x18 = r_0) (f14 : x24 = x23 + x16) (h25 : x19 = all_2 (x18)) (f26 : 1 * x16 + ((-1) * all_2 (r_0 + 0) + 0) ≤ 0) (f27 : (-1) * x16 + (1 * all_2 (r_0 + 0) + 0) ≤ 0) (f31 : 1 * x14 + ((-1) * all_2 (r_0 + 1) + 0) ≤ 0) (f32 : (-1) * x14 + (1 * all_2 (r_0 + 1) + 0) ≤ 0) (f35 : 1 * x12 + ((-1) * all_2 (r_0 + 0) + 0) ≤ 0) (f36 : (-1) * x12 + (1 * all_2 (r_0 + 0) + 0) ≤ 0) (f47 : RWS (r_2) (all_2) (now_2) (latest_2)) (f48 : MEB (r_2) (all_2) (x2)) (fe_0_5_1 : r_0 = r_1) (fe_0_8_1 : fault_0 = fault_1) (fe_0_10_1 : limit_0 = limit_1) (fe_0_11_1 : pos_0 = pos_1) (fe_0_12_1 : kind_0 = kind_1) (fe_0_13_1 : place_0 = place_1) (fe_0_14_1 : value_0 = value_1) (fe_0_15_1 : from_0 = from_1) (fe_0_5_2 : r_1 = r_2) (fe_0_8_2 : fault_1 = fault_2) (fe_0_10_2 : limit_1 = limit_2) (fe_0_11_2 : pos_1 = pos_2) (fe_0_12_2 : kind_1 = kind_2) (fe_0_13_2 : place_1 = place_2) (fe_0_14_2 : value_1 = value_2) (fe_0_15_2 : from_1 = from_2) (hE_0_1_1 : ∀ j : Int, tape_0 j = tape_1 j) (hE_0_1_2 : ∀ j : Int, tape_1 j = tape_2 j) (hE_0_2_1 : ∀ j : Int, 0 ≤ j → (j = x24 → all_0 j = x27) ∧ (j ≠ x24 → all_0 j = all_1 j)) (hE_0_2_2 : ∀ j : Int, 0 ≤ j → (j = x18 → all_1 j = x21) ∧ (j ≠ x18 → all_1 j = all_2 j)) (hE_0_3_1 : ∀ j : Int, now_0 j = now_1 j) (hE_0_3_2 : ∀ j : Int, now_1 j = now_2 j) (hE_0_4_1 : ∀ j : Int, latest_0 j = latest_1 j) (hE_0_4_2 : ∀ j : Int, latest_1 j = latest_2 j) (kz_0_8 : 0 ≤ fault_0 ∧ fault_0 ≤ 5) (kz_0_10 : 0 ≤ limit_0 ∧ limit_0 ≤ 2000) (kz_0_11 : 0 ≤ pos_0 ∧ pos_0 ≤ 2000) (kz_0_12 : 0 ≤ kind_0 ∧ kind_0 ≤ 4) (kz_0_13 : 0 ≤ place_0 ∧ place_0 ≤ 2000) (kz_0_14 : (-49) ≤ value_0 ∧ value_0 ≤ 1048575) (kz_0_15 : 0 ≤ from_0 ∧ from_0 ≤ 2000) : MEN (r_0) (all_0) (x2) (x16) := by
  subst fe_0_5_1
  subst fe_0_8_1
  subst fe_0_10_1
  subst fe_0_11_1
  subst fe_0_12_1
  subst fe_0_13_1
  subst fe_0_14_1
  subst fe_0_15_1
  subst fe_0_5_2
  subst fe_0_8_2
  subst fe_0_10_2
  subst fe_0_11_2
  subst fe_0_12_2
  subst fe_0_13_2
  subst fe_0_14_2
  subst fe_0_15_2
  have e_hE_0_1_1 := funext hE_0_1_1; subst e_hE_0_1_1
  have e_hE_0_1_2 := funext hE_0_1_2; subst e_hE_0_1_2
  have e_hE_0_3_1 := funext hE_0_3_1; subst e_hE_0_3_1
  have e_hE_0_3_2 := funext hE_0_3_2; subst e_hE_0_3_2
  have e_hE_0_4_1 := funext hE_0_4_1; subst e_hE_0_4_1
  have e_hE_0_4_2 := funext hE_0_4_2; subst e_hE_0_4_2
  try simp only [Int.add_zero] at *
  first
    | (have hr := rws_r ‹RWS _ _ _ _›
       have hb := (rws_sg ‹RWS _ _ _ _›).1
       exact men_off (by omega) (men_new ‹RWS _ _ _ _› (by assumption) (by omega) (by omega) (by omega) ‹MEB _ _ _› (by omega)) (by assumption) (by omega))
set_option maxHeartbeats 4000000 in
theorem vc_Mo_met_at_g4_13_6 (x1 : Int) (x2 : Int) (x5 : Int) (x6 : Int) (x7 : Int) (x8 : Int) (x9 : Int) (x10 : Int) (x12 : Int) (x14 : Int) (x16 : Int) (x18 : Int) (x19 : Int) (x21 : Int) (x23 : Int) (x24 : Int) (x25 : Int) (x26 : Int) (x27 : Int) (x28 : Int) (from_0 : Int) (pos_0 : Int) (r_0 : Int) (fault_0 : Int) (kind_0 : Int) (tape_0 : Int → Int) (limit_0 : Int) (from_1 : Int) (pos_1 : Int) (kind_1 : Int) (tape_1 : Int → Int) (limit_1 : Int) (all_2 : Int → Int) (r_2 : Int) (tape_2 : Int → Int) (pos_2 : Int) (limit_2 : Int) (from_2 : Int) (kind_2 : Int) (now_2 : Int → Int) (latest_2 : Int → Int) (place_2 : Int) (value_2 : Int) (fault_2 : Int) (r_1 : Int) (fault_1 : Int) (place_0 : Int) (place_1 : Int) (value_0 : Int) (value_1 : Int) (all_0 : Int → Int) (all_1 : Int → Int) (now_0 : Int → Int) (now_1 : Int → Int) (latest_0 : Int → Int) (latest_1 : Int → Int) (k1 : 0 ≤ x1 ∧ x1 ≤ 7) (k2 : 0 ≤ x2 ∧ x2 ≤ 23) (k5 : 0 ≤ x5 ∧ x5 ≤ 4) (k6 : 0 ≤ x6 ∧ x6 ≤ 48) (k7 : 0 ≤ x7 ∧ x7 ≤ 1) (k8 : 0 ≤ x8 ∧ x8 ≤ 0) (k9 : 1 ≤ x9 ∧ x9 ≤ 1) (k10 : (-1) ≤ x10 ∧ x10 ≤ (-1)) (k12 : 0 ≤ x12 ∧ x12 ≤ 23) (k14 : 0 ≤ x14 ∧ x14 ≤ 47) (k16 : 0 ≤ x16 ∧ x16 ≤ 23) (k18 : 0 ≤ x18 ∧ x18 ≤ 66297) (k19 : 0 ≤ x19 ∧ x19 ≤ 24) (k21 : 1 ≤ x21 ∧ x21 ≤ 24) (k23 : 195 ≤ x23 ∧ x23 ≤ 66492) (k24 : 195 ≤ x24 ∧ x24 ≤ 66515) (k25 : 0 ≤ x25 ∧ x25 ≤ 2000) (k26 : 0 ≤ x26 ∧ x26 ≤ 2000) (k27 : 0 ≤ x27 ∧ x27 ≤ 8) (k28 : 0 ≤ x28 ∧ x28 ≤ 0) (d4 : x18 + 195 ≤ x23 ∧ x23 ≤ x18 + 195) (d5 : x19 + 1 ≤ x21 ∧ x21 ≤ x19 + 1) (g0 : x26 = from_0) (g1 : x25 = pos_0) (g2 : x18 = r_0) (g4 : x8 = fault_0) (f13 : x27 = x25 - x26) (f14 : x24 = x23 + x16) (h25 : x19 = all_2 (x18)) (f26 : 1 * x16 + ((-1) * all_2 (r_0 + 0) + 0) ≤ 0) (f27 : (-1) * x16 + (1 * all_2 (r_0 + 0) + 0) ≤ 0) (f31 : 1 * x14 + ((-1) * all_2 (r_0 + 1) + 0) ≤ 0) (f32 : (-1) * x14 + (1 * all_2 (r_0 + 1) + 0) ≤ 0) (f35 : 1 * x12 + ((-1) * all_2 (r_0 + 0) + 0) ≤ 0) (f36 : (-1) * x12 + (1 * all_2 (r_0 + 0) + 0) ≤ 0) (f38 : x10 < 0) (f40 : KNQ (pos_2) (limit_2) (from_2) (r_2) (all_2) (tape_2) (x10)) (f41 : x9 ≠ 0) (f49 : zRS4 (limit_2) (pos_2) (kind_2) (place_2) (value_2) (from_2) (fault_2) (r_2) (tape_2) (all_2) (x2) (x6) (x7) (x1) (x5)) (f52 : NMQ (kind_2) (pos_2) (limit_2) (from_2) (tape_2) (x9)) (fe_0_5_1 : r_0 = r_1) (fe_0_8_1 : fault_0 = fault_1) (fe_0_10_1 : limit_0 = limit_1) (fe_0_11_1 : pos_0 = pos_1) (fe_0_12_1 : kind_0 = kind_1) (fe_0_13_1 : place_0 = place_1) (fe_0_14_1 : value_0 = value_1) (fe_0_15_1 : from_0 = from_1) (fe_0_5_2 : r_1 = r_2) (fe_0_8_2 : fault_1 = fault_2) (fe_0_10_2 : limit_1 = limit_2) (fe_0_11_2 : pos_1 = pos_2) (fe_0_12_2 : kind_1 = kind_2) (fe_0_13_2 : place_1 = place_2) (fe_0_14_2 : value_1 = value_2) (fe_0_15_2 : from_1 = from_2) (hE_0_1_1 : ∀ j : Int, tape_0 j = tape_1 j) (hE_0_1_2 : ∀ j : Int, tape_1 j = tape_2 j) (hE_0_2_1 : ∀ j : Int, 0 ≤ j → (j = x24 → all_0 j = x27) ∧ (j ≠ x24 → all_0 j = all_1 j)) (hE_0_2_2 : ∀ j : Int, 0 ≤ j → (j = x18 → all_1 j = x21) ∧ (j ≠ x18 → all_1 j = all_2 j)) (hE_0_3_1 : ∀ j : Int, now_0 j = now_1 j) (hE_0_3_2 : ∀ j : Int, now_1 j = now_2 j) (hE_0_4_1 : ∀ j : Int, latest_0 j = latest_1 j) (hE_0_4_2 : ∀ j : Int, latest_1 j = latest_2 j) (kz_0_8 : 0 ≤ fault_0 ∧ fault_0 ≤ 5) (kz_0_10 : 0 ≤ limit_0 ∧ limit_0 ≤ 2000) (kz_0_11 : 0 ≤ pos_0 ∧ pos_0 ≤ 2000) (kz_0_12 : 0 ≤ kind_0 ∧ kind_0 ≤ 4) (kz_0_13 : 0 ≤ place_0 ∧ place_0 ≤ 2000) (kz_0_14 : (-49) ≤ value_0 ∧ value_0 ≤ 1048575) (kz_0_15 : 0 ≤ from_0 ∧ from_0 ≤ 2000) : zMN4 (limit_0) (pos_0) (kind_0) (place_0) (value_0) (from_0) (fault_0) (r_0) (tape_0) (all_0) (x16) (x28) (x2) (x6) (x7) (x1) (x5) := by
  subst fe_0_5_1
  subst fe_0_8_1
  subst fe_0_10_1
  subst fe_0_11_1
  subst fe_0_12_1
  subst fe_0_13_1
  subst fe_0_14_1
  subst fe_0_15_1
  subst fe_0_5_2
  subst fe_0_8_2
  subst fe_0_10_2
  subst fe_0_11_2
  subst fe_0_12_2
  subst fe_0_13_2
  subst fe_0_14_2
  subst fe_0_15_2
  have e_hE_0_1_1 := funext hE_0_1_1; subst e_hE_0_1_1
  have e_hE_0_1_2 := funext hE_0_1_2; subst e_hE_0_1_2
  have e_hE_0_3_1 := funext hE_0_3_1; subst e_hE_0_3_1
  have e_hE_0_3_2 := funext hE_0_3_2; subst e_hE_0_3_2
  have e_hE_0_4_1 := funext hE_0_4_1; subst e_hE_0_4_1
  have e_hE_0_4_2 := funext hE_0_4_2; subst e_hE_0_4_2
  first | subst g0 | skip
  first | subst g1 | skip
  first | subst g2 | skip
  first | subst g4 | skip
  try simp only [Int.add_zero] at *
  first
    | exact mn_step4 ((rsq_lim (‹zMN4 _ _ _ _ _ _ _ _ _ _ _ _ _ _ _ _ _›).1).2.2.2 (by omega)).2 ‹zMN4 _ _ _ _ _ _ _ _ _ _ _ _ _ _ _ _ _› (by omega) (by assumption) (by omega) (rsq_byte (‹zMN4 _ _ _ _ _ _ _ _ _ _ _ _ _ _ _ _ _›).1 (by omega) (by assumption) (by omega) (by omega) (by omega)) (by omega) (by omega)
    | exact mn_start4 ‹zRS4 _ _ _ _ _ _ _ _ _ _ _ _ _ _ _› (by omega) ‹NMQ _ _ _ _ _ _› (by omega) ‹KNQ _ _ _ _ _ _ _› (by omega) (by simp only [Int.add_zero]; omega) (by omega) (by assumption) (by assumption) (by omega) (by omega) (by omega) (by omega) (by omega) (by omega)
    | (exfalso; omega)
def o_Mo_met_at_g4_13 : or_T := (171, 29, [(0, (2, 0, 0, [165])), (1, (0, 0, 7, [])), (2, (0, 0, 23, [])), (3, (0, 0, 2000, [])), (4, (0, 0, 2000, [])), (5, (0, 0, 4, [])), (6, (0, 0, 48, [])), (7, (0, 0, 1, [])), (8, (0, 0, 0, [])), (9, (0, 1, 1, [])), (10, (0, -1, -1, [])), (12, (0, 0, 23, [])), (13, (0, 24, 24, [])), (14, (0, 0, 47, [])), (15, (0, 48, 48, [])), (16, (0, 0, 23, [])), (17, (2, 0, 0, [167])), (18, (0, 0, 66297, [])), (19, (0, 0, 24, [])), (20, (0, 1, 1, [])), (21, (0, 1, 24, [])), (22, (0, 195, 195, [])), (23, (0, 195, 66492, [])), (24, (0, 195, 66515, [])), (25, (0, 0, 2000, [])), (26, (0, 0, 2000, [])), (27, (0, 0, 8, [])), (28, (0, 0, 0, []))], [(9, [26, 0], [15]), (9, [25, 0], [11]), (9, [18, 0], [5]), (9, [17, 0], [2]), (9, [8, 0], [8]), (20, [0, 0], [30, 0, 1, 1, 15, -1, 1, 11]), (20, [0], [50, 3, 0, 12, 11, 15, 2, 21, 4, 7, 1, 3, 2, 0, 12, 0, 1, 0, 3, 2, 0, 11, 4, 3, 2, 0, 15, 0, 8, 3, 7, 1, 3, 2, 0, 12, 0, 0, 0, 7, 4, 3, 2, 0, 15, 0, 1, 2, 0, 11]), (20, [3, 0], [30, 0, 1, 0, 0, -1, 1, 11]), (20, [0, 4], [50, 2, 0, 12, 11, 3, 7, 1, 3, 2, 0, 12, 0, 0, 0, 6, 4, 2, 1, 1, 0, 1, 2, 0, 11]), (20, [2], [50, 0, 0, 0, 2, 0, 0, 1, 0]), (20, [9, 0], [50, 1, 0, 1012, 4, 6, 1, 2, 1, 0, 0, 1, 1, 3, 2, 1, 12, 0, 1]), (20, [0, 9], [60, 4, 1, 962, 12, 11, 10, 15, 1]), (100, [17, 24, 27], []), (2, [27, 25, 26], []), (1, [24, 23, 16], []), (1, [23, 18, 22], []), (20, [0, 0], [30, 0, 1, 1, 15, -1, 1, 11]), (20, [0], [50, 3, 0, 12, 11, 15, 2, 21, 4, 7, 1, 3, 2, 0, 12, 0, 1, 0, 3, 2, 0, 11, 4, 3, 2, 0, 15, 0, 8, 3, 7, 1, 3, 2, 0, 12, 0, 0, 0, 7, 4, 3, 2, 0, 15, 0, 1, 2, 0, 11]), (20, [3, 0], [30, 0, 1, 0, 0, -1, 1, 11]), (20, [0, 4], [50, 2, 0, 12, 11, 3, 7, 1, 3, 2, 0, 12, 0, 0, 0, 6, 4, 2, 1, 1, 0, 1, 2, 0, 11]), (20, [2], [50, 0, 0, 0, 2, 0, 0, 1, 0]), (20, [9, 0], [50, 1, 0, 1012, 4, 6, 1, 2, 1, 0, 0, 1, 1, 3, 2, 1, 12, 0, 1]), (20, [0, 9], [60, 4, 1, 962, 12, 11, 10, 15, 1]), (100, [17, 18, 21], []), (1, [21, 19, 20], []), (10, [19, 17, 18], []), (20, [16, 0], [30, 0, 1, 0, 0, -1, 3, 2005000]), (20, [16, 0], [30, 0, -1, 0, 0, 1, 3, 2005000]), (8, [10], [2]), (8, [8], [5]), (7, [14, 15], [1]), (20, [14, 0], [30, 0, 1, 0, 0, -1, 3, 2005001]), (20, [14, 0], [30, 0, -1, 0, 0, 1, 3, 2005001]), (8, [2], [3]), (7, [12, 13], [1]), (20, [12, 0], [30, 0, 1, 0, 0, -1, 3, 2005000]), (20, [12, 0], [30, 0, -1, 0, 0, 1, 3, 2005000]), (8, [10], [2]), (8, [10], [2]), (20, [0, 10], [60, 1, 1, 207, 5, 2]), (20, [0, 10], [60, 4, 2, 1031, 11, 10, 15, 5, 2, 1]), (8, [9], [1]), (20, [0, 0], [30, 0, 1, 1, 15, -1, 1, 11]), (20, [0], [50, 3, 0, 12, 11, 15, 2, 21, 4, 7, 1, 3, 2, 0, 12, 0, 1, 0, 3, 2, 0, 11, 4, 3, 2, 0, 15, 0, 8, 3, 7, 1, 3, 2, 0, 12, 0, 0, 0, 7, 4, 3, 2, 0, 15, 0, 1, 2, 0, 11]), (20, [3, 0], [30, 0, 1, 0, 0, -1, 1, 11]), (20, [0, 4], [50, 2, 0, 12, 11, 3, 7, 1, 3, 2, 0, 12, 0, 0, 0, 6, 4, 2, 1, 1, 0, 1, 2, 0, 11]), (20, [1, 0], [50, 1, 1, 1005, 1002, 0, 6, 4, 2, 1, 0, 0, 1, 3, 1, 2, 4, 3, 2, 1, 5, 0, 2]), (20, [0], [60, 1, 3, 199, 5, 2, 3, 4]), (20, [0, 2], [60, 1, 1, 241, 5, 2]), (20, [0, 2, 6, 7, 1, 5], [60, 8, 2, 993, 10, 11, 12, 13, 14, 15, 8, 5, 1, 2]), (20, [2], [50, 0, 0, 0, 2, 0, 0, 1, 0]), (20, [9, 0], [50, 1, 0, 1012, 4, 6, 1, 2, 1, 0, 0, 1, 1, 3, 2, 1, 12, 0, 1]), (20, [0, 9], [60, 4, 1, 962, 12, 11, 10, 15, 1]), (102, [8], [0]), (8, [8], [5])], [], [], [(20, [4, 0], [30, -1, 1, 0, 0, -1, 1, 11]), (20, [0], [50, 1, 0, 12, 1, 3, 2, 0, 12, 0, 1]), (20, [2, 0], [50, 1, 1, 1005, 1002, 3, 6, 0, 2, 1, 0, 0, -1, 0, 10, 3, 1, 2, 4, 3, 2, 1, 5, 0, 1, 0, 47]), (20, [1, 0], [50, 1, 1, 1005, 1002, 0, 6, 4, 2, 1, 0, 0, 1, 3, 1, 2, 4, 3, 2, 1, 5, 0, 2]), (20, [0, 16], [60, 1, 3, 200, 5, 2, 3, 4]), (20, [0, 2, 16], [60, 1, 1, 243, 5, 2]), (20, [0, 16, 28, 2, 6, 7, 1, 5], [60, 8, 2, 1005, 10, 11, 12, 13, 14, 15, 8, 5, 1, 2]), (24, [0, 0], []), (24, [1, 1], []), (24, [2, 2], [])], [], [(27, 25, -2000, 0), (24, 16, 195, 66492), (24, 23, 0, 23), (24, 18, 195, 218), (23, 18, 195, 195), (21, 19, 1, 1)])
theorem oo_Mo_met_at_g4_13 {kA : Nat → ClassId} : or_ok PRD kA GG o_Mo_met_at_g4_13 := by
  refine or_mk fun A ta ws vs hD hth hl => ?_
  intro t0 r0 t1 k1 t2 k2 t3 k3 t4 k4 t5 k5 t6 k6 t7 k7 t8 k8 t9 k9 t10 k10 t12 k12 t13 k13 t14 k14 t15 k15 t16 k16 t17 r17 t18 k18 t19 k19 t20 k20 t21 k21 t22 k22 t23 k23 t24 k24 t25 k25 t26 k26 t27 k27 t28 k28 d0 d1 d2 d3 d4 d5 f0 f1 f2 f3 f4 f5 f6 f7 f8 f9 f10 f11 ta1 w1 le1 s1 f13 f14 f15 f16 f17 f18 f19 f20 f21 f22 ta2 w2 le2 s2 f24 f25 f26 f27 f28 f29 f30 f31 f32 f33 f34 f35 f36 f37 f38 f39 f40 f41 f42 f43 f44 f45 f46 f47 f48 f49 f50 f51 f52 ta3 w3 le3 s3 f54
  replace f0 := shm_177 f0
  replace f1 := shm_116 f1
  replace f2 := shm_110 f2
  replace f3 := shm_120 f3
  replace f4 := shm_293 f4
  replace f5 := shm_1437 f5
  replace f6 := shm_1438 f6
  replace f7 := shm_1431 f7
  replace f8 := shm_2111 f8
  replace f9 := shm_722 f9
  replace f10 := shm_1856 f10
  replace f11 := shm_1889 f11
  have s1 : (∀ b j, w_el ws b j = if b = v_ad (n_v vs 17) ∧ j = (v_iv (n_v vs 24)).toNat then v_iv (n_v vs 27) else w_el w1 b j) ∧ ∀ b k, w_fd ws b k = w_fd w1 b k := s1.2
  replace f13 := shm_14 f13
  replace f14 := shm_12 f14
  replace f15 := shm_12 f15
  replace f16 := shm_1437 f16
  replace f17 := shm_1438 f17
  replace f18 := shm_1431 f18
  replace f19 := shm_2111 f19
  replace f20 := shm_722 f20
  replace f21 := shm_1856 f21
  replace f22 := shm_1889 f22
  have s2 : (∀ b j, w_el w1 b j = if b = v_ad (n_v vs 17) ∧ j = (v_iv (n_v vs 18)).toNat then v_iv (n_v vs 21) else w_el w2 b j) ∧ ∀ b k, w_fd w1 b k = w_fd w2 b k := s2.2
  replace f24 := shm_12 f24
  replace f25 := shm_107 f25
  replace f26 := shm_126 f26
  replace f27 := shm_127 f27
  replace f28 := shm_39 f28
  replace f29 := shm_295 f29
  replace f30 := shm_40 f30
  replace f31 := shm_121 f31
  replace f32 := shm_122 f32
  replace f33 := shm_32 f33
  replace f34 := shm_40 f34
  replace f35 := shm_126 f35
  replace f36 := shm_127 f36
  replace f37 := shm_39 f37
  replace f38 := shm_39 f38
  replace f39 := shm_1232 f39
  replace f40 := shm_1233 f40
  replace f41 := shm_142 f41
  replace f42 := shm_1437 f42
  replace f43 := shm_1438 f43
  replace f44 := shm_1431 f44
  replace f45 := shm_2111 f45
  replace f46 := shm_1009 f46
  replace f47 := shm_980 f47
  replace f48 := shm_2112 f48
  replace f49 := shm_2126 f49
  replace f50 := shm_722 f50
  replace f51 := shm_1856 f51
  replace f52 := shm_1889 f52
  replace f54 := shm_295 f54
  have ar_0_1_1 : w_ar w1 (n_v vs 0) 1 = w_ar ws (n_v vs 0) 1 := congrArg v_ad (s1.2 _ _).symm
  have ar_0_1_2 : w_ar w2 (n_v vs 0) 1 = w_ar ws (n_v vs 0) 1 := by rw [← ar_0_1_1]; show v_ad (w_fd w2 _ _) = v_ad (w_fd w1 _ _); rw [s2.2]
  have cr_0_1 := fdq_39 hD hth r0
  have ar_0_2_1 : w_ar w1 (n_v vs 0) 2 = w_ar ws (n_v vs 0) 2 := congrArg v_ad (s1.2 _ _).symm
  have ar_0_2_2 : w_ar w2 (n_v vs 0) 2 = w_ar ws (n_v vs 0) 2 := by rw [← ar_0_2_1]; show v_ad (w_fd w2 _ _) = v_ad (w_fd w1 _ _); rw [s2.2]
  have cr_0_2 := fdq_10 hD hth r0
  have ar_0_3_1 : w_ar w1 (n_v vs 0) 3 = w_ar ws (n_v vs 0) 3 := congrArg v_ad (s1.2 _ _).symm
  have ar_0_3_2 : w_ar w2 (n_v vs 0) 3 = w_ar ws (n_v vs 0) 3 := by rw [← ar_0_3_1]; show v_ad (w_fd w2 _ _) = v_ad (w_fd w1 _ _); rw [s2.2]
  have cr_0_3 := fdq_142 hD hth r0
  have ar_0_4_1 : w_ar w1 (n_v vs 0) 4 = w_ar ws (n_v vs 0) 4 := congrArg v_ad (s1.2 _ _).symm
  have ar_0_4_2 : w_ar w2 (n_v vs 0) 4 = w_ar ws (n_v vs 0) 4 := by rw [← ar_0_4_1]; show v_ad (w_fd w2 _ _) = v_ad (w_fd w1 _ _); rw [s2.2]
  have cr_0_4 := fdq_143 hD hth r0
  have fi_0_5_1 : w_fi w1 (n_v vs 0) 5 = w_fi ws (n_v vs 0) 5 := by show v_iv (w_fd w1 _ _) = v_iv (w_fd ws _ _); rw [s1.2]
  have fi_0_5_2 : w_fi w2 (n_v vs 0) 5 = w_fi ws (n_v vs 0) 5 := by rw [← fi_0_5_1]; show v_iv (w_fd w2 _ _) = v_iv (w_fd w1 _ _); rw [s2.2]
  have ad_17 : v_ad (n_v vs 17) = w_ar ws (n_v vs 0) 2 := congrArg v_ad f3
  have g0 : v_iv (n_v vs 26) = w_fi ws (n_v vs 0) 15 := congrArg v_iv f0
  have g1 : v_iv (n_v vs 25) = w_fi ws (n_v vs 0) 11 := congrArg v_iv f1
  have g2 : v_iv (n_v vs 18) = w_fi ws (n_v vs 0) 5 := congrArg v_iv f2
  have g4 : v_iv (n_v vs 8) = w_fi ws (n_v vs 0) 8 := congrArg v_iv f4
  simp only [ar_0_1_1, ad_17] at f22 f25
  have h25 : v_iv (n_v vs 19) = w_ei w2 (w_ar ws (n_v vs 0) 2) (v_iv (n_v vs 18)) := f25
  simp only [ar_0_2_2, ar_0_1_2, ar_0_3_2, ar_0_4_2] at f26 f27 f31 f32 f35 f36 f39 f40 f46 f47 f48 f49 f52
  simp only [fi_0_5_2] at f26 f27 f31 f32 f35 f36
  have fe_0_5_1 : w_fi ws (n_v vs 0) 5 = w_fi w1 (n_v vs 0) 5 := congrArg v_iv (s1.2 _ _)
  have fe_0_8_1 : w_fi ws (n_v vs 0) 8 = w_fi w1 (n_v vs 0) 8 := congrArg v_iv (s1.2 _ _)
  have fe_0_10_1 : w_fi ws (n_v vs 0) 10 = w_fi w1 (n_v vs 0) 10 := congrArg v_iv (s1.2 _ _)
  have fe_0_11_1 : w_fi ws (n_v vs 0) 11 = w_fi w1 (n_v vs 0) 11 := congrArg v_iv (s1.2 _ _)
  have fe_0_12_1 : w_fi ws (n_v vs 0) 12 = w_fi w1 (n_v vs 0) 12 := congrArg v_iv (s1.2 _ _)
  have fe_0_13_1 : w_fi ws (n_v vs 0) 13 = w_fi w1 (n_v vs 0) 13 := congrArg v_iv (s1.2 _ _)
  have fe_0_14_1 : w_fi ws (n_v vs 0) 14 = w_fi w1 (n_v vs 0) 14 := congrArg v_iv (s1.2 _ _)
  have fe_0_15_1 : w_fi ws (n_v vs 0) 15 = w_fi w1 (n_v vs 0) 15 := congrArg v_iv (s1.2 _ _)
  have fe_0_5_2 : w_fi w1 (n_v vs 0) 5 = w_fi w2 (n_v vs 0) 5 := congrArg v_iv (s2.2 _ _)
  have fe_0_8_2 : w_fi w1 (n_v vs 0) 8 = w_fi w2 (n_v vs 0) 8 := congrArg v_iv (s2.2 _ _)
  have fe_0_10_2 : w_fi w1 (n_v vs 0) 10 = w_fi w2 (n_v vs 0) 10 := congrArg v_iv (s2.2 _ _)
  have fe_0_11_2 : w_fi w1 (n_v vs 0) 11 = w_fi w2 (n_v vs 0) 11 := congrArg v_iv (s2.2 _ _)
  have fe_0_12_2 : w_fi w1 (n_v vs 0) 12 = w_fi w2 (n_v vs 0) 12 := congrArg v_iv (s2.2 _ _)
  have fe_0_13_2 : w_fi w1 (n_v vs 0) 13 = w_fi w2 (n_v vs 0) 13 := congrArg v_iv (s2.2 _ _)
  have fe_0_14_2 : w_fi w1 (n_v vs 0) 14 = w_fi w2 (n_v vs 0) 14 := congrArg v_iv (s2.2 _ _)
  have fe_0_15_2 : w_fi w1 (n_v vs 0) 15 = w_fi w2 (n_v vs 0) 15 := congrArg v_iv (s2.2 _ _)
  have hE_0_1_1 : ∀ j : Int, w_ei ws (w_ar ws (n_v vs 0) 1) j = w_ei w1 (w_ar ws (n_v vs 0) 1) j := el_kp s1.1 r17 cr_0_1 (by decide)
  have hE_0_1_2 : ∀ j : Int, w_ei w1 (w_ar ws (n_v vs 0) 1) j = w_ei w2 (w_ar ws (n_v vs 0) 1) j := el_kp s2.1 r17 cr_0_1 (by decide)
  have hK_0_1 := elq_7 hD hth cr_0_1
  have hE_0_2_1 : ∀ j : Int, 0 ≤ j → (j = v_iv (n_v vs 24) → w_ei ws (w_ar ws (n_v vs 0) 2) j = v_iv (n_v vs 27)) ∧ (j ≠ v_iv (n_v vs 24) → w_ei ws (w_ar ws (n_v vs 0) 2) j = w_ei w1 (w_ar ws (n_v vs 0) 2) j) := fun j hj => ⟨fun h => by unfold w_ei; rw [s1.1, if_pos ⟨ad_17.symm, by rw [h]⟩], fun h => by unfold w_ei; rw [s1.1, if_neg (fun e => h (by have := e.2; omega))]⟩
  have hE_0_2_2 : ∀ j : Int, 0 ≤ j → (j = v_iv (n_v vs 18) → w_ei w1 (w_ar ws (n_v vs 0) 2) j = v_iv (n_v vs 21)) ∧ (j ≠ v_iv (n_v vs 18) → w_ei w1 (w_ar ws (n_v vs 0) 2) j = w_ei w2 (w_ar ws (n_v vs 0) 2) j) := fun j hj => ⟨fun h => by unfold w_ei; rw [s2.1, if_pos ⟨ad_17.symm, by rw [h]⟩], fun h => by unfold w_ei; rw [s2.1, if_neg (fun e => h (by have := e.2; omega))]⟩
  have hE_0_3_1 : ∀ j : Int, w_ei ws (w_ar ws (n_v vs 0) 3) j = w_ei w1 (w_ar ws (n_v vs 0) 3) j := el_kp s1.1 r17 cr_0_3 (by decide)
  have hE_0_3_2 : ∀ j : Int, w_ei w1 (w_ar ws (n_v vs 0) 3) j = w_ei w2 (w_ar ws (n_v vs 0) 3) j := el_kp s2.1 r17 cr_0_3 (by decide)
  have hK_0_3 := elq_80 hD hth cr_0_3
  have hE_0_4_1 : ∀ j : Int, w_ei ws (w_ar ws (n_v vs 0) 4) j = w_ei w1 (w_ar ws (n_v vs 0) 4) j := el_kp s1.1 r17 cr_0_4 (by decide)
  have hE_0_4_2 : ∀ j : Int, w_ei w1 (w_ar ws (n_v vs 0) 4) j = w_ei w2 (w_ar ws (n_v vs 0) 4) j := el_kp s2.1 r17 cr_0_4 (by decide)
  have hK_0_4 := elq_81 hD hth cr_0_4
  have kz_0_8 := fdq_34 hD hth r0
  have kz_0_10 := fdq_43 hD hth r0
  have kz_0_11 := fdq_237 hD hth r0
  have kz_0_12 := fdq_187 hD hth r0
  have kz_0_13 := fdq_238 hD hth r0
  have kz_0_14 := fdq_188 hD hth r0
  have kz_0_15 := fdq_239 hD hth r0
  first | have hJ0 : w_ei w2 (w_ar ws (n_v vs 0) 2) ((w_fi w2 (n_v vs 0) 5 + 2)) = w_ei w2 (w_ar ws (n_v vs 0) 2) ((w_fi ws (n_v vs 0) 5 + 2)) := congrArg _ (show ((w_fi w2 (n_v vs 0) 5 + 2) : Int) = (w_fi ws (n_v vs 0) 5 + 2) from by omega) | skip
  first | have hI1 := (hE_0_2_1 ((w_fi ws (n_v vs 0) 5 + 2)) (by omega)).2 (by omega) | have hI1 := (hE_0_2_1 ((w_fi ws (n_v vs 0) 5 + 2)) (by omega)).1 (by omega) | skip
  first | have hI2 := (hE_0_2_2 ((w_fi ws (n_v vs 0) 5 + 2)) (by omega)).2 (by omega) | have hI2 := (hE_0_2_2 ((w_fi ws (n_v vs 0) 5 + 2)) (by omega)).1 (by omega) | skip
  first | have hI3 := (hE_0_2_1 ((w_fi ws (n_v vs 0) 5 + 1)) (by omega)).2 (by omega) | have hI3 := (hE_0_2_1 ((w_fi ws (n_v vs 0) 5 + 1)) (by omega)).1 (by omega) | skip
  first | have hI4 := (hE_0_2_2 ((w_fi ws (n_v vs 0) 5 + 1)) (by omega)).2 (by omega) | have hI4 := (hE_0_2_2 ((w_fi ws (n_v vs 0) 5 + 1)) (by omega)).1 (by omega) | skip
  have nf0 : fc_1 PRD (20, [4, 0], [30, -1, 1, 0, 0, -1, 1, 11]) ws (vs) := ⟨nf_in hl rfl, sgq_2005 (vc_Mo_met_at_g4_13_0 (v_iv (n_v vs 4)) (v_iv (n_v vs 9)) (v_iv (n_v vs 18)) (v_iv (n_v vs 21)) (v_iv (n_v vs 24)) (v_iv (n_v vs 27)) (w_fi ws (n_v vs 0) 15) (w_fi ws (n_v vs 0) 11) (w_fi ws (n_v vs 0) 5) (w_fi ws (n_v vs 0) 8) (w_fi ws (n_v vs 0) 12) (w_ei ws (w_ar ws (n_v vs 0) 1)) (w_fi ws (n_v vs 0) 10) (w_fi w1 (n_v vs 0) 15) (w_fi w1 (n_v vs 0) 11) (w_fi w1 (n_v vs 0) 12) (w_ei w1 (w_ar ws (n_v vs 0) 1)) (w_fi w1 (n_v vs 0) 10) (w_ei w2 (w_ar ws (n_v vs 0) 2)) (w_fi w2 (n_v vs 0) 5) (w_ei w2 (w_ar ws (n_v vs 0) 1)) (w_fi w2 (n_v vs 0) 11) (w_fi w2 (n_v vs 0) 10) (w_fi w2 (n_v vs 0) 15) (w_fi w2 (n_v vs 0) 12) (w_ei w2 (w_ar ws (n_v vs 0) 3)) (w_ei w2 (w_ar ws (n_v vs 0) 4)) (w_fi w2 (n_v vs 0) 13) (w_fi w2 (n_v vs 0) 14) (w_fi w2 (n_v vs 0) 8) (w_fi w1 (n_v vs 0) 5) (w_fi w1 (n_v vs 0) 8) (w_fi ws (n_v vs 0) 13) (w_fi w1 (n_v vs 0) 13) (w_fi ws (n_v vs 0) 14) (w_fi w1 (n_v vs 0) 14) (w_ei ws (w_ar ws (n_v vs 0) 2)) (w_ei w1 (w_ar ws (n_v vs 0) 2)) (w_ei ws (w_ar ws (n_v vs 0) 3)) (w_ei w1 (w_ar ws (n_v vs 0) 3)) (w_ei ws (w_ar ws (n_v vs 0) 4)) (w_ei w1 (w_ar ws (n_v vs 0) 4)) k4 k9 k18 k21 k24 k27 f43 f45 f51 fe_0_5_1 fe_0_8_1 fe_0_10_1 fe_0_11_1 fe_0_12_1 fe_0_13_1 fe_0_14_1 fe_0_15_1 fe_0_5_2 fe_0_8_2 fe_0_10_2 fe_0_11_2 fe_0_12_2 fe_0_13_2 fe_0_14_2 fe_0_15_2 hE_0_1_1 hE_0_1_2 hE_0_2_1 hE_0_2_2 hE_0_3_1 hE_0_3_2 hE_0_4_1 hE_0_4_2 kz_0_8 kz_0_10 kz_0_11 kz_0_12 kz_0_13 kz_0_14 kz_0_15)⟩
  have nf1 : fc_1 PRD (20, [0], [50, 1, 0, 12, 1, 3, 2, 0, 12, 0, 1]) ws (vs) := ⟨nf_in hl rfl, sgq_1890 (vc_Mo_met_at_g4_13_1 (v_iv (n_v vs 4)) (v_iv (n_v vs 9)) (v_iv (n_v vs 18)) (v_iv (n_v vs 21)) (v_iv (n_v vs 24)) (v_iv (n_v vs 27)) (w_fi ws (n_v vs 0) 15) (w_fi ws (n_v vs 0) 11) (w_fi ws (n_v vs 0) 5) (w_fi ws (n_v vs 0) 8) (w_fi ws (n_v vs 0) 12) (w_ei ws (w_ar ws (n_v vs 0) 1)) (w_fi ws (n_v vs 0) 10) (w_fi w1 (n_v vs 0) 15) (w_fi w1 (n_v vs 0) 11) (w_fi w1 (n_v vs 0) 12) (w_ei w1 (w_ar ws (n_v vs 0) 1)) (w_fi w1 (n_v vs 0) 10) (w_ei w2 (w_ar ws (n_v vs 0) 2)) (w_fi w2 (n_v vs 0) 5) (w_ei w2 (w_ar ws (n_v vs 0) 1)) (w_fi w2 (n_v vs 0) 11) (w_fi w2 (n_v vs 0) 10) (w_fi w2 (n_v vs 0) 15) (w_fi w2 (n_v vs 0) 12) (w_ei w2 (w_ar ws (n_v vs 0) 3)) (w_ei w2 (w_ar ws (n_v vs 0) 4)) (w_fi w2 (n_v vs 0) 13) (w_fi w2 (n_v vs 0) 14) (w_fi w2 (n_v vs 0) 8) (w_fi w1 (n_v vs 0) 5) (w_fi w1 (n_v vs 0) 8) (w_fi ws (n_v vs 0) 13) (w_fi w1 (n_v vs 0) 13) (w_fi ws (n_v vs 0) 14) (w_fi w1 (n_v vs 0) 14) (w_ei ws (w_ar ws (n_v vs 0) 2)) (w_ei w1 (w_ar ws (n_v vs 0) 2)) (w_ei ws (w_ar ws (n_v vs 0) 3)) (w_ei w1 (w_ar ws (n_v vs 0) 3)) (w_ei ws (w_ar ws (n_v vs 0) 4)) (w_ei w1 (w_ar ws (n_v vs 0) 4)) k4 k9 k18 k21 k24 k27 f43 f45 f51 fe_0_5_1 fe_0_8_1 fe_0_10_1 fe_0_11_1 fe_0_12_1 fe_0_13_1 fe_0_14_1 fe_0_15_1 fe_0_5_2 fe_0_8_2 fe_0_10_2 fe_0_11_2 fe_0_12_2 fe_0_13_2 fe_0_14_2 fe_0_15_2 hE_0_1_1 hE_0_1_2 hE_0_2_1 hE_0_2_2 hE_0_3_1 hE_0_3_2 hE_0_4_1 hE_0_4_2 kz_0_8 kz_0_10 kz_0_11 kz_0_12 kz_0_13 kz_0_14 kz_0_15)⟩
  have nf2 : fc_1 PRD (20, [2, 0], [50, 1, 1, 1005, 1002, 3, 6, 0, 2, 1, 0, 0, -1, 0, 10, 3, 1, 2, 4, 3, 2, 1, 5, 0, 1, 0, 47]) ws (vs) := ⟨nf_in hl rfl, sgq_2114 (vc_Mo_met_at_g4_13_2 (v_iv (n_v vs 2)) (v_iv (n_v vs 12)) (v_iv (n_v vs 14)) (v_iv (n_v vs 16)) (v_iv (n_v vs 18)) (v_iv (n_v vs 21)) (v_iv (n_v vs 23)) (v_iv (n_v vs 24)) (v_iv (n_v vs 27)) (w_fi ws (n_v vs 0) 15) (w_fi ws (n_v vs 0) 11) (w_fi ws (n_v vs 0) 5) (w_fi ws (n_v vs 0) 8) (w_fi ws (n_v vs 0) 12) (w_ei ws (w_ar ws (n_v vs 0) 1)) (w_fi ws (n_v vs 0) 10) (w_fi w1 (n_v vs 0) 15) (w_fi w1 (n_v vs 0) 11) (w_fi w1 (n_v vs 0) 12) (w_ei w1 (w_ar ws (n_v vs 0) 1)) (w_fi w1 (n_v vs 0) 10) (w_ei w2 (w_ar ws (n_v vs 0) 2)) (w_fi w2 (n_v vs 0) 5) (w_ei w2 (w_ar ws (n_v vs 0) 1)) (w_fi w2 (n_v vs 0) 11) (w_fi w2 (n_v vs 0) 10) (w_fi w2 (n_v vs 0) 15) (w_fi w2 (n_v vs 0) 12) (w_ei w2 (w_ar ws (n_v vs 0) 3)) (w_ei w2 (w_ar ws (n_v vs 0) 4)) (w_fi w2 (n_v vs 0) 13) (w_fi w2 (n_v vs 0) 14) (w_fi w2 (n_v vs 0) 8) (w_fi w1 (n_v vs 0) 5) (w_fi w1 (n_v vs 0) 8) (w_fi ws (n_v vs 0) 13) (w_fi w1 (n_v vs 0) 13) (w_fi ws (n_v vs 0) 14) (w_fi w1 (n_v vs 0) 14) (w_ei ws (w_ar ws (n_v vs 0) 2)) (w_ei w1 (w_ar ws (n_v vs 0) 2)) (w_ei ws (w_ar ws (n_v vs 0) 3)) (w_ei w1 (w_ar ws (n_v vs 0) 3)) (w_ei ws (w_ar ws (n_v vs 0) 4)) (w_ei w1 (w_ar ws (n_v vs 0) 4)) k2 k12 k14 k16 k18 k21 k23 k24 k27 d1 d4 g2 f14 f26 f27 f31 f32 f35 f36 fe_0_5_1 fe_0_8_1 fe_0_10_1 fe_0_11_1 fe_0_12_1 fe_0_13_1 fe_0_14_1 fe_0_15_1 fe_0_5_2 fe_0_8_2 fe_0_10_2 fe_0_11_2 fe_0_12_2 fe_0_13_2 fe_0_14_2 fe_0_15_2 hE_0_1_1 hE_0_1_2 hE_0_2_1 hE_0_2_2 hE_0_3_1 hE_0_3_2 hE_0_4_1 hE_0_4_2 kz_0_8 kz_0_10 kz_0_11 kz_0_12 kz_0_13 kz_0_14 kz_0_15)⟩
  have nf3 : fc_1 PRD (20, [1, 0], [50, 1, 1, 1005, 1002, 0, 6, 4, 2, 1, 0, 0, 1, 3, 1, 2, 4, 3, 2, 1, 5, 0, 2]) ws (vs) := ⟨nf_in hl rfl, sgq_1009 (vc_Mo_met_at_g4_13_3 (v_iv (n_v vs 1)) (v_iv (n_v vs 12)) (v_iv (n_v vs 16)) (v_iv (n_v vs 18)) (v_iv (n_v vs 21)) (v_iv (n_v vs 23)) (v_iv (n_v vs 24)) (v_iv (n_v vs 27)) (w_fi ws (n_v vs 0) 15) (w_fi ws (n_v vs 0) 11) (w_fi ws (n_v vs 0) 5) (w_fi ws (n_v vs 0) 8) (w_fi ws (n_v vs 0) 12) (w_ei ws (w_ar ws (n_v vs 0) 1)) (w_fi ws (n_v vs 0) 10) (w_fi w1 (n_v vs 0) 15) (w_fi w1 (n_v vs 0) 11) (w_fi w1 (n_v vs 0) 12) (w_ei w1 (w_ar ws (n_v vs 0) 1)) (w_fi w1 (n_v vs 0) 10) (w_ei w2 (w_ar ws (n_v vs 0) 2)) (w_fi w2 (n_v vs 0) 5) (w_ei w2 (w_ar ws (n_v vs 0) 1)) (w_fi w2 (n_v vs 0) 11) (w_fi w2 (n_v vs 0) 10) (w_fi w2 (n_v vs 0) 15) (w_fi w2 (n_v vs 0) 12) (w_ei w2 (w_ar ws (n_v vs 0) 3)) (w_ei w2 (w_ar ws (n_v vs 0) 4)) (w_fi w2 (n_v vs 0) 13) (w_fi w2 (n_v vs 0) 14) (w_fi w2 (n_v vs 0) 8) (w_fi w1 (n_v vs 0) 5) (w_fi w1 (n_v vs 0) 8) (w_fi ws (n_v vs 0) 13) (w_fi w1 (n_v vs 0) 13) (w_fi ws (n_v vs 0) 14) (w_fi w1 (n_v vs 0) 14) (w_ei ws (w_ar ws (n_v vs 0) 2)) (w_ei w1 (w_ar ws (n_v vs 0) 2)) (w_ei ws (w_ar ws (n_v vs 0) 3)) (w_ei w1 (w_ar ws (n_v vs 0) 3)) (w_ei ws (w_ar ws (n_v vs 0) 4)) (w_ei w1 (w_ar ws (n_v vs 0) 4)) k1 k12 k16 k18 k21 k23 k24 k27 d1 d4 g2 f14 f26 f27 f35 f36 f46 fe_0_5_1 fe_0_8_1 fe_0_10_1 fe_0_11_1 fe_0_12_1 fe_0_13_1 fe_0_14_1 fe_0_15_1 fe_0_5_2 fe_0_8_2 fe_0_10_2 fe_0_11_2 fe_0_12_2 fe_0_13_2 fe_0_14_2 fe_0_15_2 hE_0_1_1 hE_0_1_2 hE_0_2_1 hE_0_2_2 hE_0_3_1 hE_0_3_2 hE_0_4_1 hE_0_4_2 kz_0_8 kz_0_10 kz_0_11 kz_0_12 kz_0_13 kz_0_14 kz_0_15)⟩
  have nf4 : fc_1 PRD (20, [0, 16], [60, 1, 3, 200, 5, 2, 3, 4]) ws (vs) := ⟨nf_in hl rfl, sgq_1803 (vc_Mo_met_at_g4_13_4 (v_iv (n_v vs 12)) (v_iv (n_v vs 16)) (v_iv (n_v vs 18)) (v_iv (n_v vs 19)) (v_iv (n_v vs 21)) (v_iv (n_v vs 23)) (v_iv (n_v vs 24)) (v_iv (n_v vs 27)) (w_fi ws (n_v vs 0) 15) (w_fi ws (n_v vs 0) 11) (w_fi ws (n_v vs 0) 5) (w_fi ws (n_v vs 0) 8) (w_fi ws (n_v vs 0) 12) (w_ei ws (w_ar ws (n_v vs 0) 1)) (w_fi ws (n_v vs 0) 10) (w_fi w1 (n_v vs 0) 15) (w_fi w1 (n_v vs 0) 11) (w_fi w1 (n_v vs 0) 12) (w_ei w1 (w_ar ws (n_v vs 0) 1)) (w_fi w1 (n_v vs 0) 10) (w_ei w2 (w_ar ws (n_v vs 0) 2)) (w_fi w2 (n_v vs 0) 5) (w_ei w2 (w_ar ws (n_v vs 0) 1)) (w_fi w2 (n_v vs 0) 11) (w_fi w2 (n_v vs 0) 10) (w_fi w2 (n_v vs 0) 15) (w_fi w2 (n_v vs 0) 12) (w_ei w2 (w_ar ws (n_v vs 0) 3)) (w_ei w2 (w_ar ws (n_v vs 0) 4)) (w_fi w2 (n_v vs 0) 13) (w_fi w2 (n_v vs 0) 14) (w_fi w2 (n_v vs 0) 8) (w_fi w1 (n_v vs 0) 5) (w_fi w1 (n_v vs 0) 8) (w_fi ws (n_v vs 0) 13) (w_fi w1 (n_v vs 0) 13) (w_fi ws (n_v vs 0) 14) (w_fi w1 (n_v vs 0) 14) (w_ei ws (w_ar ws (n_v vs 0) 2)) (w_ei w1 (w_ar ws (n_v vs 0) 2)) (w_ei ws (w_ar ws (n_v vs 0) 3)) (w_ei w1 (w_ar ws (n_v vs 0) 3)) (w_ei ws (w_ar ws (n_v vs 0) 4)) (w_ei w1 (w_ar ws (n_v vs 0) 4)) k12 k16 k18 k19 k21 k23 k24 k27 d4 d5 g2 f14 h25 f26 f27 f35 f36 f47 fe_0_5_1 fe_0_8_1 fe_0_10_1 fe_0_11_1 fe_0_12_1 fe_0_13_1 fe_0_14_1 fe_0_15_1 fe_0_5_2 fe_0_8_2 fe_0_10_2 fe_0_11_2 fe_0_12_2 fe_0_13_2 fe_0_14_2 fe_0_15_2 hE_0_1_1 hE_0_1_2 hE_0_2_1 hE_0_2_2 hE_0_3_1 hE_0_3_2 hE_0_4_1 hE_0_4_2 kz_0_8 kz_0_10 kz_0_11 kz_0_12 kz_0_13 kz_0_14 kz_0_15)⟩
  have nf5 : fc_1 PRD (20, [0, 2, 16], [60, 1, 1, 243, 5, 2]) ws (vs) := ⟨nf_in hl rfl, sgq_2115 (vc_Mo_met_at_g4_13_5 (v_iv (n_v vs 2)) (v_iv (n_v vs 12)) (v_iv (n_v vs 14)) (v_iv (n_v vs 16)) (v_iv (n_v vs 18)) (v_iv (n_v vs 19)) (v_iv (n_v vs 21)) (v_iv (n_v vs 23)) (v_iv (n_v vs 24)) (v_iv (n_v vs 27)) (w_fi ws (n_v vs 0) 15) (w_fi ws (n_v vs 0) 11) (w_fi ws (n_v vs 0) 5) (w_fi ws (n_v vs 0) 8) (w_fi ws (n_v vs 0) 12) (w_ei ws (w_ar ws (n_v vs 0) 1)) (w_fi ws (n_v vs 0) 10) (w_fi w1 (n_v vs 0) 15) (w_fi w1 (n_v vs 0) 11) (w_fi w1 (n_v vs 0) 12) (w_ei w1 (w_ar ws (n_v vs 0) 1)) (w_fi w1 (n_v vs 0) 10) (w_ei w2 (w_ar ws (n_v vs 0) 2)) (w_fi w2 (n_v vs 0) 5) (w_ei w2 (w_ar ws (n_v vs 0) 1)) (w_fi w2 (n_v vs 0) 11) (w_fi w2 (n_v vs 0) 10) (w_fi w2 (n_v vs 0) 15) (w_fi w2 (n_v vs 0) 12) (w_ei w2 (w_ar ws (n_v vs 0) 3)) (w_ei w2 (w_ar ws (n_v vs 0) 4)) (w_fi w2 (n_v vs 0) 13) (w_fi w2 (n_v vs 0) 14) (w_fi w2 (n_v vs 0) 8) (w_fi w1 (n_v vs 0) 5) (w_fi w1 (n_v vs 0) 8) (w_fi ws (n_v vs 0) 13) (w_fi w1 (n_v vs 0) 13) (w_fi ws (n_v vs 0) 14) (w_fi w1 (n_v vs 0) 14) (w_ei ws (w_ar ws (n_v vs 0) 2)) (w_ei w1 (w_ar ws (n_v vs 0) 2)) (w_ei ws (w_ar ws (n_v vs 0) 3)) (w_ei w1 (w_ar ws (n_v vs 0) 3)) (w_ei ws (w_ar ws (n_v vs 0) 4)) (w_ei w1 (w_ar ws (n_v vs 0) 4)) k2 k12 k14 k16 k18 k19 k21 k23 k24 k27 d1 d4 d5 g2 f14 h25 f26 f27 f31 f32 f35 f36 f47 f48 fe_0_5_1 fe_0_8_1 fe_0_10_1 fe_0_11_1 fe_0_12_1 fe_0_13_1 fe_0_14_1 fe_0_15_1 fe_0_5_2 fe_0_8_2 fe_0_10_2 fe_0_11_2 fe_0_12_2 fe_0_13_2 fe_0_14_2 fe_0_15_2 hE_0_1_1 hE_0_1_2 hE_0_2_1 hE_0_2_2 hE_0_3_1 hE_0_3_2 hE_0_4_1 hE_0_4_2 kz_0_8 kz_0_10 kz_0_11 kz_0_12 kz_0_13 kz_0_14 kz_0_15)⟩
  have nf6 : fc_1 PRD (20, [0, 16, 28, 2, 6, 7, 1, 5], [60, 8, 2, 1005, 10, 11, 12, 13, 14, 15, 8, 5, 1, 2]) ws (vs) := ⟨nf_in hl rfl, sgq_2127 (vc_Mo_met_at_g4_13_6 (v_iv (n_v vs 1)) (v_iv (n_v vs 2)) (v_iv (n_v vs 5)) (v_iv (n_v vs 6)) (v_iv (n_v vs 7)) (v_iv (n_v vs 8)) (v_iv (n_v vs 9)) (v_iv (n_v vs 10)) (v_iv (n_v vs 12)) (v_iv (n_v vs 14)) (v_iv (n_v vs 16)) (v_iv (n_v vs 18)) (v_iv (n_v vs 19)) (v_iv (n_v vs 21)) (v_iv (n_v vs 23)) (v_iv (n_v vs 24)) (v_iv (n_v vs 25)) (v_iv (n_v vs 26)) (v_iv (n_v vs 27)) (v_iv (n_v vs 28)) (w_fi ws (n_v vs 0) 15) (w_fi ws (n_v vs 0) 11) (w_fi ws (n_v vs 0) 5) (w_fi ws (n_v vs 0) 8) (w_fi ws (n_v vs 0) 12) (w_ei ws (w_ar ws (n_v vs 0) 1)) (w_fi ws (n_v vs 0) 10) (w_fi w1 (n_v vs 0) 15) (w_fi w1 (n_v vs 0) 11) (w_fi w1 (n_v vs 0) 12) (w_ei w1 (w_ar ws (n_v vs 0) 1)) (w_fi w1 (n_v vs 0) 10) (w_ei w2 (w_ar ws (n_v vs 0) 2)) (w_fi w2 (n_v vs 0) 5) (w_ei w2 (w_ar ws (n_v vs 0) 1)) (w_fi w2 (n_v vs 0) 11) (w_fi w2 (n_v vs 0) 10) (w_fi w2 (n_v vs 0) 15) (w_fi w2 (n_v vs 0) 12) (w_ei w2 (w_ar ws (n_v vs 0) 3)) (w_ei w2 (w_ar ws (n_v vs 0) 4)) (w_fi w2 (n_v vs 0) 13) (w_fi w2 (n_v vs 0) 14) (w_fi w2 (n_v vs 0) 8) (w_fi w1 (n_v vs 0) 5) (w_fi w1 (n_v vs 0) 8) (w_fi ws (n_v vs 0) 13) (w_fi w1 (n_v vs 0) 13) (w_fi ws (n_v vs 0) 14) (w_fi w1 (n_v vs 0) 14) (w_ei ws (w_ar ws (n_v vs 0) 2)) (w_ei w1 (w_ar ws (n_v vs 0) 2)) (w_ei ws (w_ar ws (n_v vs 0) 3)) (w_ei w1 (w_ar ws (n_v vs 0) 3)) (w_ei ws (w_ar ws (n_v vs 0) 4)) (w_ei w1 (w_ar ws (n_v vs 0) 4)) k1 k2 k5 k6 k7 k8 k9 k10 k12 k14 k16 k18 k19 k21 k23 k24 k25 k26 k27 k28 d4 d5 g0 g1 g2 g4 f13 f14 h25 f26 f27 f31 f32 f35 f36 f38 f40 f41 f49 f52 fe_0_5_1 fe_0_8_1 fe_0_10_1 fe_0_11_1 fe_0_12_1 fe_0_13_1 fe_0_14_1 fe_0_15_1 fe_0_5_2 fe_0_8_2 fe_0_10_2 fe_0_11_2 fe_0_12_2 fe_0_13_2 fe_0_14_2 fe_0_15_2 hE_0_1_1 hE_0_1_2 hE_0_2_1 hE_0_2_2 hE_0_3_1 hE_0_3_2 hE_0_4_1 hE_0_4_2 kz_0_8 kz_0_10 kz_0_11 kz_0_12 kz_0_13 kz_0_14 kz_0_15)⟩
  have nf7 : fc_1 PRD (24, [0, 0], []) ws (vs) := by
    refine ⟨nf_in hl rfl, sgq_1 ?_⟩
    · show n_v vs 0 = n_v vs 0
      first | rfl | simp only [true_and]
  have nf8 : fc_1 PRD (24, [1, 1], []) ws (vs) := by
    refine ⟨nf_in hl rfl, sgq_1 ?_⟩
    · show n_v vs 1 = n_v vs 1
      first | rfl | simp only [true_and]
  have nf9 : fc_1 PRD (24, [2, 2], []) ws (vs) := by
    refine ⟨nf_in hl rfl, sgq_1 ?_⟩
    · show n_v vs 2 = n_v vs 2
      first | rfl | simp only [true_and]
  refine ⟨(fun _ h => (by cases h)), [], trivial, ?_, (fun _ h => (by cases h))⟩
  rw [List.append_nil]
  exact List.forall_mem_cons.mpr ⟨⟨show (20 : Nat) < 100 from by decide, nf0⟩, List.forall_mem_cons.mpr ⟨⟨show (20 : Nat) < 100 from by decide, nf1⟩, List.forall_mem_cons.mpr ⟨⟨show (20 : Nat) < 100 from by decide, nf2⟩, List.forall_mem_cons.mpr ⟨⟨show (20 : Nat) < 100 from by decide, nf3⟩, List.forall_mem_cons.mpr ⟨⟨show (20 : Nat) < 100 from by decide, nf4⟩, List.forall_mem_cons.mpr ⟨⟨show (20 : Nat) < 100 from by decide, nf5⟩, List.forall_mem_cons.mpr ⟨⟨show (20 : Nat) < 100 from by decide, nf6⟩, List.forall_mem_cons.mpr ⟨⟨show (24 : Nat) < 100 from by decide, nf7⟩, List.forall_mem_cons.mpr ⟨⟨show (24 : Nat) < 100 from by decide, nf8⟩, List.forall_mem_cons.mpr ⟨⟨show (24 : Nat) < 100 from by decide, nf9⟩, (fun _ h => (by cases h))⟩⟩⟩⟩⟩⟩⟩⟩⟩⟩

set_option maxHeartbeats 4000000 in
theorem vc_Mo_met_at_g4_14_0 (x1 : Int) (x2 : Int) (x5 : Int) (x6 : Int) (x7 : Int) (x8 : Int) (x9 : Int) (x10 : Int) (x14 : Int) (x16 : Int) (x17 : Int) (fault_0 : Int) (place_0 : Int) (all_0 : Int → Int) (r_0 : Int) (tape_0 : Int → Int) (pos_0 : Int) (limit_0 : Int) (from_0 : Int) (kind_0 : Int) (value_0 : Int) (gx : Int) (k1 : 0 ≤ x1 ∧ x1 ≤ 7) (k2 : 0 ≤ x2 ∧ x2 ≤ 23) (k5 : 0 ≤ x5 ∧ x5 ≤ 4) (k6 : 0 ≤ x6 ∧ x6 ≤ 48) (k7 : 0 ≤ x7 ∧ x7 ≤ 1) (k8 : 0 ≤ x8 ∧ x8 ≤ 0) (k9 : 1 ≤ x9 ∧ x9 ≤ 1) (k10 : (-1) ≤ x10 ∧ x10 ≤ (-1)) (k14 : 48 ≤ x14 ∧ x14 ≤ 48) (k16 : 3 ≤ x16 ∧ x16 ≤ 3) (k17 : 0 ≤ x17 ∧ x17 ≤ 2000) (g0 : x8 = fault_0) (g1 : x17 = place_0) (f3 : 1 * x14 + ((-1) * all_0 (r_0 + 1) + 0) ≤ 0) (f4 : (-1) * x14 + (1 * all_0 (r_0 + 1) + 0) ≤ 0) (f10 : x10 < 0) (f12 : KNQ (pos_0) (limit_0) (from_0) (r_0) (all_0) (tape_0) (x10)) (f13 : x9 ≠ 0) (f21 : zRS4 (limit_0) (pos_0) (kind_0) (place_0) (value_0) (from_0) (fault_0) (r_0) (tape_0) (all_0) (x2) (x6) (x7) (x1) (x5)) (f24 : NMQ (kind_0) (pos_0) (limit_0) (from_0) (tape_0) (x9)) (kz_0_8 : 0 ≤ fault_0 ∧ fault_0 ≤ 5) (kz_0_10 : 0 ≤ limit_0 ∧ limit_0 ≤ 2000) (kz_0_11 : 0 ≤ pos_0 ∧ pos_0 ≤ 2000) (kz_0_12 : 0 ≤ kind_0 ∧ kind_0 ≤ 4) (kz_0_13 : 0 ≤ place_0 ∧ place_0 ≤ 2000) (kz_0_14 : (-49) ≤ value_0 ∧ value_0 ≤ 1048575) (kz_0_15 : 0 ≤ from_0 ∧ from_0 ≤ 2000) (ex2 : gx = fault_0) : FSX (limit_0) (tape_0) (x16) (x17) := by
  first | subst g0 | skip
  first | subst g1 | skip
  first | subst ex2 | skip
  first
    | exact fsx_cg (met_full0 ‹zRSE _ _ _ _ _ _ _ _ _ _ _ _› ‹NMQ _ _ _ _ _ _› (by omega) ‹KNQ _ _ _ _ _ _ _› (by omega) (by omega)) (by omega) (by omega)
    | exact fsx_cg (met_full1 ‹zRS1 _ _ _ _ _ _ _ _ _ _ _ _› ‹NMQ _ _ _ _ _ _› (by omega) ‹KNQ _ _ _ _ _ _ _› (by omega) (by omega)) (by omega) (by omega)
    | exact fsx_cg (met_full4 ‹zRS4 _ _ _ _ _ _ _ _ _ _ _ _ _ _ _› ‹NMQ _ _ _ _ _ _› (by omega) ‹KNQ _ _ _ _ _ _ _› (Or.inl (by omega)) (Or.inl ⟨by omega, by omega⟩)) (by omega) (by omega)
    | exact fsx_cg (met_full4 ‹zRS4 _ _ _ _ _ _ _ _ _ _ _ _ _ _ _› ‹NMQ _ _ _ _ _ _› (by omega) ‹KNQ _ _ _ _ _ _ _› (Or.inl (by omega)) (Or.inr (by omega))) (by omega) (by omega)
    | exact fsx_cg (met_full4 ‹zRS4 _ _ _ _ _ _ _ _ _ _ _ _ _ _ _› ‹NMQ _ _ _ _ _ _› (by omega) ‹KNQ _ _ _ _ _ _ _› (Or.inr ⟨by omega, _, by omega, ‹BT2 _ _ _ _ _›⟩) (Or.inr (by omega))) (by omega) (by omega)
    | (exfalso; omega)
set_option maxHeartbeats 4000000 in
theorem vc_Mo_met_at_g4_14_1 (x8 : Int) (fault_0 : Int) (r_0 : Int) (gx : Int) (k8 : 0 ≤ x8 ∧ x8 ≤ 0) (g0 : x8 = fault_0) (kz_0_8 : 0 ≤ fault_0 ∧ fault_0 ≤ 5) (ex2 : gx = fault_0) : 1 * fault_0 + ((-1) * gx + 0) ≤ 0 := by
  first
    | omega
    | (have q1 := (hE_0_2_1 (r_0 + 2) (by omega)).2 (by omega)
       have q2 := (hE_0_2_2 (r_0 + 2) (by omega)).2 (by omega)
       omega)
    | (have q1 := (hE_0_2_1 (r_0 + 1) (by omega)).2 (by omega)
       have q2 := (hE_0_2_2 (r_0 + 1) (by omega)).2 (by omega)
       omega)
    | (have q1 := (hE_0_2_1 (r_0 + 2) (by omega)).2 (by omega)
       omega)
    | (have q1 := (hE_0_2_1 (r_0 + 1) (by omega)).2 (by omega)
       omega)
    | (have q1 := (hE_0_2_1 (r_0 + 2) (by omega)).2 (by omega)
       have q2 := (hE_0_2_2 (r_0 + 2) (by omega)).2 (by omega)
       have q3 := (hE_0_2_3 (r_0 + 2) (by omega)).1 (by omega)
       omega)
    | (have q1 := (hE_0_2_1 (r_0 + 2) (by omega)).2 (by omega)
       have q2 := (hE_0_2_2 (r_0 + 2) (by omega)).2 (by omega)
       have q3 := (hE_0_2_3 (r_0 + 2) (by omega)).2 (by omega)
       omega)
set_option maxHeartbeats 4000000 in
theorem vc_Mo_met_at_g4_14_2 (x8 : Int) (fault_0 : Int) (r_0 : Int) (gx : Int) (k8 : 0 ≤ x8 ∧ x8 ≤ 0) (g0 : x8 = fault_0) (kz_0_8 : 0 ≤ fault_0 ∧ fault_0 ≤ 5) (ex2 : gx = fault_0) : (-1) * fault_0 + (1 * gx + 0) ≤ 0 := by
  first
    | omega
    | (have q1 := (hE_0_2_1 (r_0 + 2) (by omega)).2 (by omega)
       have q2 := (hE_0_2_2 (r_0 + 2) (by omega)).2 (by omega)
       omega)
    | (have q1 := (hE_0_2_1 (r_0 + 1) (by omega)).2 (by omega)
       have q2 := (hE_0_2_2 (r_0 + 1) (by omega)).2 (by omega)
       omega)
    | (have q1 := (hE_0_2_1 (r_0 + 2) (by omega)).2 (by omega)
       omega)
    | (have q1 := (hE_0_2_1 (r_0 + 1) (by omega)).2 (by omega)
       omega)
    | (have q1 := (hE_0_2_1 (r_0 + 2) (by omega)).2 (by omega)
       have q2 := (hE_0_2_2 (r_0 + 2) (by omega)).2 (by omega)
       have q3 := (hE_0_2_3 (r_0 + 2) (by omega)).1 (by omega)
       omega)
    | (have q1 := (hE_0_2_1 (r_0 + 2) (by omega)).2 (by omega)
       have q2 := (hE_0_2_2 (r_0 + 2) (by omega)).2 (by omega)
       have q3 := (hE_0_2_3 (r_0 + 2) (by omega)).2 (by omega)
       omega)
set_option maxHeartbeats 4000000 in
theorem vc_Mo_met_at_g4_14_3 (x8 : Int) (fault_0 : Int) (gx : Int) (k8 : 0 ≤ x8 ∧ x8 ≤ 0) (g0 : x8 = fault_0) (kz_0_8 : 0 ≤ fault_0 ∧ fault_0 ≤ 5) (ex2 : gx = fault_0) : ZH0 (gx) := by
  first
    | exact ⟨by omega, by omega, trivial⟩
    | (have h := (rsq_0 (‹zRSE _ _ _ _ _ _ _ _ _ _ _ _›).1.1).1; exact ⟨by omega, by omega, trivial⟩)
    | (have h := (rsq_0 ‹zRS1 _ _ _ _ _ _ _ _ _ _ _ _›).1; exact ⟨by omega, by omega, trivial⟩)
    | (have h := (rsq_0 ‹zRS4 _ _ _ _ _ _ _ _ _ _ _ _ _ _ _›).1; exact ⟨by omega, by omega, trivial⟩)
def o_Mo_met_at_g4_14 : or_T := (110, 18, [(0, (2, 0, 0, [165])), (1, (0, 0, 7, [])), (2, (0, 0, 23, [])), (5, (0, 0, 4, [])), (6, (0, 0, 48, [])), (7, (0, 0, 1, [])), (8, (0, 0, 0, [])), (9, (0, 1, 1, [])), (10, (0, -1, -1, [])), (14, (0, 48, 48, [])), (16, (0, 3, 3, [])), (17, (0, 0, 2000, []))], [(9, [8, 0], [8]), (9, [17, 0], [13]), (20, [14, 0], [30, 0, 1, 0, 0, -1, 3, 2005001]), (20, [14, 0], [30, 0, -1, 0, 0, 1, 3, 2005001]), (8, [10], [2]), (20, [0, 10], [60, 4, 2, 1031, 11, 10, 15, 5, 2, 1]), (8, [9], [1]), (20, [0, 2, 6, 7, 1, 5], [60, 8, 2, 993, 10, 11, 12, 13, 14, 15, 8, 5, 1, 2]), (20, [0, 9], [60, 4, 1, 962, 12, 11, 10, 15, 1])], [], [(0, 0, 5, [])], [(20, [0, 16, 17], [60, 1, 1, 1026, 10, 1]), (20, [0, 18], [30, 0, 1, 1, 8, -1, 0, 0]), (20, [0, 18], [30, 0, -1, 1, 8, 1, 0, 0]), (20, [18], [61, 0, 1029])], [], [])
theorem oo_Mo_met_at_g4_14 {kA : Nat → ClassId} : or_ok PRD kA GG o_Mo_met_at_g4_14 := by
  refine or_mk fun A ta ws vs hD hth hl => ?_
  intro t0 r0 t1 k1 t2 k2 t5 k5 t6 k6 t7 k7 t8 k8 t9 k9 t10 k10 t14 k14 t16 k16 t17 k17 f0 f1 f3 f4 f10 f12 f13 f21 f24
  replace f0 := shm_293 f0
  replace f1 := shm_361 f1
  replace f3 := shm_121 f3
  replace f4 := shm_122 f4
  replace f10 := shm_39 f10
  replace f12 := shm_1233 f12
  replace f13 := shm_142 f13
  replace f21 := shm_2126 f21
  replace f24 := shm_1889 f24
  have g0 : v_iv (n_v vs 8) = w_fi ws (n_v vs 0) 8 := congrArg v_iv f0
  have g1 : v_iv (n_v vs 17) = w_fi ws (n_v vs 0) 13 := congrArg v_iv f1
  have kz_0_8 := fdq_34 hD hth r0
  have kz_0_10 := fdq_43 hD hth r0
  have kz_0_11 := fdq_237 hD hth r0
  have kz_0_12 := fdq_187 hD hth r0
  have kz_0_13 := fdq_238 hD hth r0
  have kz_0_14 := fdq_188 hD hth r0
  have kz_0_15 := fdq_239 hD hth r0
  obtain ⟨x, ex, hx⟩ := iv_ex (ta := ta) (lo := 0) (hi := 5) (z := w_fi ws (n_v vs 0) 8) (by omega) (by omega) (by omega) (by omega)
  have ex2 : v_iv (Value.int x) = w_fi ws (n_v vs 0) 8 := ex
  have ex3 : 0 ≤ v_iv (Value.int x) ∧ v_iv (Value.int x) ≤ 5 := tv_rng hx
  have e_0 : n_v (vs ++ [Value.int x]) 0 = n_v vs 0 := n_v_old (by rw [hl]; decide)
  have e_16 : n_v (vs ++ [Value.int x]) 16 = n_v vs 16 := n_v_old (by rw [hl]; decide)
  have e_17 : n_v (vs ++ [Value.int x]) 17 = n_v vs 17 := n_v_old (by rw [hl]; decide)
  have e_18 : n_v (vs ++ [Value.int x]) 18 = Value.int x := n_v_new hl
  have nf0 : fc_1 PRD (20, [0, 16, 17], [60, 1, 1, 1026, 10, 1]) ws (vs ++ [Value.int x]) := by
    refine ⟨nf_inA hl rfl, sgq_1724 ?_⟩
    · show FSX (w_fi ws (n_v (vs ++ [Value.int x]) 0) 10) (w_ei ws (w_ar ws (n_v (vs ++ [Value.int x]) 0) 1)) (v_iv (n_v (vs ++ [Value.int x]) 16)) (v_iv (n_v (vs ++ [Value.int x]) 17))
      simp only [e_0, e_16, e_17]
      exact vc_Mo_met_at_g4_14_0 (v_iv (n_v vs 1)) (v_iv (n_v vs 2)) (v_iv (n_v vs 5)) (v_iv (n_v vs 6)) (v_iv (n_v vs 7)) (v_iv (n_v vs 8)) (v_iv (n_v vs 9)) (v_iv (n_v vs 10)) (v_iv (n_v vs 14)) (v_iv (n_v vs 16)) (v_iv (n_v vs 17)) (w_fi ws (n_v vs 0) 8) (w_fi ws (n_v vs 0) 13) (w_ei ws (w_ar ws (n_v vs 0) 2)) (w_fi ws (n_v vs 0) 5) (w_ei ws (w_ar ws (n_v vs 0) 1)) (w_fi ws (n_v vs 0) 11) (w_fi ws (n_v vs 0) 10) (w_fi ws (n_v vs 0) 15) (w_fi ws (n_v vs 0) 12) (w_fi ws (n_v vs 0) 14) (v_iv (Value.int x)) k1 k2 k5 k6 k7 k8 k9 k10 k14 k16 k17 g0 g1 f3 f4 f10 f12 f13 f21 f24 kz_0_8 kz_0_10 kz_0_11 kz_0_12 kz_0_13 kz_0_14 kz_0_15 ex2
  have nf1 : fc_1 PRD (20, [0, 18], [30, 0, 1, 1, 8, -1, 0, 0]) ws (vs ++ [Value.int x]) := by
    refine ⟨nf_inA hl rfl, sgq_303 ?_⟩
    · show 1 * w_fi ws (n_v (vs ++ [Value.int x]) 0) 8 + ((-1) * v_iv (n_v (vs ++ [Value.int x]) 18) + 0) ≤ 0
      simp only [e_0, e_18]
      exact vc_Mo_met_at_g4_14_1 (v_iv (n_v vs 8)) (w_fi ws (n_v vs 0) 8) (w_fi ws (n_v vs 0) 5) (v_iv (Value.int x)) k8 g0 kz_0_8 ex2
  have nf2 : fc_1 PRD (20, [0, 18], [30, 0, -1, 1, 8, 1, 0, 0]) ws (vs ++ [Value.int x]) := by
    refine ⟨nf_inA hl rfl, sgq_304 ?_⟩
    · show (-1) * w_fi ws (n_v (vs ++ [Value.int x]) 0) 8 + (1 * v_iv (n_v (vs ++ [Value.int x]) 18) + 0) ≤ 0
      simp only [e_0, e_18]
      exact vc_Mo_met_at_g4_14_2 (v_iv (n_v vs 8)) (w_fi ws (n_v vs 0) 8) (w_fi ws (n_v vs 0) 5) (v_iv (Value.int x)) k8 g0 kz_0_8 ex2
  have nf3 : fc_1 PRD (20, [18], [61, 0, 1029]) ws (vs ++ [Value.int x]) := by
    refine ⟨nf_inA hl rfl, sgq_1725 ?_⟩
    · show ZH0 (v_iv (n_v (vs ++ [Value.int x]) 18))
      rw [e_18]
      exact vc_Mo_met_at_g4_14_3 (v_iv (n_v vs 8)) (w_fi ws (n_v vs 0) 8) (v_iv (Value.int x)) k8 g0 kz_0_8 ex2
  exact ⟨(fun _ h => (by cases h)), [Value.int x], ag_one hx, List.forall_mem_cons.mpr ⟨⟨show (20 : Nat) < 100 from by decide, nf0⟩, List.forall_mem_cons.mpr ⟨⟨show (20 : Nat) < 100 from by decide, nf1⟩, List.forall_mem_cons.mpr ⟨⟨show (20 : Nat) < 100 from by decide, nf2⟩, List.forall_mem_cons.mpr ⟨⟨show (20 : Nat) < 100 from by decide, nf3⟩, (fun _ h => (by cases h))⟩⟩⟩⟩, (fun _ h => (by cases h))⟩
set_option maxHeartbeats 4000000 in
theorem vc_Mo_met_at_g4_15_r0 (x19 : Int) (x20 : Int) (r_0 : Int) (fault_0 : Int) (k19 : 0 ≤ x19 ∧ x19 ≤ 0) (k20 : 0 ≤ x20 ∧ x20 ≤ 24) (g5 : x19 = fault_0) (f24 : (-1) * fault_0 + 0 ≤ (-1)) (kz_0_8 : 0 ≤ fault_0 ∧ fault_0 ≤ 5) : 0 ≤ x20 ∧ x20 ≤ 23 := by
  first
    | omega
    | (have q1 := (hE_0_2_1 (r_0 + 2) (by omega)).2 (by omega)
       have q2 := (hE_0_2_2 (r_0 + 2) (by omega)).2 (by omega)
       omega)
    | (have q1 := (hE_0_2_1 (r_0 + 1) (by omega)).2 (by omega)
       have q2 := (hE_0_2_2 (r_0 + 1) (by omega)).2 (by omega)
       omega)
    | (have q1 := (hE_0_2_1 (r_0 + 2) (by omega)).2 (by omega)
       omega)
    | (have q1 := (hE_0_2_1 (r_0 + 1) (by omega)).2 (by omega)
       omega)
    | (have q1 := (hE_0_2_1 (r_0 + 2) (by omega)).2 (by omega)
       have q2 := (hE_0_2_2 (r_0 + 2) (by omega)).2 (by omega)
       have q3 := (hE_0_2_3 (r_0 + 2) (by omega)).1 (by omega)
       omega)
    | (have q1 := (hE_0_2_1 (r_0 + 2) (by omega)).2 (by omega)
       have q2 := (hE_0_2_2 (r_0 + 2) (by omega)).2 (by omega)
       have q3 := (hE_0_2_3 (r_0 + 2) (by omega)).2 (by omega)
       omega)
def o_Mo_met_at_g4_15 : or_T := (130, 21, [(0, (2, 0, 0, [165])), (1, (0, 0, 7, [])), (2, (0, 0, 23, [])), (3, (0, 0, 2000, [])), (4, (0, 0, 2000, [])), (9, (0, 1, 1, [])), (10, (0, -1, -1, [])), (12, (0, 0, 23, [])), (13, (0, 24, 24, [])), (14, (0, 48, 48, [])), (15, (0, 48, 48, [])), (16, (0, 3, 3, [])), (17, (0, 0, 2000, [])), (18, (0, 0, 5, [])), (19, (0, 0, 0, [])), (20, (0, 0, 24, []))], [(9, [17, 0], [13]), (20, [20, 0], [30, 0, 1, 0, 0, -1, 3, 2005000]), (20, [20, 0], [30, 0, -1, 0, 0, 1, 3, 2005000]), (8, [10], [2]), (8, [19], [5]), (9, [19, 0], [8]), (20, [0, 16, 17], [60, 1, 1, 1026, 10, 1]), (20, [18], [61, 0, 1029]), (20, [14, 0], [30, 0, 1, 0, 0, -1, 3, 2005001]), (20, [14, 0], [30, 0, -1, 0, 0, 1, 3, 2005001]), (20, [12, 0], [30, 0, 1, 0, 0, -1, 3, 2005000]), (20, [12, 0], [30, 0, -1, 0, 0, 1, 3, 2005000]), (20, [0, 10], [60, 1, 1, 207, 5, 2]), (20, [0, 10], [60, 4, 2, 1031, 11, 10, 15, 5, 2, 1]), (20, [0, 0], [30, 0, 1, 1, 15, -1, 1, 11]), (20, [0], [50, 3, 0, 12, 11, 15, 2, 21, 4, 7, 1, 3, 2, 0, 12, 0, 1, 0, 3, 2, 0, 11, 4, 3, 2, 0, 15, 0, 8, 3, 7, 1, 3, 2, 0, 12, 0, 0, 0, 7, 4, 3, 2, 0, 15, 0, 1, 2, 0, 11]), (20, [3, 0], [30, 0, 1, 0, 0, -1, 1, 11]), (20, [0, 4], [50, 2, 0, 12, 11, 3, 7, 1, 3, 2, 0, 12, 0, 0, 0, 6, 4, 2, 1, 1, 0, 1, 2, 0, 11]), (20, [1, 0], [50, 1, 1, 1005, 1002, 0, 6, 4, 2, 1, 0, 0, 1, 3, 1, 2, 4, 3, 2, 1, 5, 0, 2]), (20, [0], [60, 1, 3, 199, 5, 2, 3, 4]), (20, [0, 2], [60, 1, 1, 241, 5, 2]), (20, [2], [50, 0, 0, 0, 2, 0, 0, 1, 0]), (20, [9, 0], [50, 1, 0, 1012, 4, 6, 1, 2, 1, 0, 0, 1, 1, 3, 2, 1, 12, 0, 1]), (20, [0, 9], [60, 4, 1, 962, 12, 11, 10, 15, 1]), (20, [0], [30, -1, -1, 1, 8]), (20, [18, 0, 16, 17], [50, 2, 0, 1008, 1009, 3, 15, 2, 6, 0, 2, 0, 1, 1, 0, 1, 3, 2, 1, 8, 1, 0, 2, 6, 1, 2, 1, 0, 0, 0, 2, 7, 1, 3, 2, 1, 8, 1, 2, 1, 3, 2, 1, 9, 1, 3]), (102, [18], [0, 165008, 165009]), (7, [14, 15], [0]), (8, [2], [3]), (7, [12, 13], [1]), (8, [10], [2]), (8, [10], [2]), (8, [9], [1])], [(20, (0, 0, 23, []))], [], [], [], [])
theorem oo_Mo_met_at_g4_15 {kA : Nat → ClassId} : or_ok PRD kA GG o_Mo_met_at_g4_15 := by
  refine or_mk fun A ta ws vs hD hth hl => ?_
  intro t0 r0 t1 k1 t2 k2 t3 k3 t4 k4 t9 k9 t10 k10 t12 k12 t13 k13 t14 k14 t15 k15 t16 k16 t17 k17 t18 k18 t19 k19 t20 k20 f0 f1 f2 f3 f4 f5 f6 f7 f8 f9 f10 f11 f12 f13 f14 f15 f16 f17 f18 f19 f20 f21 f22 f23 f24 f25 ta1 w1 le1 s1 f27 f28 f29 f30 f31 f32
  replace f5 := shm_293 f5
  have g5 : v_iv (n_v vs 19) = w_fi ws (n_v vs 0) 8 := congrArg v_iv f5
  have kz_0_8 := fdq_34 hD hth r0
  have hrf0 : 0 ≤ v_iv (n_v vs 20) ∧ v_iv (n_v vs 20) ≤ 23 := vc_Mo_met_at_g4_15_r0 (v_iv (n_v vs 19)) (v_iv (n_v vs 20)) (w_fi ws (n_v vs 0) 5) (w_fi ws (n_v vs 0) 8) k19 k20 g5 (shm_305 f24) kz_0_8
  have rf20 : tv_ok ta (0, 0, 23, []) (n_v vs 20) := tv_in t20 (by first | omega | grind) (by first | omega | grind)
  refine ⟨List.forall_mem_cons.mpr ⟨rf20, (fun _ h => (by cases h))⟩, [], trivial, ?_, (fun _ h => (by cases h))⟩
  rw [List.append_nil]
  exact (fun _ h => (by cases h))
set_option maxHeartbeats 4000000 in
theorem vc_Mo_met_at_g4_16_r0 (x17 : Int) (x19 : Int) (x22 : Int) (x25 : Int) (place_0 : Int) (r_0 : Int) (fault_0 : Int) (k17 : 0 ≤ x17 ∧ x17 ≤ 2000) (k19 : 0 ≤ x19 ∧ x19 ≤ 0) (k22 : 0 ≤ x22 ∧ x22 ≤ 66297) (k25 : 1 ≤ x25 ∧ x25 ≤ 25) (g0 : x17 = place_0) (g3 : x22 = r_0) (g9 : x19 = fault_0) (f28 : (-1) * fault_0 + 0 ≤ (-1)) (kz_0_8 : 0 ≤ fault_0 ∧ fault_0 ≤ 5) (kz_0_13 : 0 ≤ place_0 ∧ place_0 ≤ 2000) : 1 ≤ x25 ∧ x25 ≤ 24 := by
  first | subst g0 | skip
  first | subst g3 | skip
  first | subst g9 | skip
  try simp only [Int.add_zero] at *
  omega
def o_Mo_met_at_g4_16 : or_T := (143, 26, [(0, (2, 0, 0, [165])), (1, (0, 0, 7, [])), (2, (0, 0, 23, [])), (3, (0, 0, 2000, [])), (4, (0, 0, 2000, [])), (9, (0, 1, 1, [])), (10, (0, -1, -1, [])), (12, (0, 0, 23, [])), (13, (0, 24, 24, [])), (14, (0, 48, 48, [])), (15, (0, 48, 48, [])), (16, (0, 3, 3, [])), (17, (0, 0, 2000, [])), (18, (0, 0, 5, [])), (19, (0, 0, 0, [])), (20, (0, 0, 23, [])), (21, (2, 0, 0, [167])), (22, (0, 0, 66297, [])), (23, (0, 0, 24, [])), (24, (0, 1, 1, [])), (25, (0, 1, 25, []))], [(9, [17, 0], [13]), (1, [25, 23, 24], []), (10, [23, 21, 22], []), (9, [22, 0], [5]), (9, [21, 0], [2]), (20, [20, 0], [30, 0, 1, 0, 0, -1, 3, 2005000]), (20, [20, 0], [30, 0, -1, 0, 0, 1, 3, 2005000]), (8, [10], [2]), (8, [19], [5]), (9, [19, 0], [8]), (20, [0, 16, 17], [60, 1, 1, 1026, 10, 1]), (20, [18], [61, 0, 1029]), (20, [14, 0], [30, 0, 1, 0, 0, -1, 3, 2005001]), (20, [14, 0], [30, 0, -1, 0, 0, 1, 3, 2005001]), (20, [12, 0], [30, 0, 1, 0, 0, -1, 3, 2005000]), (20, [12, 0], [30, 0, -1, 0, 0, 1, 3, 2005000]), (20, [0, 10], [60, 1, 1, 207, 5, 2]), (20, [0, 10], [60, 4, 2, 1031, 11, 10, 15, 5, 2, 1]), (20, [0, 0], [30, 0, 1, 1, 15, -1, 1, 11]), (20, [0], [50, 3, 0, 12, 11, 15, 2, 21, 4, 7, 1, 3, 2, 0, 12, 0, 1, 0, 3, 2, 0, 11, 4, 3, 2, 0, 15, 0, 8, 3, 7, 1, 3, 2, 0, 12, 0, 0, 0, 7, 4, 3, 2, 0, 15, 0, 1, 2, 0, 11]), (20, [3, 0], [30, 0, 1, 0, 0, -1, 1, 11]), (20, [0, 4], [50, 2, 0, 12, 11, 3, 7, 1, 3, 2, 0, 12, 0, 0, 0, 6, 4, 2, 1, 1, 0, 1, 2, 0, 11]), (20, [1, 0], [50, 1, 1, 1005, 1002, 0, 6, 4, 2, 1, 0, 0, 1, 3, 1, 2, 4, 3, 2, 1, 5, 0, 2]), (20, [0], [60, 1, 3, 199, 5, 2, 3, 4]), (20, [0, 2], [60, 1, 1, 241, 5, 2]), (20, [2], [50, 0, 0, 0, 2, 0, 0, 1, 0]), (20, [9, 0], [50, 1, 0, 1012, 4, 6, 1, 2, 1, 0, 0, 1, 1, 3, 2, 1, 12, 0, 1]), (20, [0, 9], [60, 4, 1, 962, 12, 11, 10, 15, 1]), (20, [0], [30, -1, -1, 1, 8]), (20, [18, 0, 16, 17], [50, 2, 0, 1008, 1009, 3, 15, 2, 6, 0, 2, 0, 1, 1, 0, 1, 3, 2, 1, 8, 1, 0, 2, 6, 1, 2, 1, 0, 0, 0, 2, 7, 1, 3, 2, 1, 8, 1, 2, 1, 3, 2, 1, 9, 1, 3]), (102, [18], [0, 165008, 165009]), (7, [14, 15], [0]), (8, [2], [3]), (7, [12, 13], [1]), (8, [10], [2]), (8, [10], [2]), (8, [9], [1])], [(25, (0, 1, 24, []))], [], [], [], [(25, 23, 1, 1)])
theorem oo_Mo_met_at_g4_16 {kA : Nat → ClassId} : or_ok PRD kA GG o_Mo_met_at_g4_16 := by
  refine or_mk fun A ta ws vs hD hth hl => ?_
  intro t0 r0 t1 k1 t2 k2 t3 k3 t4 k4 t9 k9 t10 k10 t12 k12 t13 k13 t14 k14 t15 k15 t16 k16 t17 k17 t18 k18 t19 k19 t20 k20 t21 r21 t22 k22 t23 k23 t24 k24 t25 k25 d0 f0 f1 f2 f3 f4 f5 f6 f7 f8 f9 f10 f11 f12 f13 f14 f15 f16 f17 f18 f19 f20 f21 f22 f23 f24 f25 f26 f27 f28 f29 ta1 w1 le1 s1 f31 f32 f33 f34 f35 f36
  replace f0 := shm_361 f0
  replace f3 := shm_110 f3
  replace f9 := shm_293 f9
  have g0 : v_iv (n_v vs 17) = w_fi ws (n_v vs 0) 13 := congrArg v_iv f0
  have g3 : v_iv (n_v vs 22) = w_fi ws (n_v vs 0) 5 := congrArg v_iv f3
  have g9 : v_iv (n_v vs 19) = w_fi ws (n_v vs 0) 8 := congrArg v_iv f9
  have kz_0_8 := fdq_34 hD hth r0
  have kz_0_13 := fdq_238 hD hth r0
  have hrf0 : 1 ≤ v_iv (n_v vs 25) ∧ v_iv (n_v vs 25) ≤ 24 := vc_Mo_met_at_g4_16_r0 (v_iv (n_v vs 17)) (v_iv (n_v vs 19)) (v_iv (n_v vs 22)) (v_iv (n_v vs 25)) (w_fi ws (n_v vs 0) 13) (w_fi ws (n_v vs 0) 5) (w_fi ws (n_v vs 0) 8) k17 k19 k22 k25 g0 g3 g9 (shm_305 f28) kz_0_8 kz_0_13
  have rf25 : tv_ok ta (0, 1, 24, []) (n_v vs 25) := tv_in t25 (by first | omega | grind) (by first | omega | grind)
  refine ⟨List.forall_mem_cons.mpr ⟨rf25, (fun _ h => (by cases h))⟩, [], trivial, ?_, (fun _ h => (by cases h))⟩
  rw [List.append_nil]
  exact (fun _ h => (by cases h))
set_option maxHeartbeats 4000000 in
theorem vc_Mo_met_at_g4_17_r0 (x19 : Int) (x22 : Int) (x25 : Int) (x31 : Int) (fault_0 : Int) (from_0 : Int) (pos_0 : Int) (r_0 : Int) (tape_0 : Int → Int) (limit_0 : Int) (kind_0 : Int) (faultPlace_0 : Int) (all_1 : Int → Int) (tape_1 : Int → Int) (limit_1 : Int) (r_1 : Int) (pos_1 : Int) (from_1 : Int) (kind_1 : Int) (now_1 : Int → Int) (latest_1 : Int → Int) (fault_1 : Int) (faultPlace_1 : Int) (all_0 : Int → Int) (now_0 : Int → Int) (latest_0 : Int → Int) (k19 : 0 ≤ x19 ∧ x19 ≤ 0) (k22 : 0 ≤ x22 ∧ x22 ≤ 66297) (k25 : 1 ≤ x25 ∧ x25 ≤ 24) (k31 : (-2000) ≤ x31 ∧ x31 ≤ 2000) (g0 : x19 = fault_0) (f18 : (-1) * fault_0 + 0 ≤ (-1)) (fe_0_5_1 : r_0 = r_1) (fe_0_8_1 : fault_0 = fault_1) (fe_0_9_1 : faultPlace_0 = faultPlace_1) (fe_0_10_1 : limit_0 = limit_1) (fe_0_11_1 : pos_0 = pos_1) (fe_0_12_1 : kind_0 = kind_1) (fe_0_15_1 : from_0 = from_1) (hE_0_1_1 : ∀ j : Int, tape_0 j = tape_1 j) (hE_0_2_1 : ∀ j : Int, 0 ≤ j → (j = x22 → all_0 j = x25) ∧ (j ≠ x22 → all_0 j = all_1 j)) (hE_0_3_1 : ∀ j : Int, now_0 j = now_1 j) (hE_0_4_1 : ∀ j : Int, latest_0 j = latest_1 j) (kz_0_8 : 0 ≤ fault_0 ∧ fault_0 ≤ 5) (kz_0_9 : 0 ≤ faultPlace_0 ∧ faultPlace_0 ≤ 2000) (kz_0_10 : 0 ≤ limit_0 ∧ limit_0 ≤ 2000) (kz_0_11 : 0 ≤ pos_0 ∧ pos_0 ≤ 2000) (kz_0_12 : 0 ≤ kind_0 ∧ kind_0 ≤ 4) (kz_0_15 : 0 ≤ from_0 ∧ from_0 ≤ 2000) : 0 ≤ x31 ∧ x31 ≤ 8 := by
  subst fe_0_5_1
  subst fe_0_8_1
  subst fe_0_9_1
  subst fe_0_10_1
  subst fe_0_11_1
  subst fe_0_12_1
  subst fe_0_15_1
  have e_hE_0_1_1 := funext hE_0_1_1; subst e_hE_0_1_1
  have e_hE_0_3_1 := funext hE_0_3_1; subst e_hE_0_3_1
  have e_hE_0_4_1 := funext hE_0_4_1; subst e_hE_0_4_1
  first
    | omega
    | (have q1 := (hE_0_2_1 (r_0 + 2) (by omega)).2 (by omega)
       have q2 := (hE_0_2_2 (r_0 + 2) (by omega)).2 (by omega)
       omega)
    | (have q1 := (hE_0_2_1 (r_0 + 1) (by omega)).2 (by omega)
       have q2 := (hE_0_2_2 (r_0 + 1) (by omega)).2 (by omega)
       omega)
    | (have q1 := (hE_0_2_1 (r_0 + 2) (by omega)).2 (by omega)
       omega)
    | (have q1 := (hE_0_2_1 (r_0 + 1) (by omega)).2 (by omega)
       omega)
    | (have q1 := (hE_0_2_1 (r_0 + 2) (by omega)).2 (by omega)
       have q2 := (hE_0_2_2 (r_0 + 2) (by omega)).2 (by omega)
       have q3 := (hE_0_2_3 (r_0 + 2) (by omega)).1 (by omega)
       omega)
    | (have q1 := (hE_0_2_1 (r_0 + 2) (by omega)).2 (by omega)
       have q2 := (hE_0_2_2 (r_0 + 2) (by omega)).2 (by omega)
       have q3 := (hE_0_2_3 (r_0 + 2) (by omega)).2 (by omega)
       omega)
def o_Mo_met_at_g4_17 : or_T := (167, 32, [(0, (2, 0, 0, [165])), (1, (0, 0, 7, [])), (2, (0, 0, 23, [])), (3, (0, 0, 2000, [])), (4, (0, 0, 2000, [])), (9, (0, 1, 1, [])), (10, (0, -1, -1, [])), (12, (0, 0, 23, [])), (13, (0, 24, 24, [])), (14, (0, 48, 48, [])), (15, (0, 48, 48, [])), (16, (0, 3, 3, [])), (17, (0, 0, 2000, [])), (18, (0, 0, 5, [])), (19, (0, 0, 0, [])), (20, (0, 0, 23, [])), (21, (2, 0, 0, [167])), (22, (0, 0, 66297, [])), (23, (0, 0, 24, [])), (24, (0, 1, 1, [])), (25, (0, 1, 24, [])), (26, (0, 195, 195, [])), (27, (0, 195, 66492, [])), (28, (0, 195, 66515, [])), (29, (0, 0, 2000, [])), (30, (0, 0, 2000, [])), (31, (0, -2000, 2000, []))], [(9, [19, 0], [8]), (9, [17, 0], [13]), (2, [31, 29, 30], []), (9, [30, 0], [15]), (9, [29, 0], [11]), (1, [28, 27, 20], []), (1, [27, 22, 26], []), (9, [22, 0], [5]), (9, [21, 0], [2]), (20, [0, 16, 17], [60, 1, 1, 1026, 10, 1]), (20, [18], [61, 0, 1029]), (20, [0, 0], [30, 0, 1, 1, 15, -1, 1, 11]), (20, [0], [50, 3, 0, 12, 11, 15, 2, 21, 4, 7, 1, 3, 2, 0, 12, 0, 1, 0, 3, 2, 0, 11, 4, 3, 2, 0, 15, 0, 8, 3, 7, 1, 3, 2, 0, 12, 0, 0, 0, 7, 4, 3, 2, 0, 15, 0, 1, 2, 0, 11]), (20, [3, 0], [30, 0, 1, 0, 0, -1, 1, 11]), (20, [0, 4], [50, 2, 0, 12, 11, 3, 7, 1, 3, 2, 0, 12, 0, 0, 0, 6, 4, 2, 1, 1, 0, 1, 2, 0, 11]), (20, [2], [50, 0, 0, 0, 2, 0, 0, 1, 0]), (20, [9, 0], [50, 1, 0, 1012, 4, 6, 1, 2, 1, 0, 0, 1, 1, 3, 2, 1, 12, 0, 1]), (20, [0, 9], [60, 4, 1, 962, 12, 11, 10, 15, 1]), (20, [0], [30, -1, -1, 1, 8]), (20, [18, 0, 16, 17], [50, 2, 0, 1008, 1009, 3, 15, 2, 6, 0, 2, 0, 1, 1, 0, 1, 3, 2, 1, 8, 1, 0, 2, 6, 1, 2, 1, 0, 0, 0, 2, 7, 1, 3, 2, 1, 8, 1, 2, 1, 3, 2, 1, 9, 1, 3]), (100, [21, 22, 25], []), (1, [25, 23, 24], []), (10, [23, 21, 22], []), (20, [20, 0], [30, 0, 1, 0, 0, -1, 3, 2005000]), (20, [20, 0], [30, 0, -1, 0, 0, 1, 3, 2005000]), (8, [10], [2]), (8, [19], [5]), (20, [0, 16, 17], [60, 1, 1, 1026, 10, 1]), (20, [18], [61, 0, 1029]), (20, [14, 0], [30, 0, 1, 0, 0, -1, 3, 2005001]), (20, [14, 0], [30, 0, -1, 0, 0, 1, 3, 2005001]), (20, [12, 0], [30, 0, 1, 0, 0, -1, 3, 2005000]), (20, [12, 0], [30, 0, -1, 0, 0, 1, 3, 2005000]), (20, [0, 10], [60, 1, 1, 207, 5, 2]), (20, [0, 10], [60, 4, 2, 1031, 11, 10, 15, 5, 2, 1]), (20, [0, 0], [30, 0, 1, 1, 15, -1, 1, 11]), (20, [0], [50, 3, 0, 12, 11, 15, 2, 21, 4, 7, 1, 3, 2, 0, 12, 0, 1, 0, 3, 2, 0, 11, 4, 3, 2, 0, 15, 0, 8, 3, 7, 1, 3, 2, 0, 12, 0, 0, 0, 7, 4, 3, 2, 0, 15, 0, 1, 2, 0, 11]), (20, [3, 0], [30, 0, 1, 0, 0, -1, 1, 11]), (20, [0, 4], [50, 2, 0, 12, 11, 3, 7, 1, 3, 2, 0, 12, 0, 0, 0, 6, 4, 2, 1, 1, 0, 1, 2, 0, 11]), (20, [1, 0], [50, 1, 1, 1005, 1002, 0, 6, 4, 2, 1, 0, 0, 1, 3, 1, 2, 4, 3, 2, 1, 5, 0, 2]), (20, [0], [60, 1, 3, 199, 5, 2, 3, 4]), (20, [0, 2], [60, 1, 1, 241, 5, 2]), (20, [2], [50, 0, 0, 0, 2, 0, 0, 1, 0]), (20, [9, 0], [50, 1, 0, 1012, 4, 6, 1, 2, 1, 0, 0, 1, 1, 3, 2, 1, 12, 0, 1]), (20, [0, 9], [60, 4, 1, 962, 12, 11, 10, 15, 1]), (20, [0], [30, -1, -1, 1, 8]), (20, [18, 0, 16, 17], [50, 2, 0, 1008, 1009, 3, 15, 2, 6, 0, 2, 0, 1, 1, 0, 1, 3, 2, 1, 8, 1, 0, 2, 6, 1, 2, 1, 0, 0, 0, 2, 7, 1, 3, 2, 1, 8, 1, 2, 1, 3, 2, 1, 9, 1, 3]), (102, [18], [0, 165008, 165009]), (7, [14, 15], [0]), (8, [2], [3]), (7, [12, 13], [1]), (8, [10], [2]), (8, [10], [2]), (8, [9], [1])], [(31, (0, 0, 8, []))], [], [], [], [(31, 29, -2000, 0), (28, 20, 195, 66492), (28, 27, 0, 23), (28, 22, 195, 218), (27, 22, 195, 195), (25, 23, 1, 1)])
theorem oo_Mo_met_at_g4_17 {kA : Nat → ClassId} : or_ok PRD kA GG o_Mo_met_at_g4_17 := by
  refine or_mk fun A ta ws vs hD hth hl => ?_
  intro t0 r0 t1 k1 t2 k2 t3 k3 t4 k4 t9 k9 t10 k10 t12 k12 t13 k13 t14 k14 t15 k15 t16 k16 t17 k17 t18 k18 t19 k19 t20 k20 t21 r21 t22 k22 t23 k23 t24 k24 t25 k25 t26 k26 t27 k27 t28 k28 t29 k29 t30 k30 t31 k31 d0 d1 d2 d3 d4 d5 f0 f1 f2 f3 f4 f5 f6 f7 f8 f9 f10 f11 f12 f13 f14 f15 f16 f17 f18 f19 ta1 w1 le1 s1 f21 f22 f23 f24 f25 f26 f27 f28 f29 f30 f31 f32 f33 f34 f35 f36 f37 f38 f39 f40 f41 f42 f43 f44 f45 f46 ta2 w2 le2 s2 f48 f49 f50 f51 f52 f53
  replace f0 := shm_293 f0
  replace f1 := shm_361 f1
  replace f2 := shm_14 f2
  replace f3 := shm_177 f3
  replace f4 := shm_116 f4
  replace f5 := shm_12 f5
  replace f6 := shm_12 f6
  replace f7 := shm_110 f7
  replace f8 := shm_120 f8
  replace f9 := shm_1724 f9
  replace f10 := shm_1725 f10
  replace f11 := shm_1437 f11
  replace f12 := shm_1438 f12
  replace f13 := shm_1431 f13
  replace f14 := shm_2111 f14
  replace f15 := shm_722 f15
  replace f16 := shm_1856 f16
  replace f17 := shm_1889 f17
  replace f18 := shm_305 f18
  replace f19 := shm_306 f19
  have s1 : (∀ b j, w_el ws b j = if b = v_ad (n_v vs 21) ∧ j = (v_iv (n_v vs 22)).toNat then v_iv (n_v vs 25) else w_el w1 b j) ∧ ∀ b k, w_fd ws b k = w_fd w1 b k := s1.2
  replace f21 := shm_12 f21
  replace f22 := shm_107 f22
  replace f23 := shm_126 f23
  replace f24 := shm_127 f24
  replace f25 := shm_39 f25
  replace f26 := shm_295 f26
  replace f27 := shm_1724 f27
  replace f28 := shm_1725 f28
  replace f29 := shm_121 f29
  replace f30 := shm_122 f30
  replace f31 := shm_126 f31
  replace f32 := shm_127 f32
  replace f33 := shm_1232 f33
  replace f34 := shm_1233 f34
  replace f35 := shm_1437 f35
  replace f36 := shm_1438 f36
  replace f37 := shm_1431 f37
  replace f38 := shm_2111 f38
  replace f39 := shm_1009 f39
  replace f40 := shm_980 f40
  replace f41 := shm_2112 f41
  replace f42 := shm_722 f42
  replace f43 := shm_1856 f43
  replace f44 := shm_1889 f44
  replace f45 := shm_305 f45
  replace f46 := shm_306 f46
  replace f48 := shm_37 f48
  replace f49 := shm_32 f49
  replace f50 := shm_40 f50
  replace f51 := shm_39 f51
  replace f52 := shm_39 f52
  replace f53 := shm_142 f53
  have ar_0_1_1 : w_ar w1 (n_v vs 0) 1 = w_ar ws (n_v vs 0) 1 := congrArg v_ad (s1.2 _ _).symm
  have cr_0_1 := fdq_39 hD hth r0
  have ar_0_2_1 : w_ar w1 (n_v vs 0) 2 = w_ar ws (n_v vs 0) 2 := congrArg v_ad (s1.2 _ _).symm
  have cr_0_2 := fdq_10 hD hth r0
  have ar_0_3_1 : w_ar w1 (n_v vs 0) 3 = w_ar ws (n_v vs 0) 3 := congrArg v_ad (s1.2 _ _).symm
  have cr_0_3 := fdq_142 hD hth r0
  have ar_0_4_1 : w_ar w1 (n_v vs 0) 4 = w_ar ws (n_v vs 0) 4 := congrArg v_ad (s1.2 _ _).symm
  have cr_0_4 := fdq_143 hD hth r0
  have fi_0_5_1 : w_fi w1 (n_v vs 0) 5 = w_fi ws (n_v vs 0) 5 := by show v_iv (w_fd w1 _ _) = v_iv (w_fd ws _ _); rw [s1.2]
  have ad_21 : v_ad (n_v vs 21) = w_ar ws (n_v vs 0) 2 := congrArg v_ad f8
  have g0 : v_iv (n_v vs 19) = w_fi ws (n_v vs 0) 8 := congrArg v_iv f0
  have g1 : v_iv (n_v vs 17) = w_fi ws (n_v vs 0) 13 := congrArg v_iv f1
  have g3 : v_iv (n_v vs 30) = w_fi ws (n_v vs 0) 15 := congrArg v_iv f3
  have g4 : v_iv (n_v vs 29) = w_fi ws (n_v vs 0) 11 := congrArg v_iv f4
  have g7 : v_iv (n_v vs 22) = w_fi ws (n_v vs 0) 5 := congrArg v_iv f7
  simp only [ad_21] at f22
  have h22 : v_iv (n_v vs 23) = w_ei w1 (w_ar ws (n_v vs 0) 2) (v_iv (n_v vs 22)) := f22
  simp only [ar_0_2_1, ar_0_1_1, ar_0_3_1, ar_0_4_1] at f23 f24 f27 f29 f30 f31 f32 f33 f34 f39 f40 f41 f44
  simp only [fi_0_5_1] at f23 f24 f29 f30 f31 f32
  have fe_0_5_1 : w_fi ws (n_v vs 0) 5 = w_fi w1 (n_v vs 0) 5 := congrArg v_iv (s1.2 _ _)
  have fe_0_8_1 : w_fi ws (n_v vs 0) 8 = w_fi w1 (n_v vs 0) 8 := congrArg v_iv (s1.2 _ _)
  have fe_0_9_1 : w_fi ws (n_v vs 0) 9 = w_fi w1 (n_v vs 0) 9 := congrArg v_iv (s1.2 _ _)
  have fe_0_10_1 : w_fi ws (n_v vs 0) 10 = w_fi w1 (n_v vs 0) 10 := congrArg v_iv (s1.2 _ _)
  have fe_0_11_1 : w_fi ws (n_v vs 0) 11 = w_fi w1 (n_v vs 0) 11 := congrArg v_iv (s1.2 _ _)
  have fe_0_12_1 : w_fi ws (n_v vs 0) 12 = w_fi w1 (n_v vs 0) 12 := congrArg v_iv (s1.2 _ _)
  have fe_0_13_1 : w_fi ws (n_v vs 0) 13 = w_fi w1 (n_v vs 0) 13 := congrArg v_iv (s1.2 _ _)
  have fe_0_15_1 : w_fi ws (n_v vs 0) 15 = w_fi w1 (n_v vs 0) 15 := congrArg v_iv (s1.2 _ _)
  have hE_0_1_1 : ∀ j : Int, w_ei ws (w_ar ws (n_v vs 0) 1) j = w_ei w1 (w_ar ws (n_v vs 0) 1) j := el_kp s1.1 r21 cr_0_1 (by decide)
  have hK_0_1 := elq_7 hD hth cr_0_1
  have hE_0_2_1 : ∀ j : Int, 0 ≤ j → (j = v_iv (n_v vs 22) → w_ei ws (w_ar ws (n_v vs 0) 2) j = v_iv (n_v vs 25)) ∧ (j ≠ v_iv (n_v vs 22) → w_ei ws (w_ar ws (n_v vs 0) 2) j = w_ei w1 (w_ar ws (n_v vs 0) 2) j) := fun j hj => ⟨fun h => by unfold w_ei; rw [s1.1, if_pos ⟨ad_21.symm, by rw [h]⟩], fun h => by unfold w_ei; rw [s1.1, if_neg (fun e => h (by have := e.2; omega))]⟩
  have hE_0_3_1 : ∀ j : Int, w_ei ws (w_ar ws (n_v vs 0) 3) j = w_ei w1 (w_ar ws (n_v vs 0) 3) j := el_kp s1.1 r21 cr_0_3 (by decide)
  have hK_0_3 := elq_80 hD hth cr_0_3
  have hE_0_4_1 : ∀ j : Int, w_ei ws (w_ar ws (n_v vs 0) 4) j = w_ei w1 (w_ar ws (n_v vs 0) 4) j := el_kp s1.1 r21 cr_0_4 (by decide)
  have hK_0_4 := elq_81 hD hth cr_0_4
  have kz_0_8 := fdq_34 hD hth r0
  have kz_0_9 := fdq_44 hD hth r0
  have kz_0_10 := fdq_43 hD hth r0
  have kz_0_11 := fdq_237 hD hth r0
  have kz_0_12 := fdq_187 hD hth r0
  have kz_0_13 := fdq_238 hD hth r0
  have kz_0_15 := fdq_239 hD hth r0
  first | have hJ0 : w_ei w1 (w_ar ws (n_v vs 0) 2) ((w_fi w1 (n_v vs 0) 5 + 2)) = w_ei w1 (w_ar ws (n_v vs 0) 2) ((w_fi ws (n_v vs 0) 5 + 2)) := congrArg _ (show ((w_fi w1 (n_v vs 0) 5 + 2) : Int) = (w_fi ws (n_v vs 0) 5 + 2) from by omega) | skip
  first | have hI1 := (hE_0_2_1 ((w_fi ws (n_v vs 0) 5 + 2)) (by omega)).2 (by omega) | have hI1 := (hE_0_2_1 ((w_fi ws (n_v vs 0) 5 + 2)) (by omega)).1 (by omega) | skip
  have hrf0 : 0 ≤ v_iv (n_v vs 31) ∧ v_iv (n_v vs 31) ≤ 8 := vc_Mo_met_at_g4_17_r0 (v_iv (n_v vs 19)) (v_iv (n_v vs 22)) (v_iv (n_v vs 25)) (v_iv (n_v vs 31)) (w_fi ws (n_v vs 0) 8) (w_fi ws (n_v vs 0) 15) (w_fi ws (n_v vs 0) 11) (w_fi ws (n_v vs 0) 5) (w_ei ws (w_ar ws (n_v vs 0) 1)) (w_fi ws (n_v vs 0) 10) (w_fi ws (n_v vs 0) 12) (w_fi ws (n_v vs 0) 9) (w_ei w1 (w_ar ws (n_v vs 0) 2)) (w_ei w1 (w_ar ws (n_v vs 0) 1)) (w_fi w1 (n_v vs 0) 10) (w_fi w1 (n_v vs 0) 5) (w_fi w1 (n_v vs 0) 11) (w_fi w1 (n_v vs 0) 15) (w_fi w1 (n_v vs 0) 12) (w_ei w1 (w_ar ws (n_v vs 0) 3)) (w_ei w1 (w_ar ws (n_v vs 0) 4)) (w_fi w1 (n_v vs 0) 8) (w_fi w1 (n_v vs 0) 9) (w_ei ws (w_ar ws (n_v vs 0) 2)) (w_ei ws (w_ar ws (n_v vs 0) 3)) (w_ei ws (w_ar ws (n_v vs 0) 4)) k19 k22 k25 k31 g0 f18 fe_0_5_1 fe_0_8_1 fe_0_9_1 fe_0_10_1 fe_0_11_1 fe_0_12_1 fe_0_15_1 hE_0_1_1 hE_0_2_1 hE_0_3_1 hE_0_4_1 kz_0_8 kz_0_9 kz_0_10 kz_0_11 kz_0_12 kz_0_15
  have rf31 : tv_ok ta (0, 0, 8, []) (n_v vs 31) := tv_in t31 (by first | omega | grind) (by first | omega | grind)
  refine ⟨List.forall_mem_cons.mpr ⟨rf31, (fun _ h => (by cases h))⟩, [], trivial, ?_, (fun _ h => (by cases h))⟩
  rw [List.append_nil]
  exact (fun _ h => (by cases h))
set_option maxHeartbeats 4000000 in
theorem vc_Mo_met_at_g4_18_0 (x4 : Int) (x19 : Int) (x22 : Int) (x25 : Int) (x28 : Int) (x31 : Int) (from_0 : Int) (pos_0 : Int) (r_0 : Int) (fault_0 : Int) (place_0 : Int) (tape_0 : Int → Int) (limit_0 : Int) (kind_0 : Int) (faultPlace_0 : Int) (tape_1 : Int → Int) (limit_1 : Int) (from_1 : Int) (pos_1 : Int) (kind_1 : Int) (fault_1 : Int) (faultPlace_1 : Int) (all_2 : Int → Int) (tape_2 : Int → Int) (limit_2 : Int) (r_2 : Int) (pos_2 : Int) (from_2 : Int) (kind_2 : Int) (now_2 : Int → Int) (latest_2 : Int → Int) (fault_2 : Int) (faultPlace_2 : Int) (r_1 : Int) (place_1 : Int) (value_0 : Int) (value_1 : Int) (all_0 : Int → Int) (all_1 : Int → Int) (now_0 : Int → Int) (now_1 : Int → Int) (latest_0 : Int → Int) (latest_1 : Int → Int) (k4 : 0 ≤ x4 ∧ x4 ≤ 2000) (k19 : 0 ≤ x19 ∧ x19 ≤ 0) (k22 : 0 ≤ x22 ∧ x22 ≤ 66297) (k25 : 1 ≤ x25 ∧ x25 ≤ 24) (k28 : 195 ≤ x28 ∧ x28 ≤ 66515) (k31 : 0 ≤ x31 ∧ x31 ≤ 8) (g4 : x19 = fault_0) (f15 : (-1) * fault_0 + 0 ≤ (-1)) (fe_0_5_1 : r_0 = r_1) (fe_0_8_1 : fault_0 = fault_1) (fe_0_9_1 : faultPlace_0 = faultPlace_1) (fe_0_10_1 : limit_0 = limit_1) (fe_0_11_1 : pos_0 = pos_1) (fe_0_12_1 : kind_0 = kind_1) (fe_0_13_1 : place_0 = place_1) (fe_0_14_1 : value_0 = value_1) (fe_0_15_1 : from_0 = from_1) (fe_0_5_2 : r_1 = r_2) (fe_0_8_2 : fault_1 = fault_2) (fe_0_9_2 : faultPlace_1 = faultPlace_2) (fe_0_10_2 : limit_1 = limit_2) (fe_0_11_2 : pos_1 = pos_2) (fe_0_12_2 : kind_1 = kind_2) (fe_0_15_2 : from_1 = from_2) (hE_0_1_1 : ∀ j : Int, tape_0 j = tape_1 j) (hE_0_1_2 : ∀ j : Int, tape_1 j = tape_2 j) (hE_0_2_1 : ∀ j : Int, 0 ≤ j → (j = x28 → all_0 j = x31) ∧ (j ≠ x28 → all_0 j = all_1 j)) (hE_0_2_2 : ∀ j : Int, 0 ≤ j → (j = x22 → all_1 j = x25) ∧ (j ≠ x22 → all_1 j = all_2 j)) (hE_0_3_1 : ∀ j : Int, now_0 j = now_1 j) (hE_0_3_2 : ∀ j : Int, now_1 j = now_2 j) (hE_0_4_1 : ∀ j : Int, latest_0 j = latest_1 j) (hE_0_4_2 : ∀ j : Int, latest_1 j = latest_2 j) (kz_0_8 : 0 ≤ fault_0 ∧ fault_0 ≤ 5) (kz_0_9 : 0 ≤ faultPlace_0 ∧ faultPlace_0 ≤ 2000) (kz_0_10 : 0 ≤ limit_0 ∧ limit_0 ≤ 2000) (kz_0_11 : 0 ≤ pos_0 ∧ pos_0 ≤ 2000) (kz_0_12 : 0 ≤ kind_0 ∧ kind_0 ≤ 4) (kz_0_13 : 0 ≤ place_0 ∧ place_0 ≤ 2000) (kz_0_14 : (-49) ≤ value_0 ∧ value_0 ≤ 1048575) (kz_0_15 : 0 ≤ from_0 ∧ from_0 ≤ 2000) : 1 * x4 + ((-1) * pos_0 + 0) ≤ (-1) := by
  subst fe_0_5_1
  subst fe_0_8_1
  subst fe_0_9_1
  subst fe_0_10_1
  subst fe_0_11_1
  subst fe_0_12_1
  subst fe_0_13_1
  subst fe_0_14_1
  subst fe_0_15_1
  subst fe_0_5_2
  subst fe_0_8_2
  subst fe_0_9_2
  subst fe_0_10_2
  subst fe_0_11_2
  subst fe_0_12_2
  subst fe_0_15_2
  have e_hE_0_1_1 := funext hE_0_1_1; subst e_hE_0_1_1
  have e_hE_0_1_2 := funext hE_0_1_2; subst e_hE_0_1_2
  have e_hE_0_3_1 := funext hE_0_3_1; subst e_hE_0_3_1
  have e_hE_0_3_2 := funext hE_0_3_2; subst e_hE_0_3_2
  have e_hE_0_4_1 := funext hE_0_4_1; subst e_hE_0_4_1
  have e_hE_0_4_2 := funext hE_0_4_2; subst e_hE_0_4_2
  first
    | omega
    | (have q1 := (hE_0_2_1 (r_0 + 2) (by omega)).2 (by omega)
       have q2 := (hE_0_2_2 (r_0 + 2) (by omega)).2 (by omega)
       omega)
    | (have q1 := (hE_0_2_1 (r_0 + 1) (by omega)).2 (by omega)
       have q2 := (hE_0_2_2 (r_0 + 1) (by omega)).2 (by omega)
       omega)
    | (have q1 := (hE_0_2_1 (r_0 + 2) (by omega)).2 (by omega)
       omega)
    | (have q1 := (hE_0_2_1 (r_0 + 1) (by omega)).2 (by omega)
       omega)
    | (have q1 := (hE_0_2_1 (r_0 + 2) (by omega)).2 (by omega)
       have q2 := (hE_0_2_2 (r_0 + 2) (by omega)).2 (by omega)
       have q3 := (hE_0_2_3 (r_0 + 2) (by omega)).1 (by omega)
       omega)
    | (have q1 := (hE_0_2_1 (r_0 + 2) (by omega)).2 (by omega)
       have q2 := (hE_0_2_2 (r_0 + 2) (by omega)).2 (by omega)
       have q3 := (hE_0_2_3 (r_0 + 2) (by omega)).2 (by omega)
       omega)
set_option maxHeartbeats 4000000 in
theorem vc_Mo_met_at_g4_18_1 (x19 : Int) (x22 : Int) (x25 : Int) (x28 : Int) (x31 : Int) (from_0 : Int) (pos_0 : Int) (r_0 : Int) (fault_0 : Int) (place_0 : Int) (tape_0 : Int → Int) (limit_0 : Int) (kind_0 : Int) (faultPlace_0 : Int) (tape_1 : Int → Int) (limit_1 : Int) (from_1 : Int) (pos_1 : Int) (kind_1 : Int) (fault_1 : Int) (faultPlace_1 : Int) (all_2 : Int → Int) (tape_2 : Int → Int) (limit_2 : Int) (r_2 : Int) (pos_2 : Int) (from_2 : Int) (kind_2 : Int) (now_2 : Int → Int) (latest_2 : Int → Int) (fault_2 : Int) (faultPlace_2 : Int) (r_1 : Int) (place_1 : Int) (value_0 : Int) (value_1 : Int) (all_0 : Int → Int) (all_1 : Int → Int) (now_0 : Int → Int) (now_1 : Int → Int) (latest_0 : Int → Int) (latest_1 : Int → Int) (k19 : 0 ≤ x19 ∧ x19 ≤ 0) (k22 : 0 ≤ x22 ∧ x22 ≤ 66297) (k25 : 1 ≤ x25 ∧ x25 ≤ 24) (k28 : 195 ≤ x28 ∧ x28 ≤ 66515) (k31 : 0 ≤ x31 ∧ x31 ≤ 8) (g4 : x19 = fault_0) (f15 : (-1) * fault_0 + 0 ≤ (-1)) (fe_0_5_1 : r_0 = r_1) (fe_0_8_1 : fault_0 = fault_1) (fe_0_9_1 : faultPlace_0 = faultPlace_1) (fe_0_10_1 : limit_0 = limit_1) (fe_0_11_1 : pos_0 = pos_1) (fe_0_12_1 : kind_0 = kind_1) (fe_0_13_1 : place_0 = place_1) (fe_0_14_1 : value_0 = value_1) (fe_0_15_1 : from_0 = from_1) (fe_0_5_2 : r_1 = r_2) (fe_0_8_2 : fault_1 = fault_2) (fe_0_9_2 : faultPlace_1 = faultPlace_2) (fe_0_10_2 : limit_1 = limit_2) (fe_0_11_2 : pos_1 = pos_2) (fe_0_12_2 : kind_1 = kind_2) (fe_0_15_2 : from_1 = from_2) (hE_0_1_1 : ∀ j : Int, tape_0 j = tape_1 j) (hE_0_1_2 : ∀ j : Int, tape_1 j = tape_2 j) (hE_0_2_1 : ∀ j : Int, 0 ≤ j → (j = x28 → all_0 j = x31) ∧ (j ≠ x28 → all_0 j = all_1 j)) (hE_0_2_2 : ∀ j : Int, 0 ≤ j → (j = x22 → all_1 j = x25) ∧ (j ≠ x22 → all_1 j = all_2 j)) (hE_0_3_1 : ∀ j : Int, now_0 j = now_1 j) (hE_0_3_2 : ∀ j : Int, now_1 j = now_2 j) (hE_0_4_1 : ∀ j : Int, latest_0 j = latest_1 j) (hE_0_4_2 : ∀ j : Int, latest_1 j = latest_2 j) (kz_0_8 : 0 ≤ fault_0 ∧ fault_0 ≤ 5) (kz_0_9 : 0 ≤ faultPlace_0 ∧ faultPlace_0 ≤ 2000) (kz_0_10 : 0 ≤ limit_0 ∧ limit_0 ≤ 2000) (kz_0_11 : 0 ≤ pos_0 ∧ pos_0 ≤ 2000) (kz_0_12 : 0 ≤ kind_0 ∧ kind_0 ≤ 4) (kz_0_13 : 0 ≤ place_0 ∧ place_0 ≤ 2000) (kz_0_14 : (-49) ≤ value_0 ∧ value_0 ≤ 1048575) (kz_0_15 : 0 ≤ from_0 ∧ from_0 ≤ 2000) : kind_0 = 1 := by
  subst fe_0_5_1
  subst fe_0_8_1
  subst fe_0_9_1
  subst fe_0_10_1
  subst fe_0_11_1
  subst fe_0_12_1
  subst fe_0_13_1
  subst fe_0_14_1
  subst fe_0_15_1
  subst fe_0_5_2
  subst fe_0_8_2
  subst fe_0_9_2
  subst fe_0_10_2
  subst fe_0_11_2
  subst fe_0_12_2
  subst fe_0_15_2
  have e_hE_0_1_1 := funext hE_0_1_1; subst e_hE_0_1_1
  have e_hE_0_1_2 := funext hE_0_1_2; subst e_hE_0_1_2
  have e_hE_0_3_1 := funext hE_0_3_1; subst e_hE_0_3_1
  have e_hE_0_3_2 := funext hE_0_3_2; subst e_hE_0_3_2
  have e_hE_0_4_1 := funext hE_0_4_1; subst e_hE_0_4_1
  have e_hE_0_4_2 := funext hE_0_4_2; subst e_hE_0_4_2
  first
    | omega
    | (have q1 := (hE_0_2_1 (r_0 + 2) (by omega)).2 (by omega)
       have q2 := (hE_0_2_2 (r_0 + 2) (by omega)).2 (by omega)
       omega)
    | (have q1 := (hE_0_2_1 (r_0 + 1) (by omega)).2 (by omega)
       have q2 := (hE_0_2_2 (r_0 + 1) (by omega)).2 (by omega)
       omega)
    | (have q1 := (hE_0_2_1 (r_0 + 2) (by omega)).2 (by omega)
       omega)
    | (have q1 := (hE_0_2_1 (r_0 + 1) (by omega)).2 (by omega)
       omega)
    | (have q1 := (hE_0_2_1 (r_0 + 2) (by omega)).2 (by omega)
       have q2 := (hE_0_2_2 (r_0 + 2) (by omega)).2 (by omega)
       have q3 := (hE_0_2_3 (r_0 + 2) (by omega)).1 (by omega)
       omega)
    | (have q1 := (hE_0_2_1 (r_0 + 2) (by omega)).2 (by omega)
       have q2 := (hE_0_2_2 (r_0 + 2) (by omega)).2 (by omega)
       have q3 := (hE_0_2_3 (r_0 + 2) (by omega)).2 (by omega)
       omega)
set_option maxHeartbeats 4000000 in
theorem vc_Mo_met_at_g4_18_2 (x2 : Int) (x19 : Int) (x22 : Int) (x25 : Int) (x28 : Int) (x31 : Int) (from_0 : Int) (pos_0 : Int) (r_0 : Int) (fault_0 : Int) (place_0 : Int) (tape_0 : Int → Int) (limit_0 : Int) (kind_0 : Int) (faultPlace_0 : Int) (tape_1 : Int → Int) (limit_1 : Int) (from_1 : Int) (pos_1 : Int) (kind_1 : Int) (fault_1 : Int) (faultPlace_1 : Int) (all_2 : Int → Int) (tape_2 : Int → Int) (limit_2 : Int) (r_2 : Int) (pos_2 : Int) (from_2 : Int) (kind_2 : Int) (now_2 : Int → Int) (latest_2 : Int → Int) (fault_2 : Int) (faultPlace_2 : Int) (r_1 : Int) (place_1 : Int) (value_0 : Int) (value_1 : Int) (all_0 : Int → Int) (all_1 : Int → Int) (now_0 : Int → Int) (now_1 : Int → Int) (latest_0 : Int → Int) (latest_1 : Int → Int) (k2 : 0 ≤ x2 ∧ x2 ≤ 23) (k19 : 0 ≤ x19 ∧ x19 ≤ 0) (k22 : 0 ≤ x22 ∧ x22 ≤ 66297) (k25 : 1 ≤ x25 ∧ x25 ≤ 24) (k28 : 195 ≤ x28 ∧ x28 ≤ 66515) (k31 : 0 ≤ x31 ∧ x31 ≤ 8) (g4 : x19 = fault_0) (f15 : (-1) * fault_0 + 0 ≤ (-1)) (fe_0_5_1 : r_0 = r_1) (fe_0_8_1 : fault_0 = fault_1) (fe_0_9_1 : faultPlace_0 = faultPlace_1) (fe_0_10_1 : limit_0 = limit_1) (fe_0_11_1 : pos_0 = pos_1) (fe_0_12_1 : kind_0 = kind_1) (fe_0_13_1 : place_0 = place_1) (fe_0_14_1 : value_0 = value_1) (fe_0_15_1 : from_0 = from_1) (fe_0_5_2 : r_1 = r_2) (fe_0_8_2 : fault_1 = fault_2) (fe_0_9_2 : faultPlace_1 = faultPlace_2) (fe_0_10_2 : limit_1 = limit_2) (fe_0_11_2 : pos_1 = pos_2) (fe_0_12_2 : kind_1 = kind_2) (fe_0_15_2 : from_1 = from_2) (hE_0_1_1 : ∀ j : Int, tape_0 j = tape_1 j) (hE_0_1_2 : ∀ j : Int, tape_1 j = tape_2 j) (hE_0_2_1 : ∀ j : Int, 0 ≤ j → (j = x28 → all_0 j = x31) ∧ (j ≠ x28 → all_0 j = all_1 j)) (hE_0_2_2 : ∀ j : Int, 0 ≤ j → (j = x22 → all_1 j = x25) ∧ (j ≠ x22 → all_1 j = all_2 j)) (hE_0_3_1 : ∀ j : Int, now_0 j = now_1 j) (hE_0_3_2 : ∀ j : Int, now_1 j = now_2 j) (hE_0_4_1 : ∀ j : Int, latest_0 j = latest_1 j) (hE_0_4_2 : ∀ j : Int, latest_1 j = latest_2 j) (kz_0_8 : 0 ≤ fault_0 ∧ fault_0 ≤ 5) (kz_0_9 : 0 ≤ faultPlace_0 ∧ faultPlace_0 ≤ 2000) (kz_0_10 : 0 ≤ limit_0 ∧ limit_0 ≤ 2000) (kz_0_11 : 0 ≤ pos_0 ∧ pos_0 ≤ 2000) (kz_0_12 : 0 ≤ kind_0 ∧ kind_0 ≤ 4) (kz_0_13 : 0 ≤ place_0 ∧ place_0 ≤ 2000) (kz_0_14 : (-49) ≤ value_0 ∧ value_0 ≤ 1048575) (kz_0_15 : 0 ≤ from_0 ∧ from_0 ≤ 2000) : (x2 ≤ (-1)) ∨ (all_0 ((r_0 + 1)) ≤ 47) := by
  subst fe_0_5_1
  subst fe_0_8_1
  subst fe_0_9_1
  subst fe_0_10_1
  subst fe_0_11_1
  subst fe_0_12_1
  subst fe_0_13_1
  subst fe_0_14_1
  subst fe_0_15_1
  subst fe_0_5_2
  subst fe_0_8_2
  subst fe_0_9_2
  subst fe_0_10_2
  subst fe_0_11_2
  subst fe_0_12_2
  subst fe_0_15_2
  have e_hE_0_1_1 := funext hE_0_1_1; subst e_hE_0_1_1
  have e_hE_0_1_2 := funext hE_0_1_2; subst e_hE_0_1_2
  have e_hE_0_3_1 := funext hE_0_3_1; subst e_hE_0_3_1
  have e_hE_0_3_2 := funext hE_0_3_2; subst e_hE_0_3_2
  have e_hE_0_4_1 := funext hE_0_4_1; subst e_hE_0_4_1
  have e_hE_0_4_2 := funext hE_0_4_2; subst e_hE_0_4_2
  first
    | omega
    | (have q1 := (hE_0_2_1 (r_0 + 2) (by omega)).2 (by omega)
       have q2 := (hE_0_2_2 (r_0 + 2) (by omega)).2 (by omega)
       omega)
    | (have q1 := (hE_0_2_1 (r_0 + 1) (by omega)).2 (by omega)
       have q2 := (hE_0_2_2 (r_0 + 1) (by omega)).2 (by omega)
       omega)
    | (have q1 := (hE_0_2_1 (r_0 + 2) (by omega)).2 (by omega)
       omega)
    | (have q1 := (hE_0_2_1 (r_0 + 1) (by omega)).2 (by omega)
       omega)
    | (have q1 := (hE_0_2_1 (r_0 + 2) (by omega)).2 (by omega)
       have q2 := (hE_0_2_2 (r_0 + 2) (by omega)).2 (by omega)
       have q3 := (hE_0_2_3 (r_0 + 2) (by omega)).1 (by omega)
       omega)
    | (have q1 := (hE_0_2_1 (r_0 + 2) (by omega)).2 (by omega)
       have q2 := (hE_0_2_2 (r_0 + 2) (by omega)).2 (by omega)
       have q3 := (hE_0_2_3 (r_0 + 2) (by omega)).2 (by omega)
       omega)
set_option maxHeartbeats 4000000 in
theorem vc_Mo_met_at_g4_18_3 (x1 : Int) (x19 : Int) (x22 : Int) (x25 : Int) (x28 : Int) (x31 : Int) (from_0 : Int) (pos_0 : Int) (r_0 : Int) (fault_0 : Int) (place_0 : Int) (tape_0 : Int → Int) (limit_0 : Int) (kind_0 : Int) (faultPlace_0 : Int) (tape_1 : Int → Int) (limit_1 : Int) (from_1 : Int) (pos_1 : Int) (kind_1 : Int) (fault_1 : Int) (faultPlace_1 : Int) (all_2 : Int → Int) (tape_2 : Int → Int) (limit_2 : Int) (r_2 : Int) (pos_2 : Int) (from_2 : Int) (kind_2 : Int) (now_2 : Int → Int) (latest_2 : Int → Int) (fault_2 : Int) (faultPlace_2 : Int) (r_1 : Int) (place_1 : Int) (value_0 : Int) (value_1 : Int) (all_0 : Int → Int) (all_1 : Int → Int) (now_0 : Int → Int) (now_1 : Int → Int) (latest_0 : Int → Int) (latest_1 : Int → Int) (k1 : 0 ≤ x1 ∧ x1 ≤ 7) (k19 : 0 ≤ x19 ∧ x19 ≤ 0) (k22 : 0 ≤ x22 ∧ x22 ≤ 66297) (k25 : 1 ≤ x25 ∧ x25 ≤ 24) (k28 : 195 ≤ x28 ∧ x28 ≤ 66515) (k31 : 0 ≤ x31 ∧ x31 ≤ 8) (g4 : x19 = fault_0) (f15 : (-1) * fault_0 + 0 ≤ (-1)) (fe_0_5_1 : r_0 = r_1) (fe_0_8_1 : fault_0 = fault_1) (fe_0_9_1 : faultPlace_0 = faultPlace_1) (fe_0_10_1 : limit_0 = limit_1) (fe_0_11_1 : pos_0 = pos_1) (fe_0_12_1 : kind_0 = kind_1) (fe_0_13_1 : place_0 = place_1) (fe_0_14_1 : value_0 = value_1) (fe_0_15_1 : from_0 = from_1) (fe_0_5_2 : r_1 = r_2) (fe_0_8_2 : fault_1 = fault_2) (fe_0_9_2 : faultPlace_1 = faultPlace_2) (fe_0_10_2 : limit_1 = limit_2) (fe_0_11_2 : pos_1 = pos_2) (fe_0_12_2 : kind_1 = kind_2) (fe_0_15_2 : from_1 = from_2) (hE_0_1_1 : ∀ j : Int, tape_0 j = tape_1 j) (hE_0_1_2 : ∀ j : Int, tape_1 j = tape_2 j) (hE_0_2_1 : ∀ j : Int, 0 ≤ j → (j = x28 → all_0 j = x31) ∧ (j ≠ x28 → all_0 j = all_1 j)) (hE_0_2_2 : ∀ j : Int, 0 ≤ j → (j = x22 → all_1 j = x25) ∧ (j ≠ x22 → all_1 j = all_2 j)) (hE_0_3_1 : ∀ j : Int, now_0 j = now_1 j) (hE_0_3_2 : ∀ j : Int, now_1 j = now_2 j) (hE_0_4_1 : ∀ j : Int, latest_0 j = latest_1 j) (hE_0_4_2 : ∀ j : Int, latest_1 j = latest_2 j) (kz_0_8 : 0 ≤ fault_0 ∧ fault_0 ≤ 5) (kz_0_9 : 0 ≤ faultPlace_0 ∧ faultPlace_0 ≤ 2000) (kz_0_10 : 0 ≤ limit_0 ∧ limit_0 ≤ 2000) (kz_0_11 : 0 ≤ pos_0 ∧ pos_0 ≤ 2000) (kz_0_12 : 0 ≤ kind_0 ∧ kind_0 ≤ 4) (kz_0_13 : 0 ≤ place_0 ∧ place_0 ≤ 2000) (kz_0_14 : (-49) ≤ value_0 ∧ value_0 ≤ 1048575) (kz_0_15 : 0 ≤ from_0 ∧ from_0 ≤ 2000) : (x1 + 1) ≤ all_0 ((r_0 + 2)) := by
  subst fe_0_5_1
  subst fe_0_8_1
  subst fe_0_9_1
  subst fe_0_10_1
  subst fe_0_11_1
  subst fe_0_12_1
  subst fe_0_13_1
  subst fe_0_14_1
  subst fe_0_15_1
  subst fe_0_5_2
  subst fe_0_8_2
  subst fe_0_9_2
  subst fe_0_10_2
  subst fe_0_11_2
  subst fe_0_12_2
  subst fe_0_15_2
  have e_hE_0_1_1 := funext hE_0_1_1; subst e_hE_0_1_1
  have e_hE_0_1_2 := funext hE_0_1_2; subst e_hE_0_1_2
  have e_hE_0_3_1 := funext hE_0_3_1; subst e_hE_0_3_1
  have e_hE_0_3_2 := funext hE_0_3_2; subst e_hE_0_3_2
  have e_hE_0_4_1 := funext hE_0_4_1; subst e_hE_0_4_1
  have e_hE_0_4_2 := funext hE_0_4_2; subst e_hE_0_4_2
  first
    | omega
    | (have q1 := (hE_0_2_1 (r_0 + 2) (by omega)).2 (by omega)
       have q2 := (hE_0_2_2 (r_0 + 2) (by omega)).2 (by omega)
       omega)
    | (have q1 := (hE_0_2_1 (r_0 + 1) (by omega)).2 (by omega)
       have q2 := (hE_0_2_2 (r_0 + 1) (by omega)).2 (by omega)
       omega)
    | (have q1 := (hE_0_2_1 (r_0 + 2) (by omega)).2 (by omega)
       omega)
    | (have q1 := (hE_0_2_1 (r_0 + 1) (by omega)).2 (by omega)
       omega)
    | (have q1 := (hE_0_2_1 (r_0 + 2) (by omega)).2 (by omega)
       have q2 := (hE_0_2_2 (r_0 + 2) (by omega)).2 (by omega)
       have q3 := (hE_0_2_3 (r_0 + 2) (by omega)).1 (by omega)
       omega)
    | (have q1 := (hE_0_2_1 (r_0 + 2) (by omega)).2 (by omega)
       have q2 := (hE_0_2_2 (r_0 + 2) (by omega)).2 (by omega)
       have q3 := (hE_0_2_3 (r_0 + 2) (by omega)).2 (by omega)
       omega)
set_option maxHeartbeats 4000000 in
theorem vc_Mo_met_at_g4_18_4 (x19 : Int) (x20 : Int) (from_0 : Int) (pos_0 : Int) (r_0 : Int) (fault_0 : Int) (place_0 : Int) (tape_0 : Int → Int) (limit_0 : Int) (kind_0 : Int) (faultPlace_0 : Int) (tape_1 : Int → Int) (limit_1 : Int) (from_1 : Int) (pos_1 : Int) (kind_1 : Int) (fault_1 : Int) (faultPlace_1 : Int) (tape_2 : Int → Int) (limit_2 : Int) (r_2 : Int) (pos_2 : Int) (from_2 : Int) (kind_2 : Int) (now_2 : Int → Int) (latest_2 : Int → Int) (fault_2 : Int) (faultPlace_2 : Int) (r_1 : Int) (place_1 : Int) (value_0 : Int) (value_1 : Int) (all_0 : Int → Int) (now_0 : Int → Int) (now_1 : Int → Int) (latest_0 : Int → Int) (latest_1 : Int → Int) (k19 : 0 ≤ x19 ∧ x19 ≤ 0) (k20 : 0 ≤ x20 ∧ x20 ≤ 23) (g4 : x19 = fault_0) (f15 : (-1) * fault_0 + 0 ≤ (-1)) (fe_0_5_1 : r_0 = r_1) (fe_0_8_1 : fault_0 = fault_1) (fe_0_9_1 : faultPlace_0 = faultPlace_1) (fe_0_10_1 : limit_0 = limit_1) (fe_0_11_1 : pos_0 = pos_1) (fe_0_12_1 : kind_0 = kind_1) (fe_0_13_1 : place_0 = place_1) (fe_0_14_1 : value_0 = value_1) (fe_0_15_1 : from_0 = from_1) (fe_0_5_2 : r_1 = r_2) (fe_0_8_2 : fault_1 = fault_2) (fe_0_9_2 : faultPlace_1 = faultPlace_2) (fe_0_10_2 : limit_1 = limit_2) (fe_0_11_2 : pos_1 = pos_2) (fe_0_12_2 : kind_1 = kind_2) (fe_0_15_2 : from_1 = from_2) (hE_0_1_1 : ∀ j : Int, tape_0 j = tape_1 j) (hE_0_1_2 : ∀ j : Int, tape_1 j = tape_2 j) (hE_0_3_1 : ∀ j : Int, now_0 j = now_1 j) (hE_0_3_2 : ∀ j : Int, now_1 j = now_2 j) (hE_0_4_1 : ∀ j : Int, latest_0 j = latest_1 j) (hE_0_4_2 : ∀ j : Int, latest_1 j = latest_2 j) (kz_0_8 : 0 ≤ fault_0 ∧ fault_0 ≤ 5) (kz_0_9 : 0 ≤ faultPlace_0 ∧ faultPlace_0 ≤ 2000) (kz_0_10 : 0 ≤ limit_0 ∧ limit_0 ≤ 2000) (kz_0_11 : 0 ≤ pos_0 ∧ pos_0 ≤ 2000) (kz_0_12 : 0 ≤ kind_0 ∧ kind_0 ≤ 4) (kz_0_13 : 0 ≤ place_0 ∧ place_0 ≤ 2000) (kz_0_14 : (-49) ≤ value_0 ∧ value_0 ≤ 1048575) (kz_0_15 : 0 ≤ from_0 ∧ from_0 ≤ 2000) : RWN (r_0) (all_0) (now_0) (latest_0) (x20) := by
  subst fe_0_5_1
  subst fe_0_8_1
  subst fe_0_9_1
  subst fe_0_10_1
  subst fe_0_11_1
  subst fe_0_12_1
  subst fe_0_13_1
  subst fe_0_14_1
  subst fe_0_15_1
  subst fe_0_5_2
  subst fe_0_8_2
  subst fe_0_9_2
  subst fe_0_10_2
  subst fe_0_11_2
  subst fe_0_12_2
  subst fe_0_15_2
  have e_hE_0_1_1 := funext hE_0_1_1; subst e_hE_0_1_1
  have e_hE_0_1_2 := funext hE_0_1_2; subst e_hE_0_1_2
  have e_hE_0_3_1 := funext hE_0_3_1; subst e_hE_0_3_1
  have e_hE_0_3_2 := funext hE_0_3_2; subst e_hE_0_3_2
  have e_hE_0_4_1 := funext hE_0_4_1; subst e_hE_0_4_1
  have e_hE_0_4_2 := funext hE_0_4_2; subst e_hE_0_4_2
  try simp only [Int.add_zero] at *
  first
    | (exfalso; omega)
set_option maxHeartbeats 4000000 in
theorem vc_Mo_met_at_g4_18_5 (x2 : Int) (x19 : Int) (x20 : Int) (from_0 : Int) (pos_0 : Int) (r_0 : Int) (fault_0 : Int) (place_0 : Int) (tape_0 : Int → Int) (limit_0 : Int) (kind_0 : Int) (faultPlace_0 : Int) (tape_1 : Int → Int) (limit_1 : Int) (from_1 : Int) (pos_1 : Int) (kind_1 : Int) (fault_1 : Int) (faultPlace_1 : Int) (tape_2 : Int → Int) (limit_2 : Int) (r_2 : Int) (pos_2 : Int) (from_2 : Int) (kind_2 : Int) (now_2 : Int → Int) (latest_2 : Int → Int) (fault_2 : Int) (faultPlace_2 : Int) (r_1 : Int) (place_1 : Int) (value_0 : Int) (value_1 : Int) (all_0 : Int → Int) (now_0 : Int → Int) (now_1 : Int → Int) (latest_0 : Int → Int) (latest_1 : Int → Int) (k2 : 0 ≤ x2 ∧ x2 ≤ 23) (k19 : 0 ≤ x19 ∧ x19 ≤ 0) (k20 : 0 ≤ x20 ∧ x20 ≤ 23) (g4 : x19 = fault_0) (f15 : (-1) * fault_0 + 0 ≤ (-1)) (fe_0_5_1 : r_0 = r_1) (fe_0_8_1 : fault_0 = fault_1) (fe_0_9_1 : faultPlace_0 = faultPlace_1) (fe_0_10_1 : limit_0 = limit_1) (fe_0_11_1 : pos_0 = pos_1) (fe_0_12_1 : kind_0 = kind_1) (fe_0_13_1 : place_0 = place_1) (fe_0_14_1 : value_0 = value_1) (fe_0_15_1 : from_0 = from_1) (fe_0_5_2 : r_1 = r_2) (fe_0_8_2 : fault_1 = fault_2) (fe_0_9_2 : faultPlace_1 = faultPlace_2) (fe_0_10_2 : limit_1 = limit_2) (fe_0_11_2 : pos_1 = pos_2) (fe_0_12_2 : kind_1 = kind_2) (fe_0_15_2 : from_1 = from_2) (hE_0_1_1 : ∀ j : Int, tape_0 j = tape_1 j) (hE_0_1_2 : ∀ j : Int, tape_1 j = tape_2 j) (hE_0_3_1 : ∀ j : Int, now_0 j = now_1 j) (hE_0_3_2 : ∀ j : Int, now_1 j = now_2 j) (hE_0_4_1 : ∀ j : Int, latest_0 j = latest_1 j) (hE_0_4_2 : ∀ j : Int, latest_1 j = latest_2 j) (kz_0_8 : 0 ≤ fault_0 ∧ fault_0 ≤ 5) (kz_0_9 : 0 ≤ faultPlace_0 ∧ faultPlace_0 ≤ 2000) (kz_0_10 : 0 ≤ limit_0 ∧ limit_0 ≤ 2000) (kz_0_11 : 0 ≤ pos_0 ∧ pos_0 ≤ 2000) (kz_0_12 : 0 ≤ kind_0 ∧ kind_0 ≤ 4) (kz_0_13 : 0 ≤ place_0 ∧ place_0 ≤ 2000) (kz_0_14 : (-49) ≤ value_0 ∧ value_0 ≤ 1048575) (kz_0_15 : 0 ≤ from_0 ∧ from_0 ≤ 2000) : MEN (r_0) (all_0) (x2) (x20) := by
  subst fe_0_5_1
  subst fe_0_8_1
  subst fe_0_9_1
  subst fe_0_10_1
  subst fe_0_11_1
  subst fe_0_12_1
  subst fe_0_13_1
  subst fe_0_14_1
  subst fe_0_15_1
  subst fe_0_5_2
  subst fe_0_8_2
  subst fe_0_9_2
  subst fe_0_10_2
  subst fe_0_11_2
  subst fe_0_12_2
  subst fe_0_15_2
  have e_hE_0_1_1 := funext hE_0_1_1; subst e_hE_0_1_1
  have e_hE_0_1_2 := funext hE_0_1_2; subst e_hE_0_1_2
  have e_hE_0_3_1 := funext hE_0_3_1; subst e_hE_0_3_1
  have e_hE_0_3_2 := funext hE_0_3_2; subst e_hE_0_3_2
  have e_hE_0_4_1 := funext hE_0_4_1; subst e_hE_0_4_1
  have e_hE_0_4_2 := funext hE_0_4_2; subst e_hE_0_4_2
  try simp only [Int.add_zero] at *
  first
    | (exfalso; omega)
set_option maxHeartbeats 4000000 in
theorem vc_Mo_met_at_g4_18_6 (x1 : Int) (x2 : Int) (x5 : Int) (x6 : Int) (x7 : Int) (x17 : Int) (x19 : Int) (x20 : Int) (x22 : Int) (x29 : Int) (x30 : Int) (x32 : Int) (from_0 : Int) (pos_0 : Int) (r_0 : Int) (fault_0 : Int) (place_0 : Int) (tape_0 : Int → Int) (limit_0 : Int) (kind_0 : Int) (faultPlace_0 : Int) (tape_1 : Int → Int) (limit_1 : Int) (from_1 : Int) (pos_1 : Int) (kind_1 : Int) (fault_1 : Int) (faultPlace_1 : Int) (tape_2 : Int → Int) (limit_2 : Int) (r_2 : Int) (pos_2 : Int) (from_2 : Int) (kind_2 : Int) (now_2 : Int → Int) (latest_2 : Int → Int) (fault_2 : Int) (faultPlace_2 : Int) (r_1 : Int) (place_1 : Int) (value_0 : Int) (value_1 : Int) (all_0 : Int → Int) (now_0 : Int → Int) (now_1 : Int → Int) (latest_0 : Int → Int) (latest_1 : Int → Int) (k1 : 0 ≤ x1 ∧ x1 ≤ 7) (k2 : 0 ≤ x2 ∧ x2 ≤ 23) (k5 : 0 ≤ x5 ∧ x5 ≤ 4) (k6 : 0 ≤ x6 ∧ x6 ≤ 48) (k7 : 0 ≤ x7 ∧ x7 ≤ 1) (k17 : 0 ≤ x17 ∧ x17 ≤ 2000) (k19 : 0 ≤ x19 ∧ x19 ≤ 0) (k20 : 0 ≤ x20 ∧ x20 ≤ 23) (k22 : 0 ≤ x22 ∧ x22 ≤ 66297) (k29 : 0 ≤ x29 ∧ x29 ≤ 2000) (k30 : 0 ≤ x30 ∧ x30 ≤ 2000) (k32 : 0 ≤ x32 ∧ x32 ≤ 0) (g0 : x30 = from_0) (g1 : x29 = pos_0) (g2 : x22 = r_0) (g4 : x19 = fault_0) (g5 : x17 = place_0) (f15 : (-1) * fault_0 + 0 ≤ (-1)) (fe_0_5_1 : r_0 = r_1) (fe_0_8_1 : fault_0 = fault_1) (fe_0_9_1 : faultPlace_0 = faultPlace_1) (fe_0_10_1 : limit_0 = limit_1) (fe_0_11_1 : pos_0 = pos_1) (fe_0_12_1 : kind_0 = kind_1) (fe_0_13_1 : place_0 = place_1) (fe_0_14_1 : value_0 = value_1) (fe_0_15_1 : from_0 = from_1) (fe_0_5_2 : r_1 = r_2) (fe_0_8_2 : fault_1 = fault_2) (fe_0_9_2 : faultPlace_1 = faultPlace_2) (fe_0_10_2 : limit_1 = limit_2) (fe_0_11_2 : pos_1 = pos_2) (fe_0_12_2 : kind_1 = kind_2) (fe_0_15_2 : from_1 = from_2) (hE_0_1_1 : ∀ j : Int, tape_0 j = tape_1 j) (hE_0_1_2 : ∀ j : Int, tape_1 j = tape_2 j) (hE_0_3_1 : ∀ j : Int, now_0 j = now_1 j) (hE_0_3_2 : ∀ j : Int, now_1 j = now_2 j) (hE_0_4_1 : ∀ j : Int, latest_0 j = latest_1 j) (hE_0_4_2 : ∀ j : Int, latest_1 j = latest_2 j) (kz_0_8 : 0 ≤ fault_0 ∧ fault_0 ≤ 5) (kz_0_9 : 0 ≤ faultPlace_0 ∧ faultPlace_0 ≤ 2000) (kz_0_10 : 0 ≤ limit_0 ∧ limit_0 ≤ 2000) (kz_0_11 : 0 ≤ pos_0 ∧ pos_0 ≤ 2000) (kz_0_12 : 0 ≤ kind_0 ∧ kind_0 ≤ 4) (kz_0_13 : 0 ≤ place_0 ∧ place_0 ≤ 2000) (kz_0_14 : (-49) ≤ value_0 ∧ value_0 ≤ 1048575) (kz_0_15 : 0 ≤ from_0 ∧ from_0 ≤ 2000) : zMN4 (limit_0) (pos_0) (kind_0) (place_0) (value_0) (from_0) (fault_0) (r_0) (tape_0) (all_0) (x20) (x32) (x2) (x6) (x7) (x1) (x5) := by
  subst fe_0_5_1
  subst fe_0_8_1
  subst fe_0_9_1
  subst fe_0_10_1
  subst fe_0_11_1
  subst fe_0_12_1
  subst fe_0_13_1
  subst fe_0_14_1
  subst fe_0_15_1
  subst fe_0_5_2
  subst fe_0_8_2
  subst fe_0_9_2
  subst fe_0_10_2
  subst fe_0_11_2
  subst fe_0_12_2
  subst fe_0_15_2
  have e_hE_0_1_1 := funext hE_0_1_1; subst e_hE_0_1_1
  have e_hE_0_1_2 := funext hE_0_1_2; subst e_hE_0_1_2
  have e_hE_0_3_1 := funext hE_0_3_1; subst e_hE_0_3_1
  have e_hE_0_3_2 := funext hE_0_3_2; subst e_hE_0_3_2
  have e_hE_0_4_1 := funext hE_0_4_1; subst e_hE_0_4_1
  have e_hE_0_4_2 := funext hE_0_4_2; subst e_hE_0_4_2
  first | subst g0 | skip
  first | subst g1 | skip
  first | subst g2 | skip
  first | subst g4 | skip
  first | subst g5 | skip
  try simp only [Int.add_zero] at *
  first
    | exact mn_step4 ((rsq_lim (‹zMN4 _ _ _ _ _ _ _ _ _ _ _ _ _ _ _ _ _›).1).2.2.2 (by omega)).2 ‹zMN4 _ _ _ _ _ _ _ _ _ _ _ _ _ _ _ _ _› (by omega) (by assumption) (by omega) (rsq_byte (‹zMN4 _ _ _ _ _ _ _ _ _ _ _ _ _ _ _ _ _›).1 (by omega) (by assumption) (by omega) (by omega) (by omega)) (by omega) (by omega)
    | exact mn_start4 ‹zRS4 _ _ _ _ _ _ _ _ _ _ _ _ _ _ _› (by omega) ‹NMQ _ _ _ _ _ _› (by omega) ‹KNQ _ _ _ _ _ _ _› (by omega) (by simp only [Int.add_zero]; omega) (by omega) (by assumption) (by assumption) (by omega) (by omega) (by omega) (by omega) (by omega) (by omega)
    | (exfalso; omega)
def o_Mo_met_at_g4_18 : or_T := (171, 33, [(0, (2, 0, 0, [165])), (1, (0, 0, 7, [])), (2, (0, 0, 23, [])), (3, (0, 0, 2000, [])), (4, (0, 0, 2000, [])), (5, (0, 0, 4, [])), (6, (0, 0, 48, [])), (7, (0, 0, 1, [])), (9, (0, 1, 1, [])), (10, (0, -1, -1, [])), (12, (0, 0, 23, [])), (13, (0, 24, 24, [])), (14, (0, 48, 48, [])), (15, (0, 48, 48, [])), (16, (0, 3, 3, [])), (17, (0, 0, 2000, [])), (18, (0, 0, 5, [])), (19, (0, 0, 0, [])), (20, (0, 0, 23, [])), (21, (2, 0, 0, [167])), (22, (0, 0, 66297, [])), (23, (0, 0, 24, [])), (24, (0, 1, 1, [])), (25, (0, 1, 24, [])), (26, (0, 195, 195, [])), (27, (0, 195, 66492, [])), (28, (0, 195, 66515, [])), (29, (0, 0, 2000, [])), (30, (0, 0, 2000, [])), (31, (0, 0, 8, [])), (32, (0, 0, 0, []))], [(9, [30, 0], [15]), (9, [29, 0], [11]), (9, [22, 0], [5]), (9, [21, 0], [2]), (9, [19, 0], [8]), (9, [17, 0], [13]), (20, [0, 16, 17], [60, 1, 1, 1026, 10, 1]), (20, [18], [61, 0, 1029]), (20, [0, 0], [30, 0, 1, 1, 15, -1, 1, 11]), (20, [0], [50, 3, 0, 12, 11, 15, 2, 21, 4, 7, 1, 3, 2, 0, 12, 0, 1, 0, 3, 2, 0, 11, 4, 3, 2, 0, 15, 0, 8, 3, 7, 1, 3, 2, 0, 12, 0, 0, 0, 7, 4, 3, 2, 0, 15, 0, 1, 2, 0, 11]), (20, [3, 0], [30, 0, 1, 0, 0, -1, 1, 11]), (20, [0, 4], [50, 2, 0, 12, 11, 3, 7, 1, 3, 2, 0, 12, 0, 0, 0, 6, 4, 2, 1, 1, 0, 1, 2, 0, 11]), (20, [2], [50, 0, 0, 0, 2, 0, 0, 1, 0]), (20, [9, 0], [50, 1, 0, 1012, 4, 6, 1, 2, 1, 0, 0, 1, 1, 3, 2, 1, 12, 0, 1]), (20, [0, 9], [60, 4, 1, 962, 12, 11, 10, 15, 1]), (20, [0], [30, -1, -1, 1, 8]), (20, [18, 0, 16, 17], [50, 2, 0, 1008, 1009, 3, 15, 2, 6, 0, 2, 0, 1, 1, 0, 1, 3, 2, 1, 8, 1, 0, 2, 6, 1, 2, 1, 0, 0, 0, 2, 7, 1, 3, 2, 1, 8, 1, 2, 1, 3, 2, 1, 9, 1, 3]), (100, [21, 28, 31], []), (2, [31, 29, 30], []), (1, [28, 27, 20], []), (1, [27, 22, 26], []), (20, [0, 16, 17], [60, 1, 1, 1026, 10, 1]), (20, [18], [61, 0, 1029]), (20, [0, 0], [30, 0, 1, 1, 15, -1, 1, 11]), (20, [0], [50, 3, 0, 12, 11, 15, 2, 21, 4, 7, 1, 3, 2, 0, 12, 0, 1, 0, 3, 2, 0, 11, 4, 3, 2, 0, 15, 0, 8, 3, 7, 1, 3, 2, 0, 12, 0, 0, 0, 7, 4, 3, 2, 0, 15, 0, 1, 2, 0, 11]), (20, [3, 0], [30, 0, 1, 0, 0, -1, 1, 11]), (20, [0, 4], [50, 2, 0, 12, 11, 3, 7, 1, 3, 2, 0, 12, 0, 0, 0, 6, 4, 2, 1, 1, 0, 1, 2, 0, 11]), (20, [2], [50, 0, 0, 0, 2, 0, 0, 1, 0]), (20, [9, 0], [50, 1, 0, 1012, 4, 6, 1, 2, 1, 0, 0, 1, 1, 3, 2, 1, 12, 0, 1]), (20, [0, 9], [60, 4, 1, 962, 12, 11, 10, 15, 1]), (20, [0], [30, -1, -1, 1, 8]), (20, [18, 0, 16, 17], [50, 2, 0, 1008, 1009, 3, 15, 2, 6, 0, 2, 0, 1, 1, 0, 1, 3, 2, 1, 8, 1, 0, 2, 6, 1, 2, 1, 0, 0, 0, 2, 7, 1, 3, 2, 1, 8, 1, 2, 1, 3, 2, 1, 9, 1, 3]), (100, [21, 22, 25], []), (1, [25, 23, 24], []), (10, [23, 21, 22], []), (20, [20, 0], [30, 0, 1, 0, 0, -1, 3, 2005000]), (20, [20, 0], [30, 0, -1, 0, 0, 1, 3, 2005000]), (8, [10], [2]), (8, [19], [5]), (20, [0, 16, 17], [60, 1, 1, 1026, 10, 1]), (20, [18], [61, 0, 1029]), (20, [14, 0], [30, 0, 1, 0, 0, -1, 3, 2005001]), (20, [14, 0], [30, 0, -1, 0, 0, 1, 3, 2005001]), (20, [12, 0], [30, 0, 1, 0, 0, -1, 3, 2005000]), (20, [12, 0], [30, 0, -1, 0, 0, 1, 3, 2005000]), (20, [0, 10], [60, 1, 1, 207, 5, 2]), (20, [0, 10], [60, 4, 2, 1031, 11, 10, 15, 5, 2, 1]), (20, [0, 0], [30, 0, 1, 1, 15, -1, 1, 11]), (20, [0], [50, 3, 0, 12, 11, 15, 2, 21, 4, 7, 1, 3, 2, 0, 12, 0, 1, 0, 3, 2, 0, 11, 4, 3, 2, 0, 15, 0, 8, 3, 7, 1, 3, 2, 0, 12, 0, 0, 0, 7, 4, 3, 2, 0, 15, 0, 1, 2, 0, 11]), (20, [3, 0], [30, 0, 1, 0, 0, -1, 1, 11]), (20, [0, 4], [50, 2, 0, 12, 11, 3, 7, 1, 3, 2, 0, 12, 0, 0, 0, 6, 4, 2, 1, 1, 0, 1, 2, 0, 11]), (20, [1, 0], [50, 1, 1, 1005, 1002, 0, 6, 4, 2, 1, 0, 0, 1, 3, 1, 2, 4, 3, 2, 1, 5, 0, 2]), (20, [0], [60, 1, 3, 199, 5, 2, 3, 4]), (20, [0, 2], [60, 1, 1, 241, 5, 2]), (20, [2], [50, 0, 0, 0, 2, 0, 0, 1, 0]), (20, [9, 0], [50, 1, 0, 1012, 4, 6, 1, 2, 1, 0, 0, 1, 1, 3, 2, 1, 12, 0, 1]), (20, [0, 9], [60, 4, 1, 962, 12, 11, 10, 15, 1]), (20, [0], [30, -1, -1, 1, 8]), (20, [18, 0, 16, 17], [50, 2, 0, 1008, 1009, 3, 15, 2, 6, 0, 2, 0, 1, 1, 0, 1, 3, 2, 1, 8, 1, 0, 2, 6, 1, 2, 1, 0, 0, 0, 2, 7, 1, 3, 2, 1, 8, 1, 2, 1, 3, 2, 1, 9, 1, 3]), (102, [18], [0, 165008, 165009]), (7, [14, 15], [0]), (8, [2], [3]), (7, [12, 13], [1]), (8, [10], [2]), (8, [10], [2]), (8, [9], [1])], [], [], [(20, [4, 0], [30, -1, 1, 0, 0, -1, 1, 11]), (20, [0], [50, 1, 0, 12, 1, 3, 2, 0, 12, 0, 1]), (20, [2, 0], [50, 1, 1, 1005, 1002, 3, 6, 0, 2, 1, 0, 0, -1, 0, 10, 3, 1, 2, 4, 3, 2, 1, 5, 0, 1, 0, 47]), (20, [1, 0], [50, 1, 1, 1005, 1002, 0, 6, 4, 2, 1, 0, 0, 1, 3, 1, 2, 4, 3, 2, 1, 5, 0, 2]), (20, [0, 20], [60, 1, 3, 200, 5, 2, 3, 4]), (20, [0, 2, 20], [60, 1, 1, 243, 5, 2]), (20, [0, 20, 32, 2, 6, 7, 1, 5], [60, 8, 2, 1005, 10, 11, 12, 13, 14, 15, 8, 5, 1, 2]), (24, [0, 0], []), (24, [1, 1], []), (24, [2, 2], [])], [], [(31, 29, -2000, 0), (28, 20, 195, 66492), (28, 27, 0, 23), (28, 22, 195, 218), (27, 22, 195, 195), (25, 23, 1, 1)])
theorem oo_Mo_met_at_g4_18 {kA : Nat → ClassId} : or_ok PRD kA GG o_Mo_met_at_g4_18 := by
  refine or_mk fun A ta ws vs hD hth hl => ?_
  intro t0 r0 t1 k1 t2 k2 t3 k3 t4 k4 t5 k5 t6 k6 t7 k7 t9 k9 t10 k10 t12 k12 t13 k13 t14 k14 t15 k15 t16 k16 t17 k17 t18 k18 t19 k19 t20 k20 t21 r21 t22 k22 t23 k23 t24 k24 t25 k25 t26 k26 t27 k27 t28 k28 t29 k29 t30 k30 t31 k31 t32 k32 d0 d1 d2 d3 d4 d5 f0 f1 f2 f3 f4 f5 f6 f7 f8 f9 f10 f11 f12 f13 f14 f15 f16 ta1 w1 le1 s1 f18 f19 f20 f21 f22 f23 f24 f25 f26 f27 f28 f29 f30 f31 ta2 w2 le2 s2 f33 f34 f35 f36 f37 f38 f39 f40 f41 f42 f43 f44 f45 f46 f47 f48 f49 f50 f51 f52 f53 f54 f55 f56 f57 f58 ta3 w3 le3 s3 f60 f61 f62 f63 f64 f65
  replace f0 := shm_177 f0
  replace f1 := shm_116 f1
  replace f2 := shm_110 f2
  replace f3 := shm_120 f3
  replace f4 := shm_293 f4
  replace f5 := shm_361 f5
  replace f6 := shm_1724 f6
  replace f7 := shm_1725 f7
  replace f8 := shm_1437 f8
  replace f9 := shm_1438 f9
  replace f10 := shm_1431 f10
  replace f11 := shm_2111 f11
  replace f12 := shm_722 f12
  replace f13 := shm_1856 f13
  replace f14 := shm_1889 f14
  replace f15 := shm_305 f15
  replace f16 := shm_306 f16
  have s1 : (∀ b j, w_el ws b j = if b = v_ad (n_v vs 21) ∧ j = (v_iv (n_v vs 28)).toNat then v_iv (n_v vs 31) else w_el w1 b j) ∧ ∀ b k, w_fd ws b k = w_fd w1 b k := s1.2
  replace f18 := shm_14 f18
  replace f19 := shm_12 f19
  replace f20 := shm_12 f20
  replace f21 := shm_1724 f21
  replace f22 := shm_1725 f22
  replace f23 := shm_1437 f23
  replace f24 := shm_1438 f24
  replace f25 := shm_1431 f25
  replace f26 := shm_2111 f26
  replace f27 := shm_722 f27
  replace f28 := shm_1856 f28
  replace f29 := shm_1889 f29
  replace f30 := shm_305 f30
  replace f31 := shm_306 f31
  have s2 : (∀ b j, w_el w1 b j = if b = v_ad (n_v vs 21) ∧ j = (v_iv (n_v vs 22)).toNat then v_iv (n_v vs 25) else w_el w2 b j) ∧ ∀ b k, w_fd w1 b k = w_fd w2 b k := s2.2
  replace f33 := shm_12 f33
  replace f34 := shm_107 f34
  replace f35 := shm_126 f35
  replace f36 := shm_127 f36
  replace f37 := shm_39 f37
  replace f38 := shm_295 f38
  replace f39 := shm_1724 f39
  replace f40 := shm_1725 f40
  replace f41 := shm_121 f41
  replace f42 := shm_122 f42
  replace f43 := shm_126 f43
  replace f44 := shm_127 f44
  replace f45 := shm_1232 f45
  replace f46 := shm_1233 f46
  replace f47 := shm_1437 f47
  replace f48 := shm_1438 f48
  replace f49 := shm_1431 f49
  replace f50 := shm_2111 f50
  replace f51 := shm_1009 f51
  replace f52 := shm_980 f52
  replace f53 := shm_2112 f53
  replace f54 := shm_722 f54
  replace f55 := shm_1856 f55
  replace f56 := shm_1889 f56
  replace f57 := shm_305 f57
  replace f58 := shm_306 f58
  replace f60 := shm_37 f60
  replace f61 := shm_32 f61
  replace f62 := shm_40 f62
  replace f63 := shm_39 f63
  replace f64 := shm_39 f64
  replace f65 := shm_142 f65
  have ar_0_1_1 : w_ar w1 (n_v vs 0) 1 = w_ar ws (n_v vs 0) 1 := congrArg v_ad (s1.2 _ _).symm
  have ar_0_1_2 : w_ar w2 (n_v vs 0) 1 = w_ar ws (n_v vs 0) 1 := by rw [← ar_0_1_1]; show v_ad (w_fd w2 _ _) = v_ad (w_fd w1 _ _); rw [s2.2]
  have cr_0_1 := fdq_39 hD hth r0
  have ar_0_2_1 : w_ar w1 (n_v vs 0) 2 = w_ar ws (n_v vs 0) 2 := congrArg v_ad (s1.2 _ _).symm
  have ar_0_2_2 : w_ar w2 (n_v vs 0) 2 = w_ar ws (n_v vs 0) 2 := by rw [← ar_0_2_1]; show v_ad (w_fd w2 _ _) = v_ad (w_fd w1 _ _); rw [s2.2]
  have cr_0_2 := fdq_10 hD hth r0
  have ar_0_3_1 : w_ar w1 (n_v vs 0) 3 = w_ar ws (n_v vs 0) 3 := congrArg v_ad (s1.2 _ _).symm
  have ar_0_3_2 : w_ar w2 (n_v vs 0) 3 = w_ar ws (n_v vs 0) 3 := by rw [← ar_0_3_1]; show v_ad (w_fd w2 _ _) = v_ad (w_fd w1 _ _); rw [s2.2]
  have cr_0_3 := fdq_142 hD hth r0
  have ar_0_4_1 : w_ar w1 (n_v vs 0) 4 = w_ar ws (n_v vs 0) 4 := congrArg v_ad (s1.2 _ _).symm
  have ar_0_4_2 : w_ar w2 (n_v vs 0) 4 = w_ar ws (n_v vs 0) 4 := by rw [← ar_0_4_1]; show v_ad (w_fd w2 _ _) = v_ad (w_fd w1 _ _); rw [s2.2]
  have cr_0_4 := fdq_143 hD hth r0
  have fi_0_5_1 : w_fi w1 (n_v vs 0) 5 = w_fi ws (n_v vs 0) 5 := by show v_iv (w_fd w1 _ _) = v_iv (w_fd ws _ _); rw [s1.2]
  have fi_0_5_2 : w_fi w2 (n_v vs 0) 5 = w_fi ws (n_v vs 0) 5 := by rw [← fi_0_5_1]; show v_iv (w_fd w2 _ _) = v_iv (w_fd w1 _ _); rw [s2.2]
  have ad_21 : v_ad (n_v vs 21) = w_ar ws (n_v vs 0) 2 := congrArg v_ad f3
  have g0 : v_iv (n_v vs 30) = w_fi ws (n_v vs 0) 15 := congrArg v_iv f0
  have g1 : v_iv (n_v vs 29) = w_fi ws (n_v vs 0) 11 := congrArg v_iv f1
  have g2 : v_iv (n_v vs 22) = w_fi ws (n_v vs 0) 5 := congrArg v_iv f2
  have g4 : v_iv (n_v vs 19) = w_fi ws (n_v vs 0) 8 := congrArg v_iv f4
  have g5 : v_iv (n_v vs 17) = w_fi ws (n_v vs 0) 13 := congrArg v_iv f5
  simp only [ar_0_1_1, ad_21] at f21 f29 f34
  have h34 : v_iv (n_v vs 23) = w_ei w2 (w_ar ws (n_v vs 0) 2) (v_iv (n_v vs 22)) := f34
  simp only [ar_0_2_2, ar_0_1_2, ar_0_3_2, ar_0_4_2] at f35 f36 f39 f41 f42 f43 f44 f45 f46 f51 f52 f53 f56
  simp only [fi_0_5_2] at f35 f36 f41 f42 f43 f44
  have fe_0_5_1 : w_fi ws (n_v vs 0) 5 = w_fi w1 (n_v vs 0) 5 := congrArg v_iv (s1.2 _ _)
  have fe_0_8_1 : w_fi ws (n_v vs 0) 8 = w_fi w1 (n_v vs 0) 8 := congrArg v_iv (s1.2 _ _)
  have fe_0_9_1 : w_fi ws (n_v vs 0) 9 = w_fi w1 (n_v vs 0) 9 := congrArg v_iv (s1.2 _ _)
  have fe_0_10_1 : w_fi ws (n_v vs 0) 10 = w_fi w1 (n_v vs 0) 10 := congrArg v_iv (s1.2 _ _)
  have fe_0_11_1 : w_fi ws (n_v vs 0) 11 = w_fi w1 (n_v vs 0) 11 := congrArg v_iv (s1.2 _ _)
  have fe_0_12_1 : w_fi ws (n_v vs 0) 12 = w_fi w1 (n_v vs 0) 12 := congrArg v_iv (s1.2 _ _)
  have fe_0_13_1 : w_fi ws (n_v vs 0) 13 = w_fi w1 (n_v vs 0) 13 := congrArg v_iv (s1.2 _ _)
  have fe_0_14_1 : w_fi ws (n_v vs 0) 14 = w_fi w1 (n_v vs 0) 14 := congrArg v_iv (s1.2 _ _)
  have fe_0_15_1 : w_fi ws (n_v vs 0) 15 = w_fi w1 (n_v vs 0) 15 := congrArg v_iv (s1.2 _ _)
  have fe_0_5_2 : w_fi w1 (n_v vs 0) 5 = w_fi w2 (n_v vs 0) 5 := congrArg v_iv (s2.2 _ _)
  have fe_0_8_2 : w_fi w1 (n_v vs 0) 8 = w_fi w2 (n_v vs 0) 8 := congrArg v_iv (s2.2 _ _)
  have fe_0_9_2 : w_fi w1 (n_v vs 0) 9 = w_fi w2 (n_v vs 0) 9 := congrArg v_iv (s2.2 _ _)
  have fe_0_10_2 : w_fi w1 (n_v vs 0) 10 = w_fi w2 (n_v vs 0) 10 := congrArg v_iv (s2.2 _ _)
  have fe_0_11_2 : w_fi w1 (n_v vs 0) 11 = w_fi w2 (n_v vs 0) 11 := congrArg v_iv (s2.2 _ _)
  have fe_0_12_2 : w_fi w1 (n_v vs 0) 12 = w_fi w2 (n_v vs 0) 12 := congrArg v_iv (s2.2 _ _)
  have fe_0_13_2 : w_fi w1 (n_v vs 0) 13 = w_fi w2 (n_v vs 0) 13 := congrArg v_iv (s2.2 _ _)
  have fe_0_14_2 : w_fi w1 (n_v vs 0) 14 = w_fi w2 (n_v vs 0) 14 := congrArg v_iv (s2.2 _ _)
  have fe_0_15_2 : w_fi w1 (n_v vs 0) 15 = w_fi w2 (n_v vs 0) 15 := congrArg v_iv (s2.2 _ _)
  have hE_0_1_1 : ∀ j : Int, w_ei ws (w_ar ws (n_v vs 0) 1) j = w_ei w1 (w_ar ws (n_v vs 0) 1) j := el_kp s1.1 r21 cr_0_1 (by decide)
  have hE_0_1_2 : ∀ j : Int, w_ei w1 (w_ar ws (n_v vs 0) 1) j = w_ei w2 (w_ar ws (n_v vs 0) 1) j := el_kp s2.1 r21 cr_0_1 (by decide)
  have hK_0_1 := elq_7 hD hth cr_0_1
  have hE_0_2_1 : ∀ j : Int, 0 ≤ j → (j = v_iv (n_v vs 28) → w_ei ws (w_ar ws (n_v vs 0) 2) j = v_iv (n_v vs 31)) ∧ (j ≠ v_iv (n_v vs 28) → w_ei ws (w_ar ws (n_v vs 0) 2) j = w_ei w1 (w_ar ws (n_v vs 0) 2) j) := fun j hj => ⟨fun h => by unfold w_ei; rw [s1.1, if_pos ⟨ad_21.symm, by rw [h]⟩], fun h => by unfold w_ei; rw [s1.1, if_neg (fun e => h (by have := e.2; omega))]⟩
  have hE_0_2_2 : ∀ j : Int, 0 ≤ j → (j = v_iv (n_v vs 22) → w_ei w1 (w_ar ws (n_v vs 0) 2) j = v_iv (n_v vs 25)) ∧ (j ≠ v_iv (n_v vs 22) → w_ei w1 (w_ar ws (n_v vs 0) 2) j = w_ei w2 (w_ar ws (n_v vs 0) 2) j) := fun j hj => ⟨fun h => by unfold w_ei; rw [s2.1, if_pos ⟨ad_21.symm, by rw [h]⟩], fun h => by unfold w_ei; rw [s2.1, if_neg (fun e => h (by have := e.2; omega))]⟩
  have hE_0_3_1 : ∀ j : Int, w_ei ws (w_ar ws (n_v vs 0) 3) j = w_ei w1 (w_ar ws (n_v vs 0) 3) j := el_kp s1.1 r21 cr_0_3 (by decide)
  have hE_0_3_2 : ∀ j : Int, w_ei w1 (w_ar ws (n_v vs 0) 3) j = w_ei w2 (w_ar ws (n_v vs 0) 3) j := el_kp s2.1 r21 cr_0_3 (by decide)
  have hK_0_3 := elq_80 hD hth cr_0_3
  have hE_0_4_1 : ∀ j : Int, w_ei ws (w_ar ws (n_v vs 0) 4) j = w_ei w1 (w_ar ws (n_v vs 0) 4) j := el_kp s1.1 r21 cr_0_4 (by decide)
  have hE_0_4_2 : ∀ j : Int, w_ei w1 (w_ar ws (n_v vs 0) 4) j = w_ei w2 (w_ar ws (n_v vs 0) 4) j := el_kp s2.1 r21 cr_0_4 (by decide)
  have hK_0_4 := elq_81 hD hth cr_0_4
  have kz_0_8 := fdq_34 hD hth r0
  have kz_0_9 := fdq_44 hD hth r0
  have kz_0_10 := fdq_43 hD hth r0
  have kz_0_11 := fdq_237 hD hth r0
  have kz_0_12 := fdq_187 hD hth r0
  have kz_0_13 := fdq_238 hD hth r0
  have kz_0_14 := fdq_188 hD hth r0
  have kz_0_15 := fdq_239 hD hth r0
  first | have hJ0 : w_ei w2 (w_ar ws (n_v vs 0) 2) ((w_fi w2 (n_v vs 0) 5 + 2)) = w_ei w2 (w_ar ws (n_v vs 0) 2) ((w_fi ws (n_v vs 0) 5 + 2)) := congrArg _ (show ((w_fi w2 (n_v vs 0) 5 + 2) : Int) = (w_fi ws (n_v vs 0) 5 + 2) from by omega) | skip
  first | have hI1 := (hE_0_2_1 ((w_fi ws (n_v vs 0) 5 + 2)) (by omega)).2 (by omega) | have hI1 := (hE_0_2_1 ((w_fi ws (n_v vs 0) 5 + 2)) (by omega)).1 (by omega) | skip
  first | have hI2 := (hE_0_2_2 ((w_fi ws (n_v vs 0) 5 + 2)) (by omega)).2 (by omega) | have hI2 := (hE_0_2_2 ((w_fi ws (n_v vs 0) 5 + 2)) (by omega)).1 (by omega) | skip
  first | have hI3 := (hE_0_2_1 ((w_fi ws (n_v vs 0) 5 + 1)) (by omega)).2 (by omega) | have hI3 := (hE_0_2_1 ((w_fi ws (n_v vs 0) 5 + 1)) (by omega)).1 (by omega) | skip
  first | have hI4 := (hE_0_2_2 ((w_fi ws (n_v vs 0) 5 + 1)) (by omega)).2 (by omega) | have hI4 := (hE_0_2_2 ((w_fi ws (n_v vs 0) 5 + 1)) (by omega)).1 (by omega) | skip
  have nf0 : fc_1 PRD (20, [4, 0], [30, -1, 1, 0, 0, -1, 1, 11]) ws (vs) := ⟨nf_in hl rfl, sgq_2005 (vc_Mo_met_at_g4_18_0 (v_iv (n_v vs 4)) (v_iv (n_v vs 19)) (v_iv (n_v vs 22)) (v_iv (n_v vs 25)) (v_iv (n_v vs 28)) (v_iv (n_v vs 31)) (w_fi ws (n_v vs 0) 15) (w_fi ws (n_v vs 0) 11) (w_fi ws (n_v vs 0) 5) (w_fi ws (n_v vs 0) 8) (w_fi ws (n_v vs 0) 13) (w_ei ws (w_ar ws (n_v vs 0) 1)) (w_fi ws (n_v vs 0) 10) (w_fi ws (n_v vs 0) 12) (w_fi ws (n_v vs 0) 9) (w_ei w1 (w_ar ws (n_v vs 0) 1)) (w_fi w1 (n_v vs 0) 10) (w_fi w1 (n_v vs 0) 15) (w_fi w1 (n_v vs 0) 11) (w_fi w1 (n_v vs 0) 12) (w_fi w1 (n_v vs 0) 8) (w_fi w1 (n_v vs 0) 9) (w_ei w2 (w_ar ws (n_v vs 0) 2)) (w_ei w2 (w_ar ws (n_v vs 0) 1)) (w_fi w2 (n_v vs 0) 10) (w_fi w2 (n_v vs 0) 5) (w_fi w2 (n_v vs 0) 11) (w_fi w2 (n_v vs 0) 15) (w_fi w2 (n_v vs 0) 12) (w_ei w2 (w_ar ws (n_v vs 0) 3)) (w_ei w2 (w_ar ws (n_v vs 0) 4)) (w_fi w2 (n_v vs 0) 8) (w_fi w2 (n_v vs 0) 9) (w_fi w1 (n_v vs 0) 5) (w_fi w1 (n_v vs 0) 13) (w_fi ws (n_v vs 0) 14) (w_fi w1 (n_v vs 0) 14) (w_ei ws (w_ar ws (n_v vs 0) 2)) (w_ei w1 (w_ar ws (n_v vs 0) 2)) (w_ei ws (w_ar ws (n_v vs 0) 3)) (w_ei w1 (w_ar ws (n_v vs 0) 3)) (w_ei ws (w_ar ws (n_v vs 0) 4)) (w_ei w1 (w_ar ws (n_v vs 0) 4)) k4 k19 k22 k25 k28 k31 g4 f15 fe_0_5_1 fe_0_8_1 fe_0_9_1 fe_0_10_1 fe_0_11_1 fe_0_12_1 fe_0_13_1 fe_0_14_1 fe_0_15_1 fe_0_5_2 fe_0_8_2 fe_0_9_2 fe_0_10_2 fe_0_11_2 fe_0_12_2 fe_0_15_2 hE_0_1_1 hE_0_1_2 hE_0_2_1 hE_0_2_2 hE_0_3_1 hE_0_3_2 hE_0_4_1 hE_0_4_2 kz_0_8 kz_0_9 kz_0_10 kz_0_11 kz_0_12 kz_0_13 kz_0_14 kz_0_15)⟩
  have nf1 : fc_1 PRD (20, [0], [50, 1, 0, 12, 1, 3, 2, 0, 12, 0, 1]) ws (vs) := ⟨nf_in hl rfl, sgq_1890 (vc_Mo_met_at_g4_18_1 (v_iv (n_v vs 19)) (v_iv (n_v vs 22)) (v_iv (n_v vs 25)) (v_iv (n_v vs 28)) (v_iv (n_v vs 31)) (w_fi ws (n_v vs 0) 15) (w_fi ws (n_v vs 0) 11) (w_fi ws (n_v vs 0) 5) (w_fi ws (n_v vs 0) 8) (w_fi ws (n_v vs 0) 13) (w_ei ws (w_ar ws (n_v vs 0) 1)) (w_fi ws (n_v vs 0) 10) (w_fi ws (n_v vs 0) 12) (w_fi ws (n_v vs 0) 9) (w_ei w1 (w_ar ws (n_v vs 0) 1)) (w_fi w1 (n_v vs 0) 10) (w_fi w1 (n_v vs 0) 15) (w_fi w1 (n_v vs 0) 11) (w_fi w1 (n_v vs 0) 12) (w_fi w1 (n_v vs 0) 8) (w_fi w1 (n_v vs 0) 9) (w_ei w2 (w_ar ws (n_v vs 0) 2)) (w_ei w2 (w_ar ws (n_v vs 0) 1)) (w_fi w2 (n_v vs 0) 10) (w_fi w2 (n_v vs 0) 5) (w_fi w2 (n_v vs 0) 11) (w_fi w2 (n_v vs 0) 15) (w_fi w2 (n_v vs 0) 12) (w_ei w2 (w_ar ws (n_v vs 0) 3)) (w_ei w2 (w_ar ws (n_v vs 0) 4)) (w_fi w2 (n_v vs 0) 8) (w_fi w2 (n_v vs 0) 9) (w_fi w1 (n_v vs 0) 5) (w_fi w1 (n_v vs 0) 13) (w_fi ws (n_v vs 0) 14) (w_fi w1 (n_v vs 0) 14) (w_ei ws (w_ar ws (n_v vs 0) 2)) (w_ei w1 (w_ar ws (n_v vs 0) 2)) (w_ei ws (w_ar ws (n_v vs 0) 3)) (w_ei w1 (w_ar ws (n_v vs 0) 3)) (w_ei ws (w_ar ws (n_v vs 0) 4)) (w_ei w1 (w_ar ws (n_v vs 0) 4)) k19 k22 k25 k28 k31 g4 f15 fe_0_5_1 fe_0_8_1 fe_0_9_1 fe_0_10_1 fe_0_11_1 fe_0_12_1 fe_0_13_1 fe_0_14_1 fe_0_15_1 fe_0_5_2 fe_0_8_2 fe_0_9_2 fe_0_10_2 fe_0_11_2 fe_0_12_2 fe_0_15_2 hE_0_1_1 hE_0_1_2 hE_0_2_1 hE_0_2_2 hE_0_3_1 hE_0_3_2 hE_0_4_1 hE_0_4_2 kz_0_8 kz_0_9 kz_0_10 kz_0_11 kz_0_12 kz_0_13 kz_0_14 kz_0_15)⟩
  have nf2 : fc_1 PRD (20, [2, 0], [50, 1, 1, 1005, 1002, 3, 6, 0, 2, 1, 0, 0, -1, 0, 10, 3, 1, 2, 4, 3, 2, 1, 5, 0, 1, 0, 47]) ws (vs) := ⟨nf_in hl rfl, sgq_2114 (vc_Mo_met_at_g4_18_2 (v_iv (n_v vs 2)) (v_iv (n_v vs 19)) (v_iv (n_v vs 22)) (v_iv (n_v vs 25)) (v_iv (n_v vs 28)) (v_iv (n_v vs 31)) (w_fi ws (n_v vs 0) 15) (w_fi ws (n_v vs 0) 11) (w_fi ws (n_v vs 0) 5) (w_fi ws (n_v vs 0) 8) (w_fi ws (n_v vs 0) 13) (w_ei ws (w_ar ws (n_v vs 0) 1)) (w_fi ws (n_v vs 0) 10) (w_fi ws (n_v vs 0) 12) (w_fi ws (n_v vs 0) 9) (w_ei w1 (w_ar ws (n_v vs 0) 1)) (w_fi w1 (n_v vs 0) 10) (w_fi w1 (n_v vs 0) 15) (w_fi w1 (n_v vs 0) 11) (w_fi w1 (n_v vs 0) 12) (w_fi w1 (n_v vs 0) 8) (w_fi w1 (n_v vs 0) 9) (w_ei w2 (w_ar ws (n_v vs 0) 2)) (w_ei w2 (w_ar ws (n_v vs 0) 1)) (w_fi w2 (n_v vs 0) 10) (w_fi w2 (n_v vs 0) 5) (w_fi w2 (n_v vs 0) 11) (w_fi w2 (n_v vs 0) 15) (w_fi w2 (n_v vs 0) 12) (w_ei w2 (w_ar ws (n_v vs 0) 3)) (w_ei w2 (w_ar ws (n_v vs 0) 4)) (w_fi w2 (n_v vs 0) 8) (w_fi w2 (n_v vs 0) 9) (w_fi w1 (n_v vs 0) 5) (w_fi w1 (n_v vs 0) 13) (w_fi ws (n_v vs 0) 14) (w_fi w1 (n_v vs 0) 14) (w_ei ws (w_ar ws (n_v vs 0) 2)) (w_ei w1 (w_ar ws (n_v vs 0) 2)) (w_ei ws (w_ar ws (n_v vs 0) 3)) (w_ei w1 (w_ar ws (n_v vs 0) 3)) (w_ei ws (w_ar ws (n_v vs 0) 4)) (w_ei w1 (w_ar ws (n_v vs 0) 4)) k2 k19 k22 k25 k28 k31 g4 f15 fe_0_5_1 fe_0_8_1 fe_0_9_1 fe_0_10_1 fe_0_11_1 fe_0_12_1 fe_0_13_1 fe_0_14_1 fe_0_15_1 fe_0_5_2 fe_0_8_2 fe_0_9_2 fe_0_10_2 fe_0_11_2 fe_0_12_2 fe_0_15_2 hE_0_1_1 hE_0_1_2 hE_0_2_1 hE_0_2_2 hE_0_3_1 hE_0_3_2 hE_0_4_1 hE_0_4_2 kz_0_8 kz_0_9 kz_0_10 kz_0_11 kz_0_12 kz_0_13 kz_0_14 kz_0_15)⟩
  have nf3 : fc_1 PRD (20, [1, 0], [50, 1, 1, 1005, 1002, 0, 6, 4, 2, 1, 0, 0, 1, 3, 1, 2, 4, 3, 2, 1, 5, 0, 2]) ws (vs) := ⟨nf_in hl rfl, sgq_1009 (vc_Mo_met_at_g4_18_3 (v_iv (n_v vs 1)) (v_iv (n_v vs 19)) (v_iv (n_v vs 22)) (v_iv (n_v vs 25)) (v_iv (n_v vs 28)) (v_iv (n_v vs 31)) (w_fi ws (n_v vs 0) 15) (w_fi ws (n_v vs 0) 11) (w_fi ws (n_v vs 0) 5) (w_fi ws (n_v vs 0) 8) (w_fi ws (n_v vs 0) 13) (w_ei ws (w_ar ws (n_v vs 0) 1)) (w_fi ws (n_v vs 0) 10) (w_fi ws (n_v vs 0) 12) (w_fi ws (n_v vs 0) 9) (w_ei w1 (w_ar ws (n_v vs 0) 1)) (w_fi w1 (n_v vs 0) 10) (w_fi w1 (n_v vs 0) 15) (w_fi w1 (n_v vs 0) 11) (w_fi w1 (n_v vs 0) 12) (w_fi w1 (n_v vs 0) 8) (w_fi w1 (n_v vs 0) 9) (w_ei w2 (w_ar ws (n_v vs 0) 2)) (w_ei w2 (w_ar ws (n_v vs 0) 1)) (w_fi w2 (n_v vs 0) 10) (w_fi w2 (n_v vs 0) 5) (w_fi w2 (n_v vs 0) 11) (w_fi w2 (n_v vs 0) 15) (w_fi w2 (n_v vs 0) 12) (w_ei w2 (w_ar ws (n_v vs 0) 3)) (w_ei w2 (w_ar ws (n_v vs 0) 4)) (w_fi w2 (n_v vs 0) 8) (w_fi w2 (n_v vs 0) 9) (w_fi w1 (n_v vs 0) 5) (w_fi w1 (n_v vs 0) 13) (w_fi ws (n_v vs 0) 14) (w_fi w1 (n_v vs 0) 14) (w_ei ws (w_ar ws (n_v vs 0) 2)) (w_ei w1 (w_ar ws (n_v vs 0) 2)) (w_ei ws (w_ar ws (n_v vs 0) 3)) (w_ei w1 (w_ar ws (n_v vs 0) 3)) (w_ei ws (w_ar ws (n_v vs 0) 4)) (w_ei w1 (w_ar ws (n_v vs 0) 4)) k1 k19 k22 k25 k28 k31 g4 f15 fe_0_5_1 fe_0_8_1 fe_0_9_1 fe_0_10_1 fe_0_11_1 fe_0_12_1 fe_0_13_1 fe_0_14_1 fe_0_15_1 fe_0_5_2 fe_0_8_2 fe_0_9_2 fe_0_10_2 fe_0_11_2 fe_0_12_2 fe_0_15_2 hE_0_1_1 hE_0_1_2 hE_0_2_1 hE_0_2_2 hE_0_3_1 hE_0_3_2 hE_0_4_1 hE_0_4_2 kz_0_8 kz_0_9 kz_0_10 kz_0_11 kz_0_12 kz_0_13 kz_0_14 kz_0_15)⟩
  have nf4 : fc_1 PRD (20, [0, 20], [60, 1, 3, 200, 5, 2, 3, 4]) ws (vs) := ⟨nf_in hl rfl, sgq_1803 (vc_Mo_met_at_g4_18_4 (v_iv (n_v vs 19)) (v_iv (n_v vs 20)) (w_fi ws (n_v vs 0) 15) (w_fi ws (n_v vs 0) 11) (w_fi ws (n_v vs 0) 5) (w_fi ws (n_v vs 0) 8) (w_fi ws (n_v vs 0) 13) (w_ei ws (w_ar ws (n_v vs 0) 1)) (w_fi ws (n_v vs 0) 10) (w_fi ws (n_v vs 0) 12) (w_fi ws (n_v vs 0) 9) (w_ei w1 (w_ar ws (n_v vs 0) 1)) (w_fi w1 (n_v vs 0) 10) (w_fi w1 (n_v vs 0) 15) (w_fi w1 (n_v vs 0) 11) (w_fi w1 (n_v vs 0) 12) (w_fi w1 (n_v vs 0) 8) (w_fi w1 (n_v vs 0) 9) (w_ei w2 (w_ar ws (n_v vs 0) 1)) (w_fi w2 (n_v vs 0) 10) (w_fi w2 (n_v vs 0) 5) (w_fi w2 (n_v vs 0) 11) (w_fi w2 (n_v vs 0) 15) (w_fi w2 (n_v vs 0) 12) (w_ei w2 (w_ar ws (n_v vs 0) 3)) (w_ei w2 (w_ar ws (n_v vs 0) 4)) (w_fi w2 (n_v vs 0) 8) (w_fi w2 (n_v vs 0) 9) (w_fi w1 (n_v vs 0) 5) (w_fi w1 (n_v vs 0) 13) (w_fi ws (n_v vs 0) 14) (w_fi w1 (n_v vs 0) 14) (w_ei ws (w_ar ws (n_v vs 0) 2)) (w_ei ws (w_ar ws (n_v vs 0) 3)) (w_ei w1 (w_ar ws (n_v vs 0) 3)) (w_ei ws (w_ar ws (n_v vs 0) 4)) (w_ei w1 (w_ar ws (n_v vs 0) 4)) k19 k20 g4 f15 fe_0_5_1 fe_0_8_1 fe_0_9_1 fe_0_10_1 fe_0_11_1 fe_0_12_1 fe_0_13_1 fe_0_14_1 fe_0_15_1 fe_0_5_2 fe_0_8_2 fe_0_9_2 fe_0_10_2 fe_0_11_2 fe_0_12_2 fe_0_15_2 hE_0_1_1 hE_0_1_2 hE_0_3_1 hE_0_3_2 hE_0_4_1 hE_0_4_2 kz_0_8 kz_0_9 kz_0_10 kz_0_11 kz_0_12 kz_0_13 kz_0_14 kz_0_15)⟩
  have nf5 : fc_1 PRD (20, [0, 2, 20], [60, 1, 1, 243, 5, 2]) ws (vs) := ⟨nf_in hl rfl, sgq_2115 (vc_Mo_met_at_g4_18_5 (v_iv (n_v vs 2)) (v_iv (n_v vs 19)) (v_iv (n_v vs 20)) (w_fi ws (n_v vs 0) 15) (w_fi ws (n_v vs 0) 11) (w_fi ws (n_v vs 0) 5) (w_fi ws (n_v vs 0) 8) (w_fi ws (n_v vs 0) 13) (w_ei ws (w_ar ws (n_v vs 0) 1)) (w_fi ws (n_v vs 0) 10) (w_fi ws (n_v vs 0) 12) (w_fi ws (n_v vs 0) 9) (w_ei w1 (w_ar ws (n_v vs 0) 1)) (w_fi w1 (n_v vs 0) 10) (w_fi w1 (n_v vs 0) 15) (w_fi w1 (n_v vs 0) 11) (w_fi w1 (n_v vs 0) 12) (w_fi w1 (n_v vs 0) 8) (w_fi w1 (n_v vs 0) 9) (w_ei w2 (w_ar ws (n_v vs 0) 1)) (w_fi w2 (n_v vs 0) 10) (w_fi w2 (n_v vs 0) 5) (w_fi w2 (n_v vs 0) 11) (w_fi w2 (n_v vs 0) 15) (w_fi w2 (n_v vs 0) 12) (w_ei w2 (w_ar ws (n_v vs 0) 3)) (w_ei w2 (w_ar ws (n_v vs 0) 4)) (w_fi w2 (n_v vs 0) 8) (w_fi w2 (n_v vs 0) 9) (w_fi w1 (n_v vs 0) 5) (w_fi w1 (n_v vs 0) 13) (w_fi ws (n_v vs 0) 14) (w_fi w1 (n_v vs 0) 14) (w_ei ws (w_ar ws (n_v vs 0) 2)) (w_ei ws (w_ar ws (n_v vs 0) 3)) (w_ei w1 (w_ar ws (n_v vs 0) 3)) (w_ei ws (w_ar ws (n_v vs 0) 4)) (w_ei w1 (w_ar ws (n_v vs 0) 4)) k2 k19 k20 g4 f15 fe_0_5_1 fe_0_8_1 fe_0_9_1 fe_0_10_1 fe_0_11_1 fe_0_12_1 fe_0_13_1 fe_0_14_1 fe_0_15_1 fe_0_5_2 fe_0_8_2 fe_0_9_2 fe_0_10_2 fe_0_11_2 fe_0_12_2 fe_0_15_2 hE_0_1_1 hE_0_1_2 hE_0_3_1 hE_0_3_2 hE_0_4_1 hE_0_4_2 kz_0_8 kz_0_9 kz_0_10 kz_0_11 kz_0_12 kz_0_13 kz_0_14 kz_0_15)⟩
  have nf6 : fc_1 PRD (20, [0, 20, 32, 2, 6, 7, 1, 5], [60, 8, 2, 1005, 10, 11, 12, 13, 14, 15, 8, 5, 1, 2]) ws (vs) := ⟨nf_in hl rfl, sgq_2127 (vc_Mo_met_at_g4_18_6 (v_iv (n_v vs 1)) (v_iv (n_v vs 2)) (v_iv (n_v vs 5)) (v_iv (n_v vs 6)) (v_iv (n_v vs 7)) (v_iv (n_v vs 17)) (v_iv (n_v vs 19)) (v_iv (n_v vs 20)) (v_iv (n_v vs 22)) (v_iv (n_v vs 29)) (v_iv (n_v vs 30)) (v_iv (n_v vs 32)) (w_fi ws (n_v vs 0) 15) (w_fi ws (n_v vs 0) 11) (w_fi ws (n_v vs 0) 5) (w_fi ws (n_v vs 0) 8) (w_fi ws (n_v vs 0) 13) (w_ei ws (w_ar ws (n_v vs 0) 1)) (w_fi ws (n_v vs 0) 10) (w_fi ws (n_v vs 0) 12) (w_fi ws (n_v vs 0) 9) (w_ei w1 (w_ar ws (n_v vs 0) 1)) (w_fi w1 (n_v vs 0) 10) (w_fi w1 (n_v vs 0) 15) (w_fi w1 (n_v vs 0) 11) (w_fi w1 (n_v vs 0) 12) (w_fi w1 (n_v vs 0) 8) (w_fi w1 (n_v vs 0) 9) (w_ei w2 (w_ar ws (n_v vs 0) 1)) (w_fi w2 (n_v vs 0) 10) (w_fi w2 (n_v vs 0) 5) (w_fi w2 (n_v vs 0) 11) (w_fi w2 (n_v vs 0) 15) (w_fi w2 (n_v vs 0) 12) (w_ei w2 (w_ar ws (n_v vs 0) 3)) (w_ei w2 (w_ar ws (n_v vs 0) 4)) (w_fi w2 (n_v vs 0) 8) (w_fi w2 (n_v vs 0) 9) (w_fi w1 (n_v vs 0) 5) (w_fi w1 (n_v vs 0) 13) (w_fi ws (n_v vs 0) 14) (w_fi w1 (n_v vs 0) 14) (w_ei ws (w_ar ws (n_v vs 0) 2)) (w_ei ws (w_ar ws (n_v vs 0) 3)) (w_ei w1 (w_ar ws (n_v vs 0) 3)) (w_ei ws (w_ar ws (n_v vs 0) 4)) (w_ei w1 (w_ar ws (n_v vs 0) 4)) k1 k2 k5 k6 k7 k17 k19 k20 k22 k29 k30 k32 g0 g1 g2 g4 g5 f15 fe_0_5_1 fe_0_8_1 fe_0_9_1 fe_0_10_1 fe_0_11_1 fe_0_12_1 fe_0_13_1 fe_0_14_1 fe_0_15_1 fe_0_5_2 fe_0_8_2 fe_0_9_2 fe_0_10_2 fe_0_11_2 fe_0_12_2 fe_0_15_2 hE_0_1_1 hE_0_1_2 hE_0_3_1 hE_0_3_2 hE_0_4_1 hE_0_4_2 kz_0_8 kz_0_9 kz_0_10 kz_0_11 kz_0_12 kz_0_13 kz_0_14 kz_0_15)⟩
  have nf7 : fc_1 PRD (24, [0, 0], []) ws (vs) := by
    refine ⟨nf_in hl rfl, sgq_1 ?_⟩
    · show n_v vs 0 = n_v vs 0
      first | rfl | simp only [true_and]
  have nf8 : fc_1 PRD (24, [1, 1], []) ws (vs) := by
    refine ⟨nf_in hl rfl, sgq_1 ?_⟩
    · show n_v vs 1 = n_v vs 1
      first | rfl | simp only [true_and]
  have nf9 : fc_1 PRD (24, [2, 2], []) ws (vs) := by
    refine ⟨nf_in hl rfl, sgq_1 ?_⟩
    · show n_v vs 2 = n_v vs 2
      first | rfl | simp only [true_and]
  refine ⟨(fun _ h => (by cases h)), [], trivial, ?_, (fun _ h => (by cases h))⟩
  rw [List.append_nil]
  exact List.forall_mem_cons.mpr ⟨⟨show (20 : Nat) < 100 from by decide, nf0⟩, List.forall_mem_cons.mpr ⟨⟨show (20 : Nat) < 100 from by decide, nf1⟩, List.forall_mem_cons.mpr ⟨⟨show (20 : Nat) < 100 from by decide, nf2⟩, List.forall_mem_cons.mpr ⟨⟨show (20 : Nat) < 100 from by decide, nf3⟩, List.forall_mem_cons.mpr ⟨⟨show (20 : Nat) < 100 from by decide, nf4⟩, List.forall_mem_cons.mpr ⟨⟨show (20 : Nat) < 100 from by decide, nf5⟩, List.forall_mem_cons.mpr ⟨⟨show (20 : Nat) < 100 from by decide, nf6⟩, List.forall_mem_cons.mpr ⟨⟨show (24 : Nat) < 100 from by decide, nf7⟩, List.forall_mem_cons.mpr ⟨⟨show (24 : Nat) < 100 from by decide, nf8⟩, List.forall_mem_cons.mpr ⟨⟨show (24 : Nat) < 100 from by decide, nf9⟩, (fun _ h => (by cases h))⟩⟩⟩⟩⟩⟩⟩⟩⟩⟩
end
section

set_option maxHeartbeats 4000000 in
theorem vc_Mo_met_at_g4_19_0 (x3 : Int) (x19 : Int) (fault_0 : Int) (r_0 : Int) (pos_0 : Int) (kind_0 : Int) (k3 : 0 ≤ x3 ∧ x3 ≤ 2000) (k19 : 1 ≤ x19 ∧ x19 ≤ 5) (g2 : x19 = fault_0) (kz_0_8 : 0 ≤ fault_0 ∧ fault_0 ≤ 5) (kz_0_11 : 0 ≤ pos_0 ∧ pos_0 ≤ 2000) (kz_0_12 : 0 ≤ kind_0 ∧ kind_0 ≤ 4) : (1 ≤ fault_0) ∨ ((kind_0 = 0) ∨ ((x3 + 1) ≤ pos_0)) := by
  first
    | omega
    | (have q1 := (hE_0_2_1 (r_0 + 2) (by omega)).2 (by omega)
       have q2 := (hE_0_2_2 (r_0 + 2) (by omega)).2 (by omega)
       omega)
    | (have q1 := (hE_0_2_1 (r_0 + 1) (by omega)).2 (by omega)
       have q2 := (hE_0_2_2 (r_0 + 1) (by omega)).2 (by omega)
       omega)
    | (have q1 := (hE_0_2_1 (r_0 + 2) (by omega)).2 (by omega)
       omega)
    | (have q1 := (hE_0_2_1 (r_0 + 1) (by omega)).2 (by omega)
       omega)
    | (have q1 := (hE_0_2_1 (r_0 + 2) (by omega)).2 (by omega)
       have q2 := (hE_0_2_2 (r_0 + 2) (by omega)).2 (by omega)
       have q3 := (hE_0_2_3 (r_0 + 2) (by omega)).1 (by omega)
       omega)
    | (have q1 := (hE_0_2_1 (r_0 + 2) (by omega)).2 (by omega)
       have q2 := (hE_0_2_2 (r_0 + 2) (by omega)).2 (by omega)
       have q3 := (hE_0_2_3 (r_0 + 2) (by omega)).2 (by omega)
       omega)
set_option maxHeartbeats 4000000 in
theorem vc_Mo_met_at_g4_19_1 (x4 : Int) (x19 : Int) (fault_0 : Int) (r_0 : Int) (pos_0 : Int) (k4 : 0 ≤ x4 ∧ x4 ≤ 2000) (k19 : 1 ≤ x19 ∧ x19 ≤ 5) (g2 : x19 = fault_0) (kz_0_8 : 0 ≤ fault_0 ∧ fault_0 ≤ 5) (kz_0_11 : 0 ≤ pos_0 ∧ pos_0 ≤ 2000) : (1 ≤ fault_0) ∨ ((x4 + 1) ≤ pos_0) := by
  first
    | omega
    | (have q1 := (hE_0_2_1 (r_0 + 2) (by omega)).2 (by omega)
       have q2 := (hE_0_2_2 (r_0 + 2) (by omega)).2 (by omega)
       omega)
    | (have q1 := (hE_0_2_1 (r_0 + 1) (by omega)).2 (by omega)
       have q2 := (hE_0_2_2 (r_0 + 1) (by omega)).2 (by omega)
       omega)
    | (have q1 := (hE_0_2_1 (r_0 + 2) (by omega)).2 (by omega)
       omega)
    | (have q1 := (hE_0_2_1 (r_0 + 1) (by omega)).2 (by omega)
       omega)
    | (have q1 := (hE_0_2_1 (r_0 + 2) (by omega)).2 (by omega)
       have q2 := (hE_0_2_2 (r_0 + 2) (by omega)).2 (by omega)
       have q3 := (hE_0_2_3 (r_0 + 2) (by omega)).1 (by omega)
       omega)
    | (have q1 := (hE_0_2_1 (r_0 + 2) (by omega)).2 (by omega)
       have q2 := (hE_0_2_2 (r_0 + 2) (by omega)).2 (by omega)
       have q3 := (hE_0_2_3 (r_0 + 2) (by omega)).2 (by omega)
       omega)
set_option maxHeartbeats 4000000 in
theorem vc_Mo_met_at_g4_19_2 (x19 : Int) (x20 : Int) (fault_0 : Int) (r_0 : Int) (k19 : 1 ≤ x19 ∧ x19 ≤ 5) (k20 : (-1) ≤ x20 ∧ x20 ≤ (-1)) (g2 : x19 = fault_0) (kz_0_8 : 0 ≤ fault_0 ∧ fault_0 ≤ 5) : ((-1) * fault_0 + 0 ≤ (-1)) ∨ ((-1) * x20 + 0 ≤ 0) := by
  first
    | omega
    | (have q1 := (hE_0_2_1 (r_0 + 2) (by omega)).2 (by omega)
       have q2 := (hE_0_2_2 (r_0 + 2) (by omega)).2 (by omega)
       omega)
    | (have q1 := (hE_0_2_1 (r_0 + 1) (by omega)).2 (by omega)
       have q2 := (hE_0_2_2 (r_0 + 1) (by omega)).2 (by omega)
       omega)
    | (have q1 := (hE_0_2_1 (r_0 + 2) (by omega)).2 (by omega)
       omega)
    | (have q1 := (hE_0_2_1 (r_0 + 1) (by omega)).2 (by omega)
       omega)
    | (have q1 := (hE_0_2_1 (r_0 + 2) (by omega)).2 (by omega)
       have q2 := (hE_0_2_2 (r_0 + 2) (by omega)).2 (by omega)
       have q3 := (hE_0_2_3 (r_0 + 2) (by omega)).1 (by omega)
       omega)
    | (have q1 := (hE_0_2_1 (r_0 + 2) (by omega)).2 (by omega)
       have q2 := (hE_0_2_2 (r_0 + 2) (by omega)).2 (by omega)
       have q3 := (hE_0_2_3 (r_0 + 2) (by omega)).2 (by omega)
       omega)
set_option maxHeartbeats 4000000 in
theorem vc_Mo_met_at_g4_19_3 (x2 : Int) (x19 : Int) (fault_0 : Int) (all_0 : Int → Int) (r_0 : Int) (k2 : 0 ≤ x2 ∧ x2 ≤ 23) (k19 : 1 ≤ x19 ∧ x19 ≤ 5) (g2 : x19 = fault_0) (kz_0_8 : 0 ≤ fault_0 ∧ fault_0 ≤ 5) : (1 ≤ fault_0) ∨ ((x2 ≤ (-1)) ∨ (all_0 ((r_0 + 1)) ≤ 47)) := by
  first
    | omega
    | (have q1 := (hE_0_2_1 (r_0 + 2) (by omega)).2 (by omega)
       have q2 := (hE_0_2_2 (r_0 + 2) (by omega)).2 (by omega)
       omega)
    | (have q1 := (hE_0_2_1 (r_0 + 1) (by omega)).2 (by omega)
       have q2 := (hE_0_2_2 (r_0 + 1) (by omega)).2 (by omega)
       omega)
    | (have q1 := (hE_0_2_1 (r_0 + 2) (by omega)).2 (by omega)
       omega)
    | (have q1 := (hE_0_2_1 (r_0 + 1) (by omega)).2 (by omega)
       omega)
    | (have q1 := (hE_0_2_1 (r_0 + 2) (by omega)).2 (by omega)
       have q2 := (hE_0_2_2 (r_0 + 2) (by omega)).2 (by omega)
       have q3 := (hE_0_2_3 (r_0 + 2) (by omega)).1 (by omega)
       omega)
    | (have q1 := (hE_0_2_1 (r_0 + 2) (by omega)).2 (by omega)
       have q2 := (hE_0_2_2 (r_0 + 2) (by omega)).2 (by omega)
       have q3 := (hE_0_2_3 (r_0 + 2) (by omega)).2 (by omega)
       omega)
set_option maxHeartbeats 4000000 in
theorem vc_Mo_met_at_g4_19_4 (x2 : Int) (x19 : Int) (x20 : Int) (fault_0 : Int) (all_0 : Int → Int) (r_0 : Int) (k2 : 0 ≤ x2 ∧ x2 ≤ 23) (k19 : 1 ≤ x19 ∧ x19 ≤ 5) (k20 : (-1) ≤ x20 ∧ x20 ≤ (-1)) (g2 : x19 = fault_0) (kz_0_8 : 0 ≤ fault_0 ∧ fault_0 ≤ 5) : MET (r_0) (fault_0) (all_0) (x2) (x20) := by
  first
    | (intro q; exfalso; omega)
    | exact fun _ => ‹MEN _ _ _ _›
set_option maxHeartbeats 4000000 in
theorem vc_Mo_met_at_g4_19_5 (x1 : Int) (x2 : Int) (x5 : Int) (x6 : Int) (x7 : Int) (x16 : Int) (x17 : Int) (x18 : Int) (x19 : Int) (x20 : Int) (place_0 : Int) (fault_0 : Int) (tape_0 : Int → Int) (limit_0 : Int) (all_0 : Int → Int) (r_0 : Int) (pos_0 : Int) (from_0 : Int) (kind_0 : Int) (faultPlace_0 : Int) (value_0 : Int) (k1 : 0 ≤ x1 ∧ x1 ≤ 7) (k2 : 0 ≤ x2 ∧ x2 ≤ 23) (k5 : 0 ≤ x5 ∧ x5 ≤ 4) (k6 : 0 ≤ x6 ∧ x6 ≤ 48) (k7 : 0 ≤ x7 ∧ x7 ≤ 1) (k16 : 3 ≤ x16 ∧ x16 ≤ 3) (k17 : 0 ≤ x17 ∧ x17 ≤ 2000) (k18 : 0 ≤ x18 ∧ x18 ≤ 5) (k19 : 1 ≤ x19 ∧ x19 ≤ 5) (k20 : (-1) ≤ x20 ∧ x20 ≤ (-1)) (g0 : x17 = place_0) (g2 : x19 = fault_0) (f3 : FSX (limit_0) (tape_0) (x16) (x17)) (f4 : ZH0 (x18)) (f22 : ((1 ≤ x18) ∧ (fault_0 = x18)) ∨ ((x18 = 0) ∧ ((fault_0 = x16) ∧ (faultPlace_0 = x17)))) (kz_0_8 : 0 ≤ fault_0 ∧ fault_0 ≤ 5) (kz_0_9 : 0 ≤ faultPlace_0 ∧ faultPlace_0 ≤ 2000) (kz_0_10 : 0 ≤ limit_0 ∧ limit_0 ≤ 2000) (kz_0_11 : 0 ≤ pos_0 ∧ pos_0 ≤ 2000) (kz_0_12 : 0 ≤ kind_0 ∧ kind_0 ≤ 4) (kz_0_13 : 0 ≤ place_0 ∧ place_0 ≤ 2000) (kz_0_14 : (-49) ≤ value_0 ∧ value_0 ≤ 1048575) (kz_0_15 : 0 ≤ from_0 ∧ from_0 ≤ 2000) : zOP8 (limit_0) (pos_0) (kind_0) (place_0) (value_0) (from_0) (fault_0) (faultPlace_0) (r_0) (tape_0) (all_0) (x20) (x6) (x2) (x7) (x1) (x5) := by
  first | subst g0 | skip
  first | subst g2 | skip
  first
    | (exfalso; have h := (rsq_0 ‹zRS4 _ _ _ _ _ _ _ _ _ _ _ _ _ _ _›).1; omega)
    | (refine Or.inl (fs_w ?_ ?_ (by assumption)) <;> assumption)
    | exact Or.inr (rsq_of ‹zTP8 _ _ _ _ _ _ _ _ _ _ _ _› ‹TKR _ _ _ _ _ _ _ _›)
    | (exfalso; omega)
def o_Mo_met_at_g4_19 : or_T := (121, 21, [(0, (2, 0, 0, [165])), (1, (0, 0, 7, [])), (2, (0, 0, 23, [])), (3, (0, 0, 2000, [])), (4, (0, 0, 2000, [])), (5, (0, 0, 4, [])), (6, (0, 0, 48, [])), (7, (0, 0, 1, [])), (16, (0, 3, 3, [])), (17, (0, 0, 2000, [])), (18, (0, 0, 5, [])), (19, (0, 1, 5, [])), (20, (0, -1, -1, []))], [(9, [17, 0], [13]), (9, [19, 0], [8]), (20, [0, 16, 17], [60, 1, 1, 1026, 10, 1]), (20, [18], [61, 0, 1029]), (20, [18, 0, 16, 17], [50, 2, 0, 1008, 1009, 3, 15, 2, 6, 0, 2, 0, 1, 1, 0, 1, 3, 2, 1, 8, 1, 0, 2, 6, 1, 2, 1, 0, 0, 0, 2, 7, 1, 3, 2, 1, 8, 1, 2, 1, 3, 2, 1, 9, 1, 3])], [], [], [(20, [0, 3], [50, 3, 0, 8, 12, 11, 3, 7, 0, 2, 0, 1, 2, 0, 8, 3, 7, 1, 3, 2, 0, 12, 0, 0, 0, 6, 4, 2, 1, 1, 0, 1, 2, 0, 11]), (20, [0, 4], [50, 2, 0, 8, 11, 3, 7, 0, 2, 0, 1, 2, 0, 8, 0, 6, 4, 2, 1, 1, 0, 1, 2, 0, 11]), (20, [0, 20], [31, 1, -1, -1, 1, 8, 0, -1, 0, 0]), (20, [0, 2], [50, 2, 1, 8, 5, 2, 3, 7, 0, 2, 0, 1, 2, 0, 8, 3, 6, 0, 2, 1, 1, 0, -1, 0, 10, 3, 0, 2, 4, 3, 2, 0, 5, 0, 1, 0, 47]), (20, [0, 2, 20], [60, 2, 1, 240, 5, 8, 2]), (20, [0, 20, 6, 2, 7, 1, 5], [60, 9, 2, 1011, 10, 11, 12, 13, 14, 15, 8, 9, 5, 1, 2])], [], [])
theorem oo_Mo_met_at_g4_19 {kA : Nat → ClassId} : or_ok PRD kA GG o_Mo_met_at_g4_19 := by
  refine or_mk fun A ta ws vs hD hth hl => ?_
  intro t0 r0 t1 k1 t2 k2 t3 k3 t4 k4 t5 k5 t6 k6 t7 k7 t16 k16 t17 k17 t18 k18 t19 k19 t20 k20 f0 f2 f3 f4 f22
  replace f0 := shm_361 f0
  replace f2 := shm_293 f2
  have g0 : v_iv (n_v vs 17) = w_fi ws (n_v vs 0) 13 := congrArg v_iv f0
  have g2 : v_iv (n_v vs 19) = w_fi ws (n_v vs 0) 8 := congrArg v_iv f2
  have kz_0_8 := fdq_34 hD hth r0
  have kz_0_9 := fdq_44 hD hth r0
  have kz_0_10 := fdq_43 hD hth r0
  have kz_0_11 := fdq_237 hD hth r0
  have kz_0_12 := fdq_187 hD hth r0
  have kz_0_13 := fdq_238 hD hth r0
  have kz_0_14 := fdq_188 hD hth r0
  have kz_0_15 := fdq_239 hD hth r0
  have nf0 : fc_1 PRD (20, [0, 3], [50, 3, 0, 8, 12, 11, 3, 7, 0, 2, 0, 1, 2, 0, 8, 3, 7, 1, 3, 2, 0, 12, 0, 0, 0, 6, 4, 2, 1, 1, 0, 1, 2, 0, 11]) ws (vs) := ⟨nf_in hl rfl, sgq_1722 (vc_Mo_met_at_g4_19_0 (v_iv (n_v vs 3)) (v_iv (n_v vs 19)) (w_fi ws (n_v vs 0) 8) (w_fi ws (n_v vs 0) 5) (w_fi ws (n_v vs 0) 11) (w_fi ws (n_v vs 0) 12) k3 k19 g2 kz_0_8 kz_0_11 kz_0_12)⟩
  have nf1 : fc_1 PRD (20, [0, 4], [50, 2, 0, 8, 11, 3, 7, 0, 2, 0, 1, 2, 0, 8, 0, 6, 4, 2, 1, 1, 0, 1, 2, 0, 11]) ws (vs) := ⟨nf_in hl rfl, sgq_1726 (vc_Mo_met_at_g4_19_1 (v_iv (n_v vs 4)) (v_iv (n_v vs 19)) (w_fi ws (n_v vs 0) 8) (w_fi ws (n_v vs 0) 5) (w_fi ws (n_v vs 0) 11) k4 k19 g2 kz_0_8 kz_0_11)⟩
  have nf2 : fc_1 PRD (20, [0, 20], [31, 1, -1, -1, 1, 8, 0, -1, 0, 0]) ws (vs) := ⟨nf_in hl rfl, sgq_2117 (vc_Mo_met_at_g4_19_2 (v_iv (n_v vs 19)) (v_iv (n_v vs 20)) (w_fi ws (n_v vs 0) 8) (w_fi ws (n_v vs 0) 5) k19 k20 g2 kz_0_8)⟩
  have nf3 : fc_1 PRD (20, [0, 2], [50, 2, 1, 8, 5, 2, 3, 7, 0, 2, 0, 1, 2, 0, 8, 3, 6, 0, 2, 1, 1, 0, -1, 0, 10, 3, 0, 2, 4, 3, 2, 0, 5, 0, 1, 0, 47]) ws (vs) := ⟨nf_in hl rfl, sgq_2118 (vc_Mo_met_at_g4_19_3 (v_iv (n_v vs 2)) (v_iv (n_v vs 19)) (w_fi ws (n_v vs 0) 8) (w_ei ws (w_ar ws (n_v vs 0) 2)) (w_fi ws (n_v vs 0) 5) k2 k19 g2 kz_0_8)⟩
  have nf4 : fc_1 PRD (20, [0, 2, 20], [60, 2, 1, 240, 5, 8, 2]) ws (vs) := ⟨nf_in hl rfl, sgq_2119 (vc_Mo_met_at_g4_19_4 (v_iv (n_v vs 2)) (v_iv (n_v vs 19)) (v_iv (n_v vs 20)) (w_fi ws (n_v vs 0) 8) (w_ei ws (w_ar ws (n_v vs 0) 2)) (w_fi ws (n_v vs 0) 5) k2 k19 k20 g2 kz_0_8)⟩
  have nf5 : fc_1 PRD (20, [0, 20, 6, 2, 7, 1, 5], [60, 9, 2, 1011, 10, 11, 12, 13, 14, 15, 8, 9, 5, 1, 2]) ws (vs) := ⟨nf_in hl rfl, sgq_2128 (vc_Mo_met_at_g4_19_5 (v_iv (n_v vs 1)) (v_iv (n_v vs 2)) (v_iv (n_v vs 5)) (v_iv (n_v vs 6)) (v_iv (n_v vs 7)) (v_iv (n_v vs 16)) (v_iv (n_v vs 17)) (v_iv (n_v vs 18)) (v_iv (n_v vs 19)) (v_iv (n_v vs 20)) (w_fi ws (n_v vs 0) 13) (w_fi ws (n_v vs 0) 8) (w_ei ws (w_ar ws (n_v vs 0) 1)) (w_fi ws (n_v vs 0) 10) (w_ei ws (w_ar ws (n_v vs 0) 2)) (w_fi ws (n_v vs 0) 5) (w_fi ws (n_v vs 0) 11) (w_fi ws (n_v vs 0) 15) (w_fi ws (n_v vs 0) 12) (w_fi ws (n_v vs 0) 9) (w_fi ws (n_v vs 0) 14) k1 k2 k5 k6 k7 k16 k17 k18 k19 k20 g0 g2 (shm_1724 f3) (shm_1725 f4) (shm_306 f22) kz_0_8 kz_0_9 kz_0_10 kz_0_11 kz_0_12 kz_0_13 kz_0_14 kz_0_15)⟩
  refine ⟨(fun _ h => (by cases h)), [], trivial, ?_, (fun _ h => (by cases h))⟩
  rw [List.append_nil]
  exact List.forall_mem_cons.mpr ⟨⟨show (20 : Nat) < 100 from by decide, nf0⟩, List.forall_mem_cons.mpr ⟨⟨show (20 : Nat) < 100 from by decide, nf1⟩, List.forall_mem_cons.mpr ⟨⟨show (20 : Nat) < 100 from by decide, nf2⟩, List.forall_mem_cons.mpr ⟨⟨show (20 : Nat) < 100 from by decide, nf3⟩, List.forall_mem_cons.mpr ⟨⟨show (20 : Nat) < 100 from by decide, nf4⟩, List.forall_mem_cons.mpr ⟨⟨show (20 : Nat) < 100 from by decide, nf5⟩, (fun _ h => (by cases h))⟩⟩⟩⟩⟩⟩
set_option maxHeartbeats 4000000 in
theorem vc_Mo_met_at_g4_20_0 (x2 : Int) (all_0 : Int → Int) (r_0 : Int) (k2 : (-1) ≤ x2 ∧ x2 ≤ (-1)) (f18 : 0 ≤ x2) : (x2 ≤ (-1)) ∨ (all_0 ((r_0 + 1)) ≤ 47) := by
  first
    | omega
    | (have q1 := (hE_0_2_1 (r_0 + 2) (by omega)).2 (by omega)
       have q2 := (hE_0_2_2 (r_0 + 2) (by omega)).2 (by omega)
       omega)
    | (have q1 := (hE_0_2_1 (r_0 + 1) (by omega)).2 (by omega)
       have q2 := (hE_0_2_2 (r_0 + 1) (by omega)).2 (by omega)
       omega)
    | (have q1 := (hE_0_2_1 (r_0 + 2) (by omega)).2 (by omega)
       omega)
    | (have q1 := (hE_0_2_1 (r_0 + 1) (by omega)).2 (by omega)
       omega)
    | (have q1 := (hE_0_2_1 (r_0 + 2) (by omega)).2 (by omega)
       have q2 := (hE_0_2_2 (r_0 + 2) (by omega)).2 (by omega)
       have q3 := (hE_0_2_3 (r_0 + 2) (by omega)).1 (by omega)
       omega)
    | (have q1 := (hE_0_2_1 (r_0 + 2) (by omega)).2 (by omega)
       have q2 := (hE_0_2_2 (r_0 + 2) (by omega)).2 (by omega)
       have q3 := (hE_0_2_3 (r_0 + 2) (by omega)).2 (by omega)
       omega)
set_option maxHeartbeats 4000000 in
theorem vc_Mo_met_at_g4_20_1 (x2 : Int) (x10 : Int) (all_0 : Int → Int) (r_0 : Int) (k2 : (-1) ≤ x2 ∧ x2 ≤ (-1)) (k10 : 0 ≤ x10 ∧ x10 ≤ 23) (f18 : 0 ≤ x2) : MEN (r_0) (all_0) (x2) (x10) := by
  try simp only [Int.add_zero] at *
  first
    | (exfalso; omega)
set_option maxHeartbeats 4000000 in
theorem vc_Mo_met_at_g4_20_2 (x2 : Int) (r_0 : Int) (pos_0 : Int) (gx : Int) (k2 : (-1) ≤ x2 ∧ x2 ≤ (-1)) (f18 : 0 ≤ x2) (kz_0_11 : 0 ≤ pos_0 ∧ pos_0 ≤ 2000) : 1 * gx + ((-1) * pos_0 + 0) ≤ 0 := by
  first
    | omega
    | (have q1 := (hE_0_2_1 (r_0 + 2) (by omega)).2 (by omega)
       have q2 := (hE_0_2_2 (r_0 + 2) (by omega)).2 (by omega)
       omega)
    | (have q1 := (hE_0_2_1 (r_0 + 1) (by omega)).2 (by omega)
       have q2 := (hE_0_2_2 (r_0 + 1) (by omega)).2 (by omega)
       omega)
    | (have q1 := (hE_0_2_1 (r_0 + 2) (by omega)).2 (by omega)
       omega)
    | (have q1 := (hE_0_2_1 (r_0 + 1) (by omega)).2 (by omega)
       omega)
    | (have q1 := (hE_0_2_1 (r_0 + 2) (by omega)).2 (by omega)
       have q2 := (hE_0_2_2 (r_0 + 2) (by omega)).2 (by omega)
       have q3 := (hE_0_2_3 (r_0 + 2) (by omega)).1 (by omega)
       omega)
    | (have q1 := (hE_0_2_1 (r_0 + 2) (by omega)).2 (by omega)
       have q2 := (hE_0_2_2 (r_0 + 2) (by omega)).2 (by omega)
       have q3 := (hE_0_2_3 (r_0 + 2) (by omega)).2 (by omega)
       omega)
set_option maxHeartbeats 4000000 in
theorem vc_Mo_met_at_g4_20_3 (r_0 : Int) (pos_0 : Int) (gx : Int) (kz_0_11 : 0 ≤ pos_0 ∧ pos_0 ≤ 2000) (ex2 : gx = pos_0) : gx = pos_0 := by
  first
    | omega
    | (have q1 := (hE_0_2_1 (r_0 + 2) (by omega)).2 (by omega)
       have q2 := (hE_0_2_2 (r_0 + 2) (by omega)).2 (by omega)
       omega)
    | (have q1 := (hE_0_2_1 (r_0 + 1) (by omega)).2 (by omega)
       have q2 := (hE_0_2_2 (r_0 + 1) (by omega)).2 (by omega)
       omega)
    | (have q1 := (hE_0_2_1 (r_0 + 2) (by omega)).2 (by omega)
       omega)
    | (have q1 := (hE_0_2_1 (r_0 + 1) (by omega)).2 (by omega)
       omega)
    | (have q1 := (hE_0_2_1 (r_0 + 2) (by omega)).2 (by omega)
       have q2 := (hE_0_2_2 (r_0 + 2) (by omega)).2 (by omega)
       have q3 := (hE_0_2_3 (r_0 + 2) (by omega)).1 (by omega)
       omega)
    | (have q1 := (hE_0_2_1 (r_0 + 2) (by omega)).2 (by omega)
       have q2 := (hE_0_2_2 (r_0 + 2) (by omega)).2 (by omega)
       have q3 := (hE_0_2_3 (r_0 + 2) (by omega)).2 (by omega)
       omega)
set_option maxHeartbeats 4000000 in
theorem vc_Mo_met_at_g4_20_4 (x1 : Int) (x2 : Int) (x5 : Int) (x6 : Int) (x7 : Int) (fault_0 : Int) (all_0 : Int → Int) (r_0 : Int) (tape_0 : Int → Int) (pos_0 : Int) (limit_0 : Int) (from_0 : Int) (kind_0 : Int) (place_0 : Int) (value_0 : Int) (k1 : 0 ≤ x1 ∧ x1 ≤ 7) (k2 : (-1) ≤ x2 ∧ x2 ≤ (-1)) (k5 : 0 ≤ x5 ∧ x5 ≤ 4) (k6 : 0 ≤ x6 ∧ x6 ≤ 48) (k7 : 0 ≤ x7 ∧ x7 ≤ 1) (f17 : zRS4 (limit_0) (pos_0) (kind_0) (place_0) (value_0) (from_0) (fault_0) (r_0) (tape_0) (all_0) (x2) (x6) (x7) (x1) (x5)) (kz_0_8 : 0 ≤ fault_0 ∧ fault_0 ≤ 5) (kz_0_10 : 0 ≤ limit_0 ∧ limit_0 ≤ 2000) (kz_0_11 : 0 ≤ pos_0 ∧ pos_0 ≤ 2000) (kz_0_12 : 0 ≤ kind_0 ∧ kind_0 ≤ 4) (kz_0_13 : 0 ≤ place_0 ∧ place_0 ≤ 2000) (kz_0_14 : (-49) ≤ value_0 ∧ value_0 ≤ 1048575) (kz_0_15 : 0 ≤ from_0 ∧ from_0 ≤ 2000) : ZLM (limit_0) (pos_0) := by
  first
    | exact zlm_r (‹zMN0 _ _ _ _ _ _ _ _ _ _ _ _ _ _›).1
    | exact zlm_r (‹zMN1 _ _ _ _ _ _ _ _ _ _ _ _ _ _›).1
    | exact zlm_r (‹zMN4 _ _ _ _ _ _ _ _ _ _ _ _ _ _ _ _ _›).1
    | exact zlm_r (‹zRSE _ _ _ _ _ _ _ _ _ _ _ _›).1.1
    | exact zlm_r ‹zRS1 _ _ _ _ _ _ _ _ _ _ _ _›
    | exact zlm_r ‹zRS4 _ _ _ _ _ _ _ _ _ _ _ _ _ _ _›
    | (exfalso; omega)
set_option maxHeartbeats 4000000 in
theorem vc_Mo_met_at_g4_20_5 (x2 : Int) (x3 : Int) (r_0 : Int) (gx : Int) (k2 : (-1) ≤ x2 ∧ x2 ≤ (-1)) (k3 : 0 ≤ x3 ∧ x3 ≤ 2000) (f18 : 0 ≤ x2) : 1 * x3 + ((-1) * gx + 0) ≤ 0 := by
  first
    | omega
    | (have q1 := (hE_0_2_1 (r_0 + 2) (by omega)).2 (by omega)
       have q2 := (hE_0_2_2 (r_0 + 2) (by omega)).2 (by omega)
       omega)
    | (have q1 := (hE_0_2_1 (r_0 + 1) (by omega)).2 (by omega)
       have q2 := (hE_0_2_2 (r_0 + 1) (by omega)).2 (by omega)
       omega)
    | (have q1 := (hE_0_2_1 (r_0 + 2) (by omega)).2 (by omega)
       omega)
    | (have q1 := (hE_0_2_1 (r_0 + 1) (by omega)).2 (by omega)
       omega)
    | (have q1 := (hE_0_2_1 (r_0 + 2) (by omega)).2 (by omega)
       have q2 := (hE_0_2_2 (r_0 + 2) (by omega)).2 (by omega)
       have q3 := (hE_0_2_3 (r_0 + 2) (by omega)).1 (by omega)
       omega)
    | (have q1 := (hE_0_2_1 (r_0 + 2) (by omega)).2 (by omega)
       have q2 := (hE_0_2_2 (r_0 + 2) (by omega)).2 (by omega)
       have q3 := (hE_0_2_3 (r_0 + 2) (by omega)).2 (by omega)
       omega)
set_option maxHeartbeats 4000000 in
theorem vc_Mo_met_at_g4_20_6 (x2 : Int) (x4 : Int) (r_0 : Int) (gx : Int) (k2 : (-1) ≤ x2 ∧ x2 ≤ (-1)) (k4 : 0 ≤ x4 ∧ x4 ≤ 2000) (f18 : 0 ≤ x2) : 1 * x4 + ((-1) * gx + 0) ≤ (-1) := by
  first
    | omega
    | (have q1 := (hE_0_2_1 (r_0 + 2) (by omega)).2 (by omega)
       have q2 := (hE_0_2_2 (r_0 + 2) (by omega)).2 (by omega)
       omega)
    | (have q1 := (hE_0_2_1 (r_0 + 1) (by omega)).2 (by omega)
       have q2 := (hE_0_2_2 (r_0 + 1) (by omega)).2 (by omega)
       omega)
    | (have q1 := (hE_0_2_1 (r_0 + 2) (by omega)).2 (by omega)
       omega)
    | (have q1 := (hE_0_2_1 (r_0 + 1) (by omega)).2 (by omega)
       omega)
    | (have q1 := (hE_0_2_1 (r_0 + 2) (by omega)).2 (by omega)
       have q2 := (hE_0_2_2 (r_0 + 2) (by omega)).2 (by omega)
       have q3 := (hE_0_2_3 (r_0 + 2) (by omega)).1 (by omega)
       omega)
    | (have q1 := (hE_0_2_1 (r_0 + 2) (by omega)).2 (by omega)
       have q2 := (hE_0_2_2 (r_0 + 2) (by omega)).2 (by omega)
       have q3 := (hE_0_2_3 (r_0 + 2) (by omega)).2 (by omega)
       omega)
set_option maxHeartbeats 4000000 in
theorem vc_Mo_met_at_g4_20_7 (x1 : Int) (x2 : Int) (x5 : Int) (x6 : Int) (x7 : Int) (x8 : Int) (x10 : Int) (fault_0 : Int) (all_0 : Int → Int) (r_0 : Int) (tape_0 : Int → Int) (pos_0 : Int) (limit_0 : Int) (gx : Int) (k1 : 0 ≤ x1 ∧ x1 ≤ 7) (k2 : (-1) ≤ x2 ∧ x2 ≤ (-1)) (k5 : 0 ≤ x5 ∧ x5 ≤ 4) (k6 : 0 ≤ x6 ∧ x6 ≤ 48) (k7 : 0 ≤ x7 ∧ x7 ≤ 1) (k8 : 0 ≤ x8 ∧ x8 ≤ 0) (k10 : 0 ≤ x10 ∧ x10 ≤ 23) (g2 : x8 = fault_0) (f18 : 0 ≤ x2) (kz_0_8 : 0 ≤ fault_0 ∧ fault_0 ≤ 5) (kz_0_10 : 0 ≤ limit_0 ∧ limit_0 ≤ 2000) (kz_0_11 : 0 ≤ pos_0 ∧ pos_0 ≤ 2000) (ex2 : gx = pos_0) : zTP8 (limit_0) (fault_0) (r_0) (tape_0) (all_0) (x10) (x6) (x2) (x7) (x1) (x5) (gx) := by
  first | subst g2 | skip
  first | subst ex2 | skip
  first
    | exact mn_end4 ‹zMN4 _ _ _ _ _ _ _ _ _ _ _ _ _ _ _ _ _› (by omega) (by omega) (by assumption) (by assumption) (by omega) (by omega) (by omega) (by omega) (by omega)
    | exact met_old4 ‹zRS4 _ _ _ _ _ _ _ _ _ _ _ _ _ _ _› ‹NMQ _ _ _ _ _ _› (by omega) ‹KNQ _ _ _ _ _ _ _› (by omega) (Or.inr ⟨by omega, _, by omega, ‹BT2 _ _ _ _ _›⟩) (by omega) (by omega)
    | (exfalso; omega)
def o_Mo_met_at_g4_20 : or_T := (254, 12, [(0, (2, 0, 0, [165])), (1, (0, 0, 7, [])), (2, (0, -1, -1, [])), (3, (0, 0, 2000, [])), (4, (0, 0, 2000, [])), (5, (0, 0, 4, [])), (6, (0, 0, 48, [])), (7, (0, 0, 1, [])), (8, (0, 0, 0, [])), (10, (0, 0, 23, []))], [(9, [8, 0], [8]), (20, [0, 2, 6, 7, 1, 5], [60, 8, 2, 993, 10, 11, 12, 13, 14, 15, 8, 5, 1, 2]), (20, [2], [50, 0, 0, 0, 2, 0, 0, 1, 0])], [], [(0, 0, 2000, [])], [(20, [2, 0], [50, 1, 1, 1005, 1002, 3, 6, 0, 2, 1, 0, 0, -1, 0, 10, 3, 1, 2, 4, 3, 2, 1, 5, 0, 1, 0, 47]), (20, [0, 2, 10], [60, 1, 1, 243, 5, 2]), (20, [12, 0], [30, 0, 1, 0, 0, -1, 1, 11]), (20, [12, 0], [50, 1, 0, 1011, 1, 2, 1, 0, 2, 1, 11]), (20, [0], [60, 2, 0, 947, 10, 11]), (23, [3, 12], [0, 1, -1]), (23, [4, 12], [-1, 1, -1]), (20, [0, 10, 6, 2, 7, 1, 5, 12], [60, 3, 2, 979, 10, 8, 5, 1, 2])], [], [])
theorem oo_Mo_met_at_g4_20 {kA : Nat → ClassId} : or_ok PRD kA GG o_Mo_met_at_g4_20 := by
  refine or_mk fun A ta ws vs hD hth hl => ?_
  intro t0 r0 t1 k1 t2 k2 t3 k3 t4 k4 t5 k5 t6 k6 t7 k7 t8 k8 t10 k10 f2 f17 f18
  replace f2 := shm_293 f2
  replace f17 := shm_2126 f17
  replace f18 := shm_722 f18
  have g2 : v_iv (n_v vs 8) = w_fi ws (n_v vs 0) 8 := congrArg v_iv f2
  have kz_0_8 := fdq_34 hD hth r0
  have kz_0_10 := fdq_43 hD hth r0
  have kz_0_11 := fdq_237 hD hth r0
  have kz_0_12 := fdq_187 hD hth r0
  have kz_0_13 := fdq_238 hD hth r0
  have kz_0_14 := fdq_188 hD hth r0
  have kz_0_15 := fdq_239 hD hth r0
  obtain ⟨x, ex, hx⟩ := iv_ex (ta := ta) (lo := 0) (hi := 2000) (z := w_fi ws (n_v vs 0) 11) (by omega) (by omega) (by omega) (by omega)
  have ex2 : v_iv (Value.int x) = w_fi ws (n_v vs 0) 11 := ex
  have ex3 : 0 ≤ v_iv (Value.int x) ∧ v_iv (Value.int x) ≤ 2000 := tv_rng hx
  have e_0 : n_v (vs ++ [Value.int x]) 0 = n_v vs 0 := n_v_old (by rw [hl]; decide)
  have e_1 : n_v (vs ++ [Value.int x]) 1 = n_v vs 1 := n_v_old (by rw [hl]; decide)
  have e_2 : n_v (vs ++ [Value.int x]) 2 = n_v vs 2 := n_v_old (by rw [hl]; decide)
  have e_3 : n_v (vs ++ [Value.int x]) 3 = n_v vs 3 := n_v_old (by rw [hl]; decide)
  have e_4 : n_v (vs ++ [Value.int x]) 4 = n_v vs 4 := n_v_old (by rw [hl]; decide)
  have e_5 : n_v (vs ++ [Value.int x]) 5 = n_v vs 5 := n_v_old (by rw [hl]; decide)
  have e_6 : n_v (vs ++ [Value.int x]) 6 = n_v vs 6 := n_v_old (by rw [hl]; decide)
  have e_7 : n_v (vs ++ [Value.int x]) 7 = n_v vs 7 := n_v_old (by rw [hl]; decide)
  have e_10 : n_v (vs ++ [Value.int x]) 10 = n_v vs 10 := n_v_old (by rw [hl]; decide)
  have e_12 : n_v (vs ++ [Value.int x]) 12 = Value.int x := n_v_new hl
  have nf0 : fc_1 PRD (20, [2, 0], [50, 1, 1, 1005, 1002, 3, 6, 0, 2, 1, 0, 0, -1, 0, 10, 3, 1, 2, 4, 3, 2, 1, 5, 0, 1, 0, 47]) ws (vs ++ [Value.int x]) := by
    refine ⟨nf_inA hl rfl, sgq_2114 ?_⟩
    · show (v_iv (n_v (vs ++ [Value.int x]) 2) ≤ (-1)) ∨ (w_ei ws (w_ar ws (n_v (vs ++ [Value.int x]) 0) 2) ((w_fi ws (n_v (vs ++ [Value.int x]) 0) 5 + 1)) ≤ 47)
      simp only [e_0, e_2]
      exact vc_Mo_met_at_g4_20_0 (v_iv (n_v vs 2)) (w_ei ws (w_ar ws (n_v vs 0) 2)) (w_fi ws (n_v vs 0) 5) k2 f18
  have nf1 : fc_1 PRD (20, [0, 2, 10], [60, 1, 1, 243, 5, 2]) ws (vs ++ [Value.int x]) := by
    refine ⟨nf_inA hl rfl, sgq_2115 ?_⟩
    · show MEN (w_fi ws (n_v (vs ++ [Value.int x]) 0) 5) (w_ei ws (w_ar ws (n_v (vs ++ [Value.int x]) 0) 2)) (v_iv (n_v (vs ++ [Value.int x]) 2)) (v_iv (n_v (vs ++ [Value.int x]) 10))
      simp only [e_0, e_2, e_10]
      exact vc_Mo_met_at_g4_20_1 (v_iv (n_v vs 2)) (v_iv (n_v vs 10)) (w_ei ws (w_ar ws (n_v vs 0) 2)) (w_fi ws (n_v vs 0) 5) k2 k10 f18
  have nf2 : fc_1 PRD (20, [12, 0], [30, 0, 1, 0, 0, -1, 1, 11]) ws (vs ++ [Value.int x]) := by
    refine ⟨nf_inA hl rfl, sgq_1431 ?_⟩
    · show 1 * v_iv (n_v (vs ++ [Value.int x]) 12) + ((-1) * w_fi ws (n_v (vs ++ [Value.int x]) 0) 11 + 0) ≤ 0
      simp only [e_0, e_12]
      exact vc_Mo_met_at_g4_20_2 (v_iv (n_v vs 2)) (w_fi ws (n_v vs 0) 5) (w_fi ws (n_v vs 0) 11) (v_iv (Value.int x)) k2 f18 kz_0_11
  have nf3 : fc_1 PRD (20, [12, 0], [50, 1, 0, 1011, 1, 2, 1, 0, 2, 1, 11]) ws (vs ++ [Value.int x]) := by
    refine ⟨nf_inA hl rfl, sgq_1432 ?_⟩
    · show v_iv (n_v (vs ++ [Value.int x]) 12) = w_fi ws (n_v (vs ++ [Value.int x]) 0) 11
      simp only [e_0, e_12]
      exact vc_Mo_met_at_g4_20_3 (w_fi ws (n_v vs 0) 5) (w_fi ws (n_v vs 0) 11) (v_iv (Value.int x)) kz_0_11 ex2
  have nf4 : fc_1 PRD (20, [0], [60, 2, 0, 947, 10, 11]) ws (vs ++ [Value.int x]) := by
    refine ⟨nf_inA hl rfl, sgq_1433 ?_⟩
    · show ZLM (w_fi ws (n_v (vs ++ [Value.int x]) 0) 10) (w_fi ws (n_v (vs ++ [Value.int x]) 0) 11)
      rw [e_0]
      exact vc_Mo_met_at_g4_20_4 (v_iv (n_v vs 1)) (v_iv (n_v vs 2)) (v_iv (n_v vs 5)) (v_iv (n_v vs 6)) (v_iv (n_v vs 7)) (w_fi ws (n_v vs 0) 8) (w_ei ws (w_ar ws (n_v vs 0) 2)) (w_fi ws (n_v vs 0) 5) (w_ei ws (w_ar ws (n_v vs 0) 1)) (w_fi ws (n_v vs 0) 11) (w_fi ws (n_v vs 0) 10) (w_fi ws (n_v vs 0) 15) (w_fi ws (n_v vs 0) 12) (w_fi ws (n_v vs 0) 13) (w_fi ws (n_v vs 0) 14) k1 k2 k5 k6 k7 f17 kz_0_8 kz_0_10 kz_0_11 kz_0_12 kz_0_13 kz_0_14 kz_0_15
  have nf5 : fc_1 PRD (23, [3, 12], [0, 1, -1]) ws (vs ++ [Value.int x]) := by
    refine ⟨nf_inA hl rfl, sgq_7 ?_⟩
    · show 1 * v_iv (n_v (vs ++ [Value.int x]) 3) + ((-1) * v_iv (n_v (vs ++ [Value.int x]) 12) + 0) ≤ 0
      simp only [e_3, e_12]
      exact vc_Mo_met_at_g4_20_5 (v_iv (n_v vs 2)) (v_iv (n_v vs 3)) (w_fi ws (n_v vs 0) 5) (v_iv (Value.int x)) k2 k3 f18
  have nf6 : fc_1 PRD (23, [4, 12], [-1, 1, -1]) ws (vs ++ [Value.int x]) := by
    refine ⟨nf_inA hl rfl, sgq_193 ?_⟩
    · show 1 * v_iv (n_v (vs ++ [Value.int x]) 4) + ((-1) * v_iv (n_v (vs ++ [Value.int x]) 12) + 0) ≤ (-1)
      simp only [e_4, e_12]
      exact vc_Mo_met_at_g4_20_6 (v_iv (n_v vs 2)) (v_iv (n_v vs 4)) (w_fi ws (n_v vs 0) 5) (v_iv (Value.int x)) k2 k4 f18
  have nf7 : fc_1 PRD (20, [0, 10, 6, 2, 7, 1, 5, 12], [60, 3, 2, 979, 10, 8, 5, 1, 2]) ws (vs ++ [Value.int x]) := by
    refine ⟨nf_inA hl rfl, sgq_2129 ?_⟩
    · show zTP8 (w_fi ws (n_v (vs ++ [Value.int x]) 0) 10) (w_fi ws (n_v (vs ++ [Value.int x]) 0) 8) (w_fi ws (n_v (vs ++ [Value.int x]) 0) 5) (w_ei ws (w_ar ws (n_v (vs ++ [Value.int x]) 0) 1)) (w_ei ws (w_ar ws (n_v (vs ++ [Value.int x]) 0) 2)) (v_iv (n_v (vs ++ [Value.int x]) 10)) (v_iv (n_v (vs ++ [Value.int x]) 6)) (v_iv (n_v (vs ++ [Value.int x]) 2)) (v_iv (n_v (vs ++ [Value.int x]) 7)) (v_iv (n_v (vs ++ [Value.int x]) 1)) (v_iv (n_v (vs ++ [Value.int x]) 5)) (v_iv (n_v (vs ++ [Value.int x]) 12))
      simp only [e_0, e_1, e_2, e_5, e_6, e_7, e_10, e_12]
      exact vc_Mo_met_at_g4_20_7 (v_iv (n_v vs 1)) (v_iv (n_v vs 2)) (v_iv (n_v vs 5)) (v_iv (n_v vs 6)) (v_iv (n_v vs 7)) (v_iv (n_v vs 8)) (v_iv (n_v vs 10)) (w_fi ws (n_v vs 0) 8) (w_ei ws (w_ar ws (n_v vs 0) 2)) (w_fi ws (n_v vs 0) 5) (w_ei ws (w_ar ws (n_v vs 0) 1)) (w_fi ws (n_v vs 0) 11) (w_fi ws (n_v vs 0) 10) (v_iv (Value.int x)) k1 k2 k5 k6 k7 k8 k10 g2 f18 kz_0_8 kz_0_10 kz_0_11 ex2
  exact ⟨(fun _ h => (by cases h)), [Value.int x], ag_one hx, List.forall_mem_cons.mpr ⟨⟨show (20 : Nat) < 100 from by decide, nf0⟩, List.forall_mem_cons.mpr ⟨⟨show (20 : Nat) < 100 from by decide, nf1⟩, List.forall_mem_cons.mpr ⟨⟨show (20 : Nat) < 100 from by decide, nf2⟩, List.forall_mem_cons.mpr ⟨⟨show (20 : Nat) < 100 from by decide, nf3⟩, List.forall_mem_cons.mpr ⟨⟨show (20 : Nat) < 100 from by decide, nf4⟩, List.forall_mem_cons.mpr ⟨⟨show (23 : Nat) < 100 from by decide, nf5⟩, List.forall_mem_cons.mpr ⟨⟨show (23 : Nat) < 100 from by decide, nf6⟩, List.forall_mem_cons.mpr ⟨⟨show (20 : Nat) < 100 from by decide, nf7⟩, (fun _ h => (by cases h))⟩⟩⟩⟩⟩⟩⟩⟩, (fun _ h => (by cases h))⟩
set_option maxHeartbeats 4000000 in
theorem vc_Mo_met_at_g4_21_0 (x2 : Int) (x3 : Int) (r_0 : Int) (pos_0 : Int) (k2 : (-1) ≤ x2 ∧ x2 ≤ (-1)) (k3 : 0 ≤ x3 ∧ x3 ≤ 2000) (f10 : 0 ≤ x2) (kz_0_11 : 0 ≤ pos_0 ∧ pos_0 ≤ 2000) : 1 * x3 + ((-1) * pos_0 + 0) ≤ 0 := by
  first
    | omega
    | (have q1 := (hE_0_2_1 (r_0 + 2) (by omega)).2 (by omega)
       have q2 := (hE_0_2_2 (r_0 + 2) (by omega)).2 (by omega)
       omega)
    | (have q1 := (hE_0_2_1 (r_0 + 1) (by omega)).2 (by omega)
       have q2 := (hE_0_2_2 (r_0 + 1) (by omega)).2 (by omega)
       omega)
    | (have q1 := (hE_0_2_1 (r_0 + 2) (by omega)).2 (by omega)
       omega)
    | (have q1 := (hE_0_2_1 (r_0 + 1) (by omega)).2 (by omega)
       omega)
    | (have q1 := (hE_0_2_1 (r_0 + 2) (by omega)).2 (by omega)
       have q2 := (hE_0_2_2 (r_0 + 2) (by omega)).2 (by omega)
       have q3 := (hE_0_2_3 (r_0 + 2) (by omega)).1 (by omega)
       omega)
    | (have q1 := (hE_0_2_1 (r_0 + 2) (by omega)).2 (by omega)
       have q2 := (hE_0_2_2 (r_0 + 2) (by omega)).2 (by omega)
       have q3 := (hE_0_2_3 (r_0 + 2) (by omega)).2 (by omega)
       omega)
set_option maxHeartbeats 4000000 in
theorem vc_Mo_met_at_g4_21_1 (x2 : Int) (x3 : Int) (fault_0 : Int) (r_0 : Int) (pos_0 : Int) (kind_0 : Int) (k2 : (-1) ≤ x2 ∧ x2 ≤ (-1)) (k3 : 0 ≤ x3 ∧ x3 ≤ 2000) (f10 : 0 ≤ x2) (kz_0_8 : 0 ≤ fault_0 ∧ fault_0 ≤ 5) (kz_0_11 : 0 ≤ pos_0 ∧ pos_0 ≤ 2000) (kz_0_12 : 0 ≤ kind_0 ∧ kind_0 ≤ 4) : (1 ≤ fault_0) ∨ ((kind_0 = 0) ∨ ((x3 + 1) ≤ pos_0)) := by
  first
    | omega
    | (have q1 := (hE_0_2_1 (r_0 + 2) (by omega)).2 (by omega)
       have q2 := (hE_0_2_2 (r_0 + 2) (by omega)).2 (by omega)
       omega)
    | (have q1 := (hE_0_2_1 (r_0 + 1) (by omega)).2 (by omega)
       have q2 := (hE_0_2_2 (r_0 + 1) (by omega)).2 (by omega)
       omega)
    | (have q1 := (hE_0_2_1 (r_0 + 2) (by omega)).2 (by omega)
       omega)
    | (have q1 := (hE_0_2_1 (r_0 + 1) (by omega)).2 (by omega)
       omega)
    | (have q1 := (hE_0_2_1 (r_0 + 2) (by omega)).2 (by omega)
       have q2 := (hE_0_2_2 (r_0 + 2) (by omega)).2 (by omega)
       have q3 := (hE_0_2_3 (r_0 + 2) (by omega)).1 (by omega)
       omega)
    | (have q1 := (hE_0_2_1 (r_0 + 2) (by omega)).2 (by omega)
       have q2 := (hE_0_2_2 (r_0 + 2) (by omega)).2 (by omega)
       have q3 := (hE_0_2_3 (r_0 + 2) (by omega)).2 (by omega)
       omega)
set_option maxHeartbeats 4000000 in
theorem vc_Mo_met_at_g4_21_2 (x2 : Int) (x4 : Int) (fault_0 : Int) (r_0 : Int) (pos_0 : Int) (k2 : (-1) ≤ x2 ∧ x2 ≤ (-1)) (k4 : 0 ≤ x4 ∧ x4 ≤ 2000) (f10 : 0 ≤ x2) (kz_0_8 : 0 ≤ fault_0 ∧ fault_0 ≤ 5) (kz_0_11 : 0 ≤ pos_0 ∧ pos_0 ≤ 2000) : (1 ≤ fault_0) ∨ ((x4 + 1) ≤ pos_0) := by
  first
    | omega
    | (have q1 := (hE_0_2_1 (r_0 + 2) (by omega)).2 (by omega)
       have q2 := (hE_0_2_2 (r_0 + 2) (by omega)).2 (by omega)
       omega)
    | (have q1 := (hE_0_2_1 (r_0 + 1) (by omega)).2 (by omega)
       have q2 := (hE_0_2_2 (r_0 + 1) (by omega)).2 (by omega)
       omega)
    | (have q1 := (hE_0_2_1 (r_0 + 2) (by omega)).2 (by omega)
       omega)
    | (have q1 := (hE_0_2_1 (r_0 + 1) (by omega)).2 (by omega)
       omega)
    | (have q1 := (hE_0_2_1 (r_0 + 2) (by omega)).2 (by omega)
       have q2 := (hE_0_2_2 (r_0 + 2) (by omega)).2 (by omega)
       have q3 := (hE_0_2_3 (r_0 + 2) (by omega)).1 (by omega)
       omega)
    | (have q1 := (hE_0_2_1 (r_0 + 2) (by omega)).2 (by omega)
       have q2 := (hE_0_2_2 (r_0 + 2) (by omega)).2 (by omega)
       have q3 := (hE_0_2_3 (r_0 + 2) (by omega)).2 (by omega)
       omega)
set_option maxHeartbeats 4000000 in
theorem vc_Mo_met_at_g4_21_3 (x2 : Int) (x10 : Int) (fault_0 : Int) (r_0 : Int) (k2 : (-1) ≤ x2 ∧ x2 ≤ (-1)) (k10 : 0 ≤ x10 ∧ x10 ≤ 23) (f10 : 0 ≤ x2) (kz_0_8 : 0 ≤ fault_0 ∧ fault_0 ≤ 5) : ((-1) * fault_0 + 0 ≤ (-1)) ∨ ((-1) * x10 + 0 ≤ 0) := by
  first
    | omega
    | (have q1 := (hE_0_2_1 (r_0 + 2) (by omega)).2 (by omega)
       have q2 := (hE_0_2_2 (r_0 + 2) (by omega)).2 (by omega)
       omega)
    | (have q1 := (hE_0_2_1 (r_0 + 1) (by omega)).2 (by omega)
       have q2 := (hE_0_2_2 (r_0 + 1) (by omega)).2 (by omega)
       omega)
    | (have q1 := (hE_0_2_1 (r_0 + 2) (by omega)).2 (by omega)
       omega)
    | (have q1 := (hE_0_2_1 (r_0 + 1) (by omega)).2 (by omega)
       omega)
    | (have q1 := (hE_0_2_1 (r_0 + 2) (by omega)).2 (by omega)
       have q2 := (hE_0_2_2 (r_0 + 2) (by omega)).2 (by omega)
       have q3 := (hE_0_2_3 (r_0 + 2) (by omega)).1 (by omega)
       omega)
    | (have q1 := (hE_0_2_1 (r_0 + 2) (by omega)).2 (by omega)
       have q2 := (hE_0_2_2 (r_0 + 2) (by omega)).2 (by omega)
       have q3 := (hE_0_2_3 (r_0 + 2) (by omega)).2 (by omega)
       omega)
set_option maxHeartbeats 4000000 in
theorem vc_Mo_met_at_g4_21_4 (x2 : Int) (fault_0 : Int) (all_0 : Int → Int) (r_0 : Int) (k2 : (-1) ≤ x2 ∧ x2 ≤ (-1)) (f10 : 0 ≤ x2) (kz_0_8 : 0 ≤ fault_0 ∧ fault_0 ≤ 5) : (1 ≤ fault_0) ∨ ((x2 ≤ (-1)) ∨ (all_0 ((r_0 + 1)) ≤ 47)) := by
  first
    | omega
    | (have q1 := (hE_0_2_1 (r_0 + 2) (by omega)).2 (by omega)
       have q2 := (hE_0_2_2 (r_0 + 2) (by omega)).2 (by omega)
       omega)
    | (have q1 := (hE_0_2_1 (r_0 + 1) (by omega)).2 (by omega)
       have q2 := (hE_0_2_2 (r_0 + 1) (by omega)).2 (by omega)
       omega)
    | (have q1 := (hE_0_2_1 (r_0 + 2) (by omega)).2 (by omega)
       omega)
    | (have q1 := (hE_0_2_1 (r_0 + 1) (by omega)).2 (by omega)
       omega)
    | (have q1 := (hE_0_2_1 (r_0 + 2) (by omega)).2 (by omega)
       have q2 := (hE_0_2_2 (r_0 + 2) (by omega)).2 (by omega)
       have q3 := (hE_0_2_3 (r_0 + 2) (by omega)).1 (by omega)
       omega)
    | (have q1 := (hE_0_2_1 (r_0 + 2) (by omega)).2 (by omega)
       have q2 := (hE_0_2_2 (r_0 + 2) (by omega)).2 (by omega)
       have q3 := (hE_0_2_3 (r_0 + 2) (by omega)).2 (by omega)
       omega)
set_option maxHeartbeats 4000000 in
theorem vc_Mo_met_at_g4_21_5 (x2 : Int) (x10 : Int) (fault_0 : Int) (all_0 : Int → Int) (r_0 : Int) (k2 : (-1) ≤ x2 ∧ x2 ≤ (-1)) (k10 : 0 ≤ x10 ∧ x10 ≤ 23) (f10 : 0 ≤ x2) (kz_0_8 : 0 ≤ fault_0 ∧ fault_0 ≤ 5) : MET (r_0) (fault_0) (all_0) (x2) (x10) := by
  first
    | (intro q; exfalso; omega)
    | exact fun _ => ‹MEN _ _ _ _›
set_option maxHeartbeats 4000000 in
theorem vc_Mo_met_at_g4_21_6 (x1 : Int) (x2 : Int) (x5 : Int) (x6 : Int) (x7 : Int) (x8 : Int) (x10 : Int) (x12 : Int) (fault_0 : Int) (all_0 : Int → Int) (r_0 : Int) (tape_0 : Int → Int) (limit_0 : Int) (from_0 : Int) (pos_0 : Int) (kind_0 : Int) (place_0 : Int) (value_0 : Int) (faultPlace_0 : Int) (k1 : 0 ≤ x1 ∧ x1 ≤ 7) (k2 : (-1) ≤ x2 ∧ x2 ≤ (-1)) (k5 : 0 ≤ x5 ∧ x5 ≤ 4) (k6 : 0 ≤ x6 ∧ x6 ≤ 48) (k7 : 0 ≤ x7 ∧ x7 ≤ 1) (k8 : 0 ≤ x8 ∧ x8 ≤ 0) (k10 : 0 ≤ x10 ∧ x10 ≤ 23) (k12 : 0 ≤ x12 ∧ x12 ≤ 2000) (g0 : x8 = fault_0) (f5 : zTP8 (limit_0) (fault_0) (r_0) (tape_0) (all_0) (x10) (x6) (x2) (x7) (x1) (x5) (x12)) (f14 : TKR (limit_0) (pos_0) (kind_0) (place_0) (value_0) (from_0) (tape_0) (x12)) (kz_0_8 : 0 ≤ fault_0 ∧ fault_0 ≤ 5) (kz_0_9 : 0 ≤ faultPlace_0 ∧ faultPlace_0 ≤ 2000) (kz_0_10 : 0 ≤ limit_0 ∧ limit_0 ≤ 2000) (kz_0_11 : 0 ≤ pos_0 ∧ pos_0 ≤ 2000) (kz_0_12 : 0 ≤ kind_0 ∧ kind_0 ≤ 4) (kz_0_13 : 0 ≤ place_0 ∧ place_0 ≤ 2000) (kz_0_14 : (-49) ≤ value_0 ∧ value_0 ≤ 1048575) (kz_0_15 : 0 ≤ from_0 ∧ from_0 ≤ 2000) : zOP8 (limit_0) (pos_0) (kind_0) (place_0) (value_0) (from_0) (fault_0) (faultPlace_0) (r_0) (tape_0) (all_0) (x10) (x6) (x2) (x7) (x1) (x5) := by
  first | subst g0 | skip
  first
    | (exfalso; have h := (rsq_0 ‹zRS4 _ _ _ _ _ _ _ _ _ _ _ _ _ _ _›).1; omega)
    | (refine Or.inl (fs_w ?_ ?_ (by assumption)) <;> assumption)
    | exact Or.inr (rsq_of ‹zTP8 _ _ _ _ _ _ _ _ _ _ _ _› ‹TKR _ _ _ _ _ _ _ _›)
    | (exfalso; omega)
def o_Mo_met_at_g4_21 : or_T := (258, 13, [(0, (2, 0, 0, [165])), (1, (0, 0, 7, [])), (2, (0, -1, -1, [])), (3, (0, 0, 2000, [])), (4, (0, 0, 2000, [])), (5, (0, 0, 4, [])), (6, (0, 0, 48, [])), (7, (0, 0, 1, [])), (8, (0, 0, 0, [])), (10, (0, 0, 23, [])), (12, (0, 0, 2000, []))], [(9, [8, 0], [8]), (20, [0, 10, 6, 2, 7, 1, 5, 12], [60, 3, 2, 979, 10, 8, 5, 1, 2]), (20, [2], [50, 0, 0, 0, 2, 0, 0, 1, 0]), (20, [0, 12], [60, 6, 1, 948, 10, 11, 12, 13, 14, 15, 1])], [], [], [(20, [3, 0], [30, 0, 1, 0, 0, -1, 1, 11]), (20, [0, 3], [50, 3, 0, 8, 12, 11, 3, 7, 0, 2, 0, 1, 2, 0, 8, 3, 7, 1, 3, 2, 0, 12, 0, 0, 0, 6, 4, 2, 1, 1, 0, 1, 2, 0, 11]), (20, [0, 4], [50, 2, 0, 8, 11, 3, 7, 0, 2, 0, 1, 2, 0, 8, 0, 6, 4, 2, 1, 1, 0, 1, 2, 0, 11]), (20, [0, 10], [31, 1, -1, -1, 1, 8, 0, -1, 0, 0]), (20, [0, 2], [50, 2, 1, 8, 5, 2, 3, 7, 0, 2, 0, 1, 2, 0, 8, 3, 6, 0, 2, 1, 1, 0, -1, 0, 10, 3, 0, 2, 4, 3, 2, 0, 5, 0, 1, 0, 47]), (20, [0, 2, 10], [60, 2, 1, 240, 5, 8, 2]), (20, [0, 10, 6, 2, 7, 1, 5], [60, 9, 2, 1011, 10, 11, 12, 13, 14, 15, 8, 9, 5, 1, 2])], [], [])
theorem oo_Mo_met_at_g4_21 {kA : Nat → ClassId} : or_ok PRD kA GG o_Mo_met_at_g4_21 := by
  refine or_mk fun A ta ws vs hD hth hl => ?_
  intro t0 r0 t1 k1 t2 k2 t3 k3 t4 k4 t5 k5 t6 k6 t7 k7 t8 k8 t10 k10 t12 k12 f0 f5 f10 f14
  replace f0 := shm_293 f0
  have g0 : v_iv (n_v vs 8) = w_fi ws (n_v vs 0) 8 := congrArg v_iv f0
  have kz_0_8 := fdq_34 hD hth r0
  have kz_0_9 := fdq_44 hD hth r0
  have kz_0_10 := fdq_43 hD hth r0
  have kz_0_11 := fdq_237 hD hth r0
  have kz_0_12 := fdq_187 hD hth r0
  have kz_0_13 := fdq_238 hD hth r0
  have kz_0_14 := fdq_188 hD hth r0
  have kz_0_15 := fdq_239 hD hth r0
  have nf0 : fc_1 PRD (20, [3, 0], [30, 0, 1, 0, 0, -1, 1, 11]) ws (vs) := ⟨nf_in hl rfl, sgq_1431 (vc_Mo_met_at_g4_21_0 (v_iv (n_v vs 2)) (v_iv (n_v vs 3)) (w_fi ws (n_v vs 0) 5) (w_fi ws (n_v vs 0) 11) k2 k3 (shm_722 f10) kz_0_11)⟩
  have nf1 : fc_1 PRD (20, [0, 3], [50, 3, 0, 8, 12, 11, 3, 7, 0, 2, 0, 1, 2, 0, 8, 3, 7, 1, 3, 2, 0, 12, 0, 0, 0, 6, 4, 2, 1, 1, 0, 1, 2, 0, 11]) ws (vs) := ⟨nf_in hl rfl, sgq_1722 (vc_Mo_met_at_g4_21_1 (v_iv (n_v vs 2)) (v_iv (n_v vs 3)) (w_fi ws (n_v vs 0) 8) (w_fi ws (n_v vs 0) 5) (w_fi ws (n_v vs 0) 11) (w_fi ws (n_v vs 0) 12) k2 k3 (shm_722 f10) kz_0_8 kz_0_11 kz_0_12)⟩
  have nf2 : fc_1 PRD (20, [0, 4], [50, 2, 0, 8, 11, 3, 7, 0, 2, 0, 1, 2, 0, 8, 0, 6, 4, 2, 1, 1, 0, 1, 2, 0, 11]) ws (vs) := ⟨nf_in hl rfl, sgq_1726 (vc_Mo_met_at_g4_21_2 (v_iv (n_v vs 2)) (v_iv (n_v vs 4)) (w_fi ws (n_v vs 0) 8) (w_fi ws (n_v vs 0) 5) (w_fi ws (n_v vs 0) 11) k2 k4 (shm_722 f10) kz_0_8 kz_0_11)⟩
  have nf3 : fc_1 PRD (20, [0, 10], [31, 1, -1, -1, 1, 8, 0, -1, 0, 0]) ws (vs) := ⟨nf_in hl rfl, sgq_2117 (vc_Mo_met_at_g4_21_3 (v_iv (n_v vs 2)) (v_iv (n_v vs 10)) (w_fi ws (n_v vs 0) 8) (w_fi ws (n_v vs 0) 5) k2 k10 (shm_722 f10) kz_0_8)⟩
  have nf4 : fc_1 PRD (20, [0, 2], [50, 2, 1, 8, 5, 2, 3, 7, 0, 2, 0, 1, 2, 0, 8, 3, 6, 0, 2, 1, 1, 0, -1, 0, 10, 3, 0, 2, 4, 3, 2, 0, 5, 0, 1, 0, 47]) ws (vs) := ⟨nf_in hl rfl, sgq_2118 (vc_Mo_met_at_g4_21_4 (v_iv (n_v vs 2)) (w_fi ws (n_v vs 0) 8) (w_ei ws (w_ar ws (n_v vs 0) 2)) (w_fi ws (n_v vs 0) 5) k2 (shm_722 f10) kz_0_8)⟩
  have nf5 : fc_1 PRD (20, [0, 2, 10], [60, 2, 1, 240, 5, 8, 2]) ws (vs) := ⟨nf_in hl rfl, sgq_2119 (vc_Mo_met_at_g4_21_5 (v_iv (n_v vs 2)) (v_iv (n_v vs 10)) (w_fi ws (n_v vs 0) 8) (w_ei ws (w_ar ws (n_v vs 0) 2)) (w_fi ws (n_v vs 0) 5) k2 k10 (shm_722 f10) kz_0_8)⟩
  have nf6 : fc_1 PRD (20, [0, 10, 6, 2, 7, 1, 5], [60, 9, 2, 1011, 10, 11, 12, 13, 14, 15, 8, 9, 5, 1, 2]) ws (vs) := ⟨nf_in hl rfl, sgq_2128 (vc_Mo_met_at_g4_21_6 (v_iv (n_v vs 1)) (v_iv (n_v vs 2)) (v_iv (n_v vs 5)) (v_iv (n_v vs 6)) (v_iv (n_v vs 7)) (v_iv (n_v vs 8)) (v_iv (n_v vs 10)) (v_iv (n_v vs 12)) (w_fi ws (n_v vs 0) 8) (w_ei ws (w_ar ws (n_v vs 0) 2)) (w_fi ws (n_v vs 0) 5) (w_ei ws (w_ar ws (n_v vs 0) 1)) (w_fi ws (n_v vs 0) 10) (w_fi ws (n_v vs 0) 15) (w_fi ws (n_v vs 0) 11) (w_fi ws (n_v vs 0) 12) (w_fi ws (n_v vs 0) 13) (w_fi ws (n_v vs 0) 14) (w_fi ws (n_v vs 0) 9) k1 k2 k5 k6 k7 k8 k10 k12 g0 (shm_2129 f5) (shm_1439 f14) kz_0_8 kz_0_9 kz_0_10 kz_0_11 kz_0_12 kz_0_13 kz_0_14 kz_0_15)⟩
  refine ⟨(fun _ h => (by cases h)), [], trivial, ?_, (fun _ h => (by cases h))⟩
  rw [List.append_nil]
  exact List.forall_mem_cons.mpr ⟨⟨show (20 : Nat) < 100 from by decide, nf0⟩, List.forall_mem_cons.mpr ⟨⟨show (20 : Nat) < 100 from by decide, nf1⟩, List.forall_mem_cons.mpr ⟨⟨show (20 : Nat) < 100 from by decide, nf2⟩, List.forall_mem_cons.mpr ⟨⟨show (20 : Nat) < 100 from by decide, nf3⟩, List.forall_mem_cons.mpr ⟨⟨show (20 : Nat) < 100 from by decide, nf4⟩, List.forall_mem_cons.mpr ⟨⟨show (20 : Nat) < 100 from by decide, nf5⟩, List.forall_mem_cons.mpr ⟨⟨show (20 : Nat) < 100 from by decide, nf6⟩, (fun _ h => (by cases h))⟩⟩⟩⟩⟩⟩⟩
set_option maxHeartbeats 4000000 in
theorem vc_Mo_met_at_g4_22_0 (x1 : Int) (x2 : Int) (x5 : Int) (x6 : Int) (x7 : Int) (x8 : Int) (x9 : Int) (x10 : Int) (x12 : Int) (x13 : Int) (fault_0 : Int) (place_0 : Int) (all_0 : Int → Int) (r_0 : Int) (tape_0 : Int → Int) (pos_0 : Int) (limit_0 : Int) (from_0 : Int) (kind_0 : Int) (value_0 : Int) (gx : Int) (k1 : 0 ≤ x1 ∧ x1 ≤ 7) (k2 : 0 ≤ x2 ∧ x2 ≤ 23) (k5 : 0 ≤ x5 ∧ x5 ≤ 4) (k6 : 0 ≤ x6 ∧ x6 ≤ 48) (k7 : 0 ≤ x7 ∧ x7 ≤ 1) (k8 : 0 ≤ x8 ∧ x8 ≤ 0) (k9 : 1 ≤ x9 ∧ x9 ≤ 1) (k10 : 0 ≤ x10 ∧ x10 ≤ 23) (k12 : 2 ≤ x12 ∧ x12 ≤ 2) (k13 : 0 ≤ x13 ∧ x13 ≤ 2000) (g0 : x8 = fault_0) (g1 : x13 = place_0) (f2 : x10 = x2) (f4 : 0 ≤ x10) (f6 : KNQ (pos_0) (limit_0) (from_0) (r_0) (all_0) (tape_0) (x10)) (f7 : x9 ≠ 0) (f15 : zRS4 (limit_0) (pos_0) (kind_0) (place_0) (value_0) (from_0) (fault_0) (r_0) (tape_0) (all_0) (x2) (x6) (x7) (x1) (x5)) (f18 : NMQ (kind_0) (pos_0) (limit_0) (from_0) (tape_0) (x9)) (kz_0_8 : 0 ≤ fault_0 ∧ fault_0 ≤ 5) (kz_0_10 : 0 ≤ limit_0 ∧ limit_0 ≤ 2000) (kz_0_11 : 0 ≤ pos_0 ∧ pos_0 ≤ 2000) (kz_0_12 : 0 ≤ kind_0 ∧ kind_0 ≤ 4) (kz_0_13 : 0 ≤ place_0 ∧ place_0 ≤ 2000) (kz_0_14 : (-49) ≤ value_0 ∧ value_0 ≤ 1048575) (kz_0_15 : 0 ≤ from_0 ∧ from_0 ≤ 2000) (ex2 : gx = fault_0) : FSX (limit_0) (tape_0) (x12) (x13) := by
  first | subst g0 | skip
  first | subst g1 | skip
  first | subst ex2 | skip
  first
    | exact fsx_cg (met_join ‹zRS4 _ _ _ _ _ _ _ _ _ _ _ _ _ _ _› ‹NMQ _ _ _ _ _ _› (by omega) ‹KNQ _ _ _ _ _ _ _› (by omega) (Or.inl (by omega))) (by omega) (by omega)
    | exact fsx_cg (met_join ‹zRS4 _ _ _ _ _ _ _ _ _ _ _ _ _ _ _› ‹NMQ _ _ _ _ _ _› (by omega) ‹KNQ _ _ _ _ _ _ _› (by omega) (by refine Or.inr ⟨_, ?_, ?_, ‹BT2 _ _ _ _ _›⟩ <;> omega)) (by omega) (by omega)
    | (exfalso; omega)
set_option maxHeartbeats 4000000 in
theorem vc_Mo_met_at_g4_22_1 (x8 : Int) (fault_0 : Int) (r_0 : Int) (gx : Int) (k8 : 0 ≤ x8 ∧ x8 ≤ 0) (g0 : x8 = fault_0) (kz_0_8 : 0 ≤ fault_0 ∧ fault_0 ≤ 5) (ex2 : gx = fault_0) : 1 * fault_0 + ((-1) * gx + 0) ≤ 0 := by
  first
    | omega
    | (have q1 := (hE_0_2_1 (r_0 + 2) (by omega)).2 (by omega)
       have q2 := (hE_0_2_2 (r_0 + 2) (by omega)).2 (by omega)
       omega)
    | (have q1 := (hE_0_2_1 (r_0 + 1) (by omega)).2 (by omega)
       have q2 := (hE_0_2_2 (r_0 + 1) (by omega)).2 (by omega)
       omega)
    | (have q1 := (hE_0_2_1 (r_0 + 2) (by omega)).2 (by omega)
       omega)
    | (have q1 := (hE_0_2_1 (r_0 + 1) (by omega)).2 (by omega)
       omega)
    | (have q1 := (hE_0_2_1 (r_0 + 2) (by omega)).2 (by omega)
       have q2 := (hE_0_2_2 (r_0 + 2) (by omega)).2 (by omega)
       have q3 := (hE_0_2_3 (r_0 + 2) (by omega)).1 (by omega)
       omega)
    | (have q1 := (hE_0_2_1 (r_0 + 2) (by omega)).2 (by omega)
       have q2 := (hE_0_2_2 (r_0 + 2) (by omega)).2 (by omega)
       have q3 := (hE_0_2_3 (r_0 + 2) (by omega)).2 (by omega)
       omega)
set_option maxHeartbeats 4000000 in
theorem vc_Mo_met_at_g4_22_2 (x8 : Int) (fault_0 : Int) (r_0 : Int) (gx : Int) (k8 : 0 ≤ x8 ∧ x8 ≤ 0) (g0 : x8 = fault_0) (kz_0_8 : 0 ≤ fault_0 ∧ fault_0 ≤ 5) (ex2 : gx = fault_0) : (-1) * fault_0 + (1 * gx + 0) ≤ 0 := by
  first
    | omega
    | (have q1 := (hE_0_2_1 (r_0 + 2) (by omega)).2 (by omega)
       have q2 := (hE_0_2_2 (r_0 + 2) (by omega)).2 (by omega)
       omega)
    | (have q1 := (hE_0_2_1 (r_0 + 1) (by omega)).2 (by omega)
       have q2 := (hE_0_2_2 (r_0 + 1) (by omega)).2 (by omega)
       omega)
    | (have q1 := (hE_0_2_1 (r_0 + 2) (by omega)).2 (by omega)
       omega)
    | (have q1 := (hE_0_2_1 (r_0 + 1) (by omega)).2 (by omega)
       omega)
    | (have q1 := (hE_0_2_1 (r_0 + 2) (by omega)).2 (by omega)
       have q2 := (hE_0_2_2 (r_0 + 2) (by omega)).2 (by omega)
       have q3 := (hE_0_2_3 (r_0 + 2) (by omega)).1 (by omega)
       omega)
    | (have q1 := (hE_0_2_1 (r_0 + 2) (by omega)).2 (by omega)
       have q2 := (hE_0_2_2 (r_0 + 2) (by omega)).2 (by omega)
       have q3 := (hE_0_2_3 (r_0 + 2) (by omega)).2 (by omega)
       omega)
set_option maxHeartbeats 4000000 in
theorem vc_Mo_met_at_g4_22_3 (x8 : Int) (fault_0 : Int) (gx : Int) (k8 : 0 ≤ x8 ∧ x8 ≤ 0) (g0 : x8 = fault_0) (kz_0_8 : 0 ≤ fault_0 ∧ fault_0 ≤ 5) (ex2 : gx = fault_0) : ZH0 (gx) := by
  first
    | exact ⟨by omega, by omega, trivial⟩
    | (have h := (rsq_0 (‹zRSE _ _ _ _ _ _ _ _ _ _ _ _›).1.1).1; exact ⟨by omega, by omega, trivial⟩)
    | (have h := (rsq_0 ‹zRS1 _ _ _ _ _ _ _ _ _ _ _ _›).1; exact ⟨by omega, by omega, trivial⟩)
    | (have h := (rsq_0 ‹zRS4 _ _ _ _ _ _ _ _ _ _ _ _ _ _ _›).1; exact ⟨by omega, by omega, trivial⟩)
def o_Mo_met_at_g4_22 : or_T := (72, 14, [(0, (2, 0, 0, [165])), (1, (0, 0, 7, [])), (2, (0, 0, 23, [])), (5, (0, 0, 4, [])), (6, (0, 0, 48, [])), (7, (0, 0, 1, [])), (8, (0, 0, 0, [])), (9, (0, 1, 1, [])), (10, (0, 0, 23, [])), (12, (0, 2, 2, [])), (13, (0, 0, 2000, []))], [(9, [8, 0], [8]), (9, [13, 0], [13]), (7, [10, 2], [0]), (8, [10], [3]), (20, [0, 10], [60, 4, 2, 1031, 11, 10, 15, 5, 2, 1]), (8, [9], [1]), (20, [0, 2, 6, 7, 1, 5], [60, 8, 2, 993, 10, 11, 12, 13, 14, 15, 8, 5, 1, 2]), (20, [0, 9], [60, 4, 1, 962, 12, 11, 10, 15, 1])], [], [(0, 0, 5, [])], [(20, [0, 12, 13], [60, 1, 1, 1026, 10, 1]), (20, [0, 14], [30, 0, 1, 1, 8, -1, 0, 0]), (20, [0, 14], [30, 0, -1, 1, 8, 1, 0, 0]), (20, [14], [61, 0, 1029])], [], [])
theorem oo_Mo_met_at_g4_22 {kA : Nat → ClassId} : or_ok PRD kA GG o_Mo_met_at_g4_22 := by
  refine or_mk fun A ta ws vs hD hth hl => ?_
  intro t0 r0 t1 k1 t2 k2 t5 k5 t6 k6 t7 k7 t8 k8 t9 k9 t10 k10 t12 k12 t13 k13 f0 f1 f2 f4 f6 f7 f15 f18
  replace f0 := shm_293 f0
  replace f1 := shm_361 f1
  replace f2 := shm_37 f2
  replace f4 := shm_32 f4
  replace f6 := shm_1233 f6
  replace f7 := shm_142 f7
  replace f15 := shm_2126 f15
  replace f18 := shm_1889 f18
  have g0 : v_iv (n_v vs 8) = w_fi ws (n_v vs 0) 8 := congrArg v_iv f0
  have g1 : v_iv (n_v vs 13) = w_fi ws (n_v vs 0) 13 := congrArg v_iv f1
  have kz_0_8 := fdq_34 hD hth r0
  have kz_0_10 := fdq_43 hD hth r0
  have kz_0_11 := fdq_237 hD hth r0
  have kz_0_12 := fdq_187 hD hth r0
  have kz_0_13 := fdq_238 hD hth r0
  have kz_0_14 := fdq_188 hD hth r0
  have kz_0_15 := fdq_239 hD hth r0
  obtain ⟨x, ex, hx⟩ := iv_ex (ta := ta) (lo := 0) (hi := 5) (z := w_fi ws (n_v vs 0) 8) (by omega) (by omega) (by omega) (by omega)
  have ex2 : v_iv (Value.int x) = w_fi ws (n_v vs 0) 8 := ex
  have ex3 : 0 ≤ v_iv (Value.int x) ∧ v_iv (Value.int x) ≤ 5 := tv_rng hx
  have e_0 : n_v (vs ++ [Value.int x]) 0 = n_v vs 0 := n_v_old (by rw [hl]; decide)
  have e_12 : n_v (vs ++ [Value.int x]) 12 = n_v vs 12 := n_v_old (by rw [hl]; decide)
  have e_13 : n_v (vs ++ [Value.int x]) 13 = n_v vs 13 := n_v_old (by rw [hl]; decide)
  have e_14 : n_v (vs ++ [Value.int x]) 14 = Value.int x := n_v_new hl
  have nf0 : fc_1 PRD (20, [0, 12, 13], [60, 1, 1, 1026, 10, 1]) ws (vs ++ [Value.int x]) := by
    refine ⟨nf_inA hl rfl, sgq_1724 ?_⟩
    · show FSX (w_fi ws (n_v (vs ++ [Value.int x]) 0) 10) (w_ei ws (w_ar ws (n_v (vs ++ [Value.int x]) 0) 1)) (v_iv (n_v (vs ++ [Value.int x]) 12)) (v_iv (n_v (vs ++ [Value.int x]) 13))
      simp only [e_0, e_12, e_13]
      exact vc_Mo_met_at_g4_22_0 (v_iv (n_v vs 1)) (v_iv (n_v vs 2)) (v_iv (n_v vs 5)) (v_iv (n_v vs 6)) (v_iv (n_v vs 7)) (v_iv (n_v vs 8)) (v_iv (n_v vs 9)) (v_iv (n_v vs 10)) (v_iv (n_v vs 12)) (v_iv (n_v vs 13)) (w_fi ws (n_v vs 0) 8) (w_fi ws (n_v vs 0) 13) (w_ei ws (w_ar ws (n_v vs 0) 2)) (w_fi ws (n_v vs 0) 5) (w_ei ws (w_ar ws (n_v vs 0) 1)) (w_fi ws (n_v vs 0) 11) (w_fi ws (n_v vs 0) 10) (w_fi ws (n_v vs 0) 15) (w_fi ws (n_v vs 0) 12) (w_fi ws (n_v vs 0) 14) (v_iv (Value.int x)) k1 k2 k5 k6 k7 k8 k9 k10 k12 k13 g0 g1 f2 f4 f6 f7 f15 f18 kz_0_8 kz_0_10 kz_0_11 kz_0_12 kz_0_13 kz_0_14 kz_0_15 ex2
  have nf1 : fc_1 PRD (20, [0, 14], [30, 0, 1, 1, 8, -1, 0, 0]) ws (vs ++ [Value.int x]) := by
    refine ⟨nf_inA hl rfl, sgq_303 ?_⟩
    · show 1 * w_fi ws (n_v (vs ++ [Value.int x]) 0) 8 + ((-1) * v_iv (n_v (vs ++ [Value.int x]) 14) + 0) ≤ 0
      simp only [e_0, e_14]
      exact vc_Mo_met_at_g4_22_1 (v_iv (n_v vs 8)) (w_fi ws (n_v vs 0) 8) (w_fi ws (n_v vs 0) 5) (v_iv (Value.int x)) k8 g0 kz_0_8 ex2
  have nf2 : fc_1 PRD (20, [0, 14], [30, 0, -1, 1, 8, 1, 0, 0]) ws (vs ++ [Value.int x]) := by
    refine ⟨nf_inA hl rfl, sgq_304 ?_⟩
    · show (-1) * w_fi ws (n_v (vs ++ [Value.int x]) 0) 8 + (1 * v_iv (n_v (vs ++ [Value.int x]) 14) + 0) ≤ 0
      simp only [e_0, e_14]
      exact vc_Mo_met_at_g4_22_2 (v_iv (n_v vs 8)) (w_fi ws (n_v vs 0) 8) (w_fi ws (n_v vs 0) 5) (v_iv (Value.int x)) k8 g0 kz_0_8 ex2
  have nf3 : fc_1 PRD (20, [14], [61, 0, 1029]) ws (vs ++ [Value.int x]) := by
    refine ⟨nf_inA hl rfl, sgq_1725 ?_⟩
    · show ZH0 (v_iv (n_v (vs ++ [Value.int x]) 14))
      rw [e_14]
      exact vc_Mo_met_at_g4_22_3 (v_iv (n_v vs 8)) (w_fi ws (n_v vs 0) 8) (v_iv (Value.int x)) k8 g0 kz_0_8 ex2
  exact ⟨(fun _ h => (by cases h)), [Value.int x], ag_one hx, List.forall_mem_cons.mpr ⟨⟨show (20 : Nat) < 100 from by decide, nf0⟩, List.forall_mem_cons.mpr ⟨⟨show (20 : Nat) < 100 from by decide, nf1⟩, List.forall_mem_cons.mpr ⟨⟨show (20 : Nat) < 100 from by decide, nf2⟩, List.forall_mem_cons.mpr ⟨⟨show (20 : Nat) < 100 from by decide, nf3⟩, (fun _ h => (by cases h))⟩⟩⟩⟩, (fun _ h => (by cases h))⟩
set_option maxHeartbeats 4000000 in
theorem vc_Mo_met_at_g4_23_0 (x2 : Int) (x15 : Int) (fault_0 : Int) (all_0 : Int → Int) (r_0 : Int) (k2 : 0 ≤ x2 ∧ x2 ≤ 23) (k15 : 0 ≤ x15 ∧ x15 ≤ 0) (g3 : x15 = fault_0) (f18 : (-1) * fault_0 + 0 ≤ (-1)) (kz_0_8 : 0 ≤ fault_0 ∧ fault_0 ≤ 5) : (x2 ≤ (-1)) ∨ (all_0 ((r_0 + 1)) ≤ 47) := by
  first
    | omega
    | (have q1 := (hE_0_2_1 (r_0 + 2) (by omega)).2 (by omega)
       have q2 := (hE_0_2_2 (r_0 + 2) (by omega)).2 (by omega)
       omega)
    | (have q1 := (hE_0_2_1 (r_0 + 1) (by omega)).2 (by omega)
       have q2 := (hE_0_2_2 (r_0 + 1) (by omega)).2 (by omega)
       omega)
    | (have q1 := (hE_0_2_1 (r_0 + 2) (by omega)).2 (by omega)
       omega)
    | (have q1 := (hE_0_2_1 (r_0 + 1) (by omega)).2 (by omega)
       omega)
    | (have q1 := (hE_0_2_1 (r_0 + 2) (by omega)).2 (by omega)
       have q2 := (hE_0_2_2 (r_0 + 2) (by omega)).2 (by omega)
       have q3 := (hE_0_2_3 (r_0 + 2) (by omega)).1 (by omega)
       omega)
    | (have q1 := (hE_0_2_1 (r_0 + 2) (by omega)).2 (by omega)
       have q2 := (hE_0_2_2 (r_0 + 2) (by omega)).2 (by omega)
       have q3 := (hE_0_2_3 (r_0 + 2) (by omega)).2 (by omega)
       omega)
set_option maxHeartbeats 4000000 in
theorem vc_Mo_met_at_g4_23_1 (x2 : Int) (x10 : Int) (x15 : Int) (fault_0 : Int) (all_0 : Int → Int) (r_0 : Int) (k2 : 0 ≤ x2 ∧ x2 ≤ 23) (k10 : 0 ≤ x10 ∧ x10 ≤ 23) (k15 : 0 ≤ x15 ∧ x15 ≤ 0) (g3 : x15 = fault_0) (f18 : (-1) * fault_0 + 0 ≤ (-1)) (kz_0_8 : 0 ≤ fault_0 ∧ fault_0 ≤ 5) : MEN (r_0) (all_0) (x2) (x10) := by
  try simp only [Int.add_zero] at *
  first
    | (exfalso; omega)
set_option maxHeartbeats 4000000 in
theorem vc_Mo_met_at_g4_23_2 (x15 : Int) (fault_0 : Int) (r_0 : Int) (pos_0 : Int) (gx : Int) (k15 : 0 ≤ x15 ∧ x15 ≤ 0) (g3 : x15 = fault_0) (f18 : (-1) * fault_0 + 0 ≤ (-1)) (kz_0_8 : 0 ≤ fault_0 ∧ fault_0 ≤ 5) (kz_0_11 : 0 ≤ pos_0 ∧ pos_0 ≤ 2000) : 1 * gx + ((-1) * pos_0 + 0) ≤ 0 := by
  first
    | omega
    | (have q1 := (hE_0_2_1 (r_0 + 2) (by omega)).2 (by omega)
       have q2 := (hE_0_2_2 (r_0 + 2) (by omega)).2 (by omega)
       omega)
    | (have q1 := (hE_0_2_1 (r_0 + 1) (by omega)).2 (by omega)
       have q2 := (hE_0_2_2 (r_0 + 1) (by omega)).2 (by omega)
       omega)
    | (have q1 := (hE_0_2_1 (r_0 + 2) (by omega)).2 (by omega)
       omega)
    | (have q1 := (hE_0_2_1 (r_0 + 1) (by omega)).2 (by omega)
       omega)
    | (have q1 := (hE_0_2_1 (r_0 + 2) (by omega)).2 (by omega)
       have q2 := (hE_0_2_2 (r_0 + 2) (by omega)).2 (by omega)
       have q3 := (hE_0_2_3 (r_0 + 2) (by omega)).1 (by omega)
       omega)
    | (have q1 := (hE_0_2_1 (r_0 + 2) (by omega)).2 (by omega)
       have q2 := (hE_0_2_2 (r_0 + 2) (by omega)).2 (by omega)
       have q3 := (hE_0_2_3 (r_0 + 2) (by omega)).2 (by omega)
       omega)
set_option maxHeartbeats 4000000 in
theorem vc_Mo_met_at_g4_23_3 (r_0 : Int) (pos_0 : Int) (gx : Int) (kz_0_11 : 0 ≤ pos_0 ∧ pos_0 ≤ 2000) (ex2 : gx = pos_0) : gx = pos_0 := by
  first
    | omega
    | (have q1 := (hE_0_2_1 (r_0 + 2) (by omega)).2 (by omega)
       have q2 := (hE_0_2_2 (r_0 + 2) (by omega)).2 (by omega)
       omega)
    | (have q1 := (hE_0_2_1 (r_0 + 1) (by omega)).2 (by omega)
       have q2 := (hE_0_2_2 (r_0 + 1) (by omega)).2 (by omega)
       omega)
    | (have q1 := (hE_0_2_1 (r_0 + 2) (by omega)).2 (by omega)
       omega)
    | (have q1 := (hE_0_2_1 (r_0 + 1) (by omega)).2 (by omega)
       omega)
    | (have q1 := (hE_0_2_1 (r_0 + 2) (by omega)).2 (by omega)
       have q2 := (hE_0_2_2 (r_0 + 2) (by omega)).2 (by omega)
       have q3 := (hE_0_2_3 (r_0 + 2) (by omega)).1 (by omega)
       omega)
    | (have q1 := (hE_0_2_1 (r_0 + 2) (by omega)).2 (by omega)
       have q2 := (hE_0_2_2 (r_0 + 2) (by omega)).2 (by omega)
       have q3 := (hE_0_2_3 (r_0 + 2) (by omega)).2 (by omega)
       omega)
set_option maxHeartbeats 4000000 in
theorem vc_Mo_met_at_g4_23_4 (x15 : Int) (fault_0 : Int) (limit_0 : Int) (pos_0 : Int) (k15 : 0 ≤ x15 ∧ x15 ≤ 0) (g3 : x15 = fault_0) (f18 : (-1) * fault_0 + 0 ≤ (-1)) (kz_0_8 : 0 ≤ fault_0 ∧ fault_0 ≤ 5) (kz_0_10 : 0 ≤ limit_0 ∧ limit_0 ≤ 2000) (kz_0_11 : 0 ≤ pos_0 ∧ pos_0 ≤ 2000) : ZLM (limit_0) (pos_0) := by
  first
    | exact zlm_r (‹zMN0 _ _ _ _ _ _ _ _ _ _ _ _ _ _›).1
    | exact zlm_r (‹zMN1 _ _ _ _ _ _ _ _ _ _ _ _ _ _›).1
    | exact zlm_r (‹zMN4 _ _ _ _ _ _ _ _ _ _ _ _ _ _ _ _ _›).1
    | exact zlm_r (‹zRSE _ _ _ _ _ _ _ _ _ _ _ _›).1.1
    | exact zlm_r ‹zRS1 _ _ _ _ _ _ _ _ _ _ _ _›
    | exact zlm_r ‹zRS4 _ _ _ _ _ _ _ _ _ _ _ _ _ _ _›
    | (exfalso; omega)
set_option maxHeartbeats 4000000 in
theorem vc_Mo_met_at_g4_23_5 (x3 : Int) (x15 : Int) (fault_0 : Int) (r_0 : Int) (gx : Int) (k3 : 0 ≤ x3 ∧ x3 ≤ 2000) (k15 : 0 ≤ x15 ∧ x15 ≤ 0) (g3 : x15 = fault_0) (f18 : (-1) * fault_0 + 0 ≤ (-1)) (kz_0_8 : 0 ≤ fault_0 ∧ fault_0 ≤ 5) : 1 * x3 + ((-1) * gx + 0) ≤ 0 := by
  first
    | omega
    | (have q1 := (hE_0_2_1 (r_0 + 2) (by omega)).2 (by omega)
       have q2 := (hE_0_2_2 (r_0 + 2) (by omega)).2 (by omega)
       omega)
    | (have q1 := (hE_0_2_1 (r_0 + 1) (by omega)).2 (by omega)
       have q2 := (hE_0_2_2 (r_0 + 1) (by omega)).2 (by omega)
       omega)
    | (have q1 := (hE_0_2_1 (r_0 + 2) (by omega)).2 (by omega)
       omega)
    | (have q1 := (hE_0_2_1 (r_0 + 1) (by omega)).2 (by omega)
       omega)
    | (have q1 := (hE_0_2_1 (r_0 + 2) (by omega)).2 (by omega)
       have q2 := (hE_0_2_2 (r_0 + 2) (by omega)).2 (by omega)
       have q3 := (hE_0_2_3 (r_0 + 2) (by omega)).1 (by omega)
       omega)
    | (have q1 := (hE_0_2_1 (r_0 + 2) (by omega)).2 (by omega)
       have q2 := (hE_0_2_2 (r_0 + 2) (by omega)).2 (by omega)
       have q3 := (hE_0_2_3 (r_0 + 2) (by omega)).2 (by omega)
       omega)
set_option maxHeartbeats 4000000 in
theorem vc_Mo_met_at_g4_23_6 (x4 : Int) (x15 : Int) (fault_0 : Int) (r_0 : Int) (gx : Int) (k4 : 0 ≤ x4 ∧ x4 ≤ 2000) (k15 : 0 ≤ x15 ∧ x15 ≤ 0) (g3 : x15 = fault_0) (f18 : (-1) * fault_0 + 0 ≤ (-1)) (kz_0_8 : 0 ≤ fault_0 ∧ fault_0 ≤ 5) : 1 * x4 + ((-1) * gx + 0) ≤ (-1) := by
  first
    | omega
    | (have q1 := (hE_0_2_1 (r_0 + 2) (by omega)).2 (by omega)
       have q2 := (hE_0_2_2 (r_0 + 2) (by omega)).2 (by omega)
       omega)
    | (have q1 := (hE_0_2_1 (r_0 + 1) (by omega)).2 (by omega)
       have q2 := (hE_0_2_2 (r_0 + 1) (by omega)).2 (by omega)
       omega)
    | (have q1 := (hE_0_2_1 (r_0 + 2) (by omega)).2 (by omega)
       omega)
    | (have q1 := (hE_0_2_1 (r_0 + 1) (by omega)).2 (by omega)
       omega)
    | (have q1 := (hE_0_2_1 (r_0 + 2) (by omega)).2 (by omega)
       have q2 := (hE_0_2_2 (r_0 + 2) (by omega)).2 (by omega)
       have q3 := (hE_0_2_3 (r_0 + 2) (by omega)).1 (by omega)
       omega)
    | (have q1 := (hE_0_2_1 (r_0 + 2) (by omega)).2 (by omega)
       have q2 := (hE_0_2_2 (r_0 + 2) (by omega)).2 (by omega)
       have q3 := (hE_0_2_3 (r_0 + 2) (by omega)).2 (by omega)
       omega)
set_option maxHeartbeats 4000000 in
theorem vc_Mo_met_at_g4_23_7 (x1 : Int) (x2 : Int) (x5 : Int) (x6 : Int) (x7 : Int) (x10 : Int) (x13 : Int) (x15 : Int) (place_0 : Int) (fault_0 : Int) (tape_0 : Int → Int) (limit_0 : Int) (all_0 : Int → Int) (r_0 : Int) (pos_0 : Int) (gx : Int) (k1 : 0 ≤ x1 ∧ x1 ≤ 7) (k2 : 0 ≤ x2 ∧ x2 ≤ 23) (k5 : 0 ≤ x5 ∧ x5 ≤ 4) (k6 : 0 ≤ x6 ∧ x6 ≤ 48) (k7 : 0 ≤ x7 ∧ x7 ≤ 1) (k10 : 0 ≤ x10 ∧ x10 ≤ 23) (k13 : 0 ≤ x13 ∧ x13 ≤ 2000) (k15 : 0 ≤ x15 ∧ x15 ≤ 0) (g0 : x13 = place_0) (g3 : x15 = fault_0) (f18 : (-1) * fault_0 + 0 ≤ (-1)) (kz_0_8 : 0 ≤ fault_0 ∧ fault_0 ≤ 5) (kz_0_10 : 0 ≤ limit_0 ∧ limit_0 ≤ 2000) (kz_0_11 : 0 ≤ pos_0 ∧ pos_0 ≤ 2000) (kz_0_13 : 0 ≤ place_0 ∧ place_0 ≤ 2000) (ex2 : gx = pos_0) : zTP8 (limit_0) (fault_0) (r_0) (tape_0) (all_0) (x10) (x6) (x2) (x7) (x1) (x5) (gx) := by
  first | subst g0 | skip
  first | subst g3 | skip
  first | subst ex2 | skip
  first
    | exact mn_end4 ‹zMN4 _ _ _ _ _ _ _ _ _ _ _ _ _ _ _ _ _› (by omega) (by omega) (by assumption) (by assumption) (by omega) (by omega) (by omega) (by omega) (by omega)
    | exact met_old4 ‹zRS4 _ _ _ _ _ _ _ _ _ _ _ _ _ _ _› ‹NMQ _ _ _ _ _ _› (by omega) ‹KNQ _ _ _ _ _ _ _› (by omega) (Or.inr ⟨by omega, _, by omega, ‹BT2 _ _ _ _ _›⟩) (by omega) (by omega)
    | (exfalso; omega)
def o_Mo_met_at_g4_23 : or_T := (254, 16, [(0, (2, 0, 0, [165])), (1, (0, 0, 7, [])), (2, (0, 0, 23, [])), (3, (0, 0, 2000, [])), (4, (0, 0, 2000, [])), (5, (0, 0, 4, [])), (6, (0, 0, 48, [])), (7, (0, 0, 1, [])), (10, (0, 0, 23, [])), (13, (0, 0, 2000, [])), (15, (0, 0, 0, []))], [(9, [13, 0], [13]), (9, [15, 0], [8]), (20, [0], [30, -1, -1, 1, 8])], [], [(0, 0, 2000, [])], [(20, [2, 0], [50, 1, 1, 1005, 1002, 3, 6, 0, 2, 1, 0, 0, -1, 0, 10, 3, 1, 2, 4, 3, 2, 1, 5, 0, 1, 0, 47]), (20, [0, 2, 10], [60, 1, 1, 243, 5, 2]), (20, [16, 0], [30, 0, 1, 0, 0, -1, 1, 11]), (20, [16, 0], [50, 1, 0, 1011, 1, 2, 1, 0, 2, 1, 11]), (20, [0], [60, 2, 0, 947, 10, 11]), (23, [3, 16], [0, 1, -1]), (23, [4, 16], [-1, 1, -1]), (20, [0, 10, 6, 2, 7, 1, 5, 16], [60, 3, 2, 979, 10, 8, 5, 1, 2])], [], [])
theorem oo_Mo_met_at_g4_23 {kA : Nat → ClassId} : or_ok PRD kA GG o_Mo_met_at_g4_23 := by
  refine or_mk fun A ta ws vs hD hth hl => ?_
  intro t0 r0 t1 k1 t2 k2 t3 k3 t4 k4 t5 k5 t6 k6 t7 k7 t10 k10 t13 k13 t15 k15 f0 f3 f18
  replace f0 := shm_361 f0
  replace f3 := shm_293 f3
  replace f18 := shm_305 f18
  have g0 : v_iv (n_v vs 13) = w_fi ws (n_v vs 0) 13 := congrArg v_iv f0
  have g3 : v_iv (n_v vs 15) = w_fi ws (n_v vs 0) 8 := congrArg v_iv f3
  have kz_0_8 := fdq_34 hD hth r0
  have kz_0_10 := fdq_43 hD hth r0
  have kz_0_11 := fdq_237 hD hth r0
  have kz_0_13 := fdq_238 hD hth r0
  obtain ⟨x, ex, hx⟩ := iv_ex (ta := ta) (lo := 0) (hi := 2000) (z := w_fi ws (n_v vs 0) 11) (by omega) (by omega) (by omega) (by omega)
  have ex2 : v_iv (Value.int x) = w_fi ws (n_v vs 0) 11 := ex
  have ex3 : 0 ≤ v_iv (Value.int x) ∧ v_iv (Value.int x) ≤ 2000 := tv_rng hx
  have e_0 : n_v (vs ++ [Value.int x]) 0 = n_v vs 0 := n_v_old (by rw [hl]; decide)
  have e_1 : n_v (vs ++ [Value.int x]) 1 = n_v vs 1 := n_v_old (by rw [hl]; decide)
  have e_2 : n_v (vs ++ [Value.int x]) 2 = n_v vs 2 := n_v_old (by rw [hl]; decide)
  have e_3 : n_v (vs ++ [Value.int x]) 3 = n_v vs 3 := n_v_old (by rw [hl]; decide)
  have e_4 : n_v (vs ++ [Value.int x]) 4 = n_v vs 4 := n_v_old (by rw [hl]; decide)
  have e_5 : n_v (vs ++ [Value.int x]) 5 = n_v vs 5 := n_v_old (by rw [hl]; decide)
  have e_6 : n_v (vs ++ [Value.int x]) 6 = n_v vs 6 := n_v_old (by rw [hl]; decide)
  have e_7 : n_v (vs ++ [Value.int x]) 7 = n_v vs 7 := n_v_old (by rw [hl]; decide)
  have e_10 : n_v (vs ++ [Value.int x]) 10 = n_v vs 10 := n_v_old (by rw [hl]; decide)
  have e_16 : n_v (vs ++ [Value.int x]) 16 = Value.int x := n_v_new hl
  have nf0 : fc_1 PRD (20, [2, 0], [50, 1, 1, 1005, 1002, 3, 6, 0, 2, 1, 0, 0, -1, 0, 10, 3, 1, 2, 4, 3, 2, 1, 5, 0, 1, 0, 47]) ws (vs ++ [Value.int x]) := by
    refine ⟨nf_inA hl rfl, sgq_2114 ?_⟩
    · show (v_iv (n_v (vs ++ [Value.int x]) 2) ≤ (-1)) ∨ (w_ei ws (w_ar ws (n_v (vs ++ [Value.int x]) 0) 2) ((w_fi ws (n_v (vs ++ [Value.int x]) 0) 5 + 1)) ≤ 47)
      simp only [e_0, e_2]
      exact vc_Mo_met_at_g4_23_0 (v_iv (n_v vs 2)) (v_iv (n_v vs 15)) (w_fi ws (n_v vs 0) 8) (w_ei ws (w_ar ws (n_v vs 0) 2)) (w_fi ws (n_v vs 0) 5) k2 k15 g3 f18 kz_0_8
  have nf1 : fc_1 PRD (20, [0, 2, 10], [60, 1, 1, 243, 5, 2]) ws (vs ++ [Value.int x]) := by
    refine ⟨nf_inA hl rfl, sgq_2115 ?_⟩
    · show MEN (w_fi ws (n_v (vs ++ [Value.int x]) 0) 5) (w_ei ws (w_ar ws (n_v (vs ++ [Value.int x]) 0) 2)) (v_iv (n_v (vs ++ [Value.int x]) 2)) (v_iv (n_v (vs ++ [Value.int x]) 10))
      simp only [e_0, e_2, e_10]
      exact vc_Mo_met_at_g4_23_1 (v_iv (n_v vs 2)) (v_iv (n_v vs 10)) (v_iv (n_v vs 15)) (w_fi ws (n_v vs 0) 8) (w_ei ws (w_ar ws (n_v vs 0) 2)) (w_fi ws (n_v vs 0) 5) k2 k10 k15 g3 f18 kz_0_8
  have nf2 : fc_1 PRD (20, [16, 0], [30, 0, 1, 0, 0, -1, 1, 11]) ws (vs ++ [Value.int x]) := by
    refine ⟨nf_inA hl rfl, sgq_1431 ?_⟩
    · show 1 * v_iv (n_v (vs ++ [Value.int x]) 16) + ((-1) * w_fi ws (n_v (vs ++ [Value.int x]) 0) 11 + 0) ≤ 0
      simp only [e_0, e_16]
      exact vc_Mo_met_at_g4_23_2 (v_iv (n_v vs 15)) (w_fi ws (n_v vs 0) 8) (w_fi ws (n_v vs 0) 5) (w_fi ws (n_v vs 0) 11) (v_iv (Value.int x)) k15 g3 f18 kz_0_8 kz_0_11
  have nf3 : fc_1 PRD (20, [16, 0], [50, 1, 0, 1011, 1, 2, 1, 0, 2, 1, 11]) ws (vs ++ [Value.int x]) := by
    refine ⟨nf_inA hl rfl, sgq_1432 ?_⟩
    · show v_iv (n_v (vs ++ [Value.int x]) 16) = w_fi ws (n_v (vs ++ [Value.int x]) 0) 11
      simp only [e_0, e_16]
      exact vc_Mo_met_at_g4_23_3 (w_fi ws (n_v vs 0) 5) (w_fi ws (n_v vs 0) 11) (v_iv (Value.int x)) kz_0_11 ex2
  have nf4 : fc_1 PRD (20, [0], [60, 2, 0, 947, 10, 11]) ws (vs ++ [Value.int x]) := by
    refine ⟨nf_inA hl rfl, sgq_1433 ?_⟩
    · show ZLM (w_fi ws (n_v (vs ++ [Value.int x]) 0) 10) (w_fi ws (n_v (vs ++ [Value.int x]) 0) 11)
      rw [e_0]
      exact vc_Mo_met_at_g4_23_4 (v_iv (n_v vs 15)) (w_fi ws (n_v vs 0) 8) (w_fi ws (n_v vs 0) 10) (w_fi ws (n_v vs 0) 11) k15 g3 f18 kz_0_8 kz_0_10 kz_0_11
  have nf5 : fc_1 PRD (23, [3, 16], [0, 1, -1]) ws (vs ++ [Value.int x]) := by
    refine ⟨nf_inA hl rfl, sgq_7 ?_⟩
    · show 1 * v_iv (n_v (vs ++ [Value.int x]) 3) + ((-1) * v_iv (n_v (vs ++ [Value.int x]) 16) + 0) ≤ 0
      simp only [e_3, e_16]
      exact vc_Mo_met_at_g4_23_5 (v_iv (n_v vs 3)) (v_iv (n_v vs 15)) (w_fi ws (n_v vs 0) 8) (w_fi ws (n_v vs 0) 5) (v_iv (Value.int x)) k3 k15 g3 f18 kz_0_8
  have nf6 : fc_1 PRD (23, [4, 16], [-1, 1, -1]) ws (vs ++ [Value.int x]) := by
    refine ⟨nf_inA hl rfl, sgq_193 ?_⟩
    · show 1 * v_iv (n_v (vs ++ [Value.int x]) 4) + ((-1) * v_iv (n_v (vs ++ [Value.int x]) 16) + 0) ≤ (-1)
      simp only [e_4, e_16]
      exact vc_Mo_met_at_g4_23_6 (v_iv (n_v vs 4)) (v_iv (n_v vs 15)) (w_fi ws (n_v vs 0) 8) (w_fi ws (n_v vs 0) 5) (v_iv (Value.int x)) k4 k15 g3 f18 kz_0_8
  have nf7 : fc_1 PRD (20, [0, 10, 6, 2, 7, 1, 5, 16], [60, 3, 2, 979, 10, 8, 5, 1, 2]) ws (vs ++ [Value.int x]) := by
    refine ⟨nf_inA hl rfl, sgq_2129 ?_⟩
    · show zTP8 (w_fi ws (n_v (vs ++ [Value.int x]) 0) 10) (w_fi ws (n_v (vs ++ [Value.int x]) 0) 8) (w_fi ws (n_v (vs ++ [Value.int x]) 0) 5) (w_ei ws (w_ar ws (n_v (vs ++ [Value.int x]) 0) 1)) (w_ei ws (w_ar ws (n_v (vs ++ [Value.int x]) 0) 2)) (v_iv (n_v (vs ++ [Value.int x]) 10)) (v_iv (n_v (vs ++ [Value.int x]) 6)) (v_iv (n_v (vs ++ [Value.int x]) 2)) (v_iv (n_v (vs ++ [Value.int x]) 7)) (v_iv (n_v (vs ++ [Value.int x]) 1)) (v_iv (n_v (vs ++ [Value.int x]) 5)) (v_iv (n_v (vs ++ [Value.int x]) 16))
      simp only [e_0, e_1, e_2, e_5, e_6, e_7, e_10, e_16]
      exact vc_Mo_met_at_g4_23_7 (v_iv (n_v vs 1)) (v_iv (n_v vs 2)) (v_iv (n_v vs 5)) (v_iv (n_v vs 6)) (v_iv (n_v vs 7)) (v_iv (n_v vs 10)) (v_iv (n_v vs 13)) (v_iv (n_v vs 15)) (w_fi ws (n_v vs 0) 13) (w_fi ws (n_v vs 0) 8) (w_ei ws (w_ar ws (n_v vs 0) 1)) (w_fi ws (n_v vs 0) 10) (w_ei ws (w_ar ws (n_v vs 0) 2)) (w_fi ws (n_v vs 0) 5) (w_fi ws (n_v vs 0) 11) (v_iv (Value.int x)) k1 k2 k5 k6 k7 k10 k13 k15 g0 g3 f18 kz_0_8 kz_0_10 kz_0_11 kz_0_13 ex2
  exact ⟨(fun _ h => (by cases h)), [Value.int x], ag_one hx, List.forall_mem_cons.mpr ⟨⟨show (20 : Nat) < 100 from by decide, nf0⟩, List.forall_mem_cons.mpr ⟨⟨show (20 : Nat) < 100 from by decide, nf1⟩, List.forall_mem_cons.mpr ⟨⟨show (20 : Nat) < 100 from by decide, nf2⟩, List.forall_mem_cons.mpr ⟨⟨show (20 : Nat) < 100 from by decide, nf3⟩, List.forall_mem_cons.mpr ⟨⟨show (20 : Nat) < 100 from by decide, nf4⟩, List.forall_mem_cons.mpr ⟨⟨show (23 : Nat) < 100 from by decide, nf5⟩, List.forall_mem_cons.mpr ⟨⟨show (23 : Nat) < 100 from by decide, nf6⟩, List.forall_mem_cons.mpr ⟨⟨show (20 : Nat) < 100 from by decide, nf7⟩, (fun _ h => (by cases h))⟩⟩⟩⟩⟩⟩⟩⟩, (fun _ h => (by cases h))⟩
set_option maxHeartbeats 4000000 in
theorem vc_Mo_met_at_g4_24_0 (x3 : Int) (x15 : Int) (fault_0 : Int) (r_0 : Int) (pos_0 : Int) (k3 : 0 ≤ x3 ∧ x3 ≤ 2000) (k15 : 0 ≤ x15 ∧ x15 ≤ 0) (g0 : x15 = fault_0) (f13 : (-1) * fault_0 + 0 ≤ (-1)) (kz_0_8 : 0 ≤ fault_0 ∧ fault_0 ≤ 5) (kz_0_11 : 0 ≤ pos_0 ∧ pos_0 ≤ 2000) : 1 * x3 + ((-1) * pos_0 + 0) ≤ 0 := by
  first
    | omega
    | (have q1 := (hE_0_2_1 (r_0 + 2) (by omega)).2 (by omega)
       have q2 := (hE_0_2_2 (r_0 + 2) (by omega)).2 (by omega)
       omega)
    | (have q1 := (hE_0_2_1 (r_0 + 1) (by omega)).2 (by omega)
       have q2 := (hE_0_2_2 (r_0 + 1) (by omega)).2 (by omega)
       omega)
    | (have q1 := (hE_0_2_1 (r_0 + 2) (by omega)).2 (by omega)
       omega)
    | (have q1 := (hE_0_2_1 (r_0 + 1) (by omega)).2 (by omega)
       omega)
    | (have q1 := (hE_0_2_1 (r_0 + 2) (by omega)).2 (by omega)
       have q2 := (hE_0_2_2 (r_0 + 2) (by omega)).2 (by omega)
       have q3 := (hE_0_2_3 (r_0 + 2) (by omega)).1 (by omega)
       omega)
    | (have q1 := (hE_0_2_1 (r_0 + 2) (by omega)).2 (by omega)
       have q2 := (hE_0_2_2 (r_0 + 2) (by omega)).2 (by omega)
       have q3 := (hE_0_2_3 (r_0 + 2) (by omega)).2 (by omega)
       omega)
set_option maxHeartbeats 4000000 in
theorem vc_Mo_met_at_g4_24_1 (x3 : Int) (x15 : Int) (fault_0 : Int) (r_0 : Int) (pos_0 : Int) (kind_0 : Int) (k3 : 0 ≤ x3 ∧ x3 ≤ 2000) (k15 : 0 ≤ x15 ∧ x15 ≤ 0) (g0 : x15 = fault_0) (f13 : (-1) * fault_0 + 0 ≤ (-1)) (kz_0_8 : 0 ≤ fault_0 ∧ fault_0 ≤ 5) (kz_0_11 : 0 ≤ pos_0 ∧ pos_0 ≤ 2000) (kz_0_12 : 0 ≤ kind_0 ∧ kind_0 ≤ 4) : (1 ≤ fault_0) ∨ ((kind_0 = 0) ∨ ((x3 + 1) ≤ pos_0)) := by
  first
    | omega
    | (have q1 := (hE_0_2_1 (r_0 + 2) (by omega)).2 (by omega)
       have q2 := (hE_0_2_2 (r_0 + 2) (by omega)).2 (by omega)
       omega)
    | (have q1 := (hE_0_2_1 (r_0 + 1) (by omega)).2 (by omega)
       have q2 := (hE_0_2_2 (r_0 + 1) (by omega)).2 (by omega)
       omega)
    | (have q1 := (hE_0_2_1 (r_0 + 2) (by omega)).2 (by omega)
       omega)
    | (have q1 := (hE_0_2_1 (r_0 + 1) (by omega)).2 (by omega)
       omega)
    | (have q1 := (hE_0_2_1 (r_0 + 2) (by omega)).2 (by omega)
       have q2 := (hE_0_2_2 (r_0 + 2) (by omega)).2 (by omega)
       have q3 := (hE_0_2_3 (r_0 + 2) (by omega)).1 (by omega)
       omega)
    | (have q1 := (hE_0_2_1 (r_0 + 2) (by omega)).2 (by omega)
       have q2 := (hE_0_2_2 (r_0 + 2) (by omega)).2 (by omega)
       have q3 := (hE_0_2_3 (r_0 + 2) (by omega)).2 (by omega)
       omega)
set_option maxHeartbeats 4000000 in
theorem vc_Mo_met_at_g4_24_2 (x4 : Int) (x15 : Int) (fault_0 : Int) (r_0 : Int) (pos_0 : Int) (k4 : 0 ≤ x4 ∧ x4 ≤ 2000) (k15 : 0 ≤ x15 ∧ x15 ≤ 0) (g0 : x15 = fault_0) (f13 : (-1) * fault_0 + 0 ≤ (-1)) (kz_0_8 : 0 ≤ fault_0 ∧ fault_0 ≤ 5) (kz_0_11 : 0 ≤ pos_0 ∧ pos_0 ≤ 2000) : (1 ≤ fault_0) ∨ ((x4 + 1) ≤ pos_0) := by
  first
    | omega
    | (have q1 := (hE_0_2_1 (r_0 + 2) (by omega)).2 (by omega)
       have q2 := (hE_0_2_2 (r_0 + 2) (by omega)).2 (by omega)
       omega)
    | (have q1 := (hE_0_2_1 (r_0 + 1) (by omega)).2 (by omega)
       have q2 := (hE_0_2_2 (r_0 + 1) (by omega)).2 (by omega)
       omega)
    | (have q1 := (hE_0_2_1 (r_0 + 2) (by omega)).2 (by omega)
       omega)
    | (have q1 := (hE_0_2_1 (r_0 + 1) (by omega)).2 (by omega)
       omega)
    | (have q1 := (hE_0_2_1 (r_0 + 2) (by omega)).2 (by omega)
       have q2 := (hE_0_2_2 (r_0 + 2) (by omega)).2 (by omega)
       have q3 := (hE_0_2_3 (r_0 + 2) (by omega)).1 (by omega)
       omega)
    | (have q1 := (hE_0_2_1 (r_0 + 2) (by omega)).2 (by omega)
       have q2 := (hE_0_2_2 (r_0 + 2) (by omega)).2 (by omega)
       have q3 := (hE_0_2_3 (r_0 + 2) (by omega)).2 (by omega)
       omega)
set_option maxHeartbeats 4000000 in
theorem vc_Mo_met_at_g4_24_3 (x10 : Int) (x15 : Int) (fault_0 : Int) (r_0 : Int) (k10 : 0 ≤ x10 ∧ x10 ≤ 23) (k15 : 0 ≤ x15 ∧ x15 ≤ 0) (g0 : x15 = fault_0) (f13 : (-1) * fault_0 + 0 ≤ (-1)) (kz_0_8 : 0 ≤ fault_0 ∧ fault_0 ≤ 5) : ((-1) * fault_0 + 0 ≤ (-1)) ∨ ((-1) * x10 + 0 ≤ 0) := by
  first
    | omega
    | (have q1 := (hE_0_2_1 (r_0 + 2) (by omega)).2 (by omega)
       have q2 := (hE_0_2_2 (r_0 + 2) (by omega)).2 (by omega)
       omega)
    | (have q1 := (hE_0_2_1 (r_0 + 1) (by omega)).2 (by omega)
       have q2 := (hE_0_2_2 (r_0 + 1) (by omega)).2 (by omega)
       omega)
    | (have q1 := (hE_0_2_1 (r_0 + 2) (by omega)).2 (by omega)
       omega)
    | (have q1 := (hE_0_2_1 (r_0 + 1) (by omega)).2 (by omega)
       omega)
    | (have q1 := (hE_0_2_1 (r_0 + 2) (by omega)).2 (by omega)
       have q2 := (hE_0_2_2 (r_0 + 2) (by omega)).2 (by omega)
       have q3 := (hE_0_2_3 (r_0 + 2) (by omega)).1 (by omega)
       omega)
    | (have q1 := (hE_0_2_1 (r_0 + 2) (by omega)).2 (by omega)
       have q2 := (hE_0_2_2 (r_0 + 2) (by omega)).2 (by omega)
       have q3 := (hE_0_2_3 (r_0 + 2) (by omega)).2 (by omega)
       omega)
set_option maxHeartbeats 4000000 in
theorem vc_Mo_met_at_g4_24_4 (x2 : Int) (x15 : Int) (fault_0 : Int) (all_0 : Int → Int) (r_0 : Int) (k2 : 0 ≤ x2 ∧ x2 ≤ 23) (k15 : 0 ≤ x15 ∧ x15 ≤ 0) (g0 : x15 = fault_0) (f13 : (-1) * fault_0 + 0 ≤ (-1)) (kz_0_8 : 0 ≤ fault_0 ∧ fault_0 ≤ 5) : (1 ≤ fault_0) ∨ ((x2 ≤ (-1)) ∨ (all_0 ((r_0 + 1)) ≤ 47)) := by
  first
    | omega
    | (have q1 := (hE_0_2_1 (r_0 + 2) (by omega)).2 (by omega)
       have q2 := (hE_0_2_2 (r_0 + 2) (by omega)).2 (by omega)
       omega)
    | (have q1 := (hE_0_2_1 (r_0 + 1) (by omega)).2 (by omega)
       have q2 := (hE_0_2_2 (r_0 + 1) (by omega)).2 (by omega)
       omega)
    | (have q1 := (hE_0_2_1 (r_0 + 2) (by omega)).2 (by omega)
       omega)
    | (have q1 := (hE_0_2_1 (r_0 + 1) (by omega)).2 (by omega)
       omega)
    | (have q1 := (hE_0_2_1 (r_0 + 2) (by omega)).2 (by omega)
       have q2 := (hE_0_2_2 (r_0 + 2) (by omega)).2 (by omega)
       have q3 := (hE_0_2_3 (r_0 + 2) (by omega)).1 (by omega)
       omega)
    | (have q1 := (hE_0_2_1 (r_0 + 2) (by omega)).2 (by omega)
       have q2 := (hE_0_2_2 (r_0 + 2) (by omega)).2 (by omega)
       have q3 := (hE_0_2_3 (r_0 + 2) (by omega)).2 (by omega)
       omega)
set_option maxHeartbeats 4000000 in
theorem vc_Mo_met_at_g4_24_5 (x2 : Int) (x10 : Int) (x15 : Int) (fault_0 : Int) (all_0 : Int → Int) (r_0 : Int) (k2 : 0 ≤ x2 ∧ x2 ≤ 23) (k10 : 0 ≤ x10 ∧ x10 ≤ 23) (k15 : 0 ≤ x15 ∧ x15 ≤ 0) (g0 : x15 = fault_0) (f13 : (-1) * fault_0 + 0 ≤ (-1)) (kz_0_8 : 0 ≤ fault_0 ∧ fault_0 ≤ 5) : MET (r_0) (fault_0) (all_0) (x2) (x10) := by
  first
    | (intro q; exfalso; omega)
    | exact fun _ => ‹MEN _ _ _ _›
set_option maxHeartbeats 4000000 in
theorem vc_Mo_met_at_g4_24_6 (x1 : Int) (x2 : Int) (x5 : Int) (x6 : Int) (x7 : Int) (x10 : Int) (x12 : Int) (x13 : Int) (x14 : Int) (x15 : Int) (fault_0 : Int) (all_0 : Int → Int) (r_0 : Int) (tape_0 : Int → Int) (limit_0 : Int) (faultPlace_0 : Int) (from_0 : Int) (pos_0 : Int) (kind_0 : Int) (place_0 : Int) (value_0 : Int) (k1 : 0 ≤ x1 ∧ x1 ≤ 7) (k2 : 0 ≤ x2 ∧ x2 ≤ 23) (k5 : 0 ≤ x5 ∧ x5 ≤ 4) (k6 : 0 ≤ x6 ∧ x6 ≤ 48) (k7 : 0 ≤ x7 ∧ x7 ≤ 1) (k10 : 0 ≤ x10 ∧ x10 ≤ 23) (k12 : 2 ≤ x12 ∧ x12 ≤ 2) (k13 : 0 ≤ x13 ∧ x13 ≤ 2000) (k14 : 0 ≤ x14 ∧ x14 ≤ 5) (k15 : 0 ≤ x15 ∧ x15 ≤ 0) (g0 : x15 = fault_0) (f6 : FSX (limit_0) (tape_0) (x12) (x13)) (f7 : ZH0 (x14)) (f14 : ((1 ≤ x14) ∧ (fault_0 = x14)) ∨ ((x14 = 0) ∧ ((fault_0 = x12) ∧ (faultPlace_0 = x13)))) (kz_0_8 : 0 ≤ fault_0 ∧ fault_0 ≤ 5) (kz_0_9 : 0 ≤ faultPlace_0 ∧ faultPlace_0 ≤ 2000) (kz_0_10 : 0 ≤ limit_0 ∧ limit_0 ≤ 2000) (kz_0_11 : 0 ≤ pos_0 ∧ pos_0 ≤ 2000) (kz_0_12 : 0 ≤ kind_0 ∧ kind_0 ≤ 4) (kz_0_13 : 0 ≤ place_0 ∧ place_0 ≤ 2000) (kz_0_14 : (-49) ≤ value_0 ∧ value_0 ≤ 1048575) (kz_0_15 : 0 ≤ from_0 ∧ from_0 ≤ 2000) : zOP8 (limit_0) (pos_0) (kind_0) (place_0) (value_0) (from_0) (fault_0) (faultPlace_0) (r_0) (tape_0) (all_0) (x10) (x6) (x2) (x7) (x1) (x5) := by
  first | subst g0 | skip
  first
    | (exfalso; have h := (rsq_0 ‹zRS4 _ _ _ _ _ _ _ _ _ _ _ _ _ _ _›).1; omega)
    | (refine Or.inl (fs_w ?_ ?_ (by assumption)) <;> assumption)
    | exact Or.inr (rsq_of ‹zTP8 _ _ _ _ _ _ _ _ _ _ _ _› ‹TKR _ _ _ _ _ _ _ _›)
    | (exfalso; omega)
def o_Mo_met_at_g4_24 : or_T := (258, 17, [(0, (2, 0, 0, [165])), (1, (0, 0, 7, [])), (2, (0, 0, 23, [])), (3, (0, 0, 2000, [])), (4, (0, 0, 2000, [])), (5, (0, 0, 4, [])), (6, (0, 0, 48, [])), (7, (0, 0, 1, [])), (10, (0, 0, 23, [])), (12, (0, 2, 2, [])), (13, (0, 0, 2000, [])), (14, (0, 0, 5, [])), (15, (0, 0, 0, []))], [(9, [15, 0], [8]), (20, [0, 12, 13], [60, 1, 1, 1026, 10, 1]), (20, [14], [61, 0, 1029]), (20, [0], [30, -1, -1, 1, 8]), (20, [14, 0, 12, 13], [50, 2, 0, 1008, 1009, 3, 15, 2, 6, 0, 2, 0, 1, 1, 0, 1, 3, 2, 1, 8, 1, 0, 2, 6, 1, 2, 1, 0, 0, 0, 2, 7, 1, 3, 2, 1, 8, 1, 2, 1, 3, 2, 1, 9, 1, 3])], [], [], [(20, [3, 0], [30, 0, 1, 0, 0, -1, 1, 11]), (20, [0, 3], [50, 3, 0, 8, 12, 11, 3, 7, 0, 2, 0, 1, 2, 0, 8, 3, 7, 1, 3, 2, 0, 12, 0, 0, 0, 6, 4, 2, 1, 1, 0, 1, 2, 0, 11]), (20, [0, 4], [50, 2, 0, 8, 11, 3, 7, 0, 2, 0, 1, 2, 0, 8, 0, 6, 4, 2, 1, 1, 0, 1, 2, 0, 11]), (20, [0, 10], [31, 1, -1, -1, 1, 8, 0, -1, 0, 0]), (20, [0, 2], [50, 2, 1, 8, 5, 2, 3, 7, 0, 2, 0, 1, 2, 0, 8, 3, 6, 0, 2, 1, 1, 0, -1, 0, 10, 3, 0, 2, 4, 3, 2, 0, 5, 0, 1, 0, 47]), (20, [0, 2, 10], [60, 2, 1, 240, 5, 8, 2]), (20, [0, 10, 6, 2, 7, 1, 5], [60, 9, 2, 1011, 10, 11, 12, 13, 14, 15, 8, 9, 5, 1, 2])], [], [])
theorem oo_Mo_met_at_g4_24 {kA : Nat → ClassId} : or_ok PRD kA GG o_Mo_met_at_g4_24 := by
  refine or_mk fun A ta ws vs hD hth hl => ?_
  intro t0 r0 t1 k1 t2 k2 t3 k3 t4 k4 t5 k5 t6 k6 t7 k7 t10 k10 t12 k12 t13 k13 t14 k14 t15 k15 f0 f6 f7 f13 f14
  replace f0 := shm_293 f0
  have g0 : v_iv (n_v vs 15) = w_fi ws (n_v vs 0) 8 := congrArg v_iv f0
  have kz_0_8 := fdq_34 hD hth r0
  have kz_0_9 := fdq_44 hD hth r0
  have kz_0_10 := fdq_43 hD hth r0
  have kz_0_11 := fdq_237 hD hth r0
  have kz_0_12 := fdq_187 hD hth r0
  have kz_0_13 := fdq_238 hD hth r0
  have kz_0_14 := fdq_188 hD hth r0
  have kz_0_15 := fdq_239 hD hth r0
  have nf0 : fc_1 PRD (20, [3, 0], [30, 0, 1, 0, 0, -1, 1, 11]) ws (vs) := ⟨nf_in hl rfl, sgq_1431 (vc_Mo_met_at_g4_24_0 (v_iv (n_v vs 3)) (v_iv (n_v vs 15)) (w_fi ws (n_v vs 0) 8) (w_fi ws (n_v vs 0) 5) (w_fi ws (n_v vs 0) 11) k3 k15 g0 (shm_305 f13) kz_0_8 kz_0_11)⟩
  have nf1 : fc_1 PRD (20, [0, 3], [50, 3, 0, 8, 12, 11, 3, 7, 0, 2, 0, 1, 2, 0, 8, 3, 7, 1, 3, 2, 0, 12, 0, 0, 0, 6, 4, 2, 1, 1, 0, 1, 2, 0, 11]) ws (vs) := ⟨nf_in hl rfl, sgq_1722 (vc_Mo_met_at_g4_24_1 (v_iv (n_v vs 3)) (v_iv (n_v vs 15)) (w_fi ws (n_v vs 0) 8) (w_fi ws (n_v vs 0) 5) (w_fi ws (n_v vs 0) 11) (w_fi ws (n_v vs 0) 12) k3 k15 g0 (shm_305 f13) kz_0_8 kz_0_11 kz_0_12)⟩
  have nf2 : fc_1 PRD (20, [0, 4], [50, 2, 0, 8, 11, 3, 7, 0, 2, 0, 1, 2, 0, 8, 0, 6, 4, 2, 1, 1, 0, 1, 2, 0, 11]) ws (vs) := ⟨nf_in hl rfl, sgq_1726 (vc_Mo_met_at_g4_24_2 (v_iv (n_v vs 4)) (v_iv (n_v vs 15)) (w_fi ws (n_v vs 0) 8) (w_fi ws (n_v vs 0) 5) (w_fi ws (n_v vs 0) 11) k4 k15 g0 (shm_305 f13) kz_0_8 kz_0_11)⟩
  have nf3 : fc_1 PRD (20, [0, 10], [31, 1, -1, -1, 1, 8, 0, -1, 0, 0]) ws (vs) := ⟨nf_in hl rfl, sgq_2117 (vc_Mo_met_at_g4_24_3 (v_iv (n_v vs 10)) (v_iv (n_v vs 15)) (w_fi ws (n_v vs 0) 8) (w_fi ws (n_v vs 0) 5) k10 k15 g0 (shm_305 f13) kz_0_8)⟩
  have nf4 : fc_1 PRD (20, [0, 2], [50, 2, 1, 8, 5, 2, 3, 7, 0, 2, 0, 1, 2, 0, 8, 3, 6, 0, 2, 1, 1, 0, -1, 0, 10, 3, 0, 2, 4, 3, 2, 0, 5, 0, 1, 0, 47]) ws (vs) := ⟨nf_in hl rfl, sgq_2118 (vc_Mo_met_at_g4_24_4 (v_iv (n_v vs 2)) (v_iv (n_v vs 15)) (w_fi ws (n_v vs 0) 8) (w_ei ws (w_ar ws (n_v vs 0) 2)) (w_fi ws (n_v vs 0) 5) k2 k15 g0 (shm_305 f13) kz_0_8)⟩
  have nf5 : fc_1 PRD (20, [0, 2, 10], [60, 2, 1, 240, 5, 8, 2]) ws (vs) := ⟨nf_in hl rfl, sgq_2119 (vc_Mo_met_at_g4_24_5 (v_iv (n_v vs 2)) (v_iv (n_v vs 10)) (v_iv (n_v vs 15)) (w_fi ws (n_v vs 0) 8) (w_ei ws (w_ar ws (n_v vs 0) 2)) (w_fi ws (n_v vs 0) 5) k2 k10 k15 g0 (shm_305 f13) kz_0_8)⟩
  have nf6 : fc_1 PRD (20, [0, 10, 6, 2, 7, 1, 5], [60, 9, 2, 1011, 10, 11, 12, 13, 14, 15, 8, 9, 5, 1, 2]) ws (vs) := ⟨nf_in hl rfl, sgq_2128 (vc_Mo_met_at_g4_24_6 (v_iv (n_v vs 1)) (v_iv (n_v vs 2)) (v_iv (n_v vs 5)) (v_iv (n_v vs 6)) (v_iv (n_v vs 7)) (v_iv (n_v vs 10)) (v_iv (n_v vs 12)) (v_iv (n_v vs 13)) (v_iv (n_v vs 14)) (v_iv (n_v vs 15)) (w_fi ws (n_v vs 0) 8) (w_ei ws (w_ar ws (n_v vs 0) 2)) (w_fi ws (n_v vs 0) 5) (w_ei ws (w_ar ws (n_v vs 0) 1)) (w_fi ws (n_v vs 0) 10) (w_fi ws (n_v vs 0) 9) (w_fi ws (n_v vs 0) 15) (w_fi ws (n_v vs 0) 11) (w_fi ws (n_v vs 0) 12) (w_fi ws (n_v vs 0) 13) (w_fi ws (n_v vs 0) 14) k1 k2 k5 k6 k7 k10 k12 k13 k14 k15 g0 (shm_1724 f6) (shm_1725 f7) (shm_306 f14) kz_0_8 kz_0_9 kz_0_10 kz_0_11 kz_0_12 kz_0_13 kz_0_14 kz_0_15)⟩
  refine ⟨(fun _ h => (by cases h)), [], trivial, ?_, (fun _ h => (by cases h))⟩
  rw [List.append_nil]
  exact List.forall_mem_cons.mpr ⟨⟨show (20 : Nat) < 100 from by decide, nf0⟩, List.forall_mem_cons.mpr ⟨⟨show (20 : Nat) < 100 from by decide, nf1⟩, List.forall_mem_cons.mpr ⟨⟨show (20 : Nat) < 100 from by decide, nf2⟩, List.forall_mem_cons.mpr ⟨⟨show (20 : Nat) < 100 from by decide, nf3⟩, List.forall_mem_cons.mpr ⟨⟨show (20 : Nat) < 100 from by decide, nf4⟩, List.forall_mem_cons.mpr ⟨⟨show (20 : Nat) < 100 from by decide, nf5⟩, List.forall_mem_cons.mpr ⟨⟨show (20 : Nat) < 100 from by decide, nf6⟩, (fun _ h => (by cases h))⟩⟩⟩⟩⟩⟩⟩
set_option maxHeartbeats 4000000 in
theorem vc_Mo_met_at_g4_25_0 (x3 : Int) (x15 : Int) (fault_0 : Int) (r_0 : Int) (pos_0 : Int) (kind_0 : Int) (k3 : 0 ≤ x3 ∧ x3 ≤ 2000) (k15 : 1 ≤ x15 ∧ x15 ≤ 5) (g2 : x15 = fault_0) (kz_0_8 : 0 ≤ fault_0 ∧ fault_0 ≤ 5) (kz_0_11 : 0 ≤ pos_0 ∧ pos_0 ≤ 2000) (kz_0_12 : 0 ≤ kind_0 ∧ kind_0 ≤ 4) : (1 ≤ fault_0) ∨ ((kind_0 = 0) ∨ ((x3 + 1) ≤ pos_0)) := by
  first
    | omega
    | (have q1 := (hE_0_2_1 (r_0 + 2) (by omega)).2 (by omega)
       have q2 := (hE_0_2_2 (r_0 + 2) (by omega)).2 (by omega)
       omega)
    | (have q1 := (hE_0_2_1 (r_0 + 1) (by omega)).2 (by omega)
       have q2 := (hE_0_2_2 (r_0 + 1) (by omega)).2 (by omega)
       omega)
    | (have q1 := (hE_0_2_1 (r_0 + 2) (by omega)).2 (by omega)
       omega)
    | (have q1 := (hE_0_2_1 (r_0 + 1) (by omega)).2 (by omega)
       omega)
    | (have q1 := (hE_0_2_1 (r_0 + 2) (by omega)).2 (by omega)
       have q2 := (hE_0_2_2 (r_0 + 2) (by omega)).2 (by omega)
       have q3 := (hE_0_2_3 (r_0 + 2) (by omega)).1 (by omega)
       omega)
    | (have q1 := (hE_0_2_1 (r_0 + 2) (by omega)).2 (by omega)
       have q2 := (hE_0_2_2 (r_0 + 2) (by omega)).2 (by omega)
       have q3 := (hE_0_2_3 (r_0 + 2) (by omega)).2 (by omega)
       omega)
set_option maxHeartbeats 4000000 in
theorem vc_Mo_met_at_g4_25_1 (x4 : Int) (x15 : Int) (fault_0 : Int) (r_0 : Int) (pos_0 : Int) (k4 : 0 ≤ x4 ∧ x4 ≤ 2000) (k15 : 1 ≤ x15 ∧ x15 ≤ 5) (g2 : x15 = fault_0) (kz_0_8 : 0 ≤ fault_0 ∧ fault_0 ≤ 5) (kz_0_11 : 0 ≤ pos_0 ∧ pos_0 ≤ 2000) : (1 ≤ fault_0) ∨ ((x4 + 1) ≤ pos_0) := by
  first
    | omega
    | (have q1 := (hE_0_2_1 (r_0 + 2) (by omega)).2 (by omega)
       have q2 := (hE_0_2_2 (r_0 + 2) (by omega)).2 (by omega)
       omega)
    | (have q1 := (hE_0_2_1 (r_0 + 1) (by omega)).2 (by omega)
       have q2 := (hE_0_2_2 (r_0 + 1) (by omega)).2 (by omega)
       omega)
    | (have q1 := (hE_0_2_1 (r_0 + 2) (by omega)).2 (by omega)
       omega)
    | (have q1 := (hE_0_2_1 (r_0 + 1) (by omega)).2 (by omega)
       omega)
    | (have q1 := (hE_0_2_1 (r_0 + 2) (by omega)).2 (by omega)
       have q2 := (hE_0_2_2 (r_0 + 2) (by omega)).2 (by omega)
       have q3 := (hE_0_2_3 (r_0 + 2) (by omega)).1 (by omega)
       omega)
    | (have q1 := (hE_0_2_1 (r_0 + 2) (by omega)).2 (by omega)
       have q2 := (hE_0_2_2 (r_0 + 2) (by omega)).2 (by omega)
       have q3 := (hE_0_2_3 (r_0 + 2) (by omega)).2 (by omega)
       omega)
set_option maxHeartbeats 4000000 in
theorem vc_Mo_met_at_g4_25_2 (x15 : Int) (x16 : Int) (fault_0 : Int) (r_0 : Int) (k15 : 1 ≤ x15 ∧ x15 ≤ 5) (k16 : (-1) ≤ x16 ∧ x16 ≤ (-1)) (g2 : x15 = fault_0) (kz_0_8 : 0 ≤ fault_0 ∧ fault_0 ≤ 5) : ((-1) * fault_0 + 0 ≤ (-1)) ∨ ((-1) * x16 + 0 ≤ 0) := by
  first
    | omega
    | (have q1 := (hE_0_2_1 (r_0 + 2) (by omega)).2 (by omega)
       have q2 := (hE_0_2_2 (r_0 + 2) (by omega)).2 (by omega)
       omega)
    | (have q1 := (hE_0_2_1 (r_0 + 1) (by omega)).2 (by omega)
       have q2 := (hE_0_2_2 (r_0 + 1) (by omega)).2 (by omega)
       omega)
    | (have q1 := (hE_0_2_1 (r_0 + 2) (by omega)).2 (by omega)
       omega)
    | (have q1 := (hE_0_2_1 (r_0 + 1) (by omega)).2 (by omega)
       omega)
    | (have q1 := (hE_0_2_1 (r_0 + 2) (by omega)).2 (by omega)
       have q2 := (hE_0_2_2 (r_0 + 2) (by omega)).2 (by omega)
       have q3 := (hE_0_2_3 (r_0 + 2) (by omega)).1 (by omega)
       omega)
    | (have q1 := (hE_0_2_1 (r_0 + 2) (by omega)).2 (by omega)
       have q2 := (hE_0_2_2 (r_0 + 2) (by omega)).2 (by omega)
       have q3 := (hE_0_2_3 (r_0 + 2) (by omega)).2 (by omega)
       omega)
set_option maxHeartbeats 4000000 in
theorem vc_Mo_met_at_g4_25_3 (x2 : Int) (x15 : Int) (fault_0 : Int) (all_0 : Int → Int) (r_0 : Int) (k2 : 0 ≤ x2 ∧ x2 ≤ 23) (k15 : 1 ≤ x15 ∧ x15 ≤ 5) (g2 : x15 = fault_0) (kz_0_8 : 0 ≤ fault_0 ∧ fault_0 ≤ 5) : (1 ≤ fault_0) ∨ ((x2 ≤ (-1)) ∨ (all_0 ((r_0 + 1)) ≤ 47)) := by
  first
    | omega
    | (have q1 := (hE_0_2_1 (r_0 + 2) (by omega)).2 (by omega)
       have q2 := (hE_0_2_2 (r_0 + 2) (by omega)).2 (by omega)
       omega)
    | (have q1 := (hE_0_2_1 (r_0 + 1) (by omega)).2 (by omega)
       have q2 := (hE_0_2_2 (r_0 + 1) (by omega)).2 (by omega)
       omega)
    | (have q1 := (hE_0_2_1 (r_0 + 2) (by omega)).2 (by omega)
       omega)
    | (have q1 := (hE_0_2_1 (r_0 + 1) (by omega)).2 (by omega)
       omega)
    | (have q1 := (hE_0_2_1 (r_0 + 2) (by omega)).2 (by omega)
       have q2 := (hE_0_2_2 (r_0 + 2) (by omega)).2 (by omega)
       have q3 := (hE_0_2_3 (r_0 + 2) (by omega)).1 (by omega)
       omega)
    | (have q1 := (hE_0_2_1 (r_0 + 2) (by omega)).2 (by omega)
       have q2 := (hE_0_2_2 (r_0 + 2) (by omega)).2 (by omega)
       have q3 := (hE_0_2_3 (r_0 + 2) (by omega)).2 (by omega)
       omega)
set_option maxHeartbeats 4000000 in
theorem vc_Mo_met_at_g4_25_4 (x2 : Int) (x15 : Int) (x16 : Int) (fault_0 : Int) (all_0 : Int → Int) (r_0 : Int) (k2 : 0 ≤ x2 ∧ x2 ≤ 23) (k15 : 1 ≤ x15 ∧ x15 ≤ 5) (k16 : (-1) ≤ x16 ∧ x16 ≤ (-1)) (g2 : x15 = fault_0) (kz_0_8 : 0 ≤ fault_0 ∧ fault_0 ≤ 5) : MET (r_0) (fault_0) (all_0) (x2) (x16) := by
  first
    | (intro q; exfalso; omega)
    | exact fun _ => ‹MEN _ _ _ _›
set_option maxHeartbeats 4000000 in
theorem vc_Mo_met_at_g4_25_5 (x1 : Int) (x2 : Int) (x5 : Int) (x6 : Int) (x7 : Int) (x12 : Int) (x13 : Int) (x14 : Int) (x15 : Int) (x16 : Int) (place_0 : Int) (fault_0 : Int) (tape_0 : Int → Int) (limit_0 : Int) (all_0 : Int → Int) (r_0 : Int) (pos_0 : Int) (from_0 : Int) (kind_0 : Int) (faultPlace_0 : Int) (value_0 : Int) (k1 : 0 ≤ x1 ∧ x1 ≤ 7) (k2 : 0 ≤ x2 ∧ x2 ≤ 23) (k5 : 0 ≤ x5 ∧ x5 ≤ 4) (k6 : 0 ≤ x6 ∧ x6 ≤ 48) (k7 : 0 ≤ x7 ∧ x7 ≤ 1) (k12 : 2 ≤ x12 ∧ x12 ≤ 2) (k13 : 0 ≤ x13 ∧ x13 ≤ 2000) (k14 : 0 ≤ x14 ∧ x14 ≤ 5) (k15 : 1 ≤ x15 ∧ x15 ≤ 5) (k16 : (-1) ≤ x16 ∧ x16 ≤ (-1)) (g0 : x13 = place_0) (g2 : x15 = fault_0) (f3 : FSX (limit_0) (tape_0) (x12) (x13)) (f4 : ZH0 (x14)) (f18 : ((1 ≤ x14) ∧ (fault_0 = x14)) ∨ ((x14 = 0) ∧ ((fault_0 = x12) ∧ (faultPlace_0 = x13)))) (kz_0_8 : 0 ≤ fault_0 ∧ fault_0 ≤ 5) (kz_0_9 : 0 ≤ faultPlace_0 ∧ faultPlace_0 ≤ 2000) (kz_0_10 : 0 ≤ limit_0 ∧ limit_0 ≤ 2000) (kz_0_11 : 0 ≤ pos_0 ∧ pos_0 ≤ 2000) (kz_0_12 : 0 ≤ kind_0 ∧ kind_0 ≤ 4) (kz_0_13 : 0 ≤ place_0 ∧ place_0 ≤ 2000) (kz_0_14 : (-49) ≤ value_0 ∧ value_0 ≤ 1048575) (kz_0_15 : 0 ≤ from_0 ∧ from_0 ≤ 2000) : zOP8 (limit_0) (pos_0) (kind_0) (place_0) (value_0) (from_0) (fault_0) (faultPlace_0) (r_0) (tape_0) (all_0) (x16) (x6) (x2) (x7) (x1) (x5) := by
  first | subst g0 | skip
  first | subst g2 | skip
  first
    | (exfalso; have h := (rsq_0 ‹zRS4 _ _ _ _ _ _ _ _ _ _ _ _ _ _ _›).1; omega)
    | (refine Or.inl (fs_w ?_ ?_ (by assumption)) <;> assumption)
    | exact Or.inr (rsq_of ‹zTP8 _ _ _ _ _ _ _ _ _ _ _ _› ‹TKR _ _ _ _ _ _ _ _›)
    | (exfalso; omega)
def o_Mo_met_at_g4_25 : or_T := (121, 17, [(0, (2, 0, 0, [165])), (1, (0, 0, 7, [])), (2, (0, 0, 23, [])), (3, (0, 0, 2000, [])), (4, (0, 0, 2000, [])), (5, (0, 0, 4, [])), (6, (0, 0, 48, [])), (7, (0, 0, 1, [])), (12, (0, 2, 2, [])), (13, (0, 0, 2000, [])), (14, (0, 0, 5, [])), (15, (0, 1, 5, [])), (16, (0, -1, -1, []))], [(9, [13, 0], [13]), (9, [15, 0], [8]), (20, [0, 12, 13], [60, 1, 1, 1026, 10, 1]), (20, [14], [61, 0, 1029]), (20, [14, 0, 12, 13], [50, 2, 0, 1008, 1009, 3, 15, 2, 6, 0, 2, 0, 1, 1, 0, 1, 3, 2, 1, 8, 1, 0, 2, 6, 1, 2, 1, 0, 0, 0, 2, 7, 1, 3, 2, 1, 8, 1, 2, 1, 3, 2, 1, 9, 1, 3])], [], [], [(20, [0, 3], [50, 3, 0, 8, 12, 11, 3, 7, 0, 2, 0, 1, 2, 0, 8, 3, 7, 1, 3, 2, 0, 12, 0, 0, 0, 6, 4, 2, 1, 1, 0, 1, 2, 0, 11]), (20, [0, 4], [50, 2, 0, 8, 11, 3, 7, 0, 2, 0, 1, 2, 0, 8, 0, 6, 4, 2, 1, 1, 0, 1, 2, 0, 11]), (20, [0, 16], [31, 1, -1, -1, 1, 8, 0, -1, 0, 0]), (20, [0, 2], [50, 2, 1, 8, 5, 2, 3, 7, 0, 2, 0, 1, 2, 0, 8, 3, 6, 0, 2, 1, 1, 0, -1, 0, 10, 3, 0, 2, 4, 3, 2, 0, 5, 0, 1, 0, 47]), (20, [0, 2, 16], [60, 2, 1, 240, 5, 8, 2]), (20, [0, 16, 6, 2, 7, 1, 5], [60, 9, 2, 1011, 10, 11, 12, 13, 14, 15, 8, 9, 5, 1, 2])], [], [])
theorem oo_Mo_met_at_g4_25 {kA : Nat → ClassId} : or_ok PRD kA GG o_Mo_met_at_g4_25 := by
  refine or_mk fun A ta ws vs hD hth hl => ?_
  intro t0 r0 t1 k1 t2 k2 t3 k3 t4 k4 t5 k5 t6 k6 t7 k7 t12 k12 t13 k13 t14 k14 t15 k15 t16 k16 f0 f2 f3 f4 f18
  replace f0 := shm_361 f0
  replace f2 := shm_293 f2
  have g0 : v_iv (n_v vs 13) = w_fi ws (n_v vs 0) 13 := congrArg v_iv f0
  have g2 : v_iv (n_v vs 15) = w_fi ws (n_v vs 0) 8 := congrArg v_iv f2
  have kz_0_8 := fdq_34 hD hth r0
  have kz_0_9 := fdq_44 hD hth r0
  have kz_0_10 := fdq_43 hD hth r0
  have kz_0_11 := fdq_237 hD hth r0
  have kz_0_12 := fdq_187 hD hth r0
  have kz_0_13 := fdq_238 hD hth r0
  have kz_0_14 := fdq_188 hD hth r0
  have kz_0_15 := fdq_239 hD hth r0
  have nf0 : fc_1 PRD (20, [0, 3], [50, 3, 0, 8, 12, 11, 3, 7, 0, 2, 0, 1, 2, 0, 8, 3, 7, 1, 3, 2, 0, 12, 0, 0, 0, 6, 4, 2, 1, 1, 0, 1, 2, 0, 11]) ws (vs) := ⟨nf_in hl rfl, sgq_1722 (vc_Mo_met_at_g4_25_0 (v_iv (n_v vs 3)) (v_iv (n_v vs 15)) (w_fi ws (n_v vs 0) 8) (w_fi ws (n_v vs 0) 5) (w_fi ws (n_v vs 0) 11) (w_fi ws (n_v vs 0) 12) k3 k15 g2 kz_0_8 kz_0_11 kz_0_12)⟩
  have nf1 : fc_1 PRD (20, [0, 4], [50, 2, 0, 8, 11, 3, 7, 0, 2, 0, 1, 2, 0, 8, 0, 6, 4, 2, 1, 1, 0, 1, 2, 0, 11]) ws (vs) := ⟨nf_in hl rfl, sgq_1726 (vc_Mo_met_at_g4_25_1 (v_iv (n_v vs 4)) (v_iv (n_v vs 15)) (w_fi ws (n_v vs 0) 8) (w_fi ws (n_v vs 0) 5) (w_fi ws (n_v vs 0) 11) k4 k15 g2 kz_0_8 kz_0_11)⟩
  have nf2 : fc_1 PRD (20, [0, 16], [31, 1, -1, -1, 1, 8, 0, -1, 0, 0]) ws (vs) := ⟨nf_in hl rfl, sgq_2117 (vc_Mo_met_at_g4_25_2 (v_iv (n_v vs 15)) (v_iv (n_v vs 16)) (w_fi ws (n_v vs 0) 8) (w_fi ws (n_v vs 0) 5) k15 k16 g2 kz_0_8)⟩
  have nf3 : fc_1 PRD (20, [0, 2], [50, 2, 1, 8, 5, 2, 3, 7, 0, 2, 0, 1, 2, 0, 8, 3, 6, 0, 2, 1, 1, 0, -1, 0, 10, 3, 0, 2, 4, 3, 2, 0, 5, 0, 1, 0, 47]) ws (vs) := ⟨nf_in hl rfl, sgq_2118 (vc_Mo_met_at_g4_25_3 (v_iv (n_v vs 2)) (v_iv (n_v vs 15)) (w_fi ws (n_v vs 0) 8) (w_ei ws (w_ar ws (n_v vs 0) 2)) (w_fi ws (n_v vs 0) 5) k2 k15 g2 kz_0_8)⟩
  have nf4 : fc_1 PRD (20, [0, 2, 16], [60, 2, 1, 240, 5, 8, 2]) ws (vs) := ⟨nf_in hl rfl, sgq_2119 (vc_Mo_met_at_g4_25_4 (v_iv (n_v vs 2)) (v_iv (n_v vs 15)) (v_iv (n_v vs 16)) (w_fi ws (n_v vs 0) 8) (w_ei ws (w_ar ws (n_v vs 0) 2)) (w_fi ws (n_v vs 0) 5) k2 k15 k16 g2 kz_0_8)⟩
  have nf5 : fc_1 PRD (20, [0, 16, 6, 2, 7, 1, 5], [60, 9, 2, 1011, 10, 11, 12, 13, 14, 15, 8, 9, 5, 1, 2]) ws (vs) := ⟨nf_in hl rfl, sgq_2128 (vc_Mo_met_at_g4_25_5 (v_iv (n_v vs 1)) (v_iv (n_v vs 2)) (v_iv (n_v vs 5)) (v_iv (n_v vs 6)) (v_iv (n_v vs 7)) (v_iv (n_v vs 12)) (v_iv (n_v vs 13)) (v_iv (n_v vs 14)) (v_iv (n_v vs 15)) (v_iv (n_v vs 16)) (w_fi ws (n_v vs 0) 13) (w_fi ws (n_v vs 0) 8) (w_ei ws (w_ar ws (n_v vs 0) 1)) (w_fi ws (n_v vs 0) 10) (w_ei ws (w_ar ws (n_v vs 0) 2)) (w_fi ws (n_v vs 0) 5) (w_fi ws (n_v vs 0) 11) (w_fi ws (n_v vs 0) 15) (w_fi ws (n_v vs 0) 12) (w_fi ws (n_v vs 0) 9) (w_fi ws (n_v vs 0) 14) k1 k2 k5 k6 k7 k12 k13 k14 k15 k16 g0 g2 (shm_1724 f3) (shm_1725 f4) (shm_306 f18) kz_0_8 kz_0_9 kz_0_10 kz_0_11 kz_0_12 kz_0_13 kz_0_14 kz_0_15)⟩
  refine ⟨(fun _ h => (by cases h)), [], trivial, ?_, (fun _ h => (by cases h))⟩
  rw [List.append_nil]
  exact List.forall_mem_cons.mpr ⟨⟨show (20 : Nat) < 100 from by decide, nf0⟩, List.forall_mem_cons.mpr ⟨⟨show (20 : Nat) < 100 from by decide, nf1⟩, List.forall_mem_cons.mpr ⟨⟨show (20 : Nat) < 100 from by decide, nf2⟩, List.forall_mem_cons.mpr ⟨⟨show (20 : Nat) < 100 from by decide, nf3⟩, List.forall_mem_cons.mpr ⟨⟨show (20 : Nat) < 100 from by decide, nf4⟩, List.forall_mem_cons.mpr ⟨⟨show (20 : Nat) < 100 from by decide, nf5⟩, (fun _ h => (by cases h))⟩⟩⟩⟩⟩⟩
set_option maxHeartbeats 4000000 in
theorem vc_Mo_met_at_g4_26_0 (x2 : Int) (x13 : Int) (all_0 : Int → Int) (r_0 : Int) (k2 : 0 ≤ x2 ∧ x2 ≤ 23) (k13 : 0 ≤ x13 ∧ x13 ≤ 47) (f4 : 1 * x13 + ((-1) * all_0 (r_0 + 1) + 0) ≤ 0) (f5 : (-1) * x13 + (1 * all_0 (r_0 + 1) + 0) ≤ 0) : (x2 ≤ (-1)) ∨ (all_0 ((r_0 + 1)) ≤ 47) := by
  first
    | omega
    | (have q1 := (hE_0_2_1 (r_0 + 2) (by omega)).2 (by omega)
       have q2 := (hE_0_2_2 (r_0 + 2) (by omega)).2 (by omega)
       omega)
    | (have q1 := (hE_0_2_1 (r_0 + 1) (by omega)).2 (by omega)
       have q2 := (hE_0_2_2 (r_0 + 1) (by omega)).2 (by omega)
       omega)
    | (have q1 := (hE_0_2_1 (r_0 + 2) (by omega)).2 (by omega)
       omega)
    | (have q1 := (hE_0_2_1 (r_0 + 1) (by omega)).2 (by omega)
       omega)
    | (have q1 := (hE_0_2_1 (r_0 + 2) (by omega)).2 (by omega)
       have q2 := (hE_0_2_2 (r_0 + 2) (by omega)).2 (by omega)
       have q3 := (hE_0_2_3 (r_0 + 2) (by omega)).1 (by omega)
       omega)
    | (have q1 := (hE_0_2_1 (r_0 + 2) (by omega)).2 (by omega)
       have q2 := (hE_0_2_2 (r_0 + 2) (by omega)).2 (by omega)
       have q3 := (hE_0_2_3 (r_0 + 2) (by omega)).2 (by omega)
       omega)
set_option maxHeartbeats 4000000 in
theorem vc_Mo_met_at_g4_26_1 (x2 : Int) (x10 : Int) (x11 : Int) (x13 : Int) (all_0 : Int → Int) (r_0 : Int) (now_0 : Int → Int) (latest_0 : Int → Int) (k2 : 0 ≤ x2 ∧ x2 ≤ 23) (k10 : 0 ≤ x10 ∧ x10 ≤ 23) (k11 : (-1) ≤ x11 ∧ x11 ≤ (-1)) (k13 : 0 ≤ x13 ∧ x13 ≤ 47) (f4 : 1 * x13 + ((-1) * all_0 (r_0 + 1) + 0) ≤ 0) (f5 : (-1) * x13 + (1 * all_0 (r_0 + 1) + 0) ≤ 0) (f8 : x11 < 0) (f9 : BTP (r_0) (all_0) (x10) (x2) (x11)) (f11 : x10 ≠ x2) (f13 : 0 ≤ x10) (f14 : NDB (r_0) (all_0) (x10)) (f22 : RWS (r_0) (all_0) (now_0) (latest_0)) (f23 : MEB (r_0) (all_0) (x2)) : MEN (r_0) (all_0) (x2) (x10) := by
  try simp only [Int.add_zero] at *
  first
    | exact men_old ‹RWS _ _ _ _› ‹NDB _ _ _› (by omega) ‹MEB _ _ _› (Or.inl (by omega))
    | exact men_old ‹RWS _ _ _ _› ‹NDB _ _ _› (by omega) ‹MEB _ _ _› (Or.inr ⟨by omega, ‹BTP _ _ _ _ _› (by omega), by omega⟩)
set_option maxHeartbeats 4000000 in
theorem vc_Mo_met_at_g4_26_2 (r_0 : Int) (pos_0 : Int) (gx : Int) (kz_0_11 : 0 ≤ pos_0 ∧ pos_0 ≤ 2000) (ex2 : gx = pos_0) : 1 * gx + ((-1) * pos_0 + 0) ≤ 0 := by
  first
    | omega
    | (have q1 := (hE_0_2_1 (r_0 + 2) (by omega)).2 (by omega)
       have q2 := (hE_0_2_2 (r_0 + 2) (by omega)).2 (by omega)
       omega)
    | (have q1 := (hE_0_2_1 (r_0 + 1) (by omega)).2 (by omega)
       have q2 := (hE_0_2_2 (r_0 + 1) (by omega)).2 (by omega)
       omega)
    | (have q1 := (hE_0_2_1 (r_0 + 2) (by omega)).2 (by omega)
       omega)
    | (have q1 := (hE_0_2_1 (r_0 + 1) (by omega)).2 (by omega)
       omega)
    | (have q1 := (hE_0_2_1 (r_0 + 2) (by omega)).2 (by omega)
       have q2 := (hE_0_2_2 (r_0 + 2) (by omega)).2 (by omega)
       have q3 := (hE_0_2_3 (r_0 + 2) (by omega)).1 (by omega)
       omega)
    | (have q1 := (hE_0_2_1 (r_0 + 2) (by omega)).2 (by omega)
       have q2 := (hE_0_2_2 (r_0 + 2) (by omega)).2 (by omega)
       have q3 := (hE_0_2_3 (r_0 + 2) (by omega)).2 (by omega)
       omega)
set_option maxHeartbeats 4000000 in
theorem vc_Mo_met_at_g4_26_3 (r_0 : Int) (pos_0 : Int) (gx : Int) (kz_0_11 : 0 ≤ pos_0 ∧ pos_0 ≤ 2000) (ex2 : gx = pos_0) : gx = pos_0 := by
  first
    | omega
    | (have q1 := (hE_0_2_1 (r_0 + 2) (by omega)).2 (by omega)
       have q2 := (hE_0_2_2 (r_0 + 2) (by omega)).2 (by omega)
       omega)
    | (have q1 := (hE_0_2_1 (r_0 + 1) (by omega)).2 (by omega)
       have q2 := (hE_0_2_2 (r_0 + 1) (by omega)).2 (by omega)
       omega)
    | (have q1 := (hE_0_2_1 (r_0 + 2) (by omega)).2 (by omega)
       omega)
    | (have q1 := (hE_0_2_1 (r_0 + 1) (by omega)).2 (by omega)
       omega)
    | (have q1 := (hE_0_2_1 (r_0 + 2) (by omega)).2 (by omega)
       have q2 := (hE_0_2_2 (r_0 + 2) (by omega)).2 (by omega)
       have q3 := (hE_0_2_3 (r_0 + 2) (by omega)).1 (by omega)
       omega)
    | (have q1 := (hE_0_2_1 (r_0 + 2) (by omega)).2 (by omega)
       have q2 := (hE_0_2_2 (r_0 + 2) (by omega)).2 (by omega)
       have q3 := (hE_0_2_3 (r_0 + 2) (by omega)).2 (by omega)
       omega)
set_option maxHeartbeats 4000000 in
theorem vc_Mo_met_at_g4_26_4 (x1 : Int) (x2 : Int) (x5 : Int) (x6 : Int) (x7 : Int) (fault_0 : Int) (all_0 : Int → Int) (r_0 : Int) (tape_0 : Int → Int) (pos_0 : Int) (limit_0 : Int) (from_0 : Int) (kind_0 : Int) (place_0 : Int) (value_0 : Int) (k1 : 0 ≤ x1 ∧ x1 ≤ 7) (k2 : 0 ≤ x2 ∧ x2 ≤ 23) (k5 : 0 ≤ x5 ∧ x5 ≤ 4) (k6 : 0 ≤ x6 ∧ x6 ≤ 48) (k7 : 0 ≤ x7 ∧ x7 ≤ 1) (f24 : zRS4 (limit_0) (pos_0) (kind_0) (place_0) (value_0) (from_0) (fault_0) (r_0) (tape_0) (all_0) (x2) (x6) (x7) (x1) (x5)) (kz_0_8 : 0 ≤ fault_0 ∧ fault_0 ≤ 5) (kz_0_10 : 0 ≤ limit_0 ∧ limit_0 ≤ 2000) (kz_0_11 : 0 ≤ pos_0 ∧ pos_0 ≤ 2000) (kz_0_12 : 0 ≤ kind_0 ∧ kind_0 ≤ 4) (kz_0_13 : 0 ≤ place_0 ∧ place_0 ≤ 2000) (kz_0_14 : (-49) ≤ value_0 ∧ value_0 ≤ 1048575) (kz_0_15 : 0 ≤ from_0 ∧ from_0 ≤ 2000) : ZLM (limit_0) (pos_0) := by
  first
    | exact zlm_r (‹zMN0 _ _ _ _ _ _ _ _ _ _ _ _ _ _›).1
    | exact zlm_r (‹zMN1 _ _ _ _ _ _ _ _ _ _ _ _ _ _›).1
    | exact zlm_r (‹zMN4 _ _ _ _ _ _ _ _ _ _ _ _ _ _ _ _ _›).1
    | exact zlm_r (‹zRSE _ _ _ _ _ _ _ _ _ _ _ _›).1.1
    | exact zlm_r ‹zRS1 _ _ _ _ _ _ _ _ _ _ _ _›
    | exact zlm_r ‹zRS4 _ _ _ _ _ _ _ _ _ _ _ _ _ _ _›
    | (exfalso; omega)
set_option maxHeartbeats 4000000 in
theorem vc_Mo_met_at_g4_26_5 (x3 : Int) (r_0 : Int) (pos_0 : Int) (gx : Int) (k3 : 0 ≤ x3 ∧ x3 ≤ 2000) (f19 : 1 * x3 + ((-1) * pos_0 + 0) ≤ 0) (kz_0_11 : 0 ≤ pos_0 ∧ pos_0 ≤ 2000) (ex2 : gx = pos_0) : 1 * x3 + ((-1) * gx + 0) ≤ 0 := by
  first
    | omega
    | (have q1 := (hE_0_2_1 (r_0 + 2) (by omega)).2 (by omega)
       have q2 := (hE_0_2_2 (r_0 + 2) (by omega)).2 (by omega)
       omega)
    | (have q1 := (hE_0_2_1 (r_0 + 1) (by omega)).2 (by omega)
       have q2 := (hE_0_2_2 (r_0 + 1) (by omega)).2 (by omega)
       omega)
    | (have q1 := (hE_0_2_1 (r_0 + 2) (by omega)).2 (by omega)
       omega)
    | (have q1 := (hE_0_2_1 (r_0 + 1) (by omega)).2 (by omega)
       omega)
    | (have q1 := (hE_0_2_1 (r_0 + 2) (by omega)).2 (by omega)
       have q2 := (hE_0_2_2 (r_0 + 2) (by omega)).2 (by omega)
       have q3 := (hE_0_2_3 (r_0 + 2) (by omega)).1 (by omega)
       omega)
    | (have q1 := (hE_0_2_1 (r_0 + 2) (by omega)).2 (by omega)
       have q2 := (hE_0_2_2 (r_0 + 2) (by omega)).2 (by omega)
       have q3 := (hE_0_2_3 (r_0 + 2) (by omega)).2 (by omega)
       omega)
set_option maxHeartbeats 4000000 in
theorem vc_Mo_met_at_g4_26_6 (x4 : Int) (x9 : Int) (r_0 : Int) (pos_0 : Int) (kind_0 : Int) (gx : Int) (k4 : 0 ≤ x4 ∧ x4 ≤ 2000) (k9 : 1 ≤ x9 ∧ x9 ≤ 1) (f20 : (kind_0 = 0) ∨ ((x4 + 1) ≤ pos_0)) (f26 : (x9 = 1) → (kind_0 = 1)) (kz_0_11 : 0 ≤ pos_0 ∧ pos_0 ≤ 2000) (kz_0_12 : 0 ≤ kind_0 ∧ kind_0 ≤ 4) (ex2 : gx = pos_0) : 1 * x4 + ((-1) * gx + 0) ≤ (-1) := by
  first
    | omega
    | (have q1 := (hE_0_2_1 (r_0 + 2) (by omega)).2 (by omega)
       have q2 := (hE_0_2_2 (r_0 + 2) (by omega)).2 (by omega)
       omega)
    | (have q1 := (hE_0_2_1 (r_0 + 1) (by omega)).2 (by omega)
       have q2 := (hE_0_2_2 (r_0 + 1) (by omega)).2 (by omega)
       omega)
    | (have q1 := (hE_0_2_1 (r_0 + 2) (by omega)).2 (by omega)
       omega)
    | (have q1 := (hE_0_2_1 (r_0 + 1) (by omega)).2 (by omega)
       omega)
    | (have q1 := (hE_0_2_1 (r_0 + 2) (by omega)).2 (by omega)
       have q2 := (hE_0_2_2 (r_0 + 2) (by omega)).2 (by omega)
       have q3 := (hE_0_2_3 (r_0 + 2) (by omega)).1 (by omega)
       omega)
    | (have q1 := (hE_0_2_1 (r_0 + 2) (by omega)).2 (by omega)
       have q2 := (hE_0_2_2 (r_0 + 2) (by omega)).2 (by omega)
       have q3 := (hE_0_2_3 (r_0 + 2) (by omega)).2 (by omega)
       omega)
set_option maxHeartbeats 4000000 in
theorem vc_Mo_met_at_g4_26_7 (x1 : Int) (x2 : Int) (x5 : Int) (x6 : Int) (x7 : Int) (x8 : Int) (x9 : Int) (x10 : Int) (x11 : Int) (x13 : Int) (fault_0 : Int) (all_0 : Int → Int) (r_0 : Int) (tape_0 : Int → Int) (pos_0 : Int) (limit_0 : Int) (from_0 : Int) (kind_0 : Int) (place_0 : Int) (value_0 : Int) (gx : Int) (k1 : 0 ≤ x1 ∧ x1 ≤ 7) (k2 : 0 ≤ x2 ∧ x2 ≤ 23) (k5 : 0 ≤ x5 ∧ x5 ≤ 4) (k6 : 0 ≤ x6 ∧ x6 ≤ 48) (k7 : 0 ≤ x7 ∧ x7 ≤ 1) (k8 : 0 ≤ x8 ∧ x8 ≤ 0) (k9 : 1 ≤ x9 ∧ x9 ≤ 1) (k10 : 0 ≤ x10 ∧ x10 ≤ 23) (k11 : (-1) ≤ x11 ∧ x11 ≤ (-1)) (k13 : 0 ≤ x13 ∧ x13 ≤ 47) (g2 : x8 = fault_0) (f4 : 1 * x13 + ((-1) * all_0 (r_0 + 1) + 0) ≤ 0) (f5 : (-1) * x13 + (1 * all_0 (r_0 + 1) + 0) ≤ 0) (f8 : x11 < 0) (f10 : BT2 (r_0) (all_0) (x10) (x2) (x11)) (f11 : x10 ≠ x2) (f13 : 0 ≤ x10) (f15 : KNQ (pos_0) (limit_0) (from_0) (r_0) (all_0) (tape_0) (x10)) (f16 : x9 ≠ 0) (f24 : zRS4 (limit_0) (pos_0) (kind_0) (place_0) (value_0) (from_0) (fault_0) (r_0) (tape_0) (all_0) (x2) (x6) (x7) (x1) (x5)) (f27 : NMQ (kind_0) (pos_0) (limit_0) (from_0) (tape_0) (x9)) (kz_0_8 : 0 ≤ fault_0 ∧ fault_0 ≤ 5) (kz_0_10 : 0 ≤ limit_0 ∧ limit_0 ≤ 2000) (kz_0_11 : 0 ≤ pos_0 ∧ pos_0 ≤ 2000) (kz_0_12 : 0 ≤ kind_0 ∧ kind_0 ≤ 4) (kz_0_13 : 0 ≤ place_0 ∧ place_0 ≤ 2000) (kz_0_14 : (-49) ≤ value_0 ∧ value_0 ≤ 1048575) (kz_0_15 : 0 ≤ from_0 ∧ from_0 ≤ 2000) (ex2 : gx = pos_0) : zTP8 (limit_0) (fault_0) (r_0) (tape_0) (all_0) (x10) (x6) (x2) (x7) (x1) (x5) (gx) := by
  first | subst g2 | skip
  first | subst ex2 | skip
  first
    | exact mn_end4 ‹zMN4 _ _ _ _ _ _ _ _ _ _ _ _ _ _ _ _ _› (by omega) (by omega) (by assumption) (by assumption) (by omega) (by omega) (by omega) (by omega) (by omega)
    | exact met_old4 ‹zRS4 _ _ _ _ _ _ _ _ _ _ _ _ _ _ _› ‹NMQ _ _ _ _ _ _› (by omega) ‹KNQ _ _ _ _ _ _ _› (by omega) (Or.inr ⟨by omega, _, by omega, ‹BT2 _ _ _ _ _›⟩) (by omega) (by omega)
    | (exfalso; omega)
def o_Mo_met_at_g4_26 : or_T := (254, 15, [(0, (2, 0, 0, [165])), (1, (0, 0, 7, [])), (2, (0, 0, 23, [])), (3, (0, 0, 2000, [])), (4, (0, 0, 2000, [])), (5, (0, 0, 4, [])), (6, (0, 0, 48, [])), (7, (0, 0, 1, [])), (8, (0, 0, 0, [])), (9, (0, 1, 1, [])), (10, (0, 0, 23, [])), (11, (0, -1, -1, [])), (13, (0, 0, 47, []))], [(9, [8, 0], [8]), (20, [13, 0], [30, 0, 1, 0, 0, -1, 3, 2005001]), (20, [13, 0], [30, 0, -1, 0, 0, 1, 3, 2005001]), (8, [11], [2]), (20, [0, 10, 2, 11], [60, 1, 1, 206, 5, 2]), (20, [0, 10, 2, 11], [60, 1, 1, 1034, 5, 2]), (7, [10, 2], [1]), (8, [10], [3]), (20, [0, 10], [60, 1, 1, 207, 5, 2]), (20, [0, 10], [60, 4, 2, 1031, 11, 10, 15, 5, 2, 1]), (8, [9], [1]), (20, [3, 0], [30, 0, 1, 0, 0, -1, 1, 11]), (20, [0, 4], [50, 2, 0, 12, 11, 3, 7, 1, 3, 2, 0, 12, 0, 0, 0, 6, 4, 2, 1, 1, 0, 1, 2, 0, 11]), (20, [0], [60, 1, 3, 199, 5, 2, 3, 4]), (20, [0, 2], [60, 1, 1, 241, 5, 2]), (20, [0, 2, 6, 7, 1, 5], [60, 8, 2, 993, 10, 11, 12, 13, 14, 15, 8, 5, 1, 2]), (20, [9, 0], [50, 1, 0, 1012, 4, 6, 1, 2, 1, 0, 0, 1, 1, 3, 2, 1, 12, 0, 1]), (20, [0, 9], [60, 4, 1, 962, 12, 11, 10, 15, 1])], [], [(0, 0, 2000, [])], [(20, [2, 0], [50, 1, 1, 1005, 1002, 3, 6, 0, 2, 1, 0, 0, -1, 0, 10, 3, 1, 2, 4, 3, 2, 1, 5, 0, 1, 0, 47]), (20, [0, 2, 10], [60, 1, 1, 243, 5, 2]), (20, [15, 0], [30, 0, 1, 0, 0, -1, 1, 11]), (20, [15, 0], [50, 1, 0, 1011, 1, 2, 1, 0, 2, 1, 11]), (20, [0], [60, 2, 0, 947, 10, 11]), (23, [3, 15], [0, 1, -1]), (23, [4, 15], [-1, 1, -1]), (20, [0, 10, 6, 2, 7, 1, 5, 15], [60, 3, 2, 979, 10, 8, 5, 1, 2])], [], [])
theorem oo_Mo_met_at_g4_26 {kA : Nat → ClassId} : or_ok PRD kA GG o_Mo_met_at_g4_26 := by
  refine or_mk fun A ta ws vs hD hth hl => ?_
  intro t0 r0 t1 k1 t2 k2 t3 k3 t4 k4 t5 k5 t6 k6 t7 k7 t8 k8 t9 k9 t10 k10 t11 k11 t13 k13 f2 f4 f5 f8 f9 f10 f11 f13 f14 f15 f16 f19 f20 f22 f23 f24 f26 f27
  replace f2 := shm_293 f2
  replace f4 := shm_121 f4
  replace f5 := shm_122 f5
  replace f8 := shm_39 f8
  replace f9 := shm_1419 f9
  replace f10 := shm_1420 f10
  replace f11 := shm_40 f11
  replace f13 := shm_32 f13
  replace f14 := shm_1232 f14
  replace f15 := shm_1233 f15
  replace f16 := shm_142 f16
  replace f19 := shm_1431 f19
  replace f20 := shm_2111 f20
  replace f22 := shm_980 f22
  replace f23 := shm_2112 f23
  replace f24 := shm_2126 f24
  replace f26 := shm_1856 f26
  replace f27 := shm_1889 f27
  have g2 : v_iv (n_v vs 8) = w_fi ws (n_v vs 0) 8 := congrArg v_iv f2
  have kz_0_8 := fdq_34 hD hth r0
  have kz_0_10 := fdq_43 hD hth r0
  have kz_0_11 := fdq_237 hD hth r0
  have kz_0_12 := fdq_187 hD hth r0
  have kz_0_13 := fdq_238 hD hth r0
  have kz_0_14 := fdq_188 hD hth r0
  have kz_0_15 := fdq_239 hD hth r0
  obtain ⟨x, ex, hx⟩ := iv_ex (ta := ta) (lo := 0) (hi := 2000) (z := w_fi ws (n_v vs 0) 11) (by omega) (by omega) (by omega) (by omega)
  have ex2 : v_iv (Value.int x) = w_fi ws (n_v vs 0) 11 := ex
  have ex3 : 0 ≤ v_iv (Value.int x) ∧ v_iv (Value.int x) ≤ 2000 := tv_rng hx
  have e_0 : n_v (vs ++ [Value.int x]) 0 = n_v vs 0 := n_v_old (by rw [hl]; decide)
  have e_1 : n_v (vs ++ [Value.int x]) 1 = n_v vs 1 := n_v_old (by rw [hl]; decide)
  have e_2 : n_v (vs ++ [Value.int x]) 2 = n_v vs 2 := n_v_old (by rw [hl]; decide)
  have e_3 : n_v (vs ++ [Value.int x]) 3 = n_v vs 3 := n_v_old (by rw [hl]; decide)
  have e_4 : n_v (vs ++ [Value.int x]) 4 = n_v vs 4 := n_v_old (by rw [hl]; decide)
  have e_5 : n_v (vs ++ [Value.int x]) 5 = n_v vs 5 := n_v_old (by rw [hl]; decide)
  have e_6 : n_v (vs ++ [Value.int x]) 6 = n_v vs 6 := n_v_old (by rw [hl]; decide)
  have e_7 : n_v (vs ++ [Value.int x]) 7 = n_v vs 7 := n_v_old (by rw [hl]; decide)
  have e_10 : n_v (vs ++ [Value.int x]) 10 = n_v vs 10 := n_v_old (by rw [hl]; decide)
  have e_15 : n_v (vs ++ [Value.int x]) 15 = Value.int x := n_v_new hl
  have nf0 : fc_1 PRD (20, [2, 0], [50, 1, 1, 1005, 1002, 3, 6, 0, 2, 1, 0, 0, -1, 0, 10, 3, 1, 2, 4, 3, 2, 1, 5, 0, 1, 0, 47]) ws (vs ++ [Value.int x]) := by
    refine ⟨nf_inA hl rfl, sgq_2114 ?_⟩
    · show (v_iv (n_v (vs ++ [Value.int x]) 2) ≤ (-1)) ∨ (w_ei ws (w_ar ws (n_v (vs ++ [Value.int x]) 0) 2) ((w_fi ws (n_v (vs ++ [Value.int x]) 0) 5 + 1)) ≤ 47)
      simp only [e_0, e_2]
      exact vc_Mo_met_at_g4_26_0 (v_iv (n_v vs 2)) (v_iv (n_v vs 13)) (w_ei ws (w_ar ws (n_v vs 0) 2)) (w_fi ws (n_v vs 0) 5) k2 k13 f4 f5
  have nf1 : fc_1 PRD (20, [0, 2, 10], [60, 1, 1, 243, 5, 2]) ws (vs ++ [Value.int x]) := by
    refine ⟨nf_inA hl rfl, sgq_2115 ?_⟩
    · show MEN (w_fi ws (n_v (vs ++ [Value.int x]) 0) 5) (w_ei ws (w_ar ws (n_v (vs ++ [Value.int x]) 0) 2)) (v_iv (n_v (vs ++ [Value.int x]) 2)) (v_iv (n_v (vs ++ [Value.int x]) 10))
      simp only [e_0, e_2, e_10]
      exact vc_Mo_met_at_g4_26_1 (v_iv (n_v vs 2)) (v_iv (n_v vs 10)) (v_iv (n_v vs 11)) (v_iv (n_v vs 13)) (w_ei ws (w_ar ws (n_v vs 0) 2)) (w_fi ws (n_v vs 0) 5) (w_ei ws (w_ar ws (n_v vs 0) 3)) (w_ei ws (w_ar ws (n_v vs 0) 4)) k2 k10 k11 k13 f4 f5 f8 f9 f11 f13 f14 f22 f23
  have nf2 : fc_1 PRD (20, [15, 0], [30, 0, 1, 0, 0, -1, 1, 11]) ws (vs ++ [Value.int x]) := by
    refine ⟨nf_inA hl rfl, sgq_1431 ?_⟩
    · show 1 * v_iv (n_v (vs ++ [Value.int x]) 15) + ((-1) * w_fi ws (n_v (vs ++ [Value.int x]) 0) 11 + 0) ≤ 0
      simp only [e_0, e_15]
      exact vc_Mo_met_at_g4_26_2 (w_fi ws (n_v vs 0) 5) (w_fi ws (n_v vs 0) 11) (v_iv (Value.int x)) kz_0_11 ex2
  have nf3 : fc_1 PRD (20, [15, 0], [50, 1, 0, 1011, 1, 2, 1, 0, 2, 1, 11]) ws (vs ++ [Value.int x]) := by
    refine ⟨nf_inA hl rfl, sgq_1432 ?_⟩
    · show v_iv (n_v (vs ++ [Value.int x]) 15) = w_fi ws (n_v (vs ++ [Value.int x]) 0) 11
      simp only [e_0, e_15]
      exact vc_Mo_met_at_g4_26_3 (w_fi ws (n_v vs 0) 5) (w_fi ws (n_v vs 0) 11) (v_iv (Value.int x)) kz_0_11 ex2
  have nf4 : fc_1 PRD (20, [0], [60, 2, 0, 947, 10, 11]) ws (vs ++ [Value.int x]) := by
    refine ⟨nf_inA hl rfl, sgq_1433 ?_⟩
    · show ZLM (w_fi ws (n_v (vs ++ [Value.int x]) 0) 10) (w_fi ws (n_v (vs ++ [Value.int x]) 0) 11)
      rw [e_0]
      exact vc_Mo_met_at_g4_26_4 (v_iv (n_v vs 1)) (v_iv (n_v vs 2)) (v_iv (n_v vs 5)) (v_iv (n_v vs 6)) (v_iv (n_v vs 7)) (w_fi ws (n_v vs 0) 8) (w_ei ws (w_ar ws (n_v vs 0) 2)) (w_fi ws (n_v vs 0) 5) (w_ei ws (w_ar ws (n_v vs 0) 1)) (w_fi ws (n_v vs 0) 11) (w_fi ws (n_v vs 0) 10) (w_fi ws (n_v vs 0) 15) (w_fi ws (n_v vs 0) 12) (w_fi ws (n_v vs 0) 13) (w_fi ws (n_v vs 0) 14) k1 k2 k5 k6 k7 f24 kz_0_8 kz_0_10 kz_0_11 kz_0_12 kz_0_13 kz_0_14 kz_0_15
  have nf5 : fc_1 PRD (23, [3, 15], [0, 1, -1]) ws (vs ++ [Value.int x]) := by
    refine ⟨nf_inA hl rfl, sgq_7 ?_⟩
    · show 1 * v_iv (n_v (vs ++ [Value.int x]) 3) + ((-1) * v_iv (n_v (vs ++ [Value.int x]) 15) + 0) ≤ 0
      simp only [e_3, e_15]
      exact vc_Mo_met_at_g4_26_5 (v_iv (n_v vs 3)) (w_fi ws (n_v vs 0) 5) (w_fi ws (n_v vs 0) 11) (v_iv (Value.int x)) k3 f19 kz_0_11 ex2
  have nf6 : fc_1 PRD (23, [4, 15], [-1, 1, -1]) ws (vs ++ [Value.int x]) := by
    refine ⟨nf_inA hl rfl, sgq_193 ?_⟩
    · show 1 * v_iv (n_v (vs ++ [Value.int x]) 4) + ((-1) * v_iv (n_v (vs ++ [Value.int x]) 15) + 0) ≤ (-1)
      simp only [e_4, e_15]
      exact vc_Mo_met_at_g4_26_6 (v_iv (n_v vs 4)) (v_iv (n_v vs 9)) (w_fi ws (n_v vs 0) 5) (w_fi ws (n_v vs 0) 11) (w_fi ws (n_v vs 0) 12) (v_iv (Value.int x)) k4 k9 f20 f26 kz_0_11 kz_0_12 ex2
  have nf7 : fc_1 PRD (20, [0, 10, 6, 2, 7, 1, 5, 15], [60, 3, 2, 979, 10, 8, 5, 1, 2]) ws (vs ++ [Value.int x]) := by
    refine ⟨nf_inA hl rfl, sgq_2129 ?_⟩
    · show zTP8 (w_fi ws (n_v (vs ++ [Value.int x]) 0) 10) (w_fi ws (n_v (vs ++ [Value.int x]) 0) 8) (w_fi ws (n_v (vs ++ [Value.int x]) 0) 5) (w_ei ws (w_ar ws (n_v (vs ++ [Value.int x]) 0) 1)) (w_ei ws (w_ar ws (n_v (vs ++ [Value.int x]) 0) 2)) (v_iv (n_v (vs ++ [Value.int x]) 10)) (v_iv (n_v (vs ++ [Value.int x]) 6)) (v_iv (n_v (vs ++ [Value.int x]) 2)) (v_iv (n_v (vs ++ [Value.int x]) 7)) (v_iv (n_v (vs ++ [Value.int x]) 1)) (v_iv (n_v (vs ++ [Value.int x]) 5)) (v_iv (n_v (vs ++ [Value.int x]) 15))
      simp only [e_0, e_1, e_2, e_5, e_6, e_7, e_10, e_15]
      exact vc_Mo_met_at_g4_26_7 (v_iv (n_v vs 1)) (v_iv (n_v vs 2)) (v_iv (n_v vs 5)) (v_iv (n_v vs 6)) (v_iv (n_v vs 7)) (v_iv (n_v vs 8)) (v_iv (n_v vs 9)) (v_iv (n_v vs 10)) (v_iv (n_v vs 11)) (v_iv (n_v vs 13)) (w_fi ws (n_v vs 0) 8) (w_ei ws (w_ar ws (n_v vs 0) 2)) (w_fi ws (n_v vs 0) 5) (w_ei ws (w_ar ws (n_v vs 0) 1)) (w_fi ws (n_v vs 0) 11) (w_fi ws (n_v vs 0) 10) (w_fi ws (n_v vs 0) 15) (w_fi ws (n_v vs 0) 12) (w_fi ws (n_v vs 0) 13) (w_fi ws (n_v vs 0) 14) (v_iv (Value.int x)) k1 k2 k5 k6 k7 k8 k9 k10 k11 k13 g2 f4 f5 f8 f10 f11 f13 f15 f16 f24 f27 kz_0_8 kz_0_10 kz_0_11 kz_0_12 kz_0_13 kz_0_14 kz_0_15 ex2
  exact ⟨(fun _ h => (by cases h)), [Value.int x], ag_one hx, List.forall_mem_cons.mpr ⟨⟨show (20 : Nat) < 100 from by decide, nf0⟩, List.forall_mem_cons.mpr ⟨⟨show (20 : Nat) < 100 from by decide, nf1⟩, List.forall_mem_cons.mpr ⟨⟨show (20 : Nat) < 100 from by decide, nf2⟩, List.forall_mem_cons.mpr ⟨⟨show (20 : Nat) < 100 from by decide, nf3⟩, List.forall_mem_cons.mpr ⟨⟨show (20 : Nat) < 100 from by decide, nf4⟩, List.forall_mem_cons.mpr ⟨⟨show (23 : Nat) < 100 from by decide, nf5⟩, List.forall_mem_cons.mpr ⟨⟨show (23 : Nat) < 100 from by decide, nf6⟩, List.forall_mem_cons.mpr ⟨⟨show (20 : Nat) < 100 from by decide, nf7⟩, (fun _ h => (by cases h))⟩⟩⟩⟩⟩⟩⟩⟩, (fun _ h => (by cases h))⟩

set_option maxHeartbeats 4000000 in
theorem vc_Mo_met_at_g4_27_0 (x3 : Int) (x15 : Int) (r_0 : Int) (from_0 : Int) (pos_0 : Int) (k3 : 0 ≤ x3 ∧ x3 ≤ 2000) (k15 : 0 ≤ x15 ∧ x15 ≤ 2000) (f3 : 1 * x3 + ((-1) * x15 + 0) ≤ 0) (f15 : 1 * from_0 + ((-1) * pos_0 + 0) ≤ 0) (f17 : 1 * x15 + ((-1) * from_0 + 0) ≤ 0) (kz_0_11 : 0 ≤ pos_0 ∧ pos_0 ≤ 2000) (kz_0_15 : 0 ≤ from_0 ∧ from_0 ≤ 2000) : 1 * x3 + ((-1) * pos_0 + 0) ≤ 0 := by
  first
    | omega
    | (have q1 := (hE_0_2_1 (r_0 + 2) (by omega)).2 (by omega)
       have q2 := (hE_0_2_2 (r_0 + 2) (by omega)).2 (by omega)
       omega)
    | (have q1 := (hE_0_2_1 (r_0 + 1) (by omega)).2 (by omega)
       have q2 := (hE_0_2_2 (r_0 + 1) (by omega)).2 (by omega)
       omega)
    | (have q1 := (hE_0_2_1 (r_0 + 2) (by omega)).2 (by omega)
       omega)
    | (have q1 := (hE_0_2_1 (r_0 + 1) (by omega)).2 (by omega)
       omega)
    | (have q1 := (hE_0_2_1 (r_0 + 2) (by omega)).2 (by omega)
       have q2 := (hE_0_2_2 (r_0 + 2) (by omega)).2 (by omega)
       have q3 := (hE_0_2_3 (r_0 + 2) (by omega)).1 (by omega)
       omega)
    | (have q1 := (hE_0_2_1 (r_0 + 2) (by omega)).2 (by omega)
       have q2 := (hE_0_2_2 (r_0 + 2) (by omega)).2 (by omega)
       have q3 := (hE_0_2_3 (r_0 + 2) (by omega)).2 (by omega)
       omega)
set_option maxHeartbeats 4000000 in
theorem vc_Mo_met_at_g4_27_1 (x2 : Int) (x3 : Int) (x10 : Int) (x13 : Int) (x14 : Int) (x15 : Int) (fault_0 : Int) (all_0 : Int → Int) (r_0 : Int) (from_0 : Int) (pos_0 : Int) (kind_0 : Int) (k2 : 0 ≤ x2 ∧ x2 ≤ 23) (k3 : 0 ≤ x3 ∧ x3 ≤ 2000) (k10 : 0 ≤ x10 ∧ x10 ≤ 23) (k13 : 0 ≤ x13 ∧ x13 ≤ 47) (k14 : 48 ≤ x14 ∧ x14 ≤ 48) (k15 : 0 ≤ x15 ∧ x15 ≤ 2000) (f3 : 1 * x3 + ((-1) * x15 + 0) ≤ 0) (f6 : 1 * x13 + ((-1) * all_0 (r_0 + 1) + 0) ≤ 0) (f7 : (-1) * x13 + (1 * all_0 (r_0 + 1) + 0) ≤ 0) (f16 : ((kind_0 = 1) → (pos_0 ≤ (from_0 + 8))) ∧ ((kind_0 = 0) ∨ ((from_0 + 1) ≤ pos_0))) (f17 : 1 * x15 + ((-1) * from_0 + 0) ≤ 0) (f24 : x13 ≠ x14) (f28 : x10 ≠ x2) (kz_0_8 : 0 ≤ fault_0 ∧ fault_0 ≤ 5) (kz_0_11 : 0 ≤ pos_0 ∧ pos_0 ≤ 2000) (kz_0_12 : 0 ≤ kind_0 ∧ kind_0 ≤ 4) (kz_0_15 : 0 ≤ from_0 ∧ from_0 ≤ 2000) : (1 ≤ fault_0) ∨ ((kind_0 = 0) ∨ ((x3 + 1) ≤ pos_0)) := by
  first
    | omega
    | (have q1 := (hE_0_2_1 (r_0 + 2) (by omega)).2 (by omega)
       have q2 := (hE_0_2_2 (r_0 + 2) (by omega)).2 (by omega)
       omega)
    | (have q1 := (hE_0_2_1 (r_0 + 1) (by omega)).2 (by omega)
       have q2 := (hE_0_2_2 (r_0 + 1) (by omega)).2 (by omega)
       omega)
    | (have q1 := (hE_0_2_1 (r_0 + 2) (by omega)).2 (by omega)
       omega)
    | (have q1 := (hE_0_2_1 (r_0 + 1) (by omega)).2 (by omega)
       omega)
    | (have q1 := (hE_0_2_1 (r_0 + 2) (by omega)).2 (by omega)
       have q2 := (hE_0_2_2 (r_0 + 2) (by omega)).2 (by omega)
       have q3 := (hE_0_2_3 (r_0 + 2) (by omega)).1 (by omega)
       omega)
    | (have q1 := (hE_0_2_1 (r_0 + 2) (by omega)).2 (by omega)
       have q2 := (hE_0_2_2 (r_0 + 2) (by omega)).2 (by omega)
       have q3 := (hE_0_2_3 (r_0 + 2) (by omega)).2 (by omega)
       omega)
set_option maxHeartbeats 4000000 in
theorem vc_Mo_met_at_g4_27_2 (x4 : Int) (x15 : Int) (fault_0 : Int) (r_0 : Int) (from_0 : Int) (pos_0 : Int) (k4 : 0 ≤ x4 ∧ x4 ≤ 2000) (k15 : 0 ≤ x15 ∧ x15 ≤ 2000) (f4 : 1 * x4 + ((-1) * x15 + 0) ≤ (-1)) (f15 : 1 * from_0 + ((-1) * pos_0 + 0) ≤ 0) (f17 : 1 * x15 + ((-1) * from_0 + 0) ≤ 0) (kz_0_8 : 0 ≤ fault_0 ∧ fault_0 ≤ 5) (kz_0_11 : 0 ≤ pos_0 ∧ pos_0 ≤ 2000) (kz_0_15 : 0 ≤ from_0 ∧ from_0 ≤ 2000) : (1 ≤ fault_0) ∨ ((x4 + 1) ≤ pos_0) := by
  first
    | omega
    | (have q1 := (hE_0_2_1 (r_0 + 2) (by omega)).2 (by omega)
       have q2 := (hE_0_2_2 (r_0 + 2) (by omega)).2 (by omega)
       omega)
    | (have q1 := (hE_0_2_1 (r_0 + 1) (by omega)).2 (by omega)
       have q2 := (hE_0_2_2 (r_0 + 1) (by omega)).2 (by omega)
       omega)
    | (have q1 := (hE_0_2_1 (r_0 + 2) (by omega)).2 (by omega)
       omega)
    | (have q1 := (hE_0_2_1 (r_0 + 1) (by omega)).2 (by omega)
       omega)
    | (have q1 := (hE_0_2_1 (r_0 + 2) (by omega)).2 (by omega)
       have q2 := (hE_0_2_2 (r_0 + 2) (by omega)).2 (by omega)
       have q3 := (hE_0_2_3 (r_0 + 2) (by omega)).1 (by omega)
       omega)
    | (have q1 := (hE_0_2_1 (r_0 + 2) (by omega)).2 (by omega)
       have q2 := (hE_0_2_2 (r_0 + 2) (by omega)).2 (by omega)
       have q3 := (hE_0_2_3 (r_0 + 2) (by omega)).2 (by omega)
       omega)
set_option maxHeartbeats 4000000 in
theorem vc_Mo_met_at_g4_27_3 (x10 : Int) (fault_0 : Int) (r_0 : Int) (k10 : 0 ≤ x10 ∧ x10 ≤ 23) (kz_0_8 : 0 ≤ fault_0 ∧ fault_0 ≤ 5) : ((-1) * fault_0 + 0 ≤ (-1)) ∨ ((-1) * x10 + 0 ≤ 0) := by
  first
    | omega
    | (have q1 := (hE_0_2_1 (r_0 + 2) (by omega)).2 (by omega)
       have q2 := (hE_0_2_2 (r_0 + 2) (by omega)).2 (by omega)
       omega)
    | (have q1 := (hE_0_2_1 (r_0 + 1) (by omega)).2 (by omega)
       have q2 := (hE_0_2_2 (r_0 + 1) (by omega)).2 (by omega)
       omega)
    | (have q1 := (hE_0_2_1 (r_0 + 2) (by omega)).2 (by omega)
       omega)
    | (have q1 := (hE_0_2_1 (r_0 + 1) (by omega)).2 (by omega)
       omega)
    | (have q1 := (hE_0_2_1 (r_0 + 2) (by omega)).2 (by omega)
       have q2 := (hE_0_2_2 (r_0 + 2) (by omega)).2 (by omega)
       have q3 := (hE_0_2_3 (r_0 + 2) (by omega)).1 (by omega)
       omega)
    | (have q1 := (hE_0_2_1 (r_0 + 2) (by omega)).2 (by omega)
       have q2 := (hE_0_2_2 (r_0 + 2) (by omega)).2 (by omega)
       have q3 := (hE_0_2_3 (r_0 + 2) (by omega)).2 (by omega)
       omega)
set_option maxHeartbeats 4000000 in
theorem vc_Mo_met_at_g4_27_4 (x2 : Int) (x13 : Int) (fault_0 : Int) (all_0 : Int → Int) (r_0 : Int) (k2 : 0 ≤ x2 ∧ x2 ≤ 23) (k13 : 0 ≤ x13 ∧ x13 ≤ 47) (f6 : 1 * x13 + ((-1) * all_0 (r_0 + 1) + 0) ≤ 0) (f7 : (-1) * x13 + (1 * all_0 (r_0 + 1) + 0) ≤ 0) (kz_0_8 : 0 ≤ fault_0 ∧ fault_0 ≤ 5) : (1 ≤ fault_0) ∨ ((x2 ≤ (-1)) ∨ (all_0 ((r_0 + 1)) ≤ 47)) := by
  first
    | omega
    | (have q1 := (hE_0_2_1 (r_0 + 2) (by omega)).2 (by omega)
       have q2 := (hE_0_2_2 (r_0 + 2) (by omega)).2 (by omega)
       omega)
    | (have q1 := (hE_0_2_1 (r_0 + 1) (by omega)).2 (by omega)
       have q2 := (hE_0_2_2 (r_0 + 1) (by omega)).2 (by omega)
       omega)
    | (have q1 := (hE_0_2_1 (r_0 + 2) (by omega)).2 (by omega)
       omega)
    | (have q1 := (hE_0_2_1 (r_0 + 1) (by omega)).2 (by omega)
       omega)
    | (have q1 := (hE_0_2_1 (r_0 + 2) (by omega)).2 (by omega)
       have q2 := (hE_0_2_2 (r_0 + 2) (by omega)).2 (by omega)
       have q3 := (hE_0_2_3 (r_0 + 2) (by omega)).1 (by omega)
       omega)
    | (have q1 := (hE_0_2_1 (r_0 + 2) (by omega)).2 (by omega)
       have q2 := (hE_0_2_2 (r_0 + 2) (by omega)).2 (by omega)
       have q3 := (hE_0_2_3 (r_0 + 2) (by omega)).2 (by omega)
       omega)
set_option maxHeartbeats 4000000 in
theorem vc_Mo_met_at_g4_27_5 (x2 : Int) (x10 : Int) (fault_0 : Int) (all_0 : Int → Int) (r_0 : Int) (k2 : 0 ≤ x2 ∧ x2 ≤ 23) (k10 : 0 ≤ x10 ∧ x10 ≤ 23) (f2 : MEN (r_0) (all_0) (x2) (x10)) (kz_0_8 : 0 ≤ fault_0 ∧ fault_0 ≤ 5) : MET (r_0) (fault_0) (all_0) (x2) (x10) := by
  first
    | (intro q; exfalso; omega)
    | exact fun _ => ‹MEN _ _ _ _›
set_option maxHeartbeats 4000000 in
theorem vc_Mo_met_at_g4_27_6 (x1 : Int) (x2 : Int) (x5 : Int) (x6 : Int) (x7 : Int) (x8 : Int) (x10 : Int) (x15 : Int) (fault_0 : Int) (all_0 : Int → Int) (r_0 : Int) (tape_0 : Int → Int) (limit_0 : Int) (from_0 : Int) (pos_0 : Int) (kind_0 : Int) (place_0 : Int) (value_0 : Int) (faultPlace_0 : Int) (k1 : 0 ≤ x1 ∧ x1 ≤ 7) (k2 : 0 ≤ x2 ∧ x2 ≤ 23) (k5 : 0 ≤ x5 ∧ x5 ≤ 4) (k6 : 0 ≤ x6 ∧ x6 ≤ 48) (k7 : 0 ≤ x7 ∧ x7 ≤ 1) (k8 : 0 ≤ x8 ∧ x8 ≤ 0) (k10 : 0 ≤ x10 ∧ x10 ≤ 23) (k15 : 0 ≤ x15 ∧ x15 ≤ 2000) (g0 : x8 = fault_0) (f5 : zTP8 (limit_0) (fault_0) (r_0) (tape_0) (all_0) (x10) (x6) (x2) (x7) (x1) (x5) (x15)) (f18 : TKR (limit_0) (pos_0) (kind_0) (place_0) (value_0) (from_0) (tape_0) (x15)) (kz_0_8 : 0 ≤ fault_0 ∧ fault_0 ≤ 5) (kz_0_9 : 0 ≤ faultPlace_0 ∧ faultPlace_0 ≤ 2000) (kz_0_10 : 0 ≤ limit_0 ∧ limit_0 ≤ 2000) (kz_0_11 : 0 ≤ pos_0 ∧ pos_0 ≤ 2000) (kz_0_12 : 0 ≤ kind_0 ∧ kind_0 ≤ 4) (kz_0_13 : 0 ≤ place_0 ∧ place_0 ≤ 2000) (kz_0_14 : (-49) ≤ value_0 ∧ value_0 ≤ 1048575) (kz_0_15 : 0 ≤ from_0 ∧ from_0 ≤ 2000) : zOP8 (limit_0) (pos_0) (kind_0) (place_0) (value_0) (from_0) (fault_0) (faultPlace_0) (r_0) (tape_0) (all_0) (x10) (x6) (x2) (x7) (x1) (x5) := by
  first | subst g0 | skip
  first
    | (exfalso; have h := (rsq_0 ‹zRS4 _ _ _ _ _ _ _ _ _ _ _ _ _ _ _›).1; omega)
    | (refine Or.inl (fs_w ?_ ?_ (by assumption)) <;> assumption)
    | exact Or.inr (rsq_of ‹zTP8 _ _ _ _ _ _ _ _ _ _ _ _› ‹TKR _ _ _ _ _ _ _ _›)
    | (exfalso; omega)
def o_Mo_met_at_g4_27 : or_T := (258, 16, [(0, (2, 0, 0, [165])), (1, (0, 0, 7, [])), (2, (0, 0, 23, [])), (3, (0, 0, 2000, [])), (4, (0, 0, 2000, [])), (5, (0, 0, 4, [])), (6, (0, 0, 48, [])), (7, (0, 0, 1, [])), (8, (0, 0, 0, [])), (10, (0, 0, 23, [])), (13, (0, 0, 47, [])), (14, (0, 48, 48, [])), (15, (0, 0, 2000, []))], [(9, [8, 0], [8]), (20, [0, 2, 10], [60, 1, 1, 243, 5, 2]), (23, [3, 15], [0, 1, -1]), (23, [4, 15], [-1, 1, -1]), (20, [0, 10, 6, 2, 7, 1, 5, 15], [60, 3, 2, 979, 10, 8, 5, 1, 2]), (20, [13, 0], [30, 0, 1, 0, 0, -1, 3, 2005001]), (20, [13, 0], [30, 0, -1, 0, 0, 1, 3, 2005001]), (20, [0, 0], [30, 0, 1, 1, 15, -1, 1, 11]), (20, [0], [50, 3, 0, 12, 11, 15, 2, 21, 4, 7, 1, 3, 2, 0, 12, 0, 1, 0, 3, 2, 0, 11, 4, 3, 2, 0, 15, 0, 8, 3, 7, 1, 3, 2, 0, 12, 0, 0, 0, 7, 4, 3, 2, 0, 15, 0, 1, 2, 0, 11]), (20, [15, 0], [30, 0, 1, 0, 0, -1, 1, 15]), (20, [0, 15], [60, 6, 1, 948, 10, 11, 12, 13, 14, 15, 1]), (102, [15], [0, 165011, 165012, 165013, 165014, 165015]), (7, [13, 14], [1]), (7, [10, 2], [1])], [], [], [(20, [3, 0], [30, 0, 1, 0, 0, -1, 1, 11]), (20, [0, 3], [50, 3, 0, 8, 12, 11, 3, 7, 0, 2, 0, 1, 2, 0, 8, 3, 7, 1, 3, 2, 0, 12, 0, 0, 0, 6, 4, 2, 1, 1, 0, 1, 2, 0, 11]), (20, [0, 4], [50, 2, 0, 8, 11, 3, 7, 0, 2, 0, 1, 2, 0, 8, 0, 6, 4, 2, 1, 1, 0, 1, 2, 0, 11]), (20, [0, 10], [31, 1, -1, -1, 1, 8, 0, -1, 0, 0]), (20, [0, 2], [50, 2, 1, 8, 5, 2, 3, 7, 0, 2, 0, 1, 2, 0, 8, 3, 6, 0, 2, 1, 1, 0, -1, 0, 10, 3, 0, 2, 4, 3, 2, 0, 5, 0, 1, 0, 47]), (20, [0, 2, 10], [60, 2, 1, 240, 5, 8, 2]), (20, [0, 10, 6, 2, 7, 1, 5], [60, 9, 2, 1011, 10, 11, 12, 13, 14, 15, 8, 9, 5, 1, 2])], [], [])
theorem oo_Mo_met_at_g4_27 {kA : Nat → ClassId} : or_ok PRD kA GG o_Mo_met_at_g4_27 := by
  refine or_mk fun A ta ws vs hD hth hl => ?_
  intro t0 r0 t1 k1 t2 k2 t3 k3 t4 k4 t5 k5 t6 k6 t7 k7 t8 k8 t10 k10 t13 k13 t14 k14 t15 k15 f0 f2 f3 f4 f5 f6 f7 f15 f16 f17 f18 ta1 w1 le1 s1 f24 f28
  replace f0 := shm_293 f0
  have g0 : v_iv (n_v vs 8) = w_fi ws (n_v vs 0) 8 := congrArg v_iv f0
  have kz_0_8 := fdq_34 hD hth r0
  have kz_0_9 := fdq_44 hD hth r0
  have kz_0_10 := fdq_43 hD hth r0
  have kz_0_11 := fdq_237 hD hth r0
  have kz_0_12 := fdq_187 hD hth r0
  have kz_0_13 := fdq_238 hD hth r0
  have kz_0_14 := fdq_188 hD hth r0
  have kz_0_15 := fdq_239 hD hth r0
  have nf0 : fc_1 PRD (20, [3, 0], [30, 0, 1, 0, 0, -1, 1, 11]) ws (vs) := ⟨nf_in hl rfl, sgq_1431 (vc_Mo_met_at_g4_27_0 (v_iv (n_v vs 3)) (v_iv (n_v vs 15)) (w_fi ws (n_v vs 0) 5) (w_fi ws (n_v vs 0) 15) (w_fi ws (n_v vs 0) 11) k3 k15 (shm_7 f3) (shm_1437 f15) (shm_1436 f17) kz_0_11 kz_0_15)⟩
  have nf1 : fc_1 PRD (20, [0, 3], [50, 3, 0, 8, 12, 11, 3, 7, 0, 2, 0, 1, 2, 0, 8, 3, 7, 1, 3, 2, 0, 12, 0, 0, 0, 6, 4, 2, 1, 1, 0, 1, 2, 0, 11]) ws (vs) := ⟨nf_in hl rfl, sgq_1722 (vc_Mo_met_at_g4_27_1 (v_iv (n_v vs 2)) (v_iv (n_v vs 3)) (v_iv (n_v vs 10)) (v_iv (n_v vs 13)) (v_iv (n_v vs 14)) (v_iv (n_v vs 15)) (w_fi ws (n_v vs 0) 8) (w_ei ws (w_ar ws (n_v vs 0) 2)) (w_fi ws (n_v vs 0) 5) (w_fi ws (n_v vs 0) 15) (w_fi ws (n_v vs 0) 11) (w_fi ws (n_v vs 0) 12) k2 k3 k10 k13 k14 k15 (shm_7 f3) (shm_121 f6) (shm_122 f7) (shm_1438 f16) (shm_1436 f17) (shm_40 f24) (shm_40 f28) kz_0_8 kz_0_11 kz_0_12 kz_0_15)⟩
  have nf2 : fc_1 PRD (20, [0, 4], [50, 2, 0, 8, 11, 3, 7, 0, 2, 0, 1, 2, 0, 8, 0, 6, 4, 2, 1, 1, 0, 1, 2, 0, 11]) ws (vs) := ⟨nf_in hl rfl, sgq_1726 (vc_Mo_met_at_g4_27_2 (v_iv (n_v vs 4)) (v_iv (n_v vs 15)) (w_fi ws (n_v vs 0) 8) (w_fi ws (n_v vs 0) 5) (w_fi ws (n_v vs 0) 15) (w_fi ws (n_v vs 0) 11) k4 k15 (shm_193 f4) (shm_1437 f15) (shm_1436 f17) kz_0_8 kz_0_11 kz_0_15)⟩
  have nf3 : fc_1 PRD (20, [0, 10], [31, 1, -1, -1, 1, 8, 0, -1, 0, 0]) ws (vs) := ⟨nf_in hl rfl, sgq_2117 (vc_Mo_met_at_g4_27_3 (v_iv (n_v vs 10)) (w_fi ws (n_v vs 0) 8) (w_fi ws (n_v vs 0) 5) k10 kz_0_8)⟩
  have nf4 : fc_1 PRD (20, [0, 2], [50, 2, 1, 8, 5, 2, 3, 7, 0, 2, 0, 1, 2, 0, 8, 3, 6, 0, 2, 1, 1, 0, -1, 0, 10, 3, 0, 2, 4, 3, 2, 0, 5, 0, 1, 0, 47]) ws (vs) := ⟨nf_in hl rfl, sgq_2118 (vc_Mo_met_at_g4_27_4 (v_iv (n_v vs 2)) (v_iv (n_v vs 13)) (w_fi ws (n_v vs 0) 8) (w_ei ws (w_ar ws (n_v vs 0) 2)) (w_fi ws (n_v vs 0) 5) k2 k13 (shm_121 f6) (shm_122 f7) kz_0_8)⟩
  have nf5 : fc_1 PRD (20, [0, 2, 10], [60, 2, 1, 240, 5, 8, 2]) ws (vs) := ⟨nf_in hl rfl, sgq_2119 (vc_Mo_met_at_g4_27_5 (v_iv (n_v vs 2)) (v_iv (n_v vs 10)) (w_fi ws (n_v vs 0) 8) (w_ei ws (w_ar ws (n_v vs 0) 2)) (w_fi ws (n_v vs 0) 5) k2 k10 (shm_2115 f2) kz_0_8)⟩
  have nf6 : fc_1 PRD (20, [0, 10, 6, 2, 7, 1, 5], [60, 9, 2, 1011, 10, 11, 12, 13, 14, 15, 8, 9, 5, 1, 2]) ws (vs) := ⟨nf_in hl rfl, sgq_2128 (vc_Mo_met_at_g4_27_6 (v_iv (n_v vs 1)) (v_iv (n_v vs 2)) (v_iv (n_v vs 5)) (v_iv (n_v vs 6)) (v_iv (n_v vs 7)) (v_iv (n_v vs 8)) (v_iv (n_v vs 10)) (v_iv (n_v vs 15)) (w_fi ws (n_v vs 0) 8) (w_ei ws (w_ar ws (n_v vs 0) 2)) (w_fi ws (n_v vs 0) 5) (w_ei ws (w_ar ws (n_v vs 0) 1)) (w_fi ws (n_v vs 0) 10) (w_fi ws (n_v vs 0) 15) (w_fi ws (n_v vs 0) 11) (w_fi ws (n_v vs 0) 12) (w_fi ws (n_v vs 0) 13) (w_fi ws (n_v vs 0) 14) (w_fi ws (n_v vs 0) 9) k1 k2 k5 k6 k7 k8 k10 k15 g0 (shm_2129 f5) (shm_1439 f18) kz_0_8 kz_0_9 kz_0_10 kz_0_11 kz_0_12 kz_0_13 kz_0_14 kz_0_15)⟩
  refine ⟨(fun _ h => (by cases h)), [], trivial, ?_, (fun _ h => (by cases h))⟩
  rw [List.append_nil]
  exact List.forall_mem_cons.mpr ⟨⟨show (20 : Nat) < 100 from by decide, nf0⟩, List.forall_mem_cons.mpr ⟨⟨show (20 : Nat) < 100 from by decide, nf1⟩, List.forall_mem_cons.mpr ⟨⟨show (20 : Nat) < 100 from by decide, nf2⟩, List.forall_mem_cons.mpr ⟨⟨show (20 : Nat) < 100 from by decide, nf3⟩, List.forall_mem_cons.mpr ⟨⟨show (20 : Nat) < 100 from by decide, nf4⟩, List.forall_mem_cons.mpr ⟨⟨show (20 : Nat) < 100 from by decide, nf5⟩, List.forall_mem_cons.mpr ⟨⟨show (20 : Nat) < 100 from by decide, nf6⟩, (fun _ h => (by cases h))⟩⟩⟩⟩⟩⟩⟩
set_option maxHeartbeats 4000000 in
theorem vc_Mo_met_at_g4_28_0 (x1 : Int) (x2 : Int) (x5 : Int) (x6 : Int) (x7 : Int) (x8 : Int) (x9 : Int) (x10 : Int) (x11 : Int) (x13 : Int) (x15 : Int) (x16 : Int) (fault_0 : Int) (place_0 : Int) (all_0 : Int → Int) (r_0 : Int) (tape_0 : Int → Int) (pos_0 : Int) (limit_0 : Int) (from_0 : Int) (kind_0 : Int) (value_0 : Int) (gx : Int) (k1 : 0 ≤ x1 ∧ x1 ≤ 7) (k2 : 0 ≤ x2 ∧ x2 ≤ 23) (k5 : 0 ≤ x5 ∧ x5 ≤ 4) (k6 : 0 ≤ x6 ∧ x6 ≤ 48) (k7 : 0 ≤ x7 ∧ x7 ≤ 1) (k8 : 0 ≤ x8 ∧ x8 ≤ 0) (k9 : 1 ≤ x9 ∧ x9 ≤ 1) (k10 : 0 ≤ x10 ∧ x10 ≤ 23) (k11 : (-1) ≤ x11 ∧ x11 ≤ (-1)) (k13 : 48 ≤ x13 ∧ x13 ≤ 48) (k15 : 3 ≤ x15 ∧ x15 ≤ 3) (k16 : 0 ≤ x16 ∧ x16 ≤ 2000) (g0 : x8 = fault_0) (g1 : x16 = place_0) (f3 : 1 * x13 + ((-1) * all_0 (r_0 + 1) + 0) ≤ 0) (f4 : (-1) * x13 + (1 * all_0 (r_0 + 1) + 0) ≤ 0) (f7 : x11 < 0) (f9 : BT2 (r_0) (all_0) (x10) (x2) (x11)) (f10 : x10 ≠ x2) (f14 : KNQ (pos_0) (limit_0) (from_0) (r_0) (all_0) (tape_0) (x10)) (f15 : x9 ≠ 0) (f23 : zRS4 (limit_0) (pos_0) (kind_0) (place_0) (value_0) (from_0) (fault_0) (r_0) (tape_0) (all_0) (x2) (x6) (x7) (x1) (x5)) (f26 : NMQ (kind_0) (pos_0) (limit_0) (from_0) (tape_0) (x9)) (kz_0_8 : 0 ≤ fault_0 ∧ fault_0 ≤ 5) (kz_0_10 : 0 ≤ limit_0 ∧ limit_0 ≤ 2000) (kz_0_11 : 0 ≤ pos_0 ∧ pos_0 ≤ 2000) (kz_0_12 : 0 ≤ kind_0 ∧ kind_0 ≤ 4) (kz_0_13 : 0 ≤ place_0 ∧ place_0 ≤ 2000) (kz_0_14 : (-49) ≤ value_0 ∧ value_0 ≤ 1048575) (kz_0_15 : 0 ≤ from_0 ∧ from_0 ≤ 2000) (ex2 : gx = fault_0) : FSX (limit_0) (tape_0) (x15) (x16) := by
  first | subst g0 | skip
  first | subst g1 | skip
  first | subst ex2 | skip
  first
    | exact fsx_cg (met_full0 ‹zRSE _ _ _ _ _ _ _ _ _ _ _ _› ‹NMQ _ _ _ _ _ _› (by omega) ‹KNQ _ _ _ _ _ _ _› (by omega) (by omega)) (by omega) (by omega)
    | exact fsx_cg (met_full1 ‹zRS1 _ _ _ _ _ _ _ _ _ _ _ _› ‹NMQ _ _ _ _ _ _› (by omega) ‹KNQ _ _ _ _ _ _ _› (by omega) (by omega)) (by omega) (by omega)
    | exact fsx_cg (met_full4 ‹zRS4 _ _ _ _ _ _ _ _ _ _ _ _ _ _ _› ‹NMQ _ _ _ _ _ _› (by omega) ‹KNQ _ _ _ _ _ _ _› (Or.inl (by omega)) (Or.inl ⟨by omega, by omega⟩)) (by omega) (by omega)
    | exact fsx_cg (met_full4 ‹zRS4 _ _ _ _ _ _ _ _ _ _ _ _ _ _ _› ‹NMQ _ _ _ _ _ _› (by omega) ‹KNQ _ _ _ _ _ _ _› (Or.inl (by omega)) (Or.inr (by omega))) (by omega) (by omega)
    | exact fsx_cg (met_full4 ‹zRS4 _ _ _ _ _ _ _ _ _ _ _ _ _ _ _› ‹NMQ _ _ _ _ _ _› (by omega) ‹KNQ _ _ _ _ _ _ _› (Or.inr ⟨by omega, _, by omega, ‹BT2 _ _ _ _ _›⟩) (Or.inr (by omega))) (by omega) (by omega)
    | (exfalso; omega)
set_option maxHeartbeats 4000000 in
theorem vc_Mo_met_at_g4_28_1 (x8 : Int) (fault_0 : Int) (r_0 : Int) (gx : Int) (k8 : 0 ≤ x8 ∧ x8 ≤ 0) (g0 : x8 = fault_0) (kz_0_8 : 0 ≤ fault_0 ∧ fault_0 ≤ 5) (ex2 : gx = fault_0) : 1 * fault_0 + ((-1) * gx + 0) ≤ 0 := by
  first
    | omega
    | (have q1 := (hE_0_2_1 (r_0 + 2) (by omega)).2 (by omega)
       have q2 := (hE_0_2_2 (r_0 + 2) (by omega)).2 (by omega)
       omega)
    | (have q1 := (hE_0_2_1 (r_0 + 1) (by omega)).2 (by omega)
       have q2 := (hE_0_2_2 (r_0 + 1) (by omega)).2 (by omega)
       omega)
    | (have q1 := (hE_0_2_1 (r_0 + 2) (by omega)).2 (by omega)
       omega)
    | (have q1 := (hE_0_2_1 (r_0 + 1) (by omega)).2 (by omega)
       omega)
    | (have q1 := (hE_0_2_1 (r_0 + 2) (by omega)).2 (by omega)
       have q2 := (hE_0_2_2 (r_0 + 2) (by omega)).2 (by omega)
       have q3 := (hE_0_2_3 (r_0 + 2) (by omega)).1 (by omega)
       omega)
    | (have q1 := (hE_0_2_1 (r_0 + 2) (by omega)).2 (by omega)
       have q2 := (hE_0_2_2 (r_0 + 2) (by omega)).2 (by omega)
       have q3 := (hE_0_2_3 (r_0 + 2) (by omega)).2 (by omega)
       omega)
set_option maxHeartbeats 4000000 in
theorem vc_Mo_met_at_g4_28_2 (x8 : Int) (fault_0 : Int) (r_0 : Int) (gx : Int) (k8 : 0 ≤ x8 ∧ x8 ≤ 0) (g0 : x8 = fault_0) (kz_0_8 : 0 ≤ fault_0 ∧ fault_0 ≤ 5) (ex2 : gx = fault_0) : (-1) * fault_0 + (1 * gx + 0) ≤ 0 := by
  first
    | omega
    | (have q1 := (hE_0_2_1 (r_0 + 2) (by omega)).2 (by omega)
       have q2 := (hE_0_2_2 (r_0 + 2) (by omega)).2 (by omega)
       omega)
    | (have q1 := (hE_0_2_1 (r_0 + 1) (by omega)).2 (by omega)
       have q2 := (hE_0_2_2 (r_0 + 1) (by omega)).2 (by omega)
       omega)
    | (have q1 := (hE_0_2_1 (r_0 + 2) (by omega)).2 (by omega)
       omega)
    | (have q1 := (hE_0_2_1 (r_0 + 1) (by omega)).2 (by omega)
       omega)
    | (have q1 := (hE_0_2_1 (r_0 + 2) (by omega)).2 (by omega)
       have q2 := (hE_0_2_2 (r_0 + 2) (by omega)).2 (by omega)
       have q3 := (hE_0_2_3 (r_0 + 2) (by omega)).1 (by omega)
       omega)
    | (have q1 := (hE_0_2_1 (r_0 + 2) (by omega)).2 (by omega)
       have q2 := (hE_0_2_2 (r_0 + 2) (by omega)).2 (by omega)
       have q3 := (hE_0_2_3 (r_0 + 2) (by omega)).2 (by omega)
       omega)
set_option maxHeartbeats 4000000 in
theorem vc_Mo_met_at_g4_28_3 (x8 : Int) (fault_0 : Int) (gx : Int) (k8 : 0 ≤ x8 ∧ x8 ≤ 0) (g0 : x8 = fault_0) (kz_0_8 : 0 ≤ fault_0 ∧ fault_0 ≤ 5) (ex2 : gx = fault_0) : ZH0 (gx) := by
  first
    | exact ⟨by omega, by omega, trivial⟩
    | (have h := (rsq_0 (‹zRSE _ _ _ _ _ _ _ _ _ _ _ _›).1.1).1; exact ⟨by omega, by omega, trivial⟩)
    | (have h := (rsq_0 ‹zRS1 _ _ _ _ _ _ _ _ _ _ _ _›).1; exact ⟨by omega, by omega, trivial⟩)
    | (have h := (rsq_0 ‹zRS4 _ _ _ _ _ _ _ _ _ _ _ _ _ _ _›).1; exact ⟨by omega, by omega, trivial⟩)
def o_Mo_met_at_g4_28 : or_T := (110, 17, [(0, (2, 0, 0, [165])), (1, (0, 0, 7, [])), (2, (0, 0, 23, [])), (5, (0, 0, 4, [])), (6, (0, 0, 48, [])), (7, (0, 0, 1, [])), (8, (0, 0, 0, [])), (9, (0, 1, 1, [])), (10, (0, 0, 23, [])), (11, (0, -1, -1, [])), (13, (0, 48, 48, [])), (15, (0, 3, 3, [])), (16, (0, 0, 2000, []))], [(9, [8, 0], [8]), (9, [16, 0], [13]), (20, [13, 0], [30, 0, 1, 0, 0, -1, 3, 2005001]), (20, [13, 0], [30, 0, -1, 0, 0, 1, 3, 2005001]), (8, [11], [2]), (20, [0, 10, 2, 11], [60, 1, 1, 1034, 5, 2]), (7, [10, 2], [1]), (20, [0, 10], [60, 4, 2, 1031, 11, 10, 15, 5, 2, 1]), (8, [9], [1]), (20, [0, 2, 6, 7, 1, 5], [60, 8, 2, 993, 10, 11, 12, 13, 14, 15, 8, 5, 1, 2]), (20, [0, 9], [60, 4, 1, 962, 12, 11, 10, 15, 1])], [], [(0, 0, 5, [])], [(20, [0, 15, 16], [60, 1, 1, 1026, 10, 1]), (20, [0, 17], [30, 0, 1, 1, 8, -1, 0, 0]), (20, [0, 17], [30, 0, -1, 1, 8, 1, 0, 0]), (20, [17], [61, 0, 1029])], [], [])
theorem oo_Mo_met_at_g4_28 {kA : Nat → ClassId} : or_ok PRD kA GG o_Mo_met_at_g4_28 := by
  refine or_mk fun A ta ws vs hD hth hl => ?_
  intro t0 r0 t1 k1 t2 k2 t5 k5 t6 k6 t7 k7 t8 k8 t9 k9 t10 k10 t11 k11 t13 k13 t15 k15 t16 k16 f0 f1 f3 f4 f7 f9 f10 f14 f15 f23 f26
  replace f0 := shm_293 f0
  replace f1 := shm_361 f1
  replace f3 := shm_121 f3
  replace f4 := shm_122 f4
  replace f7 := shm_39 f7
  replace f9 := shm_1420 f9
  replace f10 := shm_40 f10
  replace f14 := shm_1233 f14
  replace f15 := shm_142 f15
  replace f23 := shm_2126 f23
  replace f26 := shm_1889 f26
  have g0 : v_iv (n_v vs 8) = w_fi ws (n_v vs 0) 8 := congrArg v_iv f0
  have g1 : v_iv (n_v vs 16) = w_fi ws (n_v vs 0) 13 := congrArg v_iv f1
  have kz_0_8 := fdq_34 hD hth r0
  have kz_0_10 := fdq_43 hD hth r0
  have kz_0_11 := fdq_237 hD hth r0
  have kz_0_12 := fdq_187 hD hth r0
  have kz_0_13 := fdq_238 hD hth r0
  have kz_0_14 := fdq_188 hD hth r0
  have kz_0_15 := fdq_239 hD hth r0
  obtain ⟨x, ex, hx⟩ := iv_ex (ta := ta) (lo := 0) (hi := 5) (z := w_fi ws (n_v vs 0) 8) (by omega) (by omega) (by omega) (by omega)
  have ex2 : v_iv (Value.int x) = w_fi ws (n_v vs 0) 8 := ex
  have ex3 : 0 ≤ v_iv (Value.int x) ∧ v_iv (Value.int x) ≤ 5 := tv_rng hx
  have e_0 : n_v (vs ++ [Value.int x]) 0 = n_v vs 0 := n_v_old (by rw [hl]; decide)
  have e_15 : n_v (vs ++ [Value.int x]) 15 = n_v vs 15 := n_v_old (by rw [hl]; decide)
  have e_16 : n_v (vs ++ [Value.int x]) 16 = n_v vs 16 := n_v_old (by rw [hl]; decide)
  have e_17 : n_v (vs ++ [Value.int x]) 17 = Value.int x := n_v_new hl
  have nf0 : fc_1 PRD (20, [0, 15, 16], [60, 1, 1, 1026, 10, 1]) ws (vs ++ [Value.int x]) := by
    refine ⟨nf_inA hl rfl, sgq_1724 ?_⟩
    · show FSX (w_fi ws (n_v (vs ++ [Value.int x]) 0) 10) (w_ei ws (w_ar ws (n_v (vs ++ [Value.int x]) 0) 1)) (v_iv (n_v (vs ++ [Value.int x]) 15)) (v_iv (n_v (vs ++ [Value.int x]) 16))
      simp only [e_0, e_15, e_16]
      exact vc_Mo_met_at_g4_28_0 (v_iv (n_v vs 1)) (v_iv (n_v vs 2)) (v_iv (n_v vs 5)) (v_iv (n_v vs 6)) (v_iv (n_v vs 7)) (v_iv (n_v vs 8)) (v_iv (n_v vs 9)) (v_iv (n_v vs 10)) (v_iv (n_v vs 11)) (v_iv (n_v vs 13)) (v_iv (n_v vs 15)) (v_iv (n_v vs 16)) (w_fi ws (n_v vs 0) 8) (w_fi ws (n_v vs 0) 13) (w_ei ws (w_ar ws (n_v vs 0) 2)) (w_fi ws (n_v vs 0) 5) (w_ei ws (w_ar ws (n_v vs 0) 1)) (w_fi ws (n_v vs 0) 11) (w_fi ws (n_v vs 0) 10) (w_fi ws (n_v vs 0) 15) (w_fi ws (n_v vs 0) 12) (w_fi ws (n_v vs 0) 14) (v_iv (Value.int x)) k1 k2 k5 k6 k7 k8 k9 k10 k11 k13 k15 k16 g0 g1 f3 f4 f7 f9 f10 f14 f15 f23 f26 kz_0_8 kz_0_10 kz_0_11 kz_0_12 kz_0_13 kz_0_14 kz_0_15 ex2
  have nf1 : fc_1 PRD (20, [0, 17], [30, 0, 1, 1, 8, -1, 0, 0]) ws (vs ++ [Value.int x]) := by
    refine ⟨nf_inA hl rfl, sgq_303 ?_⟩
    · show 1 * w_fi ws (n_v (vs ++ [Value.int x]) 0) 8 + ((-1) * v_iv (n_v (vs ++ [Value.int x]) 17) + 0) ≤ 0
      simp only [e_0, e_17]
      exact vc_Mo_met_at_g4_28_1 (v_iv (n_v vs 8)) (w_fi ws (n_v vs 0) 8) (w_fi ws (n_v vs 0) 5) (v_iv (Value.int x)) k8 g0 kz_0_8 ex2
  have nf2 : fc_1 PRD (20, [0, 17], [30, 0, -1, 1, 8, 1, 0, 0]) ws (vs ++ [Value.int x]) := by
    refine ⟨nf_inA hl rfl, sgq_304 ?_⟩
    · show (-1) * w_fi ws (n_v (vs ++ [Value.int x]) 0) 8 + (1 * v_iv (n_v (vs ++ [Value.int x]) 17) + 0) ≤ 0
      simp only [e_0, e_17]
      exact vc_Mo_met_at_g4_28_2 (v_iv (n_v vs 8)) (w_fi ws (n_v vs 0) 8) (w_fi ws (n_v vs 0) 5) (v_iv (Value.int x)) k8 g0 kz_0_8 ex2
  have nf3 : fc_1 PRD (20, [17], [61, 0, 1029]) ws (vs ++ [Value.int x]) := by
    refine ⟨nf_inA hl rfl, sgq_1725 ?_⟩
    · show ZH0 (v_iv (n_v (vs ++ [Value.int x]) 17))
      rw [e_17]
      exact vc_Mo_met_at_g4_28_3 (v_iv (n_v vs 8)) (w_fi ws (n_v vs 0) 8) (v_iv (Value.int x)) k8 g0 kz_0_8 ex2
  exact ⟨(fun _ h => (by cases h)), [Value.int x], ag_one hx, List.forall_mem_cons.mpr ⟨⟨show (20 : Nat) < 100 from by decide, nf0⟩, List.forall_mem_cons.mpr ⟨⟨show (20 : Nat) < 100 from by decide, nf1⟩, List.forall_mem_cons.mpr ⟨⟨show (20 : Nat) < 100 from by decide, nf2⟩, List.forall_mem_cons.mpr ⟨⟨show (20 : Nat) < 100 from by decide, nf3⟩, (fun _ h => (by cases h))⟩⟩⟩⟩, (fun _ h => (by cases h))⟩
set_option maxHeartbeats 4000000 in
theorem vc_Mo_met_at_g4_29_0 (x2 : Int) (x18 : Int) (fault_0 : Int) (all_0 : Int → Int) (r_0 : Int) (k2 : 0 ≤ x2 ∧ x2 ≤ 23) (k18 : 0 ≤ x18 ∧ x18 ≤ 0) (g3 : x18 = fault_0) (f22 : (-1) * fault_0 + 0 ≤ (-1)) (kz_0_8 : 0 ≤ fault_0 ∧ fault_0 ≤ 5) : (x2 ≤ (-1)) ∨ (all_0 ((r_0 + 1)) ≤ 47) := by
  first
    | omega
    | (have q1 := (hE_0_2_1 (r_0 + 2) (by omega)).2 (by omega)
       have q2 := (hE_0_2_2 (r_0 + 2) (by omega)).2 (by omega)
       omega)
    | (have q1 := (hE_0_2_1 (r_0 + 1) (by omega)).2 (by omega)
       have q2 := (hE_0_2_2 (r_0 + 1) (by omega)).2 (by omega)
       omega)
    | (have q1 := (hE_0_2_1 (r_0 + 2) (by omega)).2 (by omega)
       omega)
    | (have q1 := (hE_0_2_1 (r_0 + 1) (by omega)).2 (by omega)
       omega)
    | (have q1 := (hE_0_2_1 (r_0 + 2) (by omega)).2 (by omega)
       have q2 := (hE_0_2_2 (r_0 + 2) (by omega)).2 (by omega)
       have q3 := (hE_0_2_3 (r_0 + 2) (by omega)).1 (by omega)
       omega)
    | (have q1 := (hE_0_2_1 (r_0 + 2) (by omega)).2 (by omega)
       have q2 := (hE_0_2_2 (r_0 + 2) (by omega)).2 (by omega)
       have q3 := (hE_0_2_3 (r_0 + 2) (by omega)).2 (by omega)
       omega)
set_option maxHeartbeats 4000000 in
theorem vc_Mo_met_at_g4_29_1 (x2 : Int) (x10 : Int) (x18 : Int) (fault_0 : Int) (all_0 : Int → Int) (r_0 : Int) (k2 : 0 ≤ x2 ∧ x2 ≤ 23) (k10 : 0 ≤ x10 ∧ x10 ≤ 23) (k18 : 0 ≤ x18 ∧ x18 ≤ 0) (g3 : x18 = fault_0) (f22 : (-1) * fault_0 + 0 ≤ (-1)) (kz_0_8 : 0 ≤ fault_0 ∧ fault_0 ≤ 5) : MEN (r_0) (all_0) (x2) (x10) := by
  try simp only [Int.add_zero] at *
  first
    | (exfalso; omega)
set_option maxHeartbeats 4000000 in
theorem vc_Mo_met_at_g4_29_2 (x18 : Int) (fault_0 : Int) (r_0 : Int) (pos_0 : Int) (gx : Int) (k18 : 0 ≤ x18 ∧ x18 ≤ 0) (g3 : x18 = fault_0) (f22 : (-1) * fault_0 + 0 ≤ (-1)) (kz_0_8 : 0 ≤ fault_0 ∧ fault_0 ≤ 5) (kz_0_11 : 0 ≤ pos_0 ∧ pos_0 ≤ 2000) : 1 * gx + ((-1) * pos_0 + 0) ≤ 0 := by
  first
    | omega
    | (have q1 := (hE_0_2_1 (r_0 + 2) (by omega)).2 (by omega)
       have q2 := (hE_0_2_2 (r_0 + 2) (by omega)).2 (by omega)
       omega)
    | (have q1 := (hE_0_2_1 (r_0 + 1) (by omega)).2 (by omega)
       have q2 := (hE_0_2_2 (r_0 + 1) (by omega)).2 (by omega)
       omega)
    | (have q1 := (hE_0_2_1 (r_0 + 2) (by omega)).2 (by omega)
       omega)
    | (have q1 := (hE_0_2_1 (r_0 + 1) (by omega)).2 (by omega)
       omega)
    | (have q1 := (hE_0_2_1 (r_0 + 2) (by omega)).2 (by omega)
       have q2 := (hE_0_2_2 (r_0 + 2) (by omega)).2 (by omega)
       have q3 := (hE_0_2_3 (r_0 + 2) (by omega)).1 (by omega)
       omega)
    | (have q1 := (hE_0_2_1 (r_0 + 2) (by omega)).2 (by omega)
       have q2 := (hE_0_2_2 (r_0 + 2) (by omega)).2 (by omega)
       have q3 := (hE_0_2_3 (r_0 + 2) (by omega)).2 (by omega)
       omega)
set_option maxHeartbeats 4000000 in
theorem vc_Mo_met_at_g4_29_3 (r_0 : Int) (pos_0 : Int) (gx : Int) (kz_0_11 : 0 ≤ pos_0 ∧ pos_0 ≤ 2000) (ex2 : gx = pos_0) : gx = pos_0 := by
  first
    | omega
    | (have q1 := (hE_0_2_1 (r_0 + 2) (by omega)).2 (by omega)
       have q2 := (hE_0_2_2 (r_0 + 2) (by omega)).2 (by omega)
       omega)
    | (have q1 := (hE_0_2_1 (r_0 + 1) (by omega)).2 (by omega)
       have q2 := (hE_0_2_2 (r_0 + 1) (by omega)).2 (by omega)
       omega)
    | (have q1 := (hE_0_2_1 (r_0 + 2) (by omega)).2 (by omega)
       omega)
    | (have q1 := (hE_0_2_1 (r_0 + 1) (by omega)).2 (by omega)
       omega)
    | (have q1 := (hE_0_2_1 (r_0 + 2) (by omega)).2 (by omega)
       have q2 := (hE_0_2_2 (r_0 + 2) (by omega)).2 (by omega)
       have q3 := (hE_0_2_3 (r_0 + 2) (by omega)).1 (by omega)
       omega)
    | (have q1 := (hE_0_2_1 (r_0 + 2) (by omega)).2 (by omega)
       have q2 := (hE_0_2_2 (r_0 + 2) (by omega)).2 (by omega)
       have q3 := (hE_0_2_3 (r_0 + 2) (by omega)).2 (by omega)
       omega)
set_option maxHeartbeats 4000000 in
theorem vc_Mo_met_at_g4_29_4 (x18 : Int) (fault_0 : Int) (limit_0 : Int) (pos_0 : Int) (k18 : 0 ≤ x18 ∧ x18 ≤ 0) (g3 : x18 = fault_0) (f22 : (-1) * fault_0 + 0 ≤ (-1)) (kz_0_8 : 0 ≤ fault_0 ∧ fault_0 ≤ 5) (kz_0_10 : 0 ≤ limit_0 ∧ limit_0 ≤ 2000) (kz_0_11 : 0 ≤ pos_0 ∧ pos_0 ≤ 2000) : ZLM (limit_0) (pos_0) := by
  first
    | exact zlm_r (‹zMN0 _ _ _ _ _ _ _ _ _ _ _ _ _ _›).1
    | exact zlm_r (‹zMN1 _ _ _ _ _ _ _ _ _ _ _ _ _ _›).1
    | exact zlm_r (‹zMN4 _ _ _ _ _ _ _ _ _ _ _ _ _ _ _ _ _›).1
    | exact zlm_r (‹zRSE _ _ _ _ _ _ _ _ _ _ _ _›).1.1
    | exact zlm_r ‹zRS1 _ _ _ _ _ _ _ _ _ _ _ _›
    | exact zlm_r ‹zRS4 _ _ _ _ _ _ _ _ _ _ _ _ _ _ _›
    | (exfalso; omega)
set_option maxHeartbeats 4000000 in
theorem vc_Mo_met_at_g4_29_5 (x3 : Int) (x18 : Int) (fault_0 : Int) (r_0 : Int) (gx : Int) (k3 : 0 ≤ x3 ∧ x3 ≤ 2000) (k18 : 0 ≤ x18 ∧ x18 ≤ 0) (g3 : x18 = fault_0) (f22 : (-1) * fault_0 + 0 ≤ (-1)) (kz_0_8 : 0 ≤ fault_0 ∧ fault_0 ≤ 5) : 1 * x3 + ((-1) * gx + 0) ≤ 0 := by
  first
    | omega
    | (have q1 := (hE_0_2_1 (r_0 + 2) (by omega)).2 (by omega)
       have q2 := (hE_0_2_2 (r_0 + 2) (by omega)).2 (by omega)
       omega)
    | (have q1 := (hE_0_2_1 (r_0 + 1) (by omega)).2 (by omega)
       have q2 := (hE_0_2_2 (r_0 + 1) (by omega)).2 (by omega)
       omega)
    | (have q1 := (hE_0_2_1 (r_0 + 2) (by omega)).2 (by omega)
       omega)
    | (have q1 := (hE_0_2_1 (r_0 + 1) (by omega)).2 (by omega)
       omega)
    | (have q1 := (hE_0_2_1 (r_0 + 2) (by omega)).2 (by omega)
       have q2 := (hE_0_2_2 (r_0 + 2) (by omega)).2 (by omega)
       have q3 := (hE_0_2_3 (r_0 + 2) (by omega)).1 (by omega)
       omega)
    | (have q1 := (hE_0_2_1 (r_0 + 2) (by omega)).2 (by omega)
       have q2 := (hE_0_2_2 (r_0 + 2) (by omega)).2 (by omega)
       have q3 := (hE_0_2_3 (r_0 + 2) (by omega)).2 (by omega)
       omega)
set_option maxHeartbeats 4000000 in
theorem vc_Mo_met_at_g4_29_6 (x4 : Int) (x18 : Int) (fault_0 : Int) (r_0 : Int) (gx : Int) (k4 : 0 ≤ x4 ∧ x4 ≤ 2000) (k18 : 0 ≤ x18 ∧ x18 ≤ 0) (g3 : x18 = fault_0) (f22 : (-1) * fault_0 + 0 ≤ (-1)) (kz_0_8 : 0 ≤ fault_0 ∧ fault_0 ≤ 5) : 1 * x4 + ((-1) * gx + 0) ≤ (-1) := by
  first
    | omega
    | (have q1 := (hE_0_2_1 (r_0 + 2) (by omega)).2 (by omega)
       have q2 := (hE_0_2_2 (r_0 + 2) (by omega)).2 (by omega)
       omega)
    | (have q1 := (hE_0_2_1 (r_0 + 1) (by omega)).2 (by omega)
       have q2 := (hE_0_2_2 (r_0 + 1) (by omega)).2 (by omega)
       omega)
    | (have q1 := (hE_0_2_1 (r_0 + 2) (by omega)).2 (by omega)
       omega)
    | (have q1 := (hE_0_2_1 (r_0 + 1) (by omega)).2 (by omega)
       omega)
    | (have q1 := (hE_0_2_1 (r_0 + 2) (by omega)).2 (by omega)
       have q2 := (hE_0_2_2 (r_0 + 2) (by omega)).2 (by omega)
       have q3 := (hE_0_2_3 (r_0 + 2) (by omega)).1 (by omega)
       omega)
    | (have q1 := (hE_0_2_1 (r_0 + 2) (by omega)).2 (by omega)
       have q2 := (hE_0_2_2 (r_0 + 2) (by omega)).2 (by omega)
       have q3 := (hE_0_2_3 (r_0 + 2) (by omega)).2 (by omega)
       omega)
set_option maxHeartbeats 4000000 in
theorem vc_Mo_met_at_g4_29_7 (x1 : Int) (x2 : Int) (x5 : Int) (x6 : Int) (x7 : Int) (x10 : Int) (x16 : Int) (x18 : Int) (place_0 : Int) (fault_0 : Int) (tape_0 : Int → Int) (limit_0 : Int) (all_0 : Int → Int) (r_0 : Int) (pos_0 : Int) (gx : Int) (k1 : 0 ≤ x1 ∧ x1 ≤ 7) (k2 : 0 ≤ x2 ∧ x2 ≤ 23) (k5 : 0 ≤ x5 ∧ x5 ≤ 4) (k6 : 0 ≤ x6 ∧ x6 ≤ 48) (k7 : 0 ≤ x7 ∧ x7 ≤ 1) (k10 : 0 ≤ x10 ∧ x10 ≤ 23) (k16 : 0 ≤ x16 ∧ x16 ≤ 2000) (k18 : 0 ≤ x18 ∧ x18 ≤ 0) (g0 : x16 = place_0) (g3 : x18 = fault_0) (f22 : (-1) * fault_0 + 0 ≤ (-1)) (kz_0_8 : 0 ≤ fault_0 ∧ fault_0 ≤ 5) (kz_0_10 : 0 ≤ limit_0 ∧ limit_0 ≤ 2000) (kz_0_11 : 0 ≤ pos_0 ∧ pos_0 ≤ 2000) (kz_0_13 : 0 ≤ place_0 ∧ place_0 ≤ 2000) (ex2 : gx = pos_0) : zTP8 (limit_0) (fault_0) (r_0) (tape_0) (all_0) (x10) (x6) (x2) (x7) (x1) (x5) (gx) := by
  first | subst g0 | skip
  first | subst g3 | skip
  first | subst ex2 | skip
  first
    | exact mn_end4 ‹zMN4 _ _ _ _ _ _ _ _ _ _ _ _ _ _ _ _ _› (by omega) (by omega) (by assumption) (by assumption) (by omega) (by omega) (by omega) (by omega) (by omega)
    | exact met_old4 ‹zRS4 _ _ _ _ _ _ _ _ _ _ _ _ _ _ _› ‹NMQ _ _ _ _ _ _› (by omega) ‹KNQ _ _ _ _ _ _ _› (by omega) (Or.inr ⟨by omega, _, by omega, ‹BT2 _ _ _ _ _›⟩) (by omega) (by omega)
    | (exfalso; omega)
def o_Mo_met_at_g4_29 : or_T := (254, 19, [(0, (2, 0, 0, [165])), (1, (0, 0, 7, [])), (2, (0, 0, 23, [])), (3, (0, 0, 2000, [])), (4, (0, 0, 2000, [])), (5, (0, 0, 4, [])), (6, (0, 0, 48, [])), (7, (0, 0, 1, [])), (10, (0, 0, 23, [])), (16, (0, 0, 2000, [])), (18, (0, 0, 0, []))], [(9, [16, 0], [13]), (9, [18, 0], [8]), (20, [0], [30, -1, -1, 1, 8])], [], [(0, 0, 2000, [])], [(20, [2, 0], [50, 1, 1, 1005, 1002, 3, 6, 0, 2, 1, 0, 0, -1, 0, 10, 3, 1, 2, 4, 3, 2, 1, 5, 0, 1, 0, 47]), (20, [0, 2, 10], [60, 1, 1, 243, 5, 2]), (20, [19, 0], [30, 0, 1, 0, 0, -1, 1, 11]), (20, [19, 0], [50, 1, 0, 1011, 1, 2, 1, 0, 2, 1, 11]), (20, [0], [60, 2, 0, 947, 10, 11]), (23, [3, 19], [0, 1, -1]), (23, [4, 19], [-1, 1, -1]), (20, [0, 10, 6, 2, 7, 1, 5, 19], [60, 3, 2, 979, 10, 8, 5, 1, 2])], [], [])
theorem oo_Mo_met_at_g4_29 {kA : Nat → ClassId} : or_ok PRD kA GG o_Mo_met_at_g4_29 := by
  refine or_mk fun A ta ws vs hD hth hl => ?_
  intro t0 r0 t1 k1 t2 k2 t3 k3 t4 k4 t5 k5 t6 k6 t7 k7 t10 k10 t16 k16 t18 k18 f0 f3 f22
  replace f0 := shm_361 f0
  replace f3 := shm_293 f3
  replace f22 := shm_305 f22
  have g0 : v_iv (n_v vs 16) = w_fi ws (n_v vs 0) 13 := congrArg v_iv f0
  have g3 : v_iv (n_v vs 18) = w_fi ws (n_v vs 0) 8 := congrArg v_iv f3
  have kz_0_8 := fdq_34 hD hth r0
  have kz_0_10 := fdq_43 hD hth r0
  have kz_0_11 := fdq_237 hD hth r0
  have kz_0_13 := fdq_238 hD hth r0
  obtain ⟨x, ex, hx⟩ := iv_ex (ta := ta) (lo := 0) (hi := 2000) (z := w_fi ws (n_v vs 0) 11) (by omega) (by omega) (by omega) (by omega)
  have ex2 : v_iv (Value.int x) = w_fi ws (n_v vs 0) 11 := ex
  have ex3 : 0 ≤ v_iv (Value.int x) ∧ v_iv (Value.int x) ≤ 2000 := tv_rng hx
  have e_0 : n_v (vs ++ [Value.int x]) 0 = n_v vs 0 := n_v_old (by rw [hl]; decide)
  have e_1 : n_v (vs ++ [Value.int x]) 1 = n_v vs 1 := n_v_old (by rw [hl]; decide)
  have e_2 : n_v (vs ++ [Value.int x]) 2 = n_v vs 2 := n_v_old (by rw [hl]; decide)
  have e_3 : n_v (vs ++ [Value.int x]) 3 = n_v vs 3 := n_v_old (by rw [hl]; decide)
  have e_4 : n_v (vs ++ [Value.int x]) 4 = n_v vs 4 := n_v_old (by rw [hl]; decide)
  have e_5 : n_v (vs ++ [Value.int x]) 5 = n_v vs 5 := n_v_old (by rw [hl]; decide)
  have e_6 : n_v (vs ++ [Value.int x]) 6 = n_v vs 6 := n_v_old (by rw [hl]; decide)
  have e_7 : n_v (vs ++ [Value.int x]) 7 = n_v vs 7 := n_v_old (by rw [hl]; decide)
  have e_10 : n_v (vs ++ [Value.int x]) 10 = n_v vs 10 := n_v_old (by rw [hl]; decide)
  have e_19 : n_v (vs ++ [Value.int x]) 19 = Value.int x := n_v_new hl
  have nf0 : fc_1 PRD (20, [2, 0], [50, 1, 1, 1005, 1002, 3, 6, 0, 2, 1, 0, 0, -1, 0, 10, 3, 1, 2, 4, 3, 2, 1, 5, 0, 1, 0, 47]) ws (vs ++ [Value.int x]) := by
    refine ⟨nf_inA hl rfl, sgq_2114 ?_⟩
    · show (v_iv (n_v (vs ++ [Value.int x]) 2) ≤ (-1)) ∨ (w_ei ws (w_ar ws (n_v (vs ++ [Value.int x]) 0) 2) ((w_fi ws (n_v (vs ++ [Value.int x]) 0) 5 + 1)) ≤ 47)
      simp only [e_0, e_2]
      exact vc_Mo_met_at_g4_29_0 (v_iv (n_v vs 2)) (v_iv (n_v vs 18)) (w_fi ws (n_v vs 0) 8) (w_ei ws (w_ar ws (n_v vs 0) 2)) (w_fi ws (n_v vs 0) 5) k2 k18 g3 f22 kz_0_8
  have nf1 : fc_1 PRD (20, [0, 2, 10], [60, 1, 1, 243, 5, 2]) ws (vs ++ [Value.int x]) := by
    refine ⟨nf_inA hl rfl, sgq_2115 ?_⟩
    · show MEN (w_fi ws (n_v (vs ++ [Value.int x]) 0) 5) (w_ei ws (w_ar ws (n_v (vs ++ [Value.int x]) 0) 2)) (v_iv (n_v (vs ++ [Value.int x]) 2)) (v_iv (n_v (vs ++ [Value.int x]) 10))
      simp only [e_0, e_2, e_10]
      exact vc_Mo_met_at_g4_29_1 (v_iv (n_v vs 2)) (v_iv (n_v vs 10)) (v_iv (n_v vs 18)) (w_fi ws (n_v vs 0) 8) (w_ei ws (w_ar ws (n_v vs 0) 2)) (w_fi ws (n_v vs 0) 5) k2 k10 k18 g3 f22 kz_0_8
  have nf2 : fc_1 PRD (20, [19, 0], [30, 0, 1, 0, 0, -1, 1, 11]) ws (vs ++ [Value.int x]) := by
    refine ⟨nf_inA hl rfl, sgq_1431 ?_⟩
    · show 1 * v_iv (n_v (vs ++ [Value.int x]) 19) + ((-1) * w_fi ws (n_v (vs ++ [Value.int x]) 0) 11 + 0) ≤ 0
      simp only [e_0, e_19]
      exact vc_Mo_met_at_g4_29_2 (v_iv (n_v vs 18)) (w_fi ws (n_v vs 0) 8) (w_fi ws (n_v vs 0) 5) (w_fi ws (n_v vs 0) 11) (v_iv (Value.int x)) k18 g3 f22 kz_0_8 kz_0_11
  have nf3 : fc_1 PRD (20, [19, 0], [50, 1, 0, 1011, 1, 2, 1, 0, 2, 1, 11]) ws (vs ++ [Value.int x]) := by
    refine ⟨nf_inA hl rfl, sgq_1432 ?_⟩
    · show v_iv (n_v (vs ++ [Value.int x]) 19) = w_fi ws (n_v (vs ++ [Value.int x]) 0) 11
      simp only [e_0, e_19]
      exact vc_Mo_met_at_g4_29_3 (w_fi ws (n_v vs 0) 5) (w_fi ws (n_v vs 0) 11) (v_iv (Value.int x)) kz_0_11 ex2
  have nf4 : fc_1 PRD (20, [0], [60, 2, 0, 947, 10, 11]) ws (vs ++ [Value.int x]) := by
    refine ⟨nf_inA hl rfl, sgq_1433 ?_⟩
    · show ZLM (w_fi ws (n_v (vs ++ [Value.int x]) 0) 10) (w_fi ws (n_v (vs ++ [Value.int x]) 0) 11)
      rw [e_0]
      exact vc_Mo_met_at_g4_29_4 (v_iv (n_v vs 18)) (w_fi ws (n_v vs 0) 8) (w_fi ws (n_v vs 0) 10) (w_fi ws (n_v vs 0) 11) k18 g3 f22 kz_0_8 kz_0_10 kz_0_11
  have nf5 : fc_1 PRD (23, [3, 19], [0, 1, -1]) ws (vs ++ [Value.int x]) := by
    refine ⟨nf_inA hl rfl, sgq_7 ?_⟩
    · show 1 * v_iv (n_v (vs ++ [Value.int x]) 3) + ((-1) * v_iv (n_v (vs ++ [Value.int x]) 19) + 0) ≤ 0
      simp only [e_3, e_19]
      exact vc_Mo_met_at_g4_29_5 (v_iv (n_v vs 3)) (v_iv (n_v vs 18)) (w_fi ws (n_v vs 0) 8) (w_fi ws (n_v vs 0) 5) (v_iv (Value.int x)) k3 k18 g3 f22 kz_0_8
  have nf6 : fc_1 PRD (23, [4, 19], [-1, 1, -1]) ws (vs ++ [Value.int x]) := by
    refine ⟨nf_inA hl rfl, sgq_193 ?_⟩
    · show 1 * v_iv (n_v (vs ++ [Value.int x]) 4) + ((-1) * v_iv (n_v (vs ++ [Value.int x]) 19) + 0) ≤ (-1)
      simp only [e_4, e_19]
      exact vc_Mo_met_at_g4_29_6 (v_iv (n_v vs 4)) (v_iv (n_v vs 18)) (w_fi ws (n_v vs 0) 8) (w_fi ws (n_v vs 0) 5) (v_iv (Value.int x)) k4 k18 g3 f22 kz_0_8
  have nf7 : fc_1 PRD (20, [0, 10, 6, 2, 7, 1, 5, 19], [60, 3, 2, 979, 10, 8, 5, 1, 2]) ws (vs ++ [Value.int x]) := by
    refine ⟨nf_inA hl rfl, sgq_2129 ?_⟩
    · show zTP8 (w_fi ws (n_v (vs ++ [Value.int x]) 0) 10) (w_fi ws (n_v (vs ++ [Value.int x]) 0) 8) (w_fi ws (n_v (vs ++ [Value.int x]) 0) 5) (w_ei ws (w_ar ws (n_v (vs ++ [Value.int x]) 0) 1)) (w_ei ws (w_ar ws (n_v (vs ++ [Value.int x]) 0) 2)) (v_iv (n_v (vs ++ [Value.int x]) 10)) (v_iv (n_v (vs ++ [Value.int x]) 6)) (v_iv (n_v (vs ++ [Value.int x]) 2)) (v_iv (n_v (vs ++ [Value.int x]) 7)) (v_iv (n_v (vs ++ [Value.int x]) 1)) (v_iv (n_v (vs ++ [Value.int x]) 5)) (v_iv (n_v (vs ++ [Value.int x]) 19))
      simp only [e_0, e_1, e_2, e_5, e_6, e_7, e_10, e_19]
      exact vc_Mo_met_at_g4_29_7 (v_iv (n_v vs 1)) (v_iv (n_v vs 2)) (v_iv (n_v vs 5)) (v_iv (n_v vs 6)) (v_iv (n_v vs 7)) (v_iv (n_v vs 10)) (v_iv (n_v vs 16)) (v_iv (n_v vs 18)) (w_fi ws (n_v vs 0) 13) (w_fi ws (n_v vs 0) 8) (w_ei ws (w_ar ws (n_v vs 0) 1)) (w_fi ws (n_v vs 0) 10) (w_ei ws (w_ar ws (n_v vs 0) 2)) (w_fi ws (n_v vs 0) 5) (w_fi ws (n_v vs 0) 11) (v_iv (Value.int x)) k1 k2 k5 k6 k7 k10 k16 k18 g0 g3 f22 kz_0_8 kz_0_10 kz_0_11 kz_0_13 ex2
  exact ⟨(fun _ h => (by cases h)), [Value.int x], ag_one hx, List.forall_mem_cons.mpr ⟨⟨show (20 : Nat) < 100 from by decide, nf0⟩, List.forall_mem_cons.mpr ⟨⟨show (20 : Nat) < 100 from by decide, nf1⟩, List.forall_mem_cons.mpr ⟨⟨show (20 : Nat) < 100 from by decide, nf2⟩, List.forall_mem_cons.mpr ⟨⟨show (20 : Nat) < 100 from by decide, nf3⟩, List.forall_mem_cons.mpr ⟨⟨show (20 : Nat) < 100 from by decide, nf4⟩, List.forall_mem_cons.mpr ⟨⟨show (23 : Nat) < 100 from by decide, nf5⟩, List.forall_mem_cons.mpr ⟨⟨show (23 : Nat) < 100 from by decide, nf6⟩, List.forall_mem_cons.mpr ⟨⟨show (20 : Nat) < 100 from by decide, nf7⟩, (fun _ h => (by cases h))⟩⟩⟩⟩⟩⟩⟩⟩, (fun _ h => (by cases h))⟩
set_option maxHeartbeats 4000000 in
theorem vc_Mo_met_at_g4_30_0 (x3 : Int) (x18 : Int) (fault_0 : Int) (r_0 : Int) (pos_0 : Int) (k3 : 0 ≤ x3 ∧ x3 ≤ 2000) (k18 : 0 ≤ x18 ∧ x18 ≤ 0) (g0 : x18 = fault_0) (f17 : (-1) * fault_0 + 0 ≤ (-1)) (kz_0_8 : 0 ≤ fault_0 ∧ fault_0 ≤ 5) (kz_0_11 : 0 ≤ pos_0 ∧ pos_0 ≤ 2000) : 1 * x3 + ((-1) * pos_0 + 0) ≤ 0 := by
  first
    | omega
    | (have q1 := (hE_0_2_1 (r_0 + 2) (by omega)).2 (by omega)
       have q2 := (hE_0_2_2 (r_0 + 2) (by omega)).2 (by omega)
       omega)
    | (have q1 := (hE_0_2_1 (r_0 + 1) (by omega)).2 (by omega)
       have q2 := (hE_0_2_2 (r_0 + 1) (by omega)).2 (by omega)
       omega)
    | (have q1 := (hE_0_2_1 (r_0 + 2) (by omega)).2 (by omega)
       omega)
    | (have q1 := (hE_0_2_1 (r_0 + 1) (by omega)).2 (by omega)
       omega)
    | (have q1 := (hE_0_2_1 (r_0 + 2) (by omega)).2 (by omega)
       have q2 := (hE_0_2_2 (r_0 + 2) (by omega)).2 (by omega)
       have q3 := (hE_0_2_3 (r_0 + 2) (by omega)).1 (by omega)
       omega)
    | (have q1 := (hE_0_2_1 (r_0 + 2) (by omega)).2 (by omega)
       have q2 := (hE_0_2_2 (r_0 + 2) (by omega)).2 (by omega)
       have q3 := (hE_0_2_3 (r_0 + 2) (by omega)).2 (by omega)
       omega)
set_option maxHeartbeats 4000000 in
theorem vc_Mo_met_at_g4_30_1 (x3 : Int) (x18 : Int) (fault_0 : Int) (r_0 : Int) (pos_0 : Int) (kind_0 : Int) (k3 : 0 ≤ x3 ∧ x3 ≤ 2000) (k18 : 0 ≤ x18 ∧ x18 ≤ 0) (g0 : x18 = fault_0) (f17 : (-1) * fault_0 + 0 ≤ (-1)) (kz_0_8 : 0 ≤ fault_0 ∧ fault_0 ≤ 5) (kz_0_11 : 0 ≤ pos_0 ∧ pos_0 ≤ 2000) (kz_0_12 : 0 ≤ kind_0 ∧ kind_0 ≤ 4) : (1 ≤ fault_0) ∨ ((kind_0 = 0) ∨ ((x3 + 1) ≤ pos_0)) := by
  first
    | omega
    | (have q1 := (hE_0_2_1 (r_0 + 2) (by omega)).2 (by omega)
       have q2 := (hE_0_2_2 (r_0 + 2) (by omega)).2 (by omega)
       omega)
    | (have q1 := (hE_0_2_1 (r_0 + 1) (by omega)).2 (by omega)
       have q2 := (hE_0_2_2 (r_0 + 1) (by omega)).2 (by omega)
       omega)
    | (have q1 := (hE_0_2_1 (r_0 + 2) (by omega)).2 (by omega)
       omega)
    | (have q1 := (hE_0_2_1 (r_0 + 1) (by omega)).2 (by omega)
       omega)
    | (have q1 := (hE_0_2_1 (r_0 + 2) (by omega)).2 (by omega)
       have q2 := (hE_0_2_2 (r_0 + 2) (by omega)).2 (by omega)
       have q3 := (hE_0_2_3 (r_0 + 2) (by omega)).1 (by omega)
       omega)
    | (have q1 := (hE_0_2_1 (r_0 + 2) (by omega)).2 (by omega)
       have q2 := (hE_0_2_2 (r_0 + 2) (by omega)).2 (by omega)
       have q3 := (hE_0_2_3 (r_0 + 2) (by omega)).2 (by omega)
       omega)
set_option maxHeartbeats 4000000 in
theorem vc_Mo_met_at_g4_30_2 (x4 : Int) (x18 : Int) (fault_0 : Int) (r_0 : Int) (pos_0 : Int) (k4 : 0 ≤ x4 ∧ x4 ≤ 2000) (k18 : 0 ≤ x18 ∧ x18 ≤ 0) (g0 : x18 = fault_0) (f17 : (-1) * fault_0 + 0 ≤ (-1)) (kz_0_8 : 0 ≤ fault_0 ∧ fault_0 ≤ 5) (kz_0_11 : 0 ≤ pos_0 ∧ pos_0 ≤ 2000) : (1 ≤ fault_0) ∨ ((x4 + 1) ≤ pos_0) := by
  first
    | omega
    | (have q1 := (hE_0_2_1 (r_0 + 2) (by omega)).2 (by omega)
       have q2 := (hE_0_2_2 (r_0 + 2) (by omega)).2 (by omega)
       omega)
    | (have q1 := (hE_0_2_1 (r_0 + 1) (by omega)).2 (by omega)
       have q2 := (hE_0_2_2 (r_0 + 1) (by omega)).2 (by omega)
       omega)
    | (have q1 := (hE_0_2_1 (r_0 + 2) (by omega)).2 (by omega)
       omega)
    | (have q1 := (hE_0_2_1 (r_0 + 1) (by omega)).2 (by omega)
       omega)
    | (have q1 := (hE_0_2_1 (r_0 + 2) (by omega)).2 (by omega)
       have q2 := (hE_0_2_2 (r_0 + 2) (by omega)).2 (by omega)
       have q3 := (hE_0_2_3 (r_0 + 2) (by omega)).1 (by omega)
       omega)
    | (have q1 := (hE_0_2_1 (r_0 + 2) (by omega)).2 (by omega)
       have q2 := (hE_0_2_2 (r_0 + 2) (by omega)).2 (by omega)
       have q3 := (hE_0_2_3 (r_0 + 2) (by omega)).2 (by omega)
       omega)
set_option maxHeartbeats 4000000 in
theorem vc_Mo_met_at_g4_30_3 (x10 : Int) (x18 : Int) (fault_0 : Int) (r_0 : Int) (k10 : 0 ≤ x10 ∧ x10 ≤ 23) (k18 : 0 ≤ x18 ∧ x18 ≤ 0) (g0 : x18 = fault_0) (f17 : (-1) * fault_0 + 0 ≤ (-1)) (kz_0_8 : 0 ≤ fault_0 ∧ fault_0 ≤ 5) : ((-1) * fault_0 + 0 ≤ (-1)) ∨ ((-1) * x10 + 0 ≤ 0) := by
  first
    | omega
    | (have q1 := (hE_0_2_1 (r_0 + 2) (by omega)).2 (by omega)
       have q2 := (hE_0_2_2 (r_0 + 2) (by omega)).2 (by omega)
       omega)
    | (have q1 := (hE_0_2_1 (r_0 + 1) (by omega)).2 (by omega)
       have q2 := (hE_0_2_2 (r_0 + 1) (by omega)).2 (by omega)
       omega)
    | (have q1 := (hE_0_2_1 (r_0 + 2) (by omega)).2 (by omega)
       omega)
    | (have q1 := (hE_0_2_1 (r_0 + 1) (by omega)).2 (by omega)
       omega)
    | (have q1 := (hE_0_2_1 (r_0 + 2) (by omega)).2 (by omega)
       have q2 := (hE_0_2_2 (r_0 + 2) (by omega)).2 (by omega)
       have q3 := (hE_0_2_3 (r_0 + 2) (by omega)).1 (by omega)
       omega)
    | (have q1 := (hE_0_2_1 (r_0 + 2) (by omega)).2 (by omega)
       have q2 := (hE_0_2_2 (r_0 + 2) (by omega)).2 (by omega)
       have q3 := (hE_0_2_3 (r_0 + 2) (by omega)).2 (by omega)
       omega)
set_option maxHeartbeats 4000000 in
theorem vc_Mo_met_at_g4_30_4 (x2 : Int) (x18 : Int) (fault_0 : Int) (all_0 : Int → Int) (r_0 : Int) (k2 : 0 ≤ x2 ∧ x2 ≤ 23) (k18 : 0 ≤ x18 ∧ x18 ≤ 0) (g0 : x18 = fault_0) (f17 : (-1) * fault_0 + 0 ≤ (-1)) (kz_0_8 : 0 ≤ fault_0 ∧ fault_0 ≤ 5) : (1 ≤ fault_0) ∨ ((x2 ≤ (-1)) ∨ (all_0 ((r_0 + 1)) ≤ 47)) := by
  first
    | omega
    | (have q1 := (hE_0_2_1 (r_0 + 2) (by omega)).2 (by omega)
       have q2 := (hE_0_2_2 (r_0 + 2) (by omega)).2 (by omega)
       omega)
    | (have q1 := (hE_0_2_1 (r_0 + 1) (by omega)).2 (by omega)
       have q2 := (hE_0_2_2 (r_0 + 1) (by omega)).2 (by omega)
       omega)
    | (have q1 := (hE_0_2_1 (r_0 + 2) (by omega)).2 (by omega)
       omega)
    | (have q1 := (hE_0_2_1 (r_0 + 1) (by omega)).2 (by omega)
       omega)
    | (have q1 := (hE_0_2_1 (r_0 + 2) (by omega)).2 (by omega)
       have q2 := (hE_0_2_2 (r_0 + 2) (by omega)).2 (by omega)
       have q3 := (hE_0_2_3 (r_0 + 2) (by omega)).1 (by omega)
       omega)
    | (have q1 := (hE_0_2_1 (r_0 + 2) (by omega)).2 (by omega)
       have q2 := (hE_0_2_2 (r_0 + 2) (by omega)).2 (by omega)
       have q3 := (hE_0_2_3 (r_0 + 2) (by omega)).2 (by omega)
       omega)
set_option maxHeartbeats 4000000 in
theorem vc_Mo_met_at_g4_30_5 (x2 : Int) (x10 : Int) (x18 : Int) (fault_0 : Int) (all_0 : Int → Int) (r_0 : Int) (k2 : 0 ≤ x2 ∧ x2 ≤ 23) (k10 : 0 ≤ x10 ∧ x10 ≤ 23) (k18 : 0 ≤ x18 ∧ x18 ≤ 0) (g0 : x18 = fault_0) (f17 : (-1) * fault_0 + 0 ≤ (-1)) (kz_0_8 : 0 ≤ fault_0 ∧ fault_0 ≤ 5) : MET (r_0) (fault_0) (all_0) (x2) (x10) := by
  first
    | (intro q; exfalso; omega)
    | exact fun _ => ‹MEN _ _ _ _›
set_option maxHeartbeats 4000000 in
theorem vc_Mo_met_at_g4_30_6 (x1 : Int) (x2 : Int) (x5 : Int) (x6 : Int) (x7 : Int) (x10 : Int) (x15 : Int) (x16 : Int) (x17 : Int) (x18 : Int) (fault_0 : Int) (all_0 : Int → Int) (r_0 : Int) (tape_0 : Int → Int) (limit_0 : Int) (faultPlace_0 : Int) (from_0 : Int) (pos_0 : Int) (kind_0 : Int) (place_0 : Int) (value_0 : Int) (k1 : 0 ≤ x1 ∧ x1 ≤ 7) (k2 : 0 ≤ x2 ∧ x2 ≤ 23) (k5 : 0 ≤ x5 ∧ x5 ≤ 4) (k6 : 0 ≤ x6 ∧ x6 ≤ 48) (k7 : 0 ≤ x7 ∧ x7 ≤ 1) (k10 : 0 ≤ x10 ∧ x10 ≤ 23) (k15 : 3 ≤ x15 ∧ x15 ≤ 3) (k16 : 0 ≤ x16 ∧ x16 ≤ 2000) (k17 : 0 ≤ x17 ∧ x17 ≤ 5) (k18 : 0 ≤ x18 ∧ x18 ≤ 0) (g0 : x18 = fault_0) (f6 : FSX (limit_0) (tape_0) (x15) (x16)) (f7 : ZH0 (x17)) (f18 : ((1 ≤ x17) ∧ (fault_0 = x17)) ∨ ((x17 = 0) ∧ ((fault_0 = x15) ∧ (faultPlace_0 = x16)))) (kz_0_8 : 0 ≤ fault_0 ∧ fault_0 ≤ 5) (kz_0_9 : 0 ≤ faultPlace_0 ∧ faultPlace_0 ≤ 2000) (kz_0_10 : 0 ≤ limit_0 ∧ limit_0 ≤ 2000) (kz_0_11 : 0 ≤ pos_0 ∧ pos_0 ≤ 2000) (kz_0_12 : 0 ≤ kind_0 ∧ kind_0 ≤ 4) (kz_0_13 : 0 ≤ place_0 ∧ place_0 ≤ 2000) (kz_0_14 : (-49) ≤ value_0 ∧ value_0 ≤ 1048575) (kz_0_15 : 0 ≤ from_0 ∧ from_0 ≤ 2000) : zOP8 (limit_0) (pos_0) (kind_0) (place_0) (value_0) (from_0) (fault_0) (faultPlace_0) (r_0) (tape_0) (all_0) (x10) (x6) (x2) (x7) (x1) (x5) := by
  first | subst g0 | skip
  first
    | (exfalso; have h := (rsq_0 ‹zRS4 _ _ _ _ _ _ _ _ _ _ _ _ _ _ _›).1; omega)
    | (refine Or.inl (fs_w ?_ ?_ (by assumption)) <;> assumption)
    | exact Or.inr (rsq_of ‹zTP8 _ _ _ _ _ _ _ _ _ _ _ _› ‹TKR _ _ _ _ _ _ _ _›)
    | (exfalso; omega)
def o_Mo_met_at_g4_30 : or_T := (258, 20, [(0, (2, 0, 0, [165])), (1, (0, 0, 7, [])), (2, (0, 0, 23, [])), (3, (0, 0, 2000, [])), (4, (0, 0, 2000, [])), (5, (0, 0, 4, [])), (6, (0, 0, 48, [])), (7, (0, 0, 1, [])), (10, (0, 0, 23, [])), (15, (0, 3, 3, [])), (16, (0, 0, 2000, [])), (17, (0, 0, 5, [])), (18, (0, 0, 0, []))], [(9, [18, 0], [8]), (20, [0, 15, 16], [60, 1, 1, 1026, 10, 1]), (20, [17], [61, 0, 1029]), (20, [0], [30, -1, -1, 1, 8]), (20, [17, 0, 15, 16], [50, 2, 0, 1008, 1009, 3, 15, 2, 6, 0, 2, 0, 1, 1, 0, 1, 3, 2, 1, 8, 1, 0, 2, 6, 1, 2, 1, 0, 0, 0, 2, 7, 1, 3, 2, 1, 8, 1, 2, 1, 3, 2, 1, 9, 1, 3])], [], [], [(20, [3, 0], [30, 0, 1, 0, 0, -1, 1, 11]), (20, [0, 3], [50, 3, 0, 8, 12, 11, 3, 7, 0, 2, 0, 1, 2, 0, 8, 3, 7, 1, 3, 2, 0, 12, 0, 0, 0, 6, 4, 2, 1, 1, 0, 1, 2, 0, 11]), (20, [0, 4], [50, 2, 0, 8, 11, 3, 7, 0, 2, 0, 1, 2, 0, 8, 0, 6, 4, 2, 1, 1, 0, 1, 2, 0, 11]), (20, [0, 10], [31, 1, -1, -1, 1, 8, 0, -1, 0, 0]), (20, [0, 2], [50, 2, 1, 8, 5, 2, 3, 7, 0, 2, 0, 1, 2, 0, 8, 3, 6, 0, 2, 1, 1, 0, -1, 0, 10, 3, 0, 2, 4, 3, 2, 0, 5, 0, 1, 0, 47]), (20, [0, 2, 10], [60, 2, 1, 240, 5, 8, 2]), (20, [0, 10, 6, 2, 7, 1, 5], [60, 9, 2, 1011, 10, 11, 12, 13, 14, 15, 8, 9, 5, 1, 2])], [], [])
theorem oo_Mo_met_at_g4_30 {kA : Nat → ClassId} : or_ok PRD kA GG o_Mo_met_at_g4_30 := by
  refine or_mk fun A ta ws vs hD hth hl => ?_
  intro t0 r0 t1 k1 t2 k2 t3 k3 t4 k4 t5 k5 t6 k6 t7 k7 t10 k10 t15 k15 t16 k16 t17 k17 t18 k18 f0 f6 f7 f17 f18
  replace f0 := shm_293 f0
  have g0 : v_iv (n_v vs 18) = w_fi ws (n_v vs 0) 8 := congrArg v_iv f0
  have kz_0_8 := fdq_34 hD hth r0
  have kz_0_9 := fdq_44 hD hth r0
  have kz_0_10 := fdq_43 hD hth r0
  have kz_0_11 := fdq_237 hD hth r0
  have kz_0_12 := fdq_187 hD hth r0
  have kz_0_13 := fdq_238 hD hth r0
  have kz_0_14 := fdq_188 hD hth r0
  have kz_0_15 := fdq_239 hD hth r0
  have nf0 : fc_1 PRD (20, [3, 0], [30, 0, 1, 0, 0, -1, 1, 11]) ws (vs) := ⟨nf_in hl rfl, sgq_1431 (vc_Mo_met_at_g4_30_0 (v_iv (n_v vs 3)) (v_iv (n_v vs 18)) (w_fi ws (n_v vs 0) 8) (w_fi ws (n_v vs 0) 5) (w_fi ws (n_v vs 0) 11) k3 k18 g0 (shm_305 f17) kz_0_8 kz_0_11)⟩
  have nf1 : fc_1 PRD (20, [0, 3], [50, 3, 0, 8, 12, 11, 3, 7, 0, 2, 0, 1, 2, 0, 8, 3, 7, 1, 3, 2, 0, 12, 0, 0, 0, 6, 4, 2, 1, 1, 0, 1, 2, 0, 11]) ws (vs) := ⟨nf_in hl rfl, sgq_1722 (vc_Mo_met_at_g4_30_1 (v_iv (n_v vs 3)) (v_iv (n_v vs 18)) (w_fi ws (n_v vs 0) 8) (w_fi ws (n_v vs 0) 5) (w_fi ws (n_v vs 0) 11) (w_fi ws (n_v vs 0) 12) k3 k18 g0 (shm_305 f17) kz_0_8 kz_0_11 kz_0_12)⟩
  have nf2 : fc_1 PRD (20, [0, 4], [50, 2, 0, 8, 11, 3, 7, 0, 2, 0, 1, 2, 0, 8, 0, 6, 4, 2, 1, 1, 0, 1, 2, 0, 11]) ws (vs) := ⟨nf_in hl rfl, sgq_1726 (vc_Mo_met_at_g4_30_2 (v_iv (n_v vs 4)) (v_iv (n_v vs 18)) (w_fi ws (n_v vs 0) 8) (w_fi ws (n_v vs 0) 5) (w_fi ws (n_v vs 0) 11) k4 k18 g0 (shm_305 f17) kz_0_8 kz_0_11)⟩
  have nf3 : fc_1 PRD (20, [0, 10], [31, 1, -1, -1, 1, 8, 0, -1, 0, 0]) ws (vs) := ⟨nf_in hl rfl, sgq_2117 (vc_Mo_met_at_g4_30_3 (v_iv (n_v vs 10)) (v_iv (n_v vs 18)) (w_fi ws (n_v vs 0) 8) (w_fi ws (n_v vs 0) 5) k10 k18 g0 (shm_305 f17) kz_0_8)⟩
  have nf4 : fc_1 PRD (20, [0, 2], [50, 2, 1, 8, 5, 2, 3, 7, 0, 2, 0, 1, 2, 0, 8, 3, 6, 0, 2, 1, 1, 0, -1, 0, 10, 3, 0, 2, 4, 3, 2, 0, 5, 0, 1, 0, 47]) ws (vs) := ⟨nf_in hl rfl, sgq_2118 (vc_Mo_met_at_g4_30_4 (v_iv (n_v vs 2)) (v_iv (n_v vs 18)) (w_fi ws (n_v vs 0) 8) (w_ei ws (w_ar ws (n_v vs 0) 2)) (w_fi ws (n_v vs 0) 5) k2 k18 g0 (shm_305 f17) kz_0_8)⟩
  have nf5 : fc_1 PRD (20, [0, 2, 10], [60, 2, 1, 240, 5, 8, 2]) ws (vs) := ⟨nf_in hl rfl, sgq_2119 (vc_Mo_met_at_g4_30_5 (v_iv (n_v vs 2)) (v_iv (n_v vs 10)) (v_iv (n_v vs 18)) (w_fi ws (n_v vs 0) 8) (w_ei ws (w_ar ws (n_v vs 0) 2)) (w_fi ws (n_v vs 0) 5) k2 k10 k18 g0 (shm_305 f17) kz_0_8)⟩
  have nf6 : fc_1 PRD (20, [0, 10, 6, 2, 7, 1, 5], [60, 9, 2, 1011, 10, 11, 12, 13, 14, 15, 8, 9, 5, 1, 2]) ws (vs) := ⟨nf_in hl rfl, sgq_2128 (vc_Mo_met_at_g4_30_6 (v_iv (n_v vs 1)) (v_iv (n_v vs 2)) (v_iv (n_v vs 5)) (v_iv (n_v vs 6)) (v_iv (n_v vs 7)) (v_iv (n_v vs 10)) (v_iv (n_v vs 15)) (v_iv (n_v vs 16)) (v_iv (n_v vs 17)) (v_iv (n_v vs 18)) (w_fi ws (n_v vs 0) 8) (w_ei ws (w_ar ws (n_v vs 0) 2)) (w_fi ws (n_v vs 0) 5) (w_ei ws (w_ar ws (n_v vs 0) 1)) (w_fi ws (n_v vs 0) 10) (w_fi ws (n_v vs 0) 9) (w_fi ws (n_v vs 0) 15) (w_fi ws (n_v vs 0) 11) (w_fi ws (n_v vs 0) 12) (w_fi ws (n_v vs 0) 13) (w_fi ws (n_v vs 0) 14) k1 k2 k5 k6 k7 k10 k15 k16 k17 k18 g0 (shm_1724 f6) (shm_1725 f7) (shm_306 f18) kz_0_8 kz_0_9 kz_0_10 kz_0_11 kz_0_12 kz_0_13 kz_0_14 kz_0_15)⟩
  refine ⟨(fun _ h => (by cases h)), [], trivial, ?_, (fun _ h => (by cases h))⟩
  rw [List.append_nil]
  exact List.forall_mem_cons.mpr ⟨⟨show (20 : Nat) < 100 from by decide, nf0⟩, List.forall_mem_cons.mpr ⟨⟨show (20 : Nat) < 100 from by decide, nf1⟩, List.forall_mem_cons.mpr ⟨⟨show (20 : Nat) < 100 from by decide, nf2⟩, List.forall_mem_cons.mpr ⟨⟨show (20 : Nat) < 100 from by decide, nf3⟩, List.forall_mem_cons.mpr ⟨⟨show (20 : Nat) < 100 from by decide, nf4⟩, List.forall_mem_cons.mpr ⟨⟨show (20 : Nat) < 100 from by decide, nf5⟩, List.forall_mem_cons.mpr ⟨⟨show (20 : Nat) < 100 from by decide, nf6⟩, (fun _ h => (by cases h))⟩⟩⟩⟩⟩⟩⟩
set_option maxHeartbeats 4000000 in
theorem vc_Mo_met_at_g4_31_0 (x3 : Int) (x18 : Int) (fault_0 : Int) (r_0 : Int) (pos_0 : Int) (kind_0 : Int) (k3 : 0 ≤ x3 ∧ x3 ≤ 2000) (k18 : 1 ≤ x18 ∧ x18 ≤ 5) (g2 : x18 = fault_0) (kz_0_8 : 0 ≤ fault_0 ∧ fault_0 ≤ 5) (kz_0_11 : 0 ≤ pos_0 ∧ pos_0 ≤ 2000) (kz_0_12 : 0 ≤ kind_0 ∧ kind_0 ≤ 4) : (1 ≤ fault_0) ∨ ((kind_0 = 0) ∨ ((x3 + 1) ≤ pos_0)) := by
  first
    | omega
    | (have q1 := (hE_0_2_1 (r_0 + 2) (by omega)).2 (by omega)
       have q2 := (hE_0_2_2 (r_0 + 2) (by omega)).2 (by omega)
       omega)
    | (have q1 := (hE_0_2_1 (r_0 + 1) (by omega)).2 (by omega)
       have q2 := (hE_0_2_2 (r_0 + 1) (by omega)).2 (by omega)
       omega)
    | (have q1 := (hE_0_2_1 (r_0 + 2) (by omega)).2 (by omega)
       omega)
    | (have q1 := (hE_0_2_1 (r_0 + 1) (by omega)).2 (by omega)
       omega)
    | (have q1 := (hE_0_2_1 (r_0 + 2) (by omega)).2 (by omega)
       have q2 := (hE_0_2_2 (r_0 + 2) (by omega)).2 (by omega)
       have q3 := (hE_0_2_3 (r_0 + 2) (by omega)).1 (by omega)
       omega)
    | (have q1 := (hE_0_2_1 (r_0 + 2) (by omega)).2 (by omega)
       have q2 := (hE_0_2_2 (r_0 + 2) (by omega)).2 (by omega)
       have q3 := (hE_0_2_3 (r_0 + 2) (by omega)).2 (by omega)
       omega)
set_option maxHeartbeats 4000000 in
theorem vc_Mo_met_at_g4_31_1 (x4 : Int) (x18 : Int) (fault_0 : Int) (r_0 : Int) (pos_0 : Int) (k4 : 0 ≤ x4 ∧ x4 ≤ 2000) (k18 : 1 ≤ x18 ∧ x18 ≤ 5) (g2 : x18 = fault_0) (kz_0_8 : 0 ≤ fault_0 ∧ fault_0 ≤ 5) (kz_0_11 : 0 ≤ pos_0 ∧ pos_0 ≤ 2000) : (1 ≤ fault_0) ∨ ((x4 + 1) ≤ pos_0) := by
  first
    | omega
    | (have q1 := (hE_0_2_1 (r_0 + 2) (by omega)).2 (by omega)
       have q2 := (hE_0_2_2 (r_0 + 2) (by omega)).2 (by omega)
       omega)
    | (have q1 := (hE_0_2_1 (r_0 + 1) (by omega)).2 (by omega)
       have q2 := (hE_0_2_2 (r_0 + 1) (by omega)).2 (by omega)
       omega)
    | (have q1 := (hE_0_2_1 (r_0 + 2) (by omega)).2 (by omega)
       omega)
    | (have q1 := (hE_0_2_1 (r_0 + 1) (by omega)).2 (by omega)
       omega)
    | (have q1 := (hE_0_2_1 (r_0 + 2) (by omega)).2 (by omega)
       have q2 := (hE_0_2_2 (r_0 + 2) (by omega)).2 (by omega)
       have q3 := (hE_0_2_3 (r_0 + 2) (by omega)).1 (by omega)
       omega)
    | (have q1 := (hE_0_2_1 (r_0 + 2) (by omega)).2 (by omega)
       have q2 := (hE_0_2_2 (r_0 + 2) (by omega)).2 (by omega)
       have q3 := (hE_0_2_3 (r_0 + 2) (by omega)).2 (by omega)
       omega)
set_option maxHeartbeats 4000000 in
theorem vc_Mo_met_at_g4_31_2 (x18 : Int) (x19 : Int) (fault_0 : Int) (r_0 : Int) (k18 : 1 ≤ x18 ∧ x18 ≤ 5) (k19 : (-1) ≤ x19 ∧ x19 ≤ (-1)) (g2 : x18 = fault_0) (kz_0_8 : 0 ≤ fault_0 ∧ fault_0 ≤ 5) : ((-1) * fault_0 + 0 ≤ (-1)) ∨ ((-1) * x19 + 0 ≤ 0) := by
  first
    | omega
    | (have q1 := (hE_0_2_1 (r_0 + 2) (by omega)).2 (by omega)
       have q2 := (hE_0_2_2 (r_0 + 2) (by omega)).2 (by omega)
       omega)
    | (have q1 := (hE_0_2_1 (r_0 + 1) (by omega)).2 (by omega)
       have q2 := (hE_0_2_2 (r_0 + 1) (by omega)).2 (by omega)
       omega)
    | (have q1 := (hE_0_2_1 (r_0 + 2) (by omega)).2 (by omega)
       omega)
    | (have q1 := (hE_0_2_1 (r_0 + 1) (by omega)).2 (by omega)
       omega)
    | (have q1 := (hE_0_2_1 (r_0 + 2) (by omega)).2 (by omega)
       have q2 := (hE_0_2_2 (r_0 + 2) (by omega)).2 (by omega)
       have q3 := (hE_0_2_3 (r_0 + 2) (by omega)).1 (by omega)
       omega)
    | (have q1 := (hE_0_2_1 (r_0 + 2) (by omega)).2 (by omega)
       have q2 := (hE_0_2_2 (r_0 + 2) (by omega)).2 (by omega)
       have q3 := (hE_0_2_3 (r_0 + 2) (by omega)).2 (by omega)
       omega)
set_option maxHeartbeats 4000000 in
theorem vc_Mo_met_at_g4_31_3 (x2 : Int) (x18 : Int) (fault_0 : Int) (all_0 : Int → Int) (r_0 : Int) (k2 : 0 ≤ x2 ∧ x2 ≤ 23) (k18 : 1 ≤ x18 ∧ x18 ≤ 5) (g2 : x18 = fault_0) (kz_0_8 : 0 ≤ fault_0 ∧ fault_0 ≤ 5) : (1 ≤ fault_0) ∨ ((x2 ≤ (-1)) ∨ (all_0 ((r_0 + 1)) ≤ 47)) := by
  first
    | omega
    | (have q1 := (hE_0_2_1 (r_0 + 2) (by omega)).2 (by omega)
       have q2 := (hE_0_2_2 (r_0 + 2) (by omega)).2 (by omega)
       omega)
    | (have q1 := (hE_0_2_1 (r_0 + 1) (by omega)).2 (by omega)
       have q2 := (hE_0_2_2 (r_0 + 1) (by omega)).2 (by omega)
       omega)
    | (have q1 := (hE_0_2_1 (r_0 + 2) (by omega)).2 (by omega)
       omega)
    | (have q1 := (hE_0_2_1 (r_0 + 1) (by omega)).2 (by omega)
       omega)
    | (have q1 := (hE_0_2_1 (r_0 + 2) (by omega)).2 (by omega)
       have q2 := (hE_0_2_2 (r_0 + 2) (by omega)).2 (by omega)
       have q3 := (hE_0_2_3 (r_0 + 2) (by omega)).1 (by omega)
       omega)
    | (have q1 := (hE_0_2_1 (r_0 + 2) (by omega)).2 (by omega)
       have q2 := (hE_0_2_2 (r_0 + 2) (by omega)).2 (by omega)
       have q3 := (hE_0_2_3 (r_0 + 2) (by omega)).2 (by omega)
       omega)
set_option maxHeartbeats 4000000 in
theorem vc_Mo_met_at_g4_31_4 (x2 : Int) (x18 : Int) (x19 : Int) (fault_0 : Int) (all_0 : Int → Int) (r_0 : Int) (k2 : 0 ≤ x2 ∧ x2 ≤ 23) (k18 : 1 ≤ x18 ∧ x18 ≤ 5) (k19 : (-1) ≤ x19 ∧ x19 ≤ (-1)) (g2 : x18 = fault_0) (kz_0_8 : 0 ≤ fault_0 ∧ fault_0 ≤ 5) : MET (r_0) (fault_0) (all_0) (x2) (x19) := by
  first
    | (intro q; exfalso; omega)
    | exact fun _ => ‹MEN _ _ _ _›
set_option maxHeartbeats 4000000 in
theorem vc_Mo_met_at_g4_31_5 (x1 : Int) (x2 : Int) (x5 : Int) (x6 : Int) (x7 : Int) (x15 : Int) (x16 : Int) (x17 : Int) (x18 : Int) (x19 : Int) (place_0 : Int) (fault_0 : Int) (tape_0 : Int → Int) (limit_0 : Int) (all_0 : Int → Int) (r_0 : Int) (pos_0 : Int) (from_0 : Int) (kind_0 : Int) (faultPlace_0 : Int) (value_0 : Int) (k1 : 0 ≤ x1 ∧ x1 ≤ 7) (k2 : 0 ≤ x2 ∧ x2 ≤ 23) (k5 : 0 ≤ x5 ∧ x5 ≤ 4) (k6 : 0 ≤ x6 ∧ x6 ≤ 48) (k7 : 0 ≤ x7 ∧ x7 ≤ 1) (k15 : 3 ≤ x15 ∧ x15 ≤ 3) (k16 : 0 ≤ x16 ∧ x16 ≤ 2000) (k17 : 0 ≤ x17 ∧ x17 ≤ 5) (k18 : 1 ≤ x18 ∧ x18 ≤ 5) (k19 : (-1) ≤ x19 ∧ x19 ≤ (-1)) (g0 : x16 = place_0) (g2 : x18 = fault_0) (f3 : FSX (limit_0) (tape_0) (x15) (x16)) (f4 : ZH0 (x17)) (f22 : ((1 ≤ x17) ∧ (fault_0 = x17)) ∨ ((x17 = 0) ∧ ((fault_0 = x15) ∧ (faultPlace_0 = x16)))) (kz_0_8 : 0 ≤ fault_0 ∧ fault_0 ≤ 5) (kz_0_9 : 0 ≤ faultPlace_0 ∧ faultPlace_0 ≤ 2000) (kz_0_10 : 0 ≤ limit_0 ∧ limit_0 ≤ 2000) (kz_0_11 : 0 ≤ pos_0 ∧ pos_0 ≤ 2000) (kz_0_12 : 0 ≤ kind_0 ∧ kind_0 ≤ 4) (kz_0_13 : 0 ≤ place_0 ∧ place_0 ≤ 2000) (kz_0_14 : (-49) ≤ value_0 ∧ value_0 ≤ 1048575) (kz_0_15 : 0 ≤ from_0 ∧ from_0 ≤ 2000) : zOP8 (limit_0) (pos_0) (kind_0) (place_0) (value_0) (from_0) (fault_0) (faultPlace_0) (r_0) (tape_0) (all_0) (x19) (x6) (x2) (x7) (x1) (x5) := by
  first | subst g0 | skip
  first | subst g2 | skip
  first
    | (exfalso; have h := (rsq_0 ‹zRS4 _ _ _ _ _ _ _ _ _ _ _ _ _ _ _›).1; omega)
    | (refine Or.inl (fs_w ?_ ?_ (by assumption)) <;> assumption)
    | exact Or.inr (rsq_of ‹zTP8 _ _ _ _ _ _ _ _ _ _ _ _› ‹TKR _ _ _ _ _ _ _ _›)
    | (exfalso; omega)
def o_Mo_met_at_g4_31 : or_T := (121, 20, [(0, (2, 0, 0, [165])), (1, (0, 0, 7, [])), (2, (0, 0, 23, [])), (3, (0, 0, 2000, [])), (4, (0, 0, 2000, [])), (5, (0, 0, 4, [])), (6, (0, 0, 48, [])), (7, (0, 0, 1, [])), (15, (0, 3, 3, [])), (16, (0, 0, 2000, [])), (17, (0, 0, 5, [])), (18, (0, 1, 5, [])), (19, (0, -1, -1, []))], [(9, [16, 0], [13]), (9, [18, 0], [8]), (20, [0, 15, 16], [60, 1, 1, 1026, 10, 1]), (20, [17], [61, 0, 1029]), (20, [17, 0, 15, 16], [50, 2, 0, 1008, 1009, 3, 15, 2, 6, 0, 2, 0, 1, 1, 0, 1, 3, 2, 1, 8, 1, 0, 2, 6, 1, 2, 1, 0, 0, 0, 2, 7, 1, 3, 2, 1, 8, 1, 2, 1, 3, 2, 1, 9, 1, 3])], [], [], [(20, [0, 3], [50, 3, 0, 8, 12, 11, 3, 7, 0, 2, 0, 1, 2, 0, 8, 3, 7, 1, 3, 2, 0, 12, 0, 0, 0, 6, 4, 2, 1, 1, 0, 1, 2, 0, 11]), (20, [0, 4], [50, 2, 0, 8, 11, 3, 7, 0, 2, 0, 1, 2, 0, 8, 0, 6, 4, 2, 1, 1, 0, 1, 2, 0, 11]), (20, [0, 19], [31, 1, -1, -1, 1, 8, 0, -1, 0, 0]), (20, [0, 2], [50, 2, 1, 8, 5, 2, 3, 7, 0, 2, 0, 1, 2, 0, 8, 3, 6, 0, 2, 1, 1, 0, -1, 0, 10, 3, 0, 2, 4, 3, 2, 0, 5, 0, 1, 0, 47]), (20, [0, 2, 19], [60, 2, 1, 240, 5, 8, 2]), (20, [0, 19, 6, 2, 7, 1, 5], [60, 9, 2, 1011, 10, 11, 12, 13, 14, 15, 8, 9, 5, 1, 2])], [], [])
theorem oo_Mo_met_at_g4_31 {kA : Nat → ClassId} : or_ok PRD kA GG o_Mo_met_at_g4_31 := by
  refine or_mk fun A ta ws vs hD hth hl => ?_
  intro t0 r0 t1 k1 t2 k2 t3 k3 t4 k4 t5 k5 t6 k6 t7 k7 t15 k15 t16 k16 t17 k17 t18 k18 t19 k19 f0 f2 f3 f4 f22
  replace f0 := shm_361 f0
  replace f2 := shm_293 f2
  have g0 : v_iv (n_v vs 16) = w_fi ws (n_v vs 0) 13 := congrArg v_iv f0
  have g2 : v_iv (n_v vs 18) = w_fi ws (n_v vs 0) 8 := congrArg v_iv f2
  have kz_0_8 := fdq_34 hD hth r0
  have kz_0_9 := fdq_44 hD hth r0
  have kz_0_10 := fdq_43 hD hth r0
  have kz_0_11 := fdq_237 hD hth r0
  have kz_0_12 := fdq_187 hD hth r0
  have kz_0_13 := fdq_238 hD hth r0
  have kz_0_14 := fdq_188 hD hth r0
  have kz_0_15 := fdq_239 hD hth r0
  have nf0 : fc_1 PRD (20, [0, 3], [50, 3, 0, 8, 12, 11, 3, 7, 0, 2, 0, 1, 2, 0, 8, 3, 7, 1, 3, 2, 0, 12, 0, 0, 0, 6, 4, 2, 1, 1, 0, 1, 2, 0, 11]) ws (vs) := ⟨nf_in hl rfl, sgq_1722 (vc_Mo_met_at_g4_31_0 (v_iv (n_v vs 3)) (v_iv (n_v vs 18)) (w_fi ws (n_v vs 0) 8) (w_fi ws (n_v vs 0) 5) (w_fi ws (n_v vs 0) 11) (w_fi ws (n_v vs 0) 12) k3 k18 g2 kz_0_8 kz_0_11 kz_0_12)⟩
  have nf1 : fc_1 PRD (20, [0, 4], [50, 2, 0, 8, 11, 3, 7, 0, 2, 0, 1, 2, 0, 8, 0, 6, 4, 2, 1, 1, 0, 1, 2, 0, 11]) ws (vs) := ⟨nf_in hl rfl, sgq_1726 (vc_Mo_met_at_g4_31_1 (v_iv (n_v vs 4)) (v_iv (n_v vs 18)) (w_fi ws (n_v vs 0) 8) (w_fi ws (n_v vs 0) 5) (w_fi ws (n_v vs 0) 11) k4 k18 g2 kz_0_8 kz_0_11)⟩
  have nf2 : fc_1 PRD (20, [0, 19], [31, 1, -1, -1, 1, 8, 0, -1, 0, 0]) ws (vs) := ⟨nf_in hl rfl, sgq_2117 (vc_Mo_met_at_g4_31_2 (v_iv (n_v vs 18)) (v_iv (n_v vs 19)) (w_fi ws (n_v vs 0) 8) (w_fi ws (n_v vs 0) 5) k18 k19 g2 kz_0_8)⟩
  have nf3 : fc_1 PRD (20, [0, 2], [50, 2, 1, 8, 5, 2, 3, 7, 0, 2, 0, 1, 2, 0, 8, 3, 6, 0, 2, 1, 1, 0, -1, 0, 10, 3, 0, 2, 4, 3, 2, 0, 5, 0, 1, 0, 47]) ws (vs) := ⟨nf_in hl rfl, sgq_2118 (vc_Mo_met_at_g4_31_3 (v_iv (n_v vs 2)) (v_iv (n_v vs 18)) (w_fi ws (n_v vs 0) 8) (w_ei ws (w_ar ws (n_v vs 0) 2)) (w_fi ws (n_v vs 0) 5) k2 k18 g2 kz_0_8)⟩
  have nf4 : fc_1 PRD (20, [0, 2, 19], [60, 2, 1, 240, 5, 8, 2]) ws (vs) := ⟨nf_in hl rfl, sgq_2119 (vc_Mo_met_at_g4_31_4 (v_iv (n_v vs 2)) (v_iv (n_v vs 18)) (v_iv (n_v vs 19)) (w_fi ws (n_v vs 0) 8) (w_ei ws (w_ar ws (n_v vs 0) 2)) (w_fi ws (n_v vs 0) 5) k2 k18 k19 g2 kz_0_8)⟩
  have nf5 : fc_1 PRD (20, [0, 19, 6, 2, 7, 1, 5], [60, 9, 2, 1011, 10, 11, 12, 13, 14, 15, 8, 9, 5, 1, 2]) ws (vs) := ⟨nf_in hl rfl, sgq_2128 (vc_Mo_met_at_g4_31_5 (v_iv (n_v vs 1)) (v_iv (n_v vs 2)) (v_iv (n_v vs 5)) (v_iv (n_v vs 6)) (v_iv (n_v vs 7)) (v_iv (n_v vs 15)) (v_iv (n_v vs 16)) (v_iv (n_v vs 17)) (v_iv (n_v vs 18)) (v_iv (n_v vs 19)) (w_fi ws (n_v vs 0) 13) (w_fi ws (n_v vs 0) 8) (w_ei ws (w_ar ws (n_v vs 0) 1)) (w_fi ws (n_v vs 0) 10) (w_ei ws (w_ar ws (n_v vs 0) 2)) (w_fi ws (n_v vs 0) 5) (w_fi ws (n_v vs 0) 11) (w_fi ws (n_v vs 0) 15) (w_fi ws (n_v vs 0) 12) (w_fi ws (n_v vs 0) 9) (w_fi ws (n_v vs 0) 14) k1 k2 k5 k6 k7 k15 k16 k17 k18 k19 g0 g2 (shm_1724 f3) (shm_1725 f4) (shm_306 f22) kz_0_8 kz_0_9 kz_0_10 kz_0_11 kz_0_12 kz_0_13 kz_0_14 kz_0_15)⟩
  refine ⟨(fun _ h => (by cases h)), [], trivial, ?_, (fun _ h => (by cases h))⟩
  rw [List.append_nil]
  exact List.forall_mem_cons.mpr ⟨⟨show (20 : Nat) < 100 from by decide, nf0⟩, List.forall_mem_cons.mpr ⟨⟨show (20 : Nat) < 100 from by decide, nf1⟩, List.forall_mem_cons.mpr ⟨⟨show (20 : Nat) < 100 from by decide, nf2⟩, List.forall_mem_cons.mpr ⟨⟨show (20 : Nat) < 100 from by decide, nf3⟩, List.forall_mem_cons.mpr ⟨⟨show (20 : Nat) < 100 from by decide, nf4⟩, List.forall_mem_cons.mpr ⟨⟨show (20 : Nat) < 100 from by decide, nf5⟩, (fun _ h => (by cases h))⟩⟩⟩⟩⟩⟩
set_option maxHeartbeats 4000000 in
theorem vc_Mo_met_at_g4_32_0 (x1 : Int) (x2 : Int) (x5 : Int) (x6 : Int) (x7 : Int) (x8 : Int) (x9 : Int) (x10 : Int) (x11 : Int) (x13 : Int) (x14 : Int) (fault_0 : Int) (place_0 : Int) (all_0 : Int → Int) (r_0 : Int) (tape_0 : Int → Int) (pos_0 : Int) (limit_0 : Int) (from_0 : Int) (kind_0 : Int) (value_0 : Int) (gx : Int) (k1 : 0 ≤ x1 ∧ x1 ≤ 7) (k2 : 0 ≤ x2 ∧ x2 ≤ 23) (k5 : 0 ≤ x5 ∧ x5 ≤ 4) (k6 : 0 ≤ x6 ∧ x6 ≤ 48) (k7 : 0 ≤ x7 ∧ x7 ≤ 1) (k8 : 0 ≤ x8 ∧ x8 ≤ 0) (k9 : 1 ≤ x9 ∧ x9 ≤ 1) (k10 : 0 ≤ x10 ∧ x10 ≤ 23) (k11 : 0 ≤ x11 ∧ x11 ≤ 47) (k13 : 2 ≤ x13 ∧ x13 ≤ 2) (k14 : 0 ≤ x14 ∧ x14 ≤ 2000) (g0 : x8 = fault_0) (g1 : x14 = place_0) (f2 : 0 ≤ x11) (f4 : BT2 (r_0) (all_0) (x10) (x2) (x11)) (f5 : x10 ≠ x2) (f7 : 0 ≤ x10) (f9 : KNQ (pos_0) (limit_0) (from_0) (r_0) (all_0) (tape_0) (x10)) (f10 : x9 ≠ 0) (f18 : zRS4 (limit_0) (pos_0) (kind_0) (place_0) (value_0) (from_0) (fault_0) (r_0) (tape_0) (all_0) (x2) (x6) (x7) (x1) (x5)) (f21 : NMQ (kind_0) (pos_0) (limit_0) (from_0) (tape_0) (x9)) (kz_0_8 : 0 ≤ fault_0 ∧ fault_0 ≤ 5) (kz_0_10 : 0 ≤ limit_0 ∧ limit_0 ≤ 2000) (kz_0_11 : 0 ≤ pos_0 ∧ pos_0 ≤ 2000) (kz_0_12 : 0 ≤ kind_0 ∧ kind_0 ≤ 4) (kz_0_13 : 0 ≤ place_0 ∧ place_0 ≤ 2000) (kz_0_14 : (-49) ≤ value_0 ∧ value_0 ≤ 1048575) (kz_0_15 : 0 ≤ from_0 ∧ from_0 ≤ 2000) (ex2 : gx = fault_0) : FSX (limit_0) (tape_0) (x13) (x14) := by
  first | subst g0 | skip
  first | subst g1 | skip
  first | subst ex2 | skip
  first
    | exact fsx_cg (met_join ‹zRS4 _ _ _ _ _ _ _ _ _ _ _ _ _ _ _› ‹NMQ _ _ _ _ _ _› (by omega) ‹KNQ _ _ _ _ _ _ _› (by omega) (Or.inl (by omega))) (by omega) (by omega)
    | exact fsx_cg (met_join ‹zRS4 _ _ _ _ _ _ _ _ _ _ _ _ _ _ _› ‹NMQ _ _ _ _ _ _› (by omega) ‹KNQ _ _ _ _ _ _ _› (by omega) (by refine Or.inr ⟨_, ?_, ?_, ‹BT2 _ _ _ _ _›⟩ <;> omega)) (by omega) (by omega)
    | (exfalso; omega)
set_option maxHeartbeats 4000000 in
theorem vc_Mo_met_at_g4_32_1 (x8 : Int) (fault_0 : Int) (r_0 : Int) (gx : Int) (k8 : 0 ≤ x8 ∧ x8 ≤ 0) (g0 : x8 = fault_0) (kz_0_8 : 0 ≤ fault_0 ∧ fault_0 ≤ 5) (ex2 : gx = fault_0) : 1 * fault_0 + ((-1) * gx + 0) ≤ 0 := by
  first
    | omega
    | (have q1 := (hE_0_2_1 (r_0 + 2) (by omega)).2 (by omega)
       have q2 := (hE_0_2_2 (r_0 + 2) (by omega)).2 (by omega)
       omega)
    | (have q1 := (hE_0_2_1 (r_0 + 1) (by omega)).2 (by omega)
       have q2 := (hE_0_2_2 (r_0 + 1) (by omega)).2 (by omega)
       omega)
    | (have q1 := (hE_0_2_1 (r_0 + 2) (by omega)).2 (by omega)
       omega)
    | (have q1 := (hE_0_2_1 (r_0 + 1) (by omega)).2 (by omega)
       omega)
    | (have q1 := (hE_0_2_1 (r_0 + 2) (by omega)).2 (by omega)
       have q2 := (hE_0_2_2 (r_0 + 2) (by omega)).2 (by omega)
       have q3 := (hE_0_2_3 (r_0 + 2) (by omega)).1 (by omega)
       omega)
    | (have q1 := (hE_0_2_1 (r_0 + 2) (by omega)).2 (by omega)
       have q2 := (hE_0_2_2 (r_0 + 2) (by omega)).2 (by omega)
       have q3 := (hE_0_2_3 (r_0 + 2) (by omega)).2 (by omega)
       omega)
set_option maxHeartbeats 4000000 in
theorem vc_Mo_met_at_g4_32_2 (x8 : Int) (fault_0 : Int) (r_0 : Int) (gx : Int) (k8 : 0 ≤ x8 ∧ x8 ≤ 0) (g0 : x8 = fault_0) (kz_0_8 : 0 ≤ fault_0 ∧ fault_0 ≤ 5) (ex2 : gx = fault_0) : (-1) * fault_0 + (1 * gx + 0) ≤ 0 := by
  first
    | omega
    | (have q1 := (hE_0_2_1 (r_0 + 2) (by omega)).2 (by omega)
       have q2 := (hE_0_2_2 (r_0 + 2) (by omega)).2 (by omega)
       omega)
    | (have q1 := (hE_0_2_1 (r_0 + 1) (by omega)).2 (by omega)
       have q2 := (hE_0_2_2 (r_0 + 1) (by omega)).2 (by omega)
       omega)
    | (have q1 := (hE_0_2_1 (r_0 + 2) (by omega)).2 (by omega)
       omega)
    | (have q1 := (hE_0_2_1 (r_0 + 1) (by omega)).2 (by omega)
       omega)
    | (have q1 := (hE_0_2_1 (r_0 + 2) (by omega)).2 (by omega)
       have q2 := (hE_0_2_2 (r_0 + 2) (by omega)).2 (by omega)
       have q3 := (hE_0_2_3 (r_0 + 2) (by omega)).1 (by omega)
       omega)
    | (have q1 := (hE_0_2_1 (r_0 + 2) (by omega)).2 (by omega)
       have q2 := (hE_0_2_2 (r_0 + 2) (by omega)).2 (by omega)
       have q3 := (hE_0_2_3 (r_0 + 2) (by omega)).2 (by omega)
       omega)
set_option maxHeartbeats 4000000 in
theorem vc_Mo_met_at_g4_32_3 (x8 : Int) (fault_0 : Int) (gx : Int) (k8 : 0 ≤ x8 ∧ x8 ≤ 0) (g0 : x8 = fault_0) (kz_0_8 : 0 ≤ fault_0 ∧ fault_0 ≤ 5) (ex2 : gx = fault_0) : ZH0 (gx) := by
  first
    | exact ⟨by omega, by omega, trivial⟩
    | (have h := (rsq_0 (‹zRSE _ _ _ _ _ _ _ _ _ _ _ _›).1.1).1; exact ⟨by omega, by omega, trivial⟩)
    | (have h := (rsq_0 ‹zRS1 _ _ _ _ _ _ _ _ _ _ _ _›).1; exact ⟨by omega, by omega, trivial⟩)
    | (have h := (rsq_0 ‹zRS4 _ _ _ _ _ _ _ _ _ _ _ _ _ _ _›).1; exact ⟨by omega, by omega, trivial⟩)
def o_Mo_met_at_g4_32 : or_T := (72, 15, [(0, (2, 0, 0, [165])), (1, (0, 0, 7, [])), (2, (0, 0, 23, [])), (5, (0, 0, 4, [])), (6, (0, 0, 48, [])), (7, (0, 0, 1, [])), (8, (0, 0, 0, [])), (9, (0, 1, 1, [])), (10, (0, 0, 23, [])), (11, (0, 0, 47, [])), (13, (0, 2, 2, [])), (14, (0, 0, 2000, []))], [(9, [8, 0], [8]), (9, [14, 0], [13]), (8, [11], [3]), (20, [0, 10, 2, 11], [60, 1, 1, 1034, 5, 2]), (7, [10, 2], [1]), (8, [10], [3]), (20, [0, 10], [60, 4, 2, 1031, 11, 10, 15, 5, 2, 1]), (8, [9], [1]), (20, [0, 2, 6, 7, 1, 5], [60, 8, 2, 993, 10, 11, 12, 13, 14, 15, 8, 5, 1, 2]), (20, [0, 9], [60, 4, 1, 962, 12, 11, 10, 15, 1])], [], [(0, 0, 5, [])], [(20, [0, 13, 14], [60, 1, 1, 1026, 10, 1]), (20, [0, 15], [30, 0, 1, 1, 8, -1, 0, 0]), (20, [0, 15], [30, 0, -1, 1, 8, 1, 0, 0]), (20, [15], [61, 0, 1029])], [], [])
theorem oo_Mo_met_at_g4_32 {kA : Nat → ClassId} : or_ok PRD kA GG o_Mo_met_at_g4_32 := by
  refine or_mk fun A ta ws vs hD hth hl => ?_
  intro t0 r0 t1 k1 t2 k2 t5 k5 t6 k6 t7 k7 t8 k8 t9 k9 t10 k10 t11 k11 t13 k13 t14 k14 f0 f1 f2 f4 f5 f7 f9 f10 f18 f21
  replace f0 := shm_293 f0
  replace f1 := shm_361 f1
  replace f2 := shm_32 f2
  replace f4 := shm_1420 f4
  replace f5 := shm_40 f5
  replace f7 := shm_32 f7
  replace f9 := shm_1233 f9
  replace f10 := shm_142 f10
  replace f18 := shm_2126 f18
  replace f21 := shm_1889 f21
  have g0 : v_iv (n_v vs 8) = w_fi ws (n_v vs 0) 8 := congrArg v_iv f0
  have g1 : v_iv (n_v vs 14) = w_fi ws (n_v vs 0) 13 := congrArg v_iv f1
  have kz_0_8 := fdq_34 hD hth r0
  have kz_0_10 := fdq_43 hD hth r0
  have kz_0_11 := fdq_237 hD hth r0
  have kz_0_12 := fdq_187 hD hth r0
  have kz_0_13 := fdq_238 hD hth r0
  have kz_0_14 := fdq_188 hD hth r0
  have kz_0_15 := fdq_239 hD hth r0
  obtain ⟨x, ex, hx⟩ := iv_ex (ta := ta) (lo := 0) (hi := 5) (z := w_fi ws (n_v vs 0) 8) (by omega) (by omega) (by omega) (by omega)
  have ex2 : v_iv (Value.int x) = w_fi ws (n_v vs 0) 8 := ex
  have ex3 : 0 ≤ v_iv (Value.int x) ∧ v_iv (Value.int x) ≤ 5 := tv_rng hx
  have e_0 : n_v (vs ++ [Value.int x]) 0 = n_v vs 0 := n_v_old (by rw [hl]; decide)
  have e_13 : n_v (vs ++ [Value.int x]) 13 = n_v vs 13 := n_v_old (by rw [hl]; decide)
  have e_14 : n_v (vs ++ [Value.int x]) 14 = n_v vs 14 := n_v_old (by rw [hl]; decide)
  have e_15 : n_v (vs ++ [Value.int x]) 15 = Value.int x := n_v_new hl
  have nf0 : fc_1 PRD (20, [0, 13, 14], [60, 1, 1, 1026, 10, 1]) ws (vs ++ [Value.int x]) := by
    refine ⟨nf_inA hl rfl, sgq_1724 ?_⟩
    · show FSX (w_fi ws (n_v (vs ++ [Value.int x]) 0) 10) (w_ei ws (w_ar ws (n_v (vs ++ [Value.int x]) 0) 1)) (v_iv (n_v (vs ++ [Value.int x]) 13)) (v_iv (n_v (vs ++ [Value.int x]) 14))
      simp only [e_0, e_13, e_14]
      exact vc_Mo_met_at_g4_32_0 (v_iv (n_v vs 1)) (v_iv (n_v vs 2)) (v_iv (n_v vs 5)) (v_iv (n_v vs 6)) (v_iv (n_v vs 7)) (v_iv (n_v vs 8)) (v_iv (n_v vs 9)) (v_iv (n_v vs 10)) (v_iv (n_v vs 11)) (v_iv (n_v vs 13)) (v_iv (n_v vs 14)) (w_fi ws (n_v vs 0) 8) (w_fi ws (n_v vs 0) 13) (w_ei ws (w_ar ws (n_v vs 0) 2)) (w_fi ws (n_v vs 0) 5) (w_ei ws (w_ar ws (n_v vs 0) 1)) (w_fi ws (n_v vs 0) 11) (w_fi ws (n_v vs 0) 10) (w_fi ws (n_v vs 0) 15) (w_fi ws (n_v vs 0) 12) (w_fi ws (n_v vs 0) 14) (v_iv (Value.int x)) k1 k2 k5 k6 k7 k8 k9 k10 k11 k13 k14 g0 g1 f2 f4 f5 f7 f9 f10 f18 f21 kz_0_8 kz_0_10 kz_0_11 kz_0_12 kz_0_13 kz_0_14 kz_0_15 ex2
  have nf1 : fc_1 PRD (20, [0, 15], [30, 0, 1, 1, 8, -1, 0, 0]) ws (vs ++ [Value.int x]) := by
    refine ⟨nf_inA hl rfl, sgq_303 ?_⟩
    · show 1 * w_fi ws (n_v (vs ++ [Value.int x]) 0) 8 + ((-1) * v_iv (n_v (vs ++ [Value.int x]) 15) + 0) ≤ 0
      simp only [e_0, e_15]
      exact vc_Mo_met_at_g4_32_1 (v_iv (n_v vs 8)) (w_fi ws (n_v vs 0) 8) (w_fi ws (n_v vs 0) 5) (v_iv (Value.int x)) k8 g0 kz_0_8 ex2
  have nf2 : fc_1 PRD (20, [0, 15], [30, 0, -1, 1, 8, 1, 0, 0]) ws (vs ++ [Value.int x]) := by
    refine ⟨nf_inA hl rfl, sgq_304 ?_⟩
    · show (-1) * w_fi ws (n_v (vs ++ [Value.int x]) 0) 8 + (1 * v_iv (n_v (vs ++ [Value.int x]) 15) + 0) ≤ 0
      simp only [e_0, e_15]
      exact vc_Mo_met_at_g4_32_2 (v_iv (n_v vs 8)) (w_fi ws (n_v vs 0) 8) (w_fi ws (n_v vs 0) 5) (v_iv (Value.int x)) k8 g0 kz_0_8 ex2
  have nf3 : fc_1 PRD (20, [15], [61, 0, 1029]) ws (vs ++ [Value.int x]) := by
    refine ⟨nf_inA hl rfl, sgq_1725 ?_⟩
    · show ZH0 (v_iv (n_v (vs ++ [Value.int x]) 15))
      rw [e_15]
      exact vc_Mo_met_at_g4_32_3 (v_iv (n_v vs 8)) (w_fi ws (n_v vs 0) 8) (v_iv (Value.int x)) k8 g0 kz_0_8 ex2
  exact ⟨(fun _ h => (by cases h)), [Value.int x], ag_one hx, List.forall_mem_cons.mpr ⟨⟨show (20 : Nat) < 100 from by decide, nf0⟩, List.forall_mem_cons.mpr ⟨⟨show (20 : Nat) < 100 from by decide, nf1⟩, List.forall_mem_cons.mpr ⟨⟨show (20 : Nat) < 100 from by decide, nf2⟩, List.forall_mem_cons.mpr ⟨⟨show (20 : Nat) < 100 from by decide, nf3⟩, (fun _ h => (by cases h))⟩⟩⟩⟩, (fun _ h => (by cases h))⟩
set_option maxHeartbeats 4000000 in
theorem vc_Mo_met_at_g4_33_0 (x2 : Int) (x16 : Int) (fault_0 : Int) (all_0 : Int → Int) (r_0 : Int) (k2 : 0 ≤ x2 ∧ x2 ≤ 23) (k16 : 0 ≤ x16 ∧ x16 ≤ 0) (g3 : x16 = fault_0) (f20 : (-1) * fault_0 + 0 ≤ (-1)) (kz_0_8 : 0 ≤ fault_0 ∧ fault_0 ≤ 5) : (x2 ≤ (-1)) ∨ (all_0 ((r_0 + 1)) ≤ 47) := by
  first
    | omega
    | (have q1 := (hE_0_2_1 (r_0 + 2) (by omega)).2 (by omega)
       have q2 := (hE_0_2_2 (r_0 + 2) (by omega)).2 (by omega)
       omega)
    | (have q1 := (hE_0_2_1 (r_0 + 1) (by omega)).2 (by omega)
       have q2 := (hE_0_2_2 (r_0 + 1) (by omega)).2 (by omega)
       omega)
    | (have q1 := (hE_0_2_1 (r_0 + 2) (by omega)).2 (by omega)
       omega)
    | (have q1 := (hE_0_2_1 (r_0 + 1) (by omega)).2 (by omega)
       omega)
    | (have q1 := (hE_0_2_1 (r_0 + 2) (by omega)).2 (by omega)
       have q2 := (hE_0_2_2 (r_0 + 2) (by omega)).2 (by omega)
       have q3 := (hE_0_2_3 (r_0 + 2) (by omega)).1 (by omega)
       omega)
    | (have q1 := (hE_0_2_1 (r_0 + 2) (by omega)).2 (by omega)
       have q2 := (hE_0_2_2 (r_0 + 2) (by omega)).2 (by omega)
       have q3 := (hE_0_2_3 (r_0 + 2) (by omega)).2 (by omega)
       omega)
set_option maxHeartbeats 4000000 in
theorem vc_Mo_met_at_g4_33_1 (x2 : Int) (x10 : Int) (x16 : Int) (fault_0 : Int) (all_0 : Int → Int) (r_0 : Int) (k2 : 0 ≤ x2 ∧ x2 ≤ 23) (k10 : 0 ≤ x10 ∧ x10 ≤ 23) (k16 : 0 ≤ x16 ∧ x16 ≤ 0) (g3 : x16 = fault_0) (f20 : (-1) * fault_0 + 0 ≤ (-1)) (kz_0_8 : 0 ≤ fault_0 ∧ fault_0 ≤ 5) : MEN (r_0) (all_0) (x2) (x10) := by
  try simp only [Int.add_zero] at *
  first
    | (exfalso; omega)
set_option maxHeartbeats 4000000 in
theorem vc_Mo_met_at_g4_33_2 (x16 : Int) (fault_0 : Int) (r_0 : Int) (pos_0 : Int) (gx : Int) (k16 : 0 ≤ x16 ∧ x16 ≤ 0) (g3 : x16 = fault_0) (f20 : (-1) * fault_0 + 0 ≤ (-1)) (kz_0_8 : 0 ≤ fault_0 ∧ fault_0 ≤ 5) (kz_0_11 : 0 ≤ pos_0 ∧ pos_0 ≤ 2000) : 1 * gx + ((-1) * pos_0 + 0) ≤ 0 := by
  first
    | omega
    | (have q1 := (hE_0_2_1 (r_0 + 2) (by omega)).2 (by omega)
       have q2 := (hE_0_2_2 (r_0 + 2) (by omega)).2 (by omega)
       omega)
    | (have q1 := (hE_0_2_1 (r_0 + 1) (by omega)).2 (by omega)
       have q2 := (hE_0_2_2 (r_0 + 1) (by omega)).2 (by omega)
       omega)
    | (have q1 := (hE_0_2_1 (r_0 + 2) (by omega)).2 (by omega)
       omega)
    | (have q1 := (hE_0_2_1 (r_0 + 1) (by omega)).2 (by omega)
       omega)
    | (have q1 := (hE_0_2_1 (r_0 + 2) (by omega)).2 (by omega)
       have q2 := (hE_0_2_2 (r_0 + 2) (by omega)).2 (by omega)
       have q3 := (hE_0_2_3 (r_0 + 2) (by omega)).1 (by omega)
       omega)
    | (have q1 := (hE_0_2_1 (r_0 + 2) (by omega)).2 (by omega)
       have q2 := (hE_0_2_2 (r_0 + 2) (by omega)).2 (by omega)
       have q3 := (hE_0_2_3 (r_0 + 2) (by omega)).2 (by omega)
       omega)
set_option maxHeartbeats 4000000 in
theorem vc_Mo_met_at_g4_33_3 (r_0 : Int) (pos_0 : Int) (gx : Int) (kz_0_11 : 0 ≤ pos_0 ∧ pos_0 ≤ 2000) (ex2 : gx = pos_0) : gx = pos_0 := by
  first
    | omega
    | (have q1 := (hE_0_2_1 (r_0 + 2) (by omega)).2 (by omega)
       have q2 := (hE_0_2_2 (r_0 + 2) (by omega)).2 (by omega)
       omega)
    | (have q1 := (hE_0_2_1 (r_0 + 1) (by omega)).2 (by omega)
       have q2 := (hE_0_2_2 (r_0 + 1) (by omega)).2 (by omega)
       omega)
    | (have q1 := (hE_0_2_1 (r_0 + 2) (by omega)).2 (by omega)
       omega)
    | (have q1 := (hE_0_2_1 (r_0 + 1) (by omega)).2 (by omega)
       omega)
    | (have q1 := (hE_0_2_1 (r_0 + 2) (by omega)).2 (by omega)
       have q2 := (hE_0_2_2 (r_0 + 2) (by omega)).2 (by omega)
       have q3 := (hE_0_2_3 (r_0 + 2) (by omega)).1 (by omega)
       omega)
    | (have q1 := (hE_0_2_1 (r_0 + 2) (by omega)).2 (by omega)
       have q2 := (hE_0_2_2 (r_0 + 2) (by omega)).2 (by omega)
       have q3 := (hE_0_2_3 (r_0 + 2) (by omega)).2 (by omega)
       omega)
set_option maxHeartbeats 4000000 in
theorem vc_Mo_met_at_g4_33_4 (x16 : Int) (fault_0 : Int) (limit_0 : Int) (pos_0 : Int) (k16 : 0 ≤ x16 ∧ x16 ≤ 0) (g3 : x16 = fault_0) (f20 : (-1) * fault_0 + 0 ≤ (-1)) (kz_0_8 : 0 ≤ fault_0 ∧ fault_0 ≤ 5) (kz_0_10 : 0 ≤ limit_0 ∧ limit_0 ≤ 2000) (kz_0_11 : 0 ≤ pos_0 ∧ pos_0 ≤ 2000) : ZLM (limit_0) (pos_0) := by
  first
    | exact zlm_r (‹zMN0 _ _ _ _ _ _ _ _ _ _ _ _ _ _›).1
    | exact zlm_r (‹zMN1 _ _ _ _ _ _ _ _ _ _ _ _ _ _›).1
    | exact zlm_r (‹zMN4 _ _ _ _ _ _ _ _ _ _ _ _ _ _ _ _ _›).1
    | exact zlm_r (‹zRSE _ _ _ _ _ _ _ _ _ _ _ _›).1.1
    | exact zlm_r ‹zRS1 _ _ _ _ _ _ _ _ _ _ _ _›
    | exact zlm_r ‹zRS4 _ _ _ _ _ _ _ _ _ _ _ _ _ _ _›
    | (exfalso; omega)
set_option maxHeartbeats 4000000 in
theorem vc_Mo_met_at_g4_33_5 (x3 : Int) (x16 : Int) (fault_0 : Int) (r_0 : Int) (gx : Int) (k3 : 0 ≤ x3 ∧ x3 ≤ 2000) (k16 : 0 ≤ x16 ∧ x16 ≤ 0) (g3 : x16 = fault_0) (f20 : (-1) * fault_0 + 0 ≤ (-1)) (kz_0_8 : 0 ≤ fault_0 ∧ fault_0 ≤ 5) : 1 * x3 + ((-1) * gx + 0) ≤ 0 := by
  first
    | omega
    | (have q1 := (hE_0_2_1 (r_0 + 2) (by omega)).2 (by omega)
       have q2 := (hE_0_2_2 (r_0 + 2) (by omega)).2 (by omega)
       omega)
    | (have q1 := (hE_0_2_1 (r_0 + 1) (by omega)).2 (by omega)
       have q2 := (hE_0_2_2 (r_0 + 1) (by omega)).2 (by omega)
       omega)
    | (have q1 := (hE_0_2_1 (r_0 + 2) (by omega)).2 (by omega)
       omega)
    | (have q1 := (hE_0_2_1 (r_0 + 1) (by omega)).2 (by omega)
       omega)
    | (have q1 := (hE_0_2_1 (r_0 + 2) (by omega)).2 (by omega)
       have q2 := (hE_0_2_2 (r_0 + 2) (by omega)).2 (by omega)
       have q3 := (hE_0_2_3 (r_0 + 2) (by omega)).1 (by omega)
       omega)
    | (have q1 := (hE_0_2_1 (r_0 + 2) (by omega)).2 (by omega)
       have q2 := (hE_0_2_2 (r_0 + 2) (by omega)).2 (by omega)
       have q3 := (hE_0_2_3 (r_0 + 2) (by omega)).2 (by omega)
       omega)
set_option maxHeartbeats 4000000 in
theorem vc_Mo_met_at_g4_33_6 (x4 : Int) (x16 : Int) (fault_0 : Int) (r_0 : Int) (gx : Int) (k4 : 0 ≤ x4 ∧ x4 ≤ 2000) (k16 : 0 ≤ x16 ∧ x16 ≤ 0) (g3 : x16 = fault_0) (f20 : (-1) * fault_0 + 0 ≤ (-1)) (kz_0_8 : 0 ≤ fault_0 ∧ fault_0 ≤ 5) : 1 * x4 + ((-1) * gx + 0) ≤ (-1) := by
  first
    | omega
    | (have q1 := (hE_0_2_1 (r_0 + 2) (by omega)).2 (by omega)
       have q2 := (hE_0_2_2 (r_0 + 2) (by omega)).2 (by omega)
       omega)
    | (have q1 := (hE_0_2_1 (r_0 + 1) (by omega)).2 (by omega)
       have q2 := (hE_0_2_2 (r_0 + 1) (by omega)).2 (by omega)
       omega)
    | (have q1 := (hE_0_2_1 (r_0 + 2) (by omega)).2 (by omega)
       omega)
    | (have q1 := (hE_0_2_1 (r_0 + 1) (by omega)).2 (by omega)
       omega)
    | (have q1 := (hE_0_2_1 (r_0 + 2) (by omega)).2 (by omega)
       have q2 := (hE_0_2_2 (r_0 + 2) (by omega)).2 (by omega)
       have q3 := (hE_0_2_3 (r_0 + 2) (by omega)).1 (by omega)
       omega)
    | (have q1 := (hE_0_2_1 (r_0 + 2) (by omega)).2 (by omega)
       have q2 := (hE_0_2_2 (r_0 + 2) (by omega)).2 (by omega)
       have q3 := (hE_0_2_3 (r_0 + 2) (by omega)).2 (by omega)
       omega)
set_option maxHeartbeats 4000000 in
theorem vc_Mo_met_at_g4_33_7 (x1 : Int) (x2 : Int) (x5 : Int) (x6 : Int) (x7 : Int) (x10 : Int) (x14 : Int) (x16 : Int) (place_0 : Int) (fault_0 : Int) (tape_0 : Int → Int) (limit_0 : Int) (all_0 : Int → Int) (r_0 : Int) (pos_0 : Int) (gx : Int) (k1 : 0 ≤ x1 ∧ x1 ≤ 7) (k2 : 0 ≤ x2 ∧ x2 ≤ 23) (k5 : 0 ≤ x5 ∧ x5 ≤ 4) (k6 : 0 ≤ x6 ∧ x6 ≤ 48) (k7 : 0 ≤ x7 ∧ x7 ≤ 1) (k10 : 0 ≤ x10 ∧ x10 ≤ 23) (k14 : 0 ≤ x14 ∧ x14 ≤ 2000) (k16 : 0 ≤ x16 ∧ x16 ≤ 0) (g0 : x14 = place_0) (g3 : x16 = fault_0) (f20 : (-1) * fault_0 + 0 ≤ (-1)) (kz_0_8 : 0 ≤ fault_0 ∧ fault_0 ≤ 5) (kz_0_10 : 0 ≤ limit_0 ∧ limit_0 ≤ 2000) (kz_0_11 : 0 ≤ pos_0 ∧ pos_0 ≤ 2000) (kz_0_13 : 0 ≤ place_0 ∧ place_0 ≤ 2000) (ex2 : gx = pos_0) : zTP8 (limit_0) (fault_0) (r_0) (tape_0) (all_0) (x10) (x6) (x2) (x7) (x1) (x5) (gx) := by
  first | subst g0 | skip
  first | subst g3 | skip
  first | subst ex2 | skip
  first
    | exact mn_end4 ‹zMN4 _ _ _ _ _ _ _ _ _ _ _ _ _ _ _ _ _› (by omega) (by omega) (by assumption) (by assumption) (by omega) (by omega) (by omega) (by omega) (by omega)
    | exact met_old4 ‹zRS4 _ _ _ _ _ _ _ _ _ _ _ _ _ _ _› ‹NMQ _ _ _ _ _ _› (by omega) ‹KNQ _ _ _ _ _ _ _› (by omega) (Or.inr ⟨by omega, _, by omega, ‹BT2 _ _ _ _ _›⟩) (by omega) (by omega)
    | (exfalso; omega)
def o_Mo_met_at_g4_33 : or_T := (254, 17, [(0, (2, 0, 0, [165])), (1, (0, 0, 7, [])), (2, (0, 0, 23, [])), (3, (0, 0, 2000, [])), (4, (0, 0, 2000, [])), (5, (0, 0, 4, [])), (6, (0, 0, 48, [])), (7, (0, 0, 1, [])), (10, (0, 0, 23, [])), (14, (0, 0, 2000, [])), (16, (0, 0, 0, []))], [(9, [14, 0], [13]), (9, [16, 0], [8]), (20, [0], [30, -1, -1, 1, 8])], [], [(0, 0, 2000, [])], [(20, [2, 0], [50, 1, 1, 1005, 1002, 3, 6, 0, 2, 1, 0, 0, -1, 0, 10, 3, 1, 2, 4, 3, 2, 1, 5, 0, 1, 0, 47]), (20, [0, 2, 10], [60, 1, 1, 243, 5, 2]), (20, [17, 0], [30, 0, 1, 0, 0, -1, 1, 11]), (20, [17, 0], [50, 1, 0, 1011, 1, 2, 1, 0, 2, 1, 11]), (20, [0], [60, 2, 0, 947, 10, 11]), (23, [3, 17], [0, 1, -1]), (23, [4, 17], [-1, 1, -1]), (20, [0, 10, 6, 2, 7, 1, 5, 17], [60, 3, 2, 979, 10, 8, 5, 1, 2])], [], [])
theorem oo_Mo_met_at_g4_33 {kA : Nat → ClassId} : or_ok PRD kA GG o_Mo_met_at_g4_33 := by
  refine or_mk fun A ta ws vs hD hth hl => ?_
  intro t0 r0 t1 k1 t2 k2 t3 k3 t4 k4 t5 k5 t6 k6 t7 k7 t10 k10 t14 k14 t16 k16 f0 f3 f20
  replace f0 := shm_361 f0
  replace f3 := shm_293 f3
  replace f20 := shm_305 f20
  have g0 : v_iv (n_v vs 14) = w_fi ws (n_v vs 0) 13 := congrArg v_iv f0
  have g3 : v_iv (n_v vs 16) = w_fi ws (n_v vs 0) 8 := congrArg v_iv f3
  have kz_0_8 := fdq_34 hD hth r0
  have kz_0_10 := fdq_43 hD hth r0
  have kz_0_11 := fdq_237 hD hth r0
  have kz_0_13 := fdq_238 hD hth r0
  obtain ⟨x, ex, hx⟩ := iv_ex (ta := ta) (lo := 0) (hi := 2000) (z := w_fi ws (n_v vs 0) 11) (by omega) (by omega) (by omega) (by omega)
  have ex2 : v_iv (Value.int x) = w_fi ws (n_v vs 0) 11 := ex
  have ex3 : 0 ≤ v_iv (Value.int x) ∧ v_iv (Value.int x) ≤ 2000 := tv_rng hx
  have e_0 : n_v (vs ++ [Value.int x]) 0 = n_v vs 0 := n_v_old (by rw [hl]; decide)
  have e_1 : n_v (vs ++ [Value.int x]) 1 = n_v vs 1 := n_v_old (by rw [hl]; decide)
  have e_2 : n_v (vs ++ [Value.int x]) 2 = n_v vs 2 := n_v_old (by rw [hl]; decide)
  have e_3 : n_v (vs ++ [Value.int x]) 3 = n_v vs 3 := n_v_old (by rw [hl]; decide)
  have e_4 : n_v (vs ++ [Value.int x]) 4 = n_v vs 4 := n_v_old (by rw [hl]; decide)
  have e_5 : n_v (vs ++ [Value.int x]) 5 = n_v vs 5 := n_v_old (by rw [hl]; decide)
  have e_6 : n_v (vs ++ [Value.int x]) 6 = n_v vs 6 := n_v_old (by rw [hl]; decide)
  have e_7 : n_v (vs ++ [Value.int x]) 7 = n_v vs 7 := n_v_old (by rw [hl]; decide)
  have e_10 : n_v (vs ++ [Value.int x]) 10 = n_v vs 10 := n_v_old (by rw [hl]; decide)
  have e_17 : n_v (vs ++ [Value.int x]) 17 = Value.int x := n_v_new hl
  have nf0 : fc_1 PRD (20, [2, 0], [50, 1, 1, 1005, 1002, 3, 6, 0, 2, 1, 0, 0, -1, 0, 10, 3, 1, 2, 4, 3, 2, 1, 5, 0, 1, 0, 47]) ws (vs ++ [Value.int x]) := by
    refine ⟨nf_inA hl rfl, sgq_2114 ?_⟩
    · show (v_iv (n_v (vs ++ [Value.int x]) 2) ≤ (-1)) ∨ (w_ei ws (w_ar ws (n_v (vs ++ [Value.int x]) 0) 2) ((w_fi ws (n_v (vs ++ [Value.int x]) 0) 5 + 1)) ≤ 47)
      simp only [e_0, e_2]
      exact vc_Mo_met_at_g4_33_0 (v_iv (n_v vs 2)) (v_iv (n_v vs 16)) (w_fi ws (n_v vs 0) 8) (w_ei ws (w_ar ws (n_v vs 0) 2)) (w_fi ws (n_v vs 0) 5) k2 k16 g3 f20 kz_0_8
  have nf1 : fc_1 PRD (20, [0, 2, 10], [60, 1, 1, 243, 5, 2]) ws (vs ++ [Value.int x]) := by
    refine ⟨nf_inA hl rfl, sgq_2115 ?_⟩
    · show MEN (w_fi ws (n_v (vs ++ [Value.int x]) 0) 5) (w_ei ws (w_ar ws (n_v (vs ++ [Value.int x]) 0) 2)) (v_iv (n_v (vs ++ [Value.int x]) 2)) (v_iv (n_v (vs ++ [Value.int x]) 10))
      simp only [e_0, e_2, e_10]
      exact vc_Mo_met_at_g4_33_1 (v_iv (n_v vs 2)) (v_iv (n_v vs 10)) (v_iv (n_v vs 16)) (w_fi ws (n_v vs 0) 8) (w_ei ws (w_ar ws (n_v vs 0) 2)) (w_fi ws (n_v vs 0) 5) k2 k10 k16 g3 f20 kz_0_8
  have nf2 : fc_1 PRD (20, [17, 0], [30, 0, 1, 0, 0, -1, 1, 11]) ws (vs ++ [Value.int x]) := by
    refine ⟨nf_inA hl rfl, sgq_1431 ?_⟩
    · show 1 * v_iv (n_v (vs ++ [Value.int x]) 17) + ((-1) * w_fi ws (n_v (vs ++ [Value.int x]) 0) 11 + 0) ≤ 0
      simp only [e_0, e_17]
      exact vc_Mo_met_at_g4_33_2 (v_iv (n_v vs 16)) (w_fi ws (n_v vs 0) 8) (w_fi ws (n_v vs 0) 5) (w_fi ws (n_v vs 0) 11) (v_iv (Value.int x)) k16 g3 f20 kz_0_8 kz_0_11
  have nf3 : fc_1 PRD (20, [17, 0], [50, 1, 0, 1011, 1, 2, 1, 0, 2, 1, 11]) ws (vs ++ [Value.int x]) := by
    refine ⟨nf_inA hl rfl, sgq_1432 ?_⟩
    · show v_iv (n_v (vs ++ [Value.int x]) 17) = w_fi ws (n_v (vs ++ [Value.int x]) 0) 11
      simp only [e_0, e_17]
      exact vc_Mo_met_at_g4_33_3 (w_fi ws (n_v vs 0) 5) (w_fi ws (n_v vs 0) 11) (v_iv (Value.int x)) kz_0_11 ex2
  have nf4 : fc_1 PRD (20, [0], [60, 2, 0, 947, 10, 11]) ws (vs ++ [Value.int x]) := by
    refine ⟨nf_inA hl rfl, sgq_1433 ?_⟩
    · show ZLM (w_fi ws (n_v (vs ++ [Value.int x]) 0) 10) (w_fi ws (n_v (vs ++ [Value.int x]) 0) 11)
      rw [e_0]
      exact vc_Mo_met_at_g4_33_4 (v_iv (n_v vs 16)) (w_fi ws (n_v vs 0) 8) (w_fi ws (n_v vs 0) 10) (w_fi ws (n_v vs 0) 11) k16 g3 f20 kz_0_8 kz_0_10 kz_0_11
  have nf5 : fc_1 PRD (23, [3, 17], [0, 1, -1]) ws (vs ++ [Value.int x]) := by
    refine ⟨nf_inA hl rfl, sgq_7 ?_⟩
    · show 1 * v_iv (n_v (vs ++ [Value.int x]) 3) + ((-1) * v_iv (n_v (vs ++ [Value.int x]) 17) + 0) ≤ 0
      simp only [e_3, e_17]
      exact vc_Mo_met_at_g4_33_5 (v_iv (n_v vs 3)) (v_iv (n_v vs 16)) (w_fi ws (n_v vs 0) 8) (w_fi ws (n_v vs 0) 5) (v_iv (Value.int x)) k3 k16 g3 f20 kz_0_8
  have nf6 : fc_1 PRD (23, [4, 17], [-1, 1, -1]) ws (vs ++ [Value.int x]) := by
    refine ⟨nf_inA hl rfl, sgq_193 ?_⟩
    · show 1 * v_iv (n_v (vs ++ [Value.int x]) 4) + ((-1) * v_iv (n_v (vs ++ [Value.int x]) 17) + 0) ≤ (-1)
      simp only [e_4, e_17]
      exact vc_Mo_met_at_g4_33_6 (v_iv (n_v vs 4)) (v_iv (n_v vs 16)) (w_fi ws (n_v vs 0) 8) (w_fi ws (n_v vs 0) 5) (v_iv (Value.int x)) k4 k16 g3 f20 kz_0_8
  have nf7 : fc_1 PRD (20, [0, 10, 6, 2, 7, 1, 5, 17], [60, 3, 2, 979, 10, 8, 5, 1, 2]) ws (vs ++ [Value.int x]) := by
    refine ⟨nf_inA hl rfl, sgq_2129 ?_⟩
    · show zTP8 (w_fi ws (n_v (vs ++ [Value.int x]) 0) 10) (w_fi ws (n_v (vs ++ [Value.int x]) 0) 8) (w_fi ws (n_v (vs ++ [Value.int x]) 0) 5) (w_ei ws (w_ar ws (n_v (vs ++ [Value.int x]) 0) 1)) (w_ei ws (w_ar ws (n_v (vs ++ [Value.int x]) 0) 2)) (v_iv (n_v (vs ++ [Value.int x]) 10)) (v_iv (n_v (vs ++ [Value.int x]) 6)) (v_iv (n_v (vs ++ [Value.int x]) 2)) (v_iv (n_v (vs ++ [Value.int x]) 7)) (v_iv (n_v (vs ++ [Value.int x]) 1)) (v_iv (n_v (vs ++ [Value.int x]) 5)) (v_iv (n_v (vs ++ [Value.int x]) 17))
      simp only [e_0, e_1, e_2, e_5, e_6, e_7, e_10, e_17]
      exact vc_Mo_met_at_g4_33_7 (v_iv (n_v vs 1)) (v_iv (n_v vs 2)) (v_iv (n_v vs 5)) (v_iv (n_v vs 6)) (v_iv (n_v vs 7)) (v_iv (n_v vs 10)) (v_iv (n_v vs 14)) (v_iv (n_v vs 16)) (w_fi ws (n_v vs 0) 13) (w_fi ws (n_v vs 0) 8) (w_ei ws (w_ar ws (n_v vs 0) 1)) (w_fi ws (n_v vs 0) 10) (w_ei ws (w_ar ws (n_v vs 0) 2)) (w_fi ws (n_v vs 0) 5) (w_fi ws (n_v vs 0) 11) (v_iv (Value.int x)) k1 k2 k5 k6 k7 k10 k14 k16 g0 g3 f20 kz_0_8 kz_0_10 kz_0_11 kz_0_13 ex2
  exact ⟨(fun _ h => (by cases h)), [Value.int x], ag_one hx, List.forall_mem_cons.mpr ⟨⟨show (20 : Nat) < 100 from by decide, nf0⟩, List.forall_mem_cons.mpr ⟨⟨show (20 : Nat) < 100 from by decide, nf1⟩, List.forall_mem_cons.mpr ⟨⟨show (20 : Nat) < 100 from by decide, nf2⟩, List.forall_mem_cons.mpr ⟨⟨show (20 : Nat) < 100 from by decide, nf3⟩, List.forall_mem_cons.mpr ⟨⟨show (20 : Nat) < 100 from by decide, nf4⟩, List.forall_mem_cons.mpr ⟨⟨show (23 : Nat) < 100 from by decide, nf5⟩, List.forall_mem_cons.mpr ⟨⟨show (23 : Nat) < 100 from by decide, nf6⟩, List.forall_mem_cons.mpr ⟨⟨show (20 : Nat) < 100 from by decide, nf7⟩, (fun _ h => (by cases h))⟩⟩⟩⟩⟩⟩⟩⟩, (fun _ h => (by cases h))⟩
set_option maxHeartbeats 4000000 in
theorem vc_Mo_met_at_g4_34_0 (x3 : Int) (x16 : Int) (fault_0 : Int) (r_0 : Int) (pos_0 : Int) (k3 : 0 ≤ x3 ∧ x3 ≤ 2000) (k16 : 0 ≤ x16 ∧ x16 ≤ 0) (g0 : x16 = fault_0) (f15 : (-1) * fault_0 + 0 ≤ (-1)) (kz_0_8 : 0 ≤ fault_0 ∧ fault_0 ≤ 5) (kz_0_11 : 0 ≤ pos_0 ∧ pos_0 ≤ 2000) : 1 * x3 + ((-1) * pos_0 + 0) ≤ 0 := by
  first
    | omega
    | (have q1 := (hE_0_2_1 (r_0 + 2) (by omega)).2 (by omega)
       have q2 := (hE_0_2_2 (r_0 + 2) (by omega)).2 (by omega)
       omega)
    | (have q1 := (hE_0_2_1 (r_0 + 1) (by omega)).2 (by omega)
       have q2 := (hE_0_2_2 (r_0 + 1) (by omega)).2 (by omega)
       omega)
    | (have q1 := (hE_0_2_1 (r_0 + 2) (by omega)).2 (by omega)
       omega)
    | (have q1 := (hE_0_2_1 (r_0 + 1) (by omega)).2 (by omega)
       omega)
    | (have q1 := (hE_0_2_1 (r_0 + 2) (by omega)).2 (by omega)
       have q2 := (hE_0_2_2 (r_0 + 2) (by omega)).2 (by omega)
       have q3 := (hE_0_2_3 (r_0 + 2) (by omega)).1 (by omega)
       omega)
    | (have q1 := (hE_0_2_1 (r_0 + 2) (by omega)).2 (by omega)
       have q2 := (hE_0_2_2 (r_0 + 2) (by omega)).2 (by omega)
       have q3 := (hE_0_2_3 (r_0 + 2) (by omega)).2 (by omega)
       omega)
set_option maxHeartbeats 4000000 in
theorem vc_Mo_met_at_g4_34_1 (x3 : Int) (x16 : Int) (fault_0 : Int) (r_0 : Int) (pos_0 : Int) (kind_0 : Int) (k3 : 0 ≤ x3 ∧ x3 ≤ 2000) (k16 : 0 ≤ x16 ∧ x16 ≤ 0) (g0 : x16 = fault_0) (f15 : (-1) * fault_0 + 0 ≤ (-1)) (kz_0_8 : 0 ≤ fault_0 ∧ fault_0 ≤ 5) (kz_0_11 : 0 ≤ pos_0 ∧ pos_0 ≤ 2000) (kz_0_12 : 0 ≤ kind_0 ∧ kind_0 ≤ 4) : (1 ≤ fault_0) ∨ ((kind_0 = 0) ∨ ((x3 + 1) ≤ pos_0)) := by
  first
    | omega
    | (have q1 := (hE_0_2_1 (r_0 + 2) (by omega)).2 (by omega)
       have q2 := (hE_0_2_2 (r_0 + 2) (by omega)).2 (by omega)
       omega)
    | (have q1 := (hE_0_2_1 (r_0 + 1) (by omega)).2 (by omega)
       have q2 := (hE_0_2_2 (r_0 + 1) (by omega)).2 (by omega)
       omega)
    | (have q1 := (hE_0_2_1 (r_0 + 2) (by omega)).2 (by omega)
       omega)
    | (have q1 := (hE_0_2_1 (r_0 + 1) (by omega)).2 (by omega)
       omega)
    | (have q1 := (hE_0_2_1 (r_0 + 2) (by omega)).2 (by omega)
       have q2 := (hE_0_2_2 (r_0 + 2) (by omega)).2 (by omega)
       have q3 := (hE_0_2_3 (r_0 + 2) (by omega)).1 (by omega)
       omega)
    | (have q1 := (hE_0_2_1 (r_0 + 2) (by omega)).2 (by omega)
       have q2 := (hE_0_2_2 (r_0 + 2) (by omega)).2 (by omega)
       have q3 := (hE_0_2_3 (r_0 + 2) (by omega)).2 (by omega)
       omega)
set_option maxHeartbeats 4000000 in
theorem vc_Mo_met_at_g4_34_2 (x4 : Int) (x16 : Int) (fault_0 : Int) (r_0 : Int) (pos_0 : Int) (k4 : 0 ≤ x4 ∧ x4 ≤ 2000) (k16 : 0 ≤ x16 ∧ x16 ≤ 0) (g0 : x16 = fault_0) (f15 : (-1) * fault_0 + 0 ≤ (-1)) (kz_0_8 : 0 ≤ fault_0 ∧ fault_0 ≤ 5) (kz_0_11 : 0 ≤ pos_0 ∧ pos_0 ≤ 2000) : (1 ≤ fault_0) ∨ ((x4 + 1) ≤ pos_0) := by
  first
    | omega
    | (have q1 := (hE_0_2_1 (r_0 + 2) (by omega)).2 (by omega)
       have q2 := (hE_0_2_2 (r_0 + 2) (by omega)).2 (by omega)
       omega)
    | (have q1 := (hE_0_2_1 (r_0 + 1) (by omega)).2 (by omega)
       have q2 := (hE_0_2_2 (r_0 + 1) (by omega)).2 (by omega)
       omega)
    | (have q1 := (hE_0_2_1 (r_0 + 2) (by omega)).2 (by omega)
       omega)
    | (have q1 := (hE_0_2_1 (r_0 + 1) (by omega)).2 (by omega)
       omega)
    | (have q1 := (hE_0_2_1 (r_0 + 2) (by omega)).2 (by omega)
       have q2 := (hE_0_2_2 (r_0 + 2) (by omega)).2 (by omega)
       have q3 := (hE_0_2_3 (r_0 + 2) (by omega)).1 (by omega)
       omega)
    | (have q1 := (hE_0_2_1 (r_0 + 2) (by omega)).2 (by omega)
       have q2 := (hE_0_2_2 (r_0 + 2) (by omega)).2 (by omega)
       have q3 := (hE_0_2_3 (r_0 + 2) (by omega)).2 (by omega)
       omega)
set_option maxHeartbeats 4000000 in
theorem vc_Mo_met_at_g4_34_3 (x10 : Int) (x16 : Int) (fault_0 : Int) (r_0 : Int) (k10 : 0 ≤ x10 ∧ x10 ≤ 23) (k16 : 0 ≤ x16 ∧ x16 ≤ 0) (g0 : x16 = fault_0) (f15 : (-1) * fault_0 + 0 ≤ (-1)) (kz_0_8 : 0 ≤ fault_0 ∧ fault_0 ≤ 5) : ((-1) * fault_0 + 0 ≤ (-1)) ∨ ((-1) * x10 + 0 ≤ 0) := by
  first
    | omega
    | (have q1 := (hE_0_2_1 (r_0 + 2) (by omega)).2 (by omega)
       have q2 := (hE_0_2_2 (r_0 + 2) (by omega)).2 (by omega)
       omega)
    | (have q1 := (hE_0_2_1 (r_0 + 1) (by omega)).2 (by omega)
       have q2 := (hE_0_2_2 (r_0 + 1) (by omega)).2 (by omega)
       omega)
    | (have q1 := (hE_0_2_1 (r_0 + 2) (by omega)).2 (by omega)
       omega)
    | (have q1 := (hE_0_2_1 (r_0 + 1) (by omega)).2 (by omega)
       omega)
    | (have q1 := (hE_0_2_1 (r_0 + 2) (by omega)).2 (by omega)
       have q2 := (hE_0_2_2 (r_0 + 2) (by omega)).2 (by omega)
       have q3 := (hE_0_2_3 (r_0 + 2) (by omega)).1 (by omega)
       omega)
    | (have q1 := (hE_0_2_1 (r_0 + 2) (by omega)).2 (by omega)
       have q2 := (hE_0_2_2 (r_0 + 2) (by omega)).2 (by omega)
       have q3 := (hE_0_2_3 (r_0 + 2) (by omega)).2 (by omega)
       omega)
set_option maxHeartbeats 4000000 in
theorem vc_Mo_met_at_g4_34_4 (x2 : Int) (x16 : Int) (fault_0 : Int) (all_0 : Int → Int) (r_0 : Int) (k2 : 0 ≤ x2 ∧ x2 ≤ 23) (k16 : 0 ≤ x16 ∧ x16 ≤ 0) (g0 : x16 = fault_0) (f15 : (-1) * fault_0 + 0 ≤ (-1)) (kz_0_8 : 0 ≤ fault_0 ∧ fault_0 ≤ 5) : (1 ≤ fault_0) ∨ ((x2 ≤ (-1)) ∨ (all_0 ((r_0 + 1)) ≤ 47)) := by
  first
    | omega
    | (have q1 := (hE_0_2_1 (r_0 + 2) (by omega)).2 (by omega)
       have q2 := (hE_0_2_2 (r_0 + 2) (by omega)).2 (by omega)
       omega)
    | (have q1 := (hE_0_2_1 (r_0 + 1) (by omega)).2 (by omega)
       have q2 := (hE_0_2_2 (r_0 + 1) (by omega)).2 (by omega)
       omega)
    | (have q1 := (hE_0_2_1 (r_0 + 2) (by omega)).2 (by omega)
       omega)
    | (have q1 := (hE_0_2_1 (r_0 + 1) (by omega)).2 (by omega)
       omega)
    | (have q1 := (hE_0_2_1 (r_0 + 2) (by omega)).2 (by omega)
       have q2 := (hE_0_2_2 (r_0 + 2) (by omega)).2 (by omega)
       have q3 := (hE_0_2_3 (r_0 + 2) (by omega)).1 (by omega)
       omega)
    | (have q1 := (hE_0_2_1 (r_0 + 2) (by omega)).2 (by omega)
       have q2 := (hE_0_2_2 (r_0 + 2) (by omega)).2 (by omega)
       have q3 := (hE_0_2_3 (r_0 + 2) (by omega)).2 (by omega)
       omega)
set_option maxHeartbeats 4000000 in
theorem vc_Mo_met_at_g4_34_5 (x2 : Int) (x10 : Int) (x16 : Int) (fault_0 : Int) (all_0 : Int → Int) (r_0 : Int) (k2 : 0 ≤ x2 ∧ x2 ≤ 23) (k10 : 0 ≤ x10 ∧ x10 ≤ 23) (k16 : 0 ≤ x16 ∧ x16 ≤ 0) (g0 : x16 = fault_0) (f15 : (-1) * fault_0 + 0 ≤ (-1)) (kz_0_8 : 0 ≤ fault_0 ∧ fault_0 ≤ 5) : MET (r_0) (fault_0) (all_0) (x2) (x10) := by
  first
    | (intro q; exfalso; omega)
    | exact fun _ => ‹MEN _ _ _ _›
set_option maxHeartbeats 4000000 in
theorem vc_Mo_met_at_g4_34_6 (x1 : Int) (x2 : Int) (x5 : Int) (x6 : Int) (x7 : Int) (x10 : Int) (x13 : Int) (x14 : Int) (x15 : Int) (x16 : Int) (fault_0 : Int) (all_0 : Int → Int) (r_0 : Int) (tape_0 : Int → Int) (limit_0 : Int) (faultPlace_0 : Int) (from_0 : Int) (pos_0 : Int) (kind_0 : Int) (place_0 : Int) (value_0 : Int) (k1 : 0 ≤ x1 ∧ x1 ≤ 7) (k2 : 0 ≤ x2 ∧ x2 ≤ 23) (k5 : 0 ≤ x5 ∧ x5 ≤ 4) (k6 : 0 ≤ x6 ∧ x6 ≤ 48) (k7 : 0 ≤ x7 ∧ x7 ≤ 1) (k10 : 0 ≤ x10 ∧ x10 ≤ 23) (k13 : 2 ≤ x13 ∧ x13 ≤ 2) (k14 : 0 ≤ x14 ∧ x14 ≤ 2000) (k15 : 0 ≤ x15 ∧ x15 ≤ 5) (k16 : 0 ≤ x16 ∧ x16 ≤ 0) (g0 : x16 = fault_0) (f6 : FSX (limit_0) (tape_0) (x13) (x14)) (f7 : ZH0 (x15)) (f16 : ((1 ≤ x15) ∧ (fault_0 = x15)) ∨ ((x15 = 0) ∧ ((fault_0 = x13) ∧ (faultPlace_0 = x14)))) (kz_0_8 : 0 ≤ fault_0 ∧ fault_0 ≤ 5) (kz_0_9 : 0 ≤ faultPlace_0 ∧ faultPlace_0 ≤ 2000) (kz_0_10 : 0 ≤ limit_0 ∧ limit_0 ≤ 2000) (kz_0_11 : 0 ≤ pos_0 ∧ pos_0 ≤ 2000) (kz_0_12 : 0 ≤ kind_0 ∧ kind_0 ≤ 4) (kz_0_13 : 0 ≤ place_0 ∧ place_0 ≤ 2000) (kz_0_14 : (-49) ≤ value_0 ∧ value_0 ≤ 1048575) (kz_0_15 : 0 ≤ from_0 ∧ from_0 ≤ 2000) : zOP8 (limit_0) (pos_0) (kind_0) (place_0) (value_0) (from_0) (fault_0) (faultPlace_0) (r_0) (tape_0) (all_0) (x10) (x6) (x2) (x7) (x1) (x5) := by
  first | subst g0 | skip
  first
    | (exfalso; have h := (rsq_0 ‹zRS4 _ _ _ _ _ _ _ _ _ _ _ _ _ _ _›).1; omega)
    | (refine Or.inl (fs_w ?_ ?_ (by assumption)) <;> assumption)
    | exact Or.inr (rsq_of ‹zTP8 _ _ _ _ _ _ _ _ _ _ _ _› ‹TKR _ _ _ _ _ _ _ _›)
    | (exfalso; omega)
def o_Mo_met_at_g4_34 : or_T := (258, 18, [(0, (2, 0, 0, [165])), (1, (0, 0, 7, [])), (2, (0, 0, 23, [])), (3, (0, 0, 2000, [])), (4, (0, 0, 2000, [])), (5, (0, 0, 4, [])), (6, (0, 0, 48, [])), (7, (0, 0, 1, [])), (10, (0, 0, 23, [])), (13, (0, 2, 2, [])), (14, (0, 0, 2000, [])), (15, (0, 0, 5, [])), (16, (0, 0, 0, []))], [(9, [16, 0], [8]), (20, [0, 13, 14], [60, 1, 1, 1026, 10, 1]), (20, [15], [61, 0, 1029]), (20, [0], [30, -1, -1, 1, 8]), (20, [15, 0, 13, 14], [50, 2, 0, 1008, 1009, 3, 15, 2, 6, 0, 2, 0, 1, 1, 0, 1, 3, 2, 1, 8, 1, 0, 2, 6, 1, 2, 1, 0, 0, 0, 2, 7, 1, 3, 2, 1, 8, 1, 2, 1, 3, 2, 1, 9, 1, 3])], [], [], [(20, [3, 0], [30, 0, 1, 0, 0, -1, 1, 11]), (20, [0, 3], [50, 3, 0, 8, 12, 11, 3, 7, 0, 2, 0, 1, 2, 0, 8, 3, 7, 1, 3, 2, 0, 12, 0, 0, 0, 6, 4, 2, 1, 1, 0, 1, 2, 0, 11]), (20, [0, 4], [50, 2, 0, 8, 11, 3, 7, 0, 2, 0, 1, 2, 0, 8, 0, 6, 4, 2, 1, 1, 0, 1, 2, 0, 11]), (20, [0, 10], [31, 1, -1, -1, 1, 8, 0, -1, 0, 0]), (20, [0, 2], [50, 2, 1, 8, 5, 2, 3, 7, 0, 2, 0, 1, 2, 0, 8, 3, 6, 0, 2, 1, 1, 0, -1, 0, 10, 3, 0, 2, 4, 3, 2, 0, 5, 0, 1, 0, 47]), (20, [0, 2, 10], [60, 2, 1, 240, 5, 8, 2]), (20, [0, 10, 6, 2, 7, 1, 5], [60, 9, 2, 1011, 10, 11, 12, 13, 14, 15, 8, 9, 5, 1, 2])], [], [])
theorem oo_Mo_met_at_g4_34 {kA : Nat → ClassId} : or_ok PRD kA GG o_Mo_met_at_g4_34 := by
  refine or_mk fun A ta ws vs hD hth hl => ?_
  intro t0 r0 t1 k1 t2 k2 t3 k3 t4 k4 t5 k5 t6 k6 t7 k7 t10 k10 t13 k13 t14 k14 t15 k15 t16 k16 f0 f6 f7 f15 f16
  replace f0 := shm_293 f0
  have g0 : v_iv (n_v vs 16) = w_fi ws (n_v vs 0) 8 := congrArg v_iv f0
  have kz_0_8 := fdq_34 hD hth r0
  have kz_0_9 := fdq_44 hD hth r0
  have kz_0_10 := fdq_43 hD hth r0
  have kz_0_11 := fdq_237 hD hth r0
  have kz_0_12 := fdq_187 hD hth r0
  have kz_0_13 := fdq_238 hD hth r0
  have kz_0_14 := fdq_188 hD hth r0
  have kz_0_15 := fdq_239 hD hth r0
  have nf0 : fc_1 PRD (20, [3, 0], [30, 0, 1, 0, 0, -1, 1, 11]) ws (vs) := ⟨nf_in hl rfl, sgq_1431 (vc_Mo_met_at_g4_34_0 (v_iv (n_v vs 3)) (v_iv (n_v vs 16)) (w_fi ws (n_v vs 0) 8) (w_fi ws (n_v vs 0) 5) (w_fi ws (n_v vs 0) 11) k3 k16 g0 (shm_305 f15) kz_0_8 kz_0_11)⟩
  have nf1 : fc_1 PRD (20, [0, 3], [50, 3, 0, 8, 12, 11, 3, 7, 0, 2, 0, 1, 2, 0, 8, 3, 7, 1, 3, 2, 0, 12, 0, 0, 0, 6, 4, 2, 1, 1, 0, 1, 2, 0, 11]) ws (vs) := ⟨nf_in hl rfl, sgq_1722 (vc_Mo_met_at_g4_34_1 (v_iv (n_v vs 3)) (v_iv (n_v vs 16)) (w_fi ws (n_v vs 0) 8) (w_fi ws (n_v vs 0) 5) (w_fi ws (n_v vs 0) 11) (w_fi ws (n_v vs 0) 12) k3 k16 g0 (shm_305 f15) kz_0_8 kz_0_11 kz_0_12)⟩
  have nf2 : fc_1 PRD (20, [0, 4], [50, 2, 0, 8, 11, 3, 7, 0, 2, 0, 1, 2, 0, 8, 0, 6, 4, 2, 1, 1, 0, 1, 2, 0, 11]) ws (vs) := ⟨nf_in hl rfl, sgq_1726 (vc_Mo_met_at_g4_34_2 (v_iv (n_v vs 4)) (v_iv (n_v vs 16)) (w_fi ws (n_v vs 0) 8) (w_fi ws (n_v vs 0) 5) (w_fi ws (n_v vs 0) 11) k4 k16 g0 (shm_305 f15) kz_0_8 kz_0_11)⟩
  have nf3 : fc_1 PRD (20, [0, 10], [31, 1, -1, -1, 1, 8, 0, -1, 0, 0]) ws (vs) := ⟨nf_in hl rfl, sgq_2117 (vc_Mo_met_at_g4_34_3 (v_iv (n_v vs 10)) (v_iv (n_v vs 16)) (w_fi ws (n_v vs 0) 8) (w_fi ws (n_v vs 0) 5) k10 k16 g0 (shm_305 f15) kz_0_8)⟩
  have nf4 : fc_1 PRD (20, [0, 2], [50, 2, 1, 8, 5, 2, 3, 7, 0, 2, 0, 1, 2, 0, 8, 3, 6, 0, 2, 1, 1, 0, -1, 0, 10, 3, 0, 2, 4, 3, 2, 0, 5, 0, 1, 0, 47]) ws (vs) := ⟨nf_in hl rfl, sgq_2118 (vc_Mo_met_at_g4_34_4 (v_iv (n_v vs 2)) (v_iv (n_v vs 16)) (w_fi ws (n_v vs 0) 8) (w_ei ws (w_ar ws (n_v vs 0) 2)) (w_fi ws (n_v vs 0) 5) k2 k16 g0 (shm_305 f15) kz_0_8)⟩
  have nf5 : fc_1 PRD (20, [0, 2, 10], [60, 2, 1, 240, 5, 8, 2]) ws (vs) := ⟨nf_in hl rfl, sgq_2119 (vc_Mo_met_at_g4_34_5 (v_iv (n_v vs 2)) (v_iv (n_v vs 10)) (v_iv (n_v vs 16)) (w_fi ws (n_v vs 0) 8) (w_ei ws (w_ar ws (n_v vs 0) 2)) (w_fi ws (n_v vs 0) 5) k2 k10 k16 g0 (shm_305 f15) kz_0_8)⟩
  have nf6 : fc_1 PRD (20, [0, 10, 6, 2, 7, 1, 5], [60, 9, 2, 1011, 10, 11, 12, 13, 14, 15, 8, 9, 5, 1, 2]) ws (vs) := ⟨nf_in hl rfl, sgq_2128 (vc_Mo_met_at_g4_34_6 (v_iv (n_v vs 1)) (v_iv (n_v vs 2)) (v_iv (n_v vs 5)) (v_iv (n_v vs 6)) (v_iv (n_v vs 7)) (v_iv (n_v vs 10)) (v_iv (n_v vs 13)) (v_iv (n_v vs 14)) (v_iv (n_v vs 15)) (v_iv (n_v vs 16)) (w_fi ws (n_v vs 0) 8) (w_ei ws (w_ar ws (n_v vs 0) 2)) (w_fi ws (n_v vs 0) 5) (w_ei ws (w_ar ws (n_v vs 0) 1)) (w_fi ws (n_v vs 0) 10) (w_fi ws (n_v vs 0) 9) (w_fi ws (n_v vs 0) 15) (w_fi ws (n_v vs 0) 11) (w_fi ws (n_v vs 0) 12) (w_fi ws (n_v vs 0) 13) (w_fi ws (n_v vs 0) 14) k1 k2 k5 k6 k7 k10 k13 k14 k15 k16 g0 (shm_1724 f6) (shm_1725 f7) (shm_306 f16) kz_0_8 kz_0_9 kz_0_10 kz_0_11 kz_0_12 kz_0_13 kz_0_14 kz_0_15)⟩
  refine ⟨(fun _ h => (by cases h)), [], trivial, ?_, (fun _ h => (by cases h))⟩
  rw [List.append_nil]
  exact List.forall_mem_cons.mpr ⟨⟨show (20 : Nat) < 100 from by decide, nf0⟩, List.forall_mem_cons.mpr ⟨⟨show (20 : Nat) < 100 from by decide, nf1⟩, List.forall_mem_cons.mpr ⟨⟨show (20 : Nat) < 100 from by decide, nf2⟩, List.forall_mem_cons.mpr ⟨⟨show (20 : Nat) < 100 from by decide, nf3⟩, List.forall_mem_cons.mpr ⟨⟨show (20 : Nat) < 100 from by decide, nf4⟩, List.forall_mem_cons.mpr ⟨⟨show (20 : Nat) < 100 from by decide, nf5⟩, List.forall_mem_cons.mpr ⟨⟨show (20 : Nat) < 100 from by decide, nf6⟩, (fun _ h => (by cases h))⟩⟩⟩⟩⟩⟩⟩
set_option maxHeartbeats 4000000 in
theorem vc_Mo_met_at_g4_35_0 (x3 : Int) (x16 : Int) (fault_0 : Int) (r_0 : Int) (pos_0 : Int) (kind_0 : Int) (k3 : 0 ≤ x3 ∧ x3 ≤ 2000) (k16 : 1 ≤ x16 ∧ x16 ≤ 5) (g2 : x16 = fault_0) (kz_0_8 : 0 ≤ fault_0 ∧ fault_0 ≤ 5) (kz_0_11 : 0 ≤ pos_0 ∧ pos_0 ≤ 2000) (kz_0_12 : 0 ≤ kind_0 ∧ kind_0 ≤ 4) : (1 ≤ fault_0) ∨ ((kind_0 = 0) ∨ ((x3 + 1) ≤ pos_0)) := by
  first
    | omega
    | (have q1 := (hE_0_2_1 (r_0 + 2) (by omega)).2 (by omega)
       have q2 := (hE_0_2_2 (r_0 + 2) (by omega)).2 (by omega)
       omega)
    | (have q1 := (hE_0_2_1 (r_0 + 1) (by omega)).2 (by omega)
       have q2 := (hE_0_2_2 (r_0 + 1) (by omega)).2 (by omega)
       omega)
    | (have q1 := (hE_0_2_1 (r_0 + 2) (by omega)).2 (by omega)
       omega)
    | (have q1 := (hE_0_2_1 (r_0 + 1) (by omega)).2 (by omega)
       omega)
    | (have q1 := (hE_0_2_1 (r_0 + 2) (by omega)).2 (by omega)
       have q2 := (hE_0_2_2 (r_0 + 2) (by omega)).2 (by omega)
       have q3 := (hE_0_2_3 (r_0 + 2) (by omega)).1 (by omega)
       omega)
    | (have q1 := (hE_0_2_1 (r_0 + 2) (by omega)).2 (by omega)
       have q2 := (hE_0_2_2 (r_0 + 2) (by omega)).2 (by omega)
       have q3 := (hE_0_2_3 (r_0 + 2) (by omega)).2 (by omega)
       omega)
set_option maxHeartbeats 4000000 in
theorem vc_Mo_met_at_g4_35_1 (x4 : Int) (x16 : Int) (fault_0 : Int) (r_0 : Int) (pos_0 : Int) (k4 : 0 ≤ x4 ∧ x4 ≤ 2000) (k16 : 1 ≤ x16 ∧ x16 ≤ 5) (g2 : x16 = fault_0) (kz_0_8 : 0 ≤ fault_0 ∧ fault_0 ≤ 5) (kz_0_11 : 0 ≤ pos_0 ∧ pos_0 ≤ 2000) : (1 ≤ fault_0) ∨ ((x4 + 1) ≤ pos_0) := by
  first
    | omega
    | (have q1 := (hE_0_2_1 (r_0 + 2) (by omega)).2 (by omega)
       have q2 := (hE_0_2_2 (r_0 + 2) (by omega)).2 (by omega)
       omega)
    | (have q1 := (hE_0_2_1 (r_0 + 1) (by omega)).2 (by omega)
       have q2 := (hE_0_2_2 (r_0 + 1) (by omega)).2 (by omega)
       omega)
    | (have q1 := (hE_0_2_1 (r_0 + 2) (by omega)).2 (by omega)
       omega)
    | (have q1 := (hE_0_2_1 (r_0 + 1) (by omega)).2 (by omega)
       omega)
    | (have q1 := (hE_0_2_1 (r_0 + 2) (by omega)).2 (by omega)
       have q2 := (hE_0_2_2 (r_0 + 2) (by omega)).2 (by omega)
       have q3 := (hE_0_2_3 (r_0 + 2) (by omega)).1 (by omega)
       omega)
    | (have q1 := (hE_0_2_1 (r_0 + 2) (by omega)).2 (by omega)
       have q2 := (hE_0_2_2 (r_0 + 2) (by omega)).2 (by omega)
       have q3 := (hE_0_2_3 (r_0 + 2) (by omega)).2 (by omega)
       omega)
set_option maxHeartbeats 4000000 in
theorem vc_Mo_met_at_g4_35_2 (x16 : Int) (x17 : Int) (fault_0 : Int) (r_0 : Int) (k16 : 1 ≤ x16 ∧ x16 ≤ 5) (k17 : (-1) ≤ x17 ∧ x17 ≤ (-1)) (g2 : x16 = fault_0) (kz_0_8 : 0 ≤ fault_0 ∧ fault_0 ≤ 5) : ((-1) * fault_0 + 0 ≤ (-1)) ∨ ((-1) * x17 + 0 ≤ 0) := by
  first
    | omega
    | (have q1 := (hE_0_2_1 (r_0 + 2) (by omega)).2 (by omega)
       have q2 := (hE_0_2_2 (r_0 + 2) (by omega)).2 (by omega)
       omega)
    | (have q1 := (hE_0_2_1 (r_0 + 1) (by omega)).2 (by omega)
       have q2 := (hE_0_2_2 (r_0 + 1) (by omega)).2 (by omega)
       omega)
    | (have q1 := (hE_0_2_1 (r_0 + 2) (by omega)).2 (by omega)
       omega)
    | (have q1 := (hE_0_2_1 (r_0 + 1) (by omega)).2 (by omega)
       omega)
    | (have q1 := (hE_0_2_1 (r_0 + 2) (by omega)).2 (by omega)
       have q2 := (hE_0_2_2 (r_0 + 2) (by omega)).2 (by omega)
       have q3 := (hE_0_2_3 (r_0 + 2) (by omega)).1 (by omega)
       omega)
    | (have q1 := (hE_0_2_1 (r_0 + 2) (by omega)).2 (by omega)
       have q2 := (hE_0_2_2 (r_0 + 2) (by omega)).2 (by omega)
       have q3 := (hE_0_2_3 (r_0 + 2) (by omega)).2 (by omega)
       omega)
set_option maxHeartbeats 4000000 in
theorem vc_Mo_met_at_g4_35_3 (x2 : Int) (x16 : Int) (fault_0 : Int) (all_0 : Int → Int) (r_0 : Int) (k2 : 0 ≤ x2 ∧ x2 ≤ 23) (k16 : 1 ≤ x16 ∧ x16 ≤ 5) (g2 : x16 = fault_0) (kz_0_8 : 0 ≤ fault_0 ∧ fault_0 ≤ 5) : (1 ≤ fault_0) ∨ ((x2 ≤ (-1)) ∨ (all_0 ((r_0 + 1)) ≤ 47)) := by
  first
    | omega
    | (have q1 := (hE_0_2_1 (r_0 + 2) (by omega)).2 (by omega)
       have q2 := (hE_0_2_2 (r_0 + 2) (by omega)).2 (by omega)
       omega)
    | (have q1 := (hE_0_2_1 (r_0 + 1) (by omega)).2 (by omega)
       have q2 := (hE_0_2_2 (r_0 + 1) (by omega)).2 (by omega)
       omega)
    | (have q1 := (hE_0_2_1 (r_0 + 2) (by omega)).2 (by omega)
       omega)
    | (have q1 := (hE_0_2_1 (r_0 + 1) (by omega)).2 (by omega)
       omega)
    | (have q1 := (hE_0_2_1 (r_0 + 2) (by omega)).2 (by omega)
       have q2 := (hE_0_2_2 (r_0 + 2) (by omega)).2 (by omega)
       have q3 := (hE_0_2_3 (r_0 + 2) (by omega)).1 (by omega)
       omega)
    | (have q1 := (hE_0_2_1 (r_0 + 2) (by omega)).2 (by omega)
       have q2 := (hE_0_2_2 (r_0 + 2) (by omega)).2 (by omega)
       have q3 := (hE_0_2_3 (r_0 + 2) (by omega)).2 (by omega)
       omega)
set_option maxHeartbeats 4000000 in
theorem vc_Mo_met_at_g4_35_4 (x2 : Int) (x16 : Int) (x17 : Int) (fault_0 : Int) (all_0 : Int → Int) (r_0 : Int) (k2 : 0 ≤ x2 ∧ x2 ≤ 23) (k16 : 1 ≤ x16 ∧ x16 ≤ 5) (k17 : (-1) ≤ x17 ∧ x17 ≤ (-1)) (g2 : x16 = fault_0) (kz_0_8 : 0 ≤ fault_0 ∧ fault_0 ≤ 5) : MET (r_0) (fault_0) (all_0) (x2) (x17) := by
  first
    | (intro q; exfalso; omega)
    | exact fun _ => ‹MEN _ _ _ _›
set_option maxHeartbeats 4000000 in
theorem vc_Mo_met_at_g4_35_5 (x1 : Int) (x2 : Int) (x5 : Int) (x6 : Int) (x7 : Int) (x13 : Int) (x14 : Int) (x15 : Int) (x16 : Int) (x17 : Int) (place_0 : Int) (fault_0 : Int) (tape_0 : Int → Int) (limit_0 : Int) (all_0 : Int → Int) (r_0 : Int) (pos_0 : Int) (from_0 : Int) (kind_0 : Int) (faultPlace_0 : Int) (value_0 : Int) (k1 : 0 ≤ x1 ∧ x1 ≤ 7) (k2 : 0 ≤ x2 ∧ x2 ≤ 23) (k5 : 0 ≤ x5 ∧ x5 ≤ 4) (k6 : 0 ≤ x6 ∧ x6 ≤ 48) (k7 : 0 ≤ x7 ∧ x7 ≤ 1) (k13 : 2 ≤ x13 ∧ x13 ≤ 2) (k14 : 0 ≤ x14 ∧ x14 ≤ 2000) (k15 : 0 ≤ x15 ∧ x15 ≤ 5) (k16 : 1 ≤ x16 ∧ x16 ≤ 5) (k17 : (-1) ≤ x17 ∧ x17 ≤ (-1)) (g0 : x14 = place_0) (g2 : x16 = fault_0) (f3 : FSX (limit_0) (tape_0) (x13) (x14)) (f4 : ZH0 (x15)) (f20 : ((1 ≤ x15) ∧ (fault_0 = x15)) ∨ ((x15 = 0) ∧ ((fault_0 = x13) ∧ (faultPlace_0 = x14)))) (kz_0_8 : 0 ≤ fault_0 ∧ fault_0 ≤ 5) (kz_0_9 : 0 ≤ faultPlace_0 ∧ faultPlace_0 ≤ 2000) (kz_0_10 : 0 ≤ limit_0 ∧ limit_0 ≤ 2000) (kz_0_11 : 0 ≤ pos_0 ∧ pos_0 ≤ 2000) (kz_0_12 : 0 ≤ kind_0 ∧ kind_0 ≤ 4) (kz_0_13 : 0 ≤ place_0 ∧ place_0 ≤ 2000) (kz_0_14 : (-49) ≤ value_0 ∧ value_0 ≤ 1048575) (kz_0_15 : 0 ≤ from_0 ∧ from_0 ≤ 2000) : zOP8 (limit_0) (pos_0) (kind_0) (place_0) (value_0) (from_0) (fault_0) (faultPlace_0) (r_0) (tape_0) (all_0) (x17) (x6) (x2) (x7) (x1) (x5) := by
  first | subst g0 | skip
  first | subst g2 | skip
  first
    | (exfalso; have h := (rsq_0 ‹zRS4 _ _ _ _ _ _ _ _ _ _ _ _ _ _ _›).1; omega)
    | (refine Or.inl (fs_w ?_ ?_ (by assumption)) <;> assumption)
    | exact Or.inr (rsq_of ‹zTP8 _ _ _ _ _ _ _ _ _ _ _ _› ‹TKR _ _ _ _ _ _ _ _›)
    | (exfalso; omega)
def o_Mo_met_at_g4_35 : or_T := (121, 18, [(0, (2, 0, 0, [165])), (1, (0, 0, 7, [])), (2, (0, 0, 23, [])), (3, (0, 0, 2000, [])), (4, (0, 0, 2000, [])), (5, (0, 0, 4, [])), (6, (0, 0, 48, [])), (7, (0, 0, 1, [])), (13, (0, 2, 2, [])), (14, (0, 0, 2000, [])), (15, (0, 0, 5, [])), (16, (0, 1, 5, [])), (17, (0, -1, -1, []))], [(9, [14, 0], [13]), (9, [16, 0], [8]), (20, [0, 13, 14], [60, 1, 1, 1026, 10, 1]), (20, [15], [61, 0, 1029]), (20, [15, 0, 13, 14], [50, 2, 0, 1008, 1009, 3, 15, 2, 6, 0, 2, 0, 1, 1, 0, 1, 3, 2, 1, 8, 1, 0, 2, 6, 1, 2, 1, 0, 0, 0, 2, 7, 1, 3, 2, 1, 8, 1, 2, 1, 3, 2, 1, 9, 1, 3])], [], [], [(20, [0, 3], [50, 3, 0, 8, 12, 11, 3, 7, 0, 2, 0, 1, 2, 0, 8, 3, 7, 1, 3, 2, 0, 12, 0, 0, 0, 6, 4, 2, 1, 1, 0, 1, 2, 0, 11]), (20, [0, 4], [50, 2, 0, 8, 11, 3, 7, 0, 2, 0, 1, 2, 0, 8, 0, 6, 4, 2, 1, 1, 0, 1, 2, 0, 11]), (20, [0, 17], [31, 1, -1, -1, 1, 8, 0, -1, 0, 0]), (20, [0, 2], [50, 2, 1, 8, 5, 2, 3, 7, 0, 2, 0, 1, 2, 0, 8, 3, 6, 0, 2, 1, 1, 0, -1, 0, 10, 3, 0, 2, 4, 3, 2, 0, 5, 0, 1, 0, 47]), (20, [0, 2, 17], [60, 2, 1, 240, 5, 8, 2]), (20, [0, 17, 6, 2, 7, 1, 5], [60, 9, 2, 1011, 10, 11, 12, 13, 14, 15, 8, 9, 5, 1, 2])], [], [])
theorem oo_Mo_met_at_g4_35 {kA : Nat → ClassId} : or_ok PRD kA GG o_Mo_met_at_g4_35 := by
  refine or_mk fun A ta ws vs hD hth hl => ?_
  intro t0 r0 t1 k1 t2 k2 t3 k3 t4 k4 t5 k5 t6 k6 t7 k7 t13 k13 t14 k14 t15 k15 t16 k16 t17 k17 f0 f2 f3 f4 f20
  replace f0 := shm_361 f0
  replace f2 := shm_293 f2
  have g0 : v_iv (n_v vs 14) = w_fi ws (n_v vs 0) 13 := congrArg v_iv f0
  have g2 : v_iv (n_v vs 16) = w_fi ws (n_v vs 0) 8 := congrArg v_iv f2
  have kz_0_8 := fdq_34 hD hth r0
  have kz_0_9 := fdq_44 hD hth r0
  have kz_0_10 := fdq_43 hD hth r0
  have kz_0_11 := fdq_237 hD hth r0
  have kz_0_12 := fdq_187 hD hth r0
  have kz_0_13 := fdq_238 hD hth r0
  have kz_0_14 := fdq_188 hD hth r0
  have kz_0_15 := fdq_239 hD hth r0
  have nf0 : fc_1 PRD (20, [0, 3], [50, 3, 0, 8, 12, 11, 3, 7, 0, 2, 0, 1, 2, 0, 8, 3, 7, 1, 3, 2, 0, 12, 0, 0, 0, 6, 4, 2, 1, 1, 0, 1, 2, 0, 11]) ws (vs) := ⟨nf_in hl rfl, sgq_1722 (vc_Mo_met_at_g4_35_0 (v_iv (n_v vs 3)) (v_iv (n_v vs 16)) (w_fi ws (n_v vs 0) 8) (w_fi ws (n_v vs 0) 5) (w_fi ws (n_v vs 0) 11) (w_fi ws (n_v vs 0) 12) k3 k16 g2 kz_0_8 kz_0_11 kz_0_12)⟩
  have nf1 : fc_1 PRD (20, [0, 4], [50, 2, 0, 8, 11, 3, 7, 0, 2, 0, 1, 2, 0, 8, 0, 6, 4, 2, 1, 1, 0, 1, 2, 0, 11]) ws (vs) := ⟨nf_in hl rfl, sgq_1726 (vc_Mo_met_at_g4_35_1 (v_iv (n_v vs 4)) (v_iv (n_v vs 16)) (w_fi ws (n_v vs 0) 8) (w_fi ws (n_v vs 0) 5) (w_fi ws (n_v vs 0) 11) k4 k16 g2 kz_0_8 kz_0_11)⟩
  have nf2 : fc_1 PRD (20, [0, 17], [31, 1, -1, -1, 1, 8, 0, -1, 0, 0]) ws (vs) := ⟨nf_in hl rfl, sgq_2117 (vc_Mo_met_at_g4_35_2 (v_iv (n_v vs 16)) (v_iv (n_v vs 17)) (w_fi ws (n_v vs 0) 8) (w_fi ws (n_v vs 0) 5) k16 k17 g2 kz_0_8)⟩
  have nf3 : fc_1 PRD (20, [0, 2], [50, 2, 1, 8, 5, 2, 3, 7, 0, 2, 0, 1, 2, 0, 8, 3, 6, 0, 2, 1, 1, 0, -1, 0, 10, 3, 0, 2, 4, 3, 2, 0, 5, 0, 1, 0, 47]) ws (vs) := ⟨nf_in hl rfl, sgq_2118 (vc_Mo_met_at_g4_35_3 (v_iv (n_v vs 2)) (v_iv (n_v vs 16)) (w_fi ws (n_v vs 0) 8) (w_ei ws (w_ar ws (n_v vs 0) 2)) (w_fi ws (n_v vs 0) 5) k2 k16 g2 kz_0_8)⟩
  have nf4 : fc_1 PRD (20, [0, 2, 17], [60, 2, 1, 240, 5, 8, 2]) ws (vs) := ⟨nf_in hl rfl, sgq_2119 (vc_Mo_met_at_g4_35_4 (v_iv (n_v vs 2)) (v_iv (n_v vs 16)) (v_iv (n_v vs 17)) (w_fi ws (n_v vs 0) 8) (w_ei ws (w_ar ws (n_v vs 0) 2)) (w_fi ws (n_v vs 0) 5) k2 k16 k17 g2 kz_0_8)⟩
  have nf5 : fc_1 PRD (20, [0, 17, 6, 2, 7, 1, 5], [60, 9, 2, 1011, 10, 11, 12, 13, 14, 15, 8, 9, 5, 1, 2]) ws (vs) := ⟨nf_in hl rfl, sgq_2128 (vc_Mo_met_at_g4_35_5 (v_iv (n_v vs 1)) (v_iv (n_v vs 2)) (v_iv (n_v vs 5)) (v_iv (n_v vs 6)) (v_iv (n_v vs 7)) (v_iv (n_v vs 13)) (v_iv (n_v vs 14)) (v_iv (n_v vs 15)) (v_iv (n_v vs 16)) (v_iv (n_v vs 17)) (w_fi ws (n_v vs 0) 13) (w_fi ws (n_v vs 0) 8) (w_ei ws (w_ar ws (n_v vs 0) 1)) (w_fi ws (n_v vs 0) 10) (w_ei ws (w_ar ws (n_v vs 0) 2)) (w_fi ws (n_v vs 0) 5) (w_fi ws (n_v vs 0) 11) (w_fi ws (n_v vs 0) 15) (w_fi ws (n_v vs 0) 12) (w_fi ws (n_v vs 0) 9) (w_fi ws (n_v vs 0) 14) k1 k2 k5 k6 k7 k13 k14 k15 k16 k17 g0 g2 (shm_1724 f3) (shm_1725 f4) (shm_306 f20) kz_0_8 kz_0_9 kz_0_10 kz_0_11 kz_0_12 kz_0_13 kz_0_14 kz_0_15)⟩
  refine ⟨(fun _ h => (by cases h)), [], trivial, ?_, (fun _ h => (by cases h))⟩
  rw [List.append_nil]
  exact List.forall_mem_cons.mpr ⟨⟨show (20 : Nat) < 100 from by decide, nf0⟩, List.forall_mem_cons.mpr ⟨⟨show (20 : Nat) < 100 from by decide, nf1⟩, List.forall_mem_cons.mpr ⟨⟨show (20 : Nat) < 100 from by decide, nf2⟩, List.forall_mem_cons.mpr ⟨⟨show (20 : Nat) < 100 from by decide, nf3⟩, List.forall_mem_cons.mpr ⟨⟨show (20 : Nat) < 100 from by decide, nf4⟩, List.forall_mem_cons.mpr ⟨⟨show (20 : Nat) < 100 from by decide, nf5⟩, (fun _ h => (by cases h))⟩⟩⟩⟩⟩⟩
set_option maxHeartbeats 4000000 in
theorem vc_Mo_met_at_g4_36_0 (x1 : Int) (x2 : Int) (x5 : Int) (x6 : Int) (x7 : Int) (x8 : Int) (x9 : Int) (x10 : Int) (x11 : Int) (fault_0 : Int) (place_0 : Int) (from_0 : Int) (pos_0 : Int) (kind_0 : Int) (all_0 : Int → Int) (r_0 : Int) (tape_0 : Int → Int) (limit_0 : Int) (value_0 : Int) (gx : Int) (k1 : 0 ≤ x1 ∧ x1 ≤ 7) (k2 : (-1) ≤ x2 ∧ x2 ≤ 23) (k5 : 0 ≤ x5 ∧ x5 ≤ 4) (k6 : 0 ≤ x6 ∧ x6 ≤ 48) (k7 : 0 ≤ x7 ∧ x7 ≤ 1) (k8 : 0 ≤ x8 ∧ x8 ≤ 0) (k9 : 0 ≤ x9 ∧ x9 ≤ 0) (k10 : 1 ≤ x10 ∧ x10 ≤ 1) (k11 : 0 ≤ x11 ∧ x11 ≤ 2000) (g0 : x8 = fault_0) (g1 : x11 = place_0) (f2 : x9 = 0) (f10 : zRS4 (limit_0) (pos_0) (kind_0) (place_0) (value_0) (from_0) (fault_0) (r_0) (tape_0) (all_0) (x2) (x6) (x7) (x1) (x5)) (f13 : NMQ (kind_0) (pos_0) (limit_0) (from_0) (tape_0) (x9)) (kz_0_8 : 0 ≤ fault_0 ∧ fault_0 ≤ 5) (kz_0_10 : 0 ≤ limit_0 ∧ limit_0 ≤ 2000) (kz_0_11 : 0 ≤ pos_0 ∧ pos_0 ≤ 2000) (kz_0_12 : 0 ≤ kind_0 ∧ kind_0 ≤ 4) (kz_0_13 : 0 ≤ place_0 ∧ place_0 ≤ 2000) (kz_0_14 : (-49) ≤ value_0 ∧ value_0 ≤ 1048575) (kz_0_15 : 0 ≤ from_0 ∧ from_0 ≤ 2000) (ex2 : gx = fault_0) : FSX (limit_0) (tape_0) (x10) (x11) := by
  first | subst g0 | skip
  first | subst g1 | skip
  first | subst ex2 | skip
  first
    | exact fsx_cg (met_no0 ‹zRSE _ _ _ _ _ _ _ _ _ _ _ _› ‹NMQ _ _ _ _ _ _› (by omega)) (by omega) (by omega)
    | exact fsx_cg (met_no1 ‹zRS1 _ _ _ _ _ _ _ _ _ _ _ _› ‹NMQ _ _ _ _ _ _› (by omega)) (by omega) (by omega)
    | exact fsx_cg (met_no4 ‹zRS4 _ _ _ _ _ _ _ _ _ _ _ _ _ _ _› ‹NMQ _ _ _ _ _ _› (by omega)) (by omega) (by omega)
    | (exfalso; omega)
set_option maxHeartbeats 4000000 in
theorem vc_Mo_met_at_g4_36_1 (x8 : Int) (fault_0 : Int) (r_0 : Int) (gx : Int) (k8 : 0 ≤ x8 ∧ x8 ≤ 0) (g0 : x8 = fault_0) (kz_0_8 : 0 ≤ fault_0 ∧ fault_0 ≤ 5) (ex2 : gx = fault_0) : 1 * fault_0 + ((-1) * gx + 0) ≤ 0 := by
  first
    | omega
    | (have q1 := (hE_0_2_1 (r_0 + 2) (by omega)).2 (by omega)
       have q2 := (hE_0_2_2 (r_0 + 2) (by omega)).2 (by omega)
       omega)
    | (have q1 := (hE_0_2_1 (r_0 + 1) (by omega)).2 (by omega)
       have q2 := (hE_0_2_2 (r_0 + 1) (by omega)).2 (by omega)
       omega)
    | (have q1 := (hE_0_2_1 (r_0 + 2) (by omega)).2 (by omega)
       omega)
    | (have q1 := (hE_0_2_1 (r_0 + 1) (by omega)).2 (by omega)
       omega)
    | (have q1 := (hE_0_2_1 (r_0 + 2) (by omega)).2 (by omega)
       have q2 := (hE_0_2_2 (r_0 + 2) (by omega)).2 (by omega)
       have q3 := (hE_0_2_3 (r_0 + 2) (by omega)).1 (by omega)
       omega)
    | (have q1 := (hE_0_2_1 (r_0 + 2) (by omega)).2 (by omega)
       have q2 := (hE_0_2_2 (r_0 + 2) (by omega)).2 (by omega)
       have q3 := (hE_0_2_3 (r_0 + 2) (by omega)).2 (by omega)
       omega)
set_option maxHeartbeats 4000000 in
theorem vc_Mo_met_at_g4_36_2 (x8 : Int) (fault_0 : Int) (r_0 : Int) (gx : Int) (k8 : 0 ≤ x8 ∧ x8 ≤ 0) (g0 : x8 = fault_0) (kz_0_8 : 0 ≤ fault_0 ∧ fault_0 ≤ 5) (ex2 : gx = fault_0) : (-1) * fault_0 + (1 * gx + 0) ≤ 0 := by
  first
    | omega
    | (have q1 := (hE_0_2_1 (r_0 + 2) (by omega)).2 (by omega)
       have q2 := (hE_0_2_2 (r_0 + 2) (by omega)).2 (by omega)
       omega)
    | (have q1 := (hE_0_2_1 (r_0 + 1) (by omega)).2 (by omega)
       have q2 := (hE_0_2_2 (r_0 + 1) (by omega)).2 (by omega)
       omega)
    | (have q1 := (hE_0_2_1 (r_0 + 2) (by omega)).2 (by omega)
       omega)
    | (have q1 := (hE_0_2_1 (r_0 + 1) (by omega)).2 (by omega)
       omega)
    | (have q1 := (hE_0_2_1 (r_0 + 2) (by omega)).2 (by omega)
       have q2 := (hE_0_2_2 (r_0 + 2) (by omega)).2 (by omega)
       have q3 := (hE_0_2_3 (r_0 + 2) (by omega)).1 (by omega)
       omega)
    | (have q1 := (hE_0_2_1 (r_0 + 2) (by omega)).2 (by omega)
       have q2 := (hE_0_2_2 (r_0 + 2) (by omega)).2 (by omega)
       have q3 := (hE_0_2_3 (r_0 + 2) (by omega)).2 (by omega)
       omega)
set_option maxHeartbeats 4000000 in
theorem vc_Mo_met_at_g4_36_3 (x8 : Int) (fault_0 : Int) (gx : Int) (k8 : 0 ≤ x8 ∧ x8 ≤ 0) (g0 : x8 = fault_0) (kz_0_8 : 0 ≤ fault_0 ∧ fault_0 ≤ 5) (ex2 : gx = fault_0) : ZH0 (gx) := by
  first
    | exact ⟨by omega, by omega, trivial⟩
    | (have h := (rsq_0 (‹zRSE _ _ _ _ _ _ _ _ _ _ _ _›).1.1).1; exact ⟨by omega, by omega, trivial⟩)
    | (have h := (rsq_0 ‹zRS1 _ _ _ _ _ _ _ _ _ _ _ _›).1; exact ⟨by omega, by omega, trivial⟩)
    | (have h := (rsq_0 ‹zRS4 _ _ _ _ _ _ _ _ _ _ _ _ _ _ _›).1; exact ⟨by omega, by omega, trivial⟩)
def o_Mo_met_at_g4_36 : or_T := (22, 12, [(0, (2, 0, 0, [165])), (1, (0, 0, 7, [])), (2, (0, -1, 23, [])), (5, (0, 0, 4, [])), (6, (0, 0, 48, [])), (7, (0, 0, 1, [])), (8, (0, 0, 0, [])), (9, (0, 0, 0, [])), (10, (0, 1, 1, [])), (11, (0, 0, 2000, []))], [(9, [8, 0], [8]), (9, [11, 0], [13]), (8, [9], [0]), (20, [0, 2, 6, 7, 1, 5], [60, 8, 2, 993, 10, 11, 12, 13, 14, 15, 8, 5, 1, 2]), (20, [0, 9], [60, 4, 1, 962, 12, 11, 10, 15, 1])], [], [(0, 0, 5, [])], [(20, [0, 10, 11], [60, 1, 1, 1026, 10, 1]), (20, [0, 12], [30, 0, 1, 1, 8, -1, 0, 0]), (20, [0, 12], [30, 0, -1, 1, 8, 1, 0, 0]), (20, [12], [61, 0, 1029])], [], [])
theorem oo_Mo_met_at_g4_36 {kA : Nat → ClassId} : or_ok PRD kA GG o_Mo_met_at_g4_36 := by
  refine or_mk fun A ta ws vs hD hth hl => ?_
  intro t0 r0 t1 k1 t2 k2 t5 k5 t6 k6 t7 k7 t8 k8 t9 k9 t10 k10 t11 k11 f0 f1 f2 f10 f13
  replace f0 := shm_293 f0
  replace f1 := shm_361 f1
  replace f2 := shm_192 f2
  replace f10 := shm_2126 f10
  replace f13 := shm_1889 f13
  have g0 : v_iv (n_v vs 8) = w_fi ws (n_v vs 0) 8 := congrArg v_iv f0
  have g1 : v_iv (n_v vs 11) = w_fi ws (n_v vs 0) 13 := congrArg v_iv f1
  have kz_0_8 := fdq_34 hD hth r0
  have kz_0_10 := fdq_43 hD hth r0
  have kz_0_11 := fdq_237 hD hth r0
  have kz_0_12 := fdq_187 hD hth r0
  have kz_0_13 := fdq_238 hD hth r0
  have kz_0_14 := fdq_188 hD hth r0
  have kz_0_15 := fdq_239 hD hth r0
  obtain ⟨x, ex, hx⟩ := iv_ex (ta := ta) (lo := 0) (hi := 5) (z := w_fi ws (n_v vs 0) 8) (by omega) (by omega) (by omega) (by omega)
  have ex2 : v_iv (Value.int x) = w_fi ws (n_v vs 0) 8 := ex
  have ex3 : 0 ≤ v_iv (Value.int x) ∧ v_iv (Value.int x) ≤ 5 := tv_rng hx
  have e_0 : n_v (vs ++ [Value.int x]) 0 = n_v vs 0 := n_v_old (by rw [hl]; decide)
  have e_10 : n_v (vs ++ [Value.int x]) 10 = n_v vs 10 := n_v_old (by rw [hl]; decide)
  have e_11 : n_v (vs ++ [Value.int x]) 11 = n_v vs 11 := n_v_old (by rw [hl]; decide)
  have e_12 : n_v (vs ++ [Value.int x]) 12 = Value.int x := n_v_new hl
  have nf0 : fc_1 PRD (20, [0, 10, 11], [60, 1, 1, 1026, 10, 1]) ws (vs ++ [Value.int x]) := by
    refine ⟨nf_inA hl rfl, sgq_1724 ?_⟩
    · show FSX (w_fi ws (n_v (vs ++ [Value.int x]) 0) 10) (w_ei ws (w_ar ws (n_v (vs ++ [Value.int x]) 0) 1)) (v_iv (n_v (vs ++ [Value.int x]) 10)) (v_iv (n_v (vs ++ [Value.int x]) 11))
      simp only [e_0, e_10, e_11]
      exact vc_Mo_met_at_g4_36_0 (v_iv (n_v vs 1)) (v_iv (n_v vs 2)) (v_iv (n_v vs 5)) (v_iv (n_v vs 6)) (v_iv (n_v vs 7)) (v_iv (n_v vs 8)) (v_iv (n_v vs 9)) (v_iv (n_v vs 10)) (v_iv (n_v vs 11)) (w_fi ws (n_v vs 0) 8) (w_fi ws (n_v vs 0) 13) (w_fi ws (n_v vs 0) 15) (w_fi ws (n_v vs 0) 11) (w_fi ws (n_v vs 0) 12) (w_ei ws (w_ar ws (n_v vs 0) 2)) (w_fi ws (n_v vs 0) 5) (w_ei ws (w_ar ws (n_v vs 0) 1)) (w_fi ws (n_v vs 0) 10) (w_fi ws (n_v vs 0) 14) (v_iv (Value.int x)) k1 k2 k5 k6 k7 k8 k9 k10 k11 g0 g1 f2 f10 f13 kz_0_8 kz_0_10 kz_0_11 kz_0_12 kz_0_13 kz_0_14 kz_0_15 ex2
  have nf1 : fc_1 PRD (20, [0, 12], [30, 0, 1, 1, 8, -1, 0, 0]) ws (vs ++ [Value.int x]) := by
    refine ⟨nf_inA hl rfl, sgq_303 ?_⟩
    · show 1 * w_fi ws (n_v (vs ++ [Value.int x]) 0) 8 + ((-1) * v_iv (n_v (vs ++ [Value.int x]) 12) + 0) ≤ 0
      simp only [e_0, e_12]
      exact vc_Mo_met_at_g4_36_1 (v_iv (n_v vs 8)) (w_fi ws (n_v vs 0) 8) (w_fi ws (n_v vs 0) 5) (v_iv (Value.int x)) k8 g0 kz_0_8 ex2
  have nf2 : fc_1 PRD (20, [0, 12], [30, 0, -1, 1, 8, 1, 0, 0]) ws (vs ++ [Value.int x]) := by
    refine ⟨nf_inA hl rfl, sgq_304 ?_⟩
    · show (-1) * w_fi ws (n_v (vs ++ [Value.int x]) 0) 8 + (1 * v_iv (n_v (vs ++ [Value.int x]) 12) + 0) ≤ 0
      simp only [e_0, e_12]
      exact vc_Mo_met_at_g4_36_2 (v_iv (n_v vs 8)) (w_fi ws (n_v vs 0) 8) (w_fi ws (n_v vs 0) 5) (v_iv (Value.int x)) k8 g0 kz_0_8 ex2
  have nf3 : fc_1 PRD (20, [12], [61, 0, 1029]) ws (vs ++ [Value.int x]) := by
    refine ⟨nf_inA hl rfl, sgq_1725 ?_⟩
    · show ZH0 (v_iv (n_v (vs ++ [Value.int x]) 12))
      rw [e_12]
      exact vc_Mo_met_at_g4_36_3 (v_iv (n_v vs 8)) (w_fi ws (n_v vs 0) 8) (v_iv (Value.int x)) k8 g0 kz_0_8 ex2
  exact ⟨(fun _ h => (by cases h)), [Value.int x], ag_one hx, List.forall_mem_cons.mpr ⟨⟨show (20 : Nat) < 100 from by decide, nf0⟩, List.forall_mem_cons.mpr ⟨⟨show (20 : Nat) < 100 from by decide, nf1⟩, List.forall_mem_cons.mpr ⟨⟨show (20 : Nat) < 100 from by decide, nf2⟩, List.forall_mem_cons.mpr ⟨⟨show (20 : Nat) < 100 from by decide, nf3⟩, (fun _ h => (by cases h))⟩⟩⟩⟩, (fun _ h => (by cases h))⟩
set_option maxHeartbeats 4000000 in
theorem vc_Mo_met_at_g4_37_0 (x3 : Int) (pos_0 : Int) (kind_0 : Int) (r_0 : Int) (fault_0 : Int) (k3 : 0 ≤ x3 ∧ x3 ≤ 2000) (f13 : (-1) * fault_0 + 0 ≤ (-1)) (kz_0_8 : 0 ≤ fault_0 ∧ fault_0 ≤ 5) (kz_0_11 : 0 ≤ pos_0 ∧ pos_0 ≤ 2000) (kz_0_12 : 0 ≤ kind_0 ∧ kind_0 ≤ 4) : (1 ≤ fault_0) ∨ ((kind_0 = 0) ∨ ((x3 + 1) ≤ pos_0)) := by
  first
    | omega
    | (have q1 := (hE_0_2_1 (r_0 + 2) (by omega)).2 (by omega)
       have q2 := (hE_0_2_2 (r_0 + 2) (by omega)).2 (by omega)
       omega)
    | (have q1 := (hE_0_2_1 (r_0 + 1) (by omega)).2 (by omega)
       have q2 := (hE_0_2_2 (r_0 + 1) (by omega)).2 (by omega)
       omega)
    | (have q1 := (hE_0_2_1 (r_0 + 2) (by omega)).2 (by omega)
       omega)
    | (have q1 := (hE_0_2_1 (r_0 + 1) (by omega)).2 (by omega)
       omega)
    | (have q1 := (hE_0_2_1 (r_0 + 2) (by omega)).2 (by omega)
       have q2 := (hE_0_2_2 (r_0 + 2) (by omega)).2 (by omega)
       have q3 := (hE_0_2_3 (r_0 + 2) (by omega)).1 (by omega)
       omega)
    | (have q1 := (hE_0_2_1 (r_0 + 2) (by omega)).2 (by omega)
       have q2 := (hE_0_2_2 (r_0 + 2) (by omega)).2 (by omega)
       have q3 := (hE_0_2_3 (r_0 + 2) (by omega)).2 (by omega)
       omega)
set_option maxHeartbeats 4000000 in
theorem vc_Mo_met_at_g4_37_1 (x4 : Int) (pos_0 : Int) (r_0 : Int) (fault_0 : Int) (k4 : 0 ≤ x4 ∧ x4 ≤ 2000) (f13 : (-1) * fault_0 + 0 ≤ (-1)) (kz_0_8 : 0 ≤ fault_0 ∧ fault_0 ≤ 5) (kz_0_11 : 0 ≤ pos_0 ∧ pos_0 ≤ 2000) : (1 ≤ fault_0) ∨ ((x4 + 1) ≤ pos_0) := by
  first
    | omega
    | (have q1 := (hE_0_2_1 (r_0 + 2) (by omega)).2 (by omega)
       have q2 := (hE_0_2_2 (r_0 + 2) (by omega)).2 (by omega)
       omega)
    | (have q1 := (hE_0_2_1 (r_0 + 1) (by omega)).2 (by omega)
       have q2 := (hE_0_2_2 (r_0 + 1) (by omega)).2 (by omega)
       omega)
    | (have q1 := (hE_0_2_1 (r_0 + 2) (by omega)).2 (by omega)
       omega)
    | (have q1 := (hE_0_2_1 (r_0 + 1) (by omega)).2 (by omega)
       omega)
    | (have q1 := (hE_0_2_1 (r_0 + 2) (by omega)).2 (by omega)
       have q2 := (hE_0_2_2 (r_0 + 2) (by omega)).2 (by omega)
       have q3 := (hE_0_2_3 (r_0 + 2) (by omega)).1 (by omega)
       omega)
    | (have q1 := (hE_0_2_1 (r_0 + 2) (by omega)).2 (by omega)
       have q2 := (hE_0_2_2 (r_0 + 2) (by omega)).2 (by omega)
       have q3 := (hE_0_2_3 (r_0 + 2) (by omega)).2 (by omega)
       omega)
set_option maxHeartbeats 4000000 in
theorem vc_Mo_met_at_g4_37_2 (x13 : Int) (r_0 : Int) (fault_0 : Int) (k13 : (-1) ≤ x13 ∧ x13 ≤ (-1)) (f13 : (-1) * fault_0 + 0 ≤ (-1)) (kz_0_8 : 0 ≤ fault_0 ∧ fault_0 ≤ 5) : ((-1) * fault_0 + 0 ≤ (-1)) ∨ ((-1) * x13 + 0 ≤ 0) := by
  first
    | omega
    | (have q1 := (hE_0_2_1 (r_0 + 2) (by omega)).2 (by omega)
       have q2 := (hE_0_2_2 (r_0 + 2) (by omega)).2 (by omega)
       omega)
    | (have q1 := (hE_0_2_1 (r_0 + 1) (by omega)).2 (by omega)
       have q2 := (hE_0_2_2 (r_0 + 1) (by omega)).2 (by omega)
       omega)
    | (have q1 := (hE_0_2_1 (r_0 + 2) (by omega)).2 (by omega)
       omega)
    | (have q1 := (hE_0_2_1 (r_0 + 1) (by omega)).2 (by omega)
       omega)
    | (have q1 := (hE_0_2_1 (r_0 + 2) (by omega)).2 (by omega)
       have q2 := (hE_0_2_2 (r_0 + 2) (by omega)).2 (by omega)
       have q3 := (hE_0_2_3 (r_0 + 2) (by omega)).1 (by omega)
       omega)
    | (have q1 := (hE_0_2_1 (r_0 + 2) (by omega)).2 (by omega)
       have q2 := (hE_0_2_2 (r_0 + 2) (by omega)).2 (by omega)
       have q3 := (hE_0_2_3 (r_0 + 2) (by omega)).2 (by omega)
       omega)
set_option maxHeartbeats 4000000 in
theorem vc_Mo_met_at_g4_37_3 (x2 : Int) (all_0 : Int → Int) (r_0 : Int) (fault_0 : Int) (k2 : (-1) ≤ x2 ∧ x2 ≤ 23) (f13 : (-1) * fault_0 + 0 ≤ (-1)) (kz_0_8 : 0 ≤ fault_0 ∧ fault_0 ≤ 5) : (1 ≤ fault_0) ∨ ((x2 ≤ (-1)) ∨ (all_0 ((r_0 + 1)) ≤ 47)) := by
  first
    | omega
    | (have q1 := (hE_0_2_1 (r_0 + 2) (by omega)).2 (by omega)
       have q2 := (hE_0_2_2 (r_0 + 2) (by omega)).2 (by omega)
       omega)
    | (have q1 := (hE_0_2_1 (r_0 + 1) (by omega)).2 (by omega)
       have q2 := (hE_0_2_2 (r_0 + 1) (by omega)).2 (by omega)
       omega)
    | (have q1 := (hE_0_2_1 (r_0 + 2) (by omega)).2 (by omega)
       omega)
    | (have q1 := (hE_0_2_1 (r_0 + 1) (by omega)).2 (by omega)
       omega)
    | (have q1 := (hE_0_2_1 (r_0 + 2) (by omega)).2 (by omega)
       have q2 := (hE_0_2_2 (r_0 + 2) (by omega)).2 (by omega)
       have q3 := (hE_0_2_3 (r_0 + 2) (by omega)).1 (by omega)
       omega)
    | (have q1 := (hE_0_2_1 (r_0 + 2) (by omega)).2 (by omega)
       have q2 := (hE_0_2_2 (r_0 + 2) (by omega)).2 (by omega)
       have q3 := (hE_0_2_3 (r_0 + 2) (by omega)).2 (by omega)
       omega)
set_option maxHeartbeats 4000000 in
theorem vc_Mo_met_at_g4_37_4 (x2 : Int) (x13 : Int) (all_0 : Int → Int) (r_0 : Int) (fault_0 : Int) (k2 : (-1) ≤ x2 ∧ x2 ≤ 23) (k13 : (-1) ≤ x13 ∧ x13 ≤ (-1)) (f13 : (-1) * fault_0 + 0 ≤ (-1)) (kz_0_8 : 0 ≤ fault_0 ∧ fault_0 ≤ 5) : MET (r_0) (fault_0) (all_0) (x2) (x13) := by
  first
    | (intro q; exfalso; omega)
    | exact fun _ => ‹MEN _ _ _ _›
set_option maxHeartbeats 4000000 in
theorem vc_Mo_met_at_g4_37_5 (x1 : Int) (x2 : Int) (x5 : Int) (x6 : Int) (x7 : Int) (x10 : Int) (x11 : Int) (x12 : Int) (x13 : Int) (place_0 : Int) (tape_0 : Int → Int) (limit_0 : Int) (from_0 : Int) (pos_0 : Int) (kind_0 : Int) (all_0 : Int → Int) (r_0 : Int) (fault_0 : Int) (faultPlace_0 : Int) (value_0 : Int) (k1 : 0 ≤ x1 ∧ x1 ≤ 7) (k2 : (-1) ≤ x2 ∧ x2 ≤ 23) (k5 : 0 ≤ x5 ∧ x5 ≤ 4) (k6 : 0 ≤ x6 ∧ x6 ≤ 48) (k7 : 0 ≤ x7 ∧ x7 ≤ 1) (k10 : 1 ≤ x10 ∧ x10 ≤ 1) (k11 : 0 ≤ x11 ∧ x11 ≤ 2000) (k12 : 0 ≤ x12 ∧ x12 ≤ 5) (k13 : (-1) ≤ x13 ∧ x13 ≤ (-1)) (g0 : x11 = place_0) (f1 : FSX (limit_0) (tape_0) (x10) (x11)) (f2 : ZH0 (x12)) (f14 : ((1 ≤ x12) ∧ (fault_0 = x12)) ∨ ((x12 = 0) ∧ ((fault_0 = x10) ∧ (faultPlace_0 = x11)))) (kz_0_8 : 0 ≤ fault_0 ∧ fault_0 ≤ 5) (kz_0_9 : 0 ≤ faultPlace_0 ∧ faultPlace_0 ≤ 2000) (kz_0_10 : 0 ≤ limit_0 ∧ limit_0 ≤ 2000) (kz_0_11 : 0 ≤ pos_0 ∧ pos_0 ≤ 2000) (kz_0_12 : 0 ≤ kind_0 ∧ kind_0 ≤ 4) (kz_0_13 : 0 ≤ place_0 ∧ place_0 ≤ 2000) (kz_0_14 : (-49) ≤ value_0 ∧ value_0 ≤ 1048575) (kz_0_15 : 0 ≤ from_0 ∧ from_0 ≤ 2000) : zOP8 (limit_0) (pos_0) (kind_0) (place_0) (value_0) (from_0) (fault_0) (faultPlace_0) (r_0) (tape_0) (all_0) (x13) (x6) (x2) (x7) (x1) (x5) := by
  first | subst g0 | skip
  first
    | (exfalso; have h := (rsq_0 ‹zRS4 _ _ _ _ _ _ _ _ _ _ _ _ _ _ _›).1; omega)
    | (refine Or.inl (fs_w ?_ ?_ (by assumption)) <;> assumption)
    | exact Or.inr (rsq_of ‹zTP8 _ _ _ _ _ _ _ _ _ _ _ _› ‹TKR _ _ _ _ _ _ _ _›)
    | (exfalso; omega)
def o_Mo_met_at_g4_37 : or_T := (26, 14, [(0, (2, 0, 0, [165])), (1, (0, 0, 7, [])), (2, (0, -1, 23, [])), (3, (0, 0, 2000, [])), (4, (0, 0, 2000, [])), (5, (0, 0, 4, [])), (6, (0, 0, 48, [])), (7, (0, 0, 1, [])), (10, (0, 1, 1, [])), (11, (0, 0, 2000, [])), (12, (0, 0, 5, [])), (13, (0, -1, -1, []))], [(9, [11, 0], [13]), (20, [0, 10, 11], [60, 1, 1, 1026, 10, 1]), (20, [12], [61, 0, 1029]), (20, [0], [30, -1, -1, 1, 8]), (20, [12, 0, 10, 11], [50, 2, 0, 1008, 1009, 3, 15, 2, 6, 0, 2, 0, 1, 1, 0, 1, 3, 2, 1, 8, 1, 0, 2, 6, 1, 2, 1, 0, 0, 0, 2, 7, 1, 3, 2, 1, 8, 1, 2, 1, 3, 2, 1, 9, 1, 3])], [], [], [(20, [0, 3], [50, 3, 0, 8, 12, 11, 3, 7, 0, 2, 0, 1, 2, 0, 8, 3, 7, 1, 3, 2, 0, 12, 0, 0, 0, 6, 4, 2, 1, 1, 0, 1, 2, 0, 11]), (20, [0, 4], [50, 2, 0, 8, 11, 3, 7, 0, 2, 0, 1, 2, 0, 8, 0, 6, 4, 2, 1, 1, 0, 1, 2, 0, 11]), (20, [0, 13], [31, 1, -1, -1, 1, 8, 0, -1, 0, 0]), (20, [0, 2], [50, 2, 1, 8, 5, 2, 3, 7, 0, 2, 0, 1, 2, 0, 8, 3, 6, 0, 2, 1, 1, 0, -1, 0, 10, 3, 0, 2, 4, 3, 2, 0, 5, 0, 1, 0, 47]), (20, [0, 2, 13], [60, 2, 1, 240, 5, 8, 2]), (20, [0, 13, 6, 2, 7, 1, 5], [60, 9, 2, 1011, 10, 11, 12, 13, 14, 15, 8, 9, 5, 1, 2])], [], [])
theorem oo_Mo_met_at_g4_37 {kA : Nat → ClassId} : or_ok PRD kA GG o_Mo_met_at_g4_37 := by
  refine or_mk fun A ta ws vs hD hth hl => ?_
  intro t0 r0 t1 k1 t2 k2 t3 k3 t4 k4 t5 k5 t6 k6 t7 k7 t10 k10 t11 k11 t12 k12 t13 k13 f0 f1 f2 f13 f14
  replace f0 := shm_361 f0
  have g0 : v_iv (n_v vs 11) = w_fi ws (n_v vs 0) 13 := congrArg v_iv f0
  have kz_0_8 := fdq_34 hD hth r0
  have kz_0_9 := fdq_44 hD hth r0
  have kz_0_10 := fdq_43 hD hth r0
  have kz_0_11 := fdq_237 hD hth r0
  have kz_0_12 := fdq_187 hD hth r0
  have kz_0_13 := fdq_238 hD hth r0
  have kz_0_14 := fdq_188 hD hth r0
  have kz_0_15 := fdq_239 hD hth r0
  have nf0 : fc_1 PRD (20, [0, 3], [50, 3, 0, 8, 12, 11, 3, 7, 0, 2, 0, 1, 2, 0, 8, 3, 7, 1, 3, 2, 0, 12, 0, 0, 0, 6, 4, 2, 1, 1, 0, 1, 2, 0, 11]) ws (vs) := ⟨nf_in hl rfl, sgq_1722 (vc_Mo_met_at_g4_37_0 (v_iv (n_v vs 3)) (w_fi ws (n_v vs 0) 11) (w_fi ws (n_v vs 0) 12) (w_fi ws (n_v vs 0) 5) (w_fi ws (n_v vs 0) 8) k3 (shm_305 f13) kz_0_8 kz_0_11 kz_0_12)⟩
  have nf1 : fc_1 PRD (20, [0, 4], [50, 2, 0, 8, 11, 3, 7, 0, 2, 0, 1, 2, 0, 8, 0, 6, 4, 2, 1, 1, 0, 1, 2, 0, 11]) ws (vs) := ⟨nf_in hl rfl, sgq_1726 (vc_Mo_met_at_g4_37_1 (v_iv (n_v vs 4)) (w_fi ws (n_v vs 0) 11) (w_fi ws (n_v vs 0) 5) (w_fi ws (n_v vs 0) 8) k4 (shm_305 f13) kz_0_8 kz_0_11)⟩
  have nf2 : fc_1 PRD (20, [0, 13], [31, 1, -1, -1, 1, 8, 0, -1, 0, 0]) ws (vs) := ⟨nf_in hl rfl, sgq_2117 (vc_Mo_met_at_g4_37_2 (v_iv (n_v vs 13)) (w_fi ws (n_v vs 0) 5) (w_fi ws (n_v vs 0) 8) k13 (shm_305 f13) kz_0_8)⟩
  have nf3 : fc_1 PRD (20, [0, 2], [50, 2, 1, 8, 5, 2, 3, 7, 0, 2, 0, 1, 2, 0, 8, 3, 6, 0, 2, 1, 1, 0, -1, 0, 10, 3, 0, 2, 4, 3, 2, 0, 5, 0, 1, 0, 47]) ws (vs) := ⟨nf_in hl rfl, sgq_2118 (vc_Mo_met_at_g4_37_3 (v_iv (n_v vs 2)) (w_ei ws (w_ar ws (n_v vs 0) 2)) (w_fi ws (n_v vs 0) 5) (w_fi ws (n_v vs 0) 8) k2 (shm_305 f13) kz_0_8)⟩
  have nf4 : fc_1 PRD (20, [0, 2, 13], [60, 2, 1, 240, 5, 8, 2]) ws (vs) := ⟨nf_in hl rfl, sgq_2119 (vc_Mo_met_at_g4_37_4 (v_iv (n_v vs 2)) (v_iv (n_v vs 13)) (w_ei ws (w_ar ws (n_v vs 0) 2)) (w_fi ws (n_v vs 0) 5) (w_fi ws (n_v vs 0) 8) k2 k13 (shm_305 f13) kz_0_8)⟩
  have nf5 : fc_1 PRD (20, [0, 13, 6, 2, 7, 1, 5], [60, 9, 2, 1011, 10, 11, 12, 13, 14, 15, 8, 9, 5, 1, 2]) ws (vs) := ⟨nf_in hl rfl, sgq_2128 (vc_Mo_met_at_g4_37_5 (v_iv (n_v vs 1)) (v_iv (n_v vs 2)) (v_iv (n_v vs 5)) (v_iv (n_v vs 6)) (v_iv (n_v vs 7)) (v_iv (n_v vs 10)) (v_iv (n_v vs 11)) (v_iv (n_v vs 12)) (v_iv (n_v vs 13)) (w_fi ws (n_v vs 0) 13) (w_ei ws (w_ar ws (n_v vs 0) 1)) (w_fi ws (n_v vs 0) 10) (w_fi ws (n_v vs 0) 15) (w_fi ws (n_v vs 0) 11) (w_fi ws (n_v vs 0) 12) (w_ei ws (w_ar ws (n_v vs 0) 2)) (w_fi ws (n_v vs 0) 5) (w_fi ws (n_v vs 0) 8) (w_fi ws (n_v vs 0) 9) (w_fi ws (n_v vs 0) 14) k1 k2 k5 k6 k7 k10 k11 k12 k13 g0 (shm_1724 f1) (shm_1725 f2) (shm_306 f14) kz_0_8 kz_0_9 kz_0_10 kz_0_11 kz_0_12 kz_0_13 kz_0_14 kz_0_15)⟩
  refine ⟨(fun _ h => (by cases h)), [], trivial, ?_, (fun _ h => (by cases h))⟩
  rw [List.append_nil]
  exact List.forall_mem_cons.mpr ⟨⟨show (20 : Nat) < 100 from by decide, nf0⟩, List.forall_mem_cons.mpr ⟨⟨show (20 : Nat) < 100 from by decide, nf1⟩, List.forall_mem_cons.mpr ⟨⟨show (20 : Nat) < 100 from by decide, nf2⟩, List.forall_mem_cons.mpr ⟨⟨show (20 : Nat) < 100 from by decide, nf3⟩, List.forall_mem_cons.mpr ⟨⟨show (20 : Nat) < 100 from by decide, nf4⟩, List.forall_mem_cons.mpr ⟨⟨show (20 : Nat) < 100 from by decide, nf5⟩, (fun _ h => (by cases h))⟩⟩⟩⟩⟩⟩
set_option maxHeartbeats 4000000 in
theorem vc_Mo_met_at_g4_38_0 (x3 : Int) (x8 : Int) (fault_0 : Int) (pos_0 : Int) (kind_0 : Int) (r_0 : Int) (k3 : 0 ≤ x3 ∧ x3 ≤ 2000) (k8 : 1 ≤ x8 ∧ x8 ≤ 5) (g1 : x8 = fault_0) (kz_0_8 : 0 ≤ fault_0 ∧ fault_0 ≤ 5) (kz_0_11 : 0 ≤ pos_0 ∧ pos_0 ≤ 2000) (kz_0_12 : 0 ≤ kind_0 ∧ kind_0 ≤ 4) : (1 ≤ fault_0) ∨ ((kind_0 = 0) ∨ ((x3 + 1) ≤ pos_0)) := by
  first
    | omega
    | (have q1 := (hE_0_2_1 (r_0 + 2) (by omega)).2 (by omega)
       have q2 := (hE_0_2_2 (r_0 + 2) (by omega)).2 (by omega)
       omega)
    | (have q1 := (hE_0_2_1 (r_0 + 1) (by omega)).2 (by omega)
       have q2 := (hE_0_2_2 (r_0 + 1) (by omega)).2 (by omega)
       omega)
    | (have q1 := (hE_0_2_1 (r_0 + 2) (by omega)).2 (by omega)
       omega)
    | (have q1 := (hE_0_2_1 (r_0 + 1) (by omega)).2 (by omega)
       omega)
    | (have q1 := (hE_0_2_1 (r_0 + 2) (by omega)).2 (by omega)
       have q2 := (hE_0_2_2 (r_0 + 2) (by omega)).2 (by omega)
       have q3 := (hE_0_2_3 (r_0 + 2) (by omega)).1 (by omega)
       omega)
    | (have q1 := (hE_0_2_1 (r_0 + 2) (by omega)).2 (by omega)
       have q2 := (hE_0_2_2 (r_0 + 2) (by omega)).2 (by omega)
       have q3 := (hE_0_2_3 (r_0 + 2) (by omega)).2 (by omega)
       omega)
set_option maxHeartbeats 4000000 in
theorem vc_Mo_met_at_g4_38_1 (x4 : Int) (x8 : Int) (fault_0 : Int) (pos_0 : Int) (r_0 : Int) (k4 : 0 ≤ x4 ∧ x4 ≤ 2000) (k8 : 1 ≤ x8 ∧ x8 ≤ 5) (g1 : x8 = fault_0) (kz_0_8 : 0 ≤ fault_0 ∧ fault_0 ≤ 5) (kz_0_11 : 0 ≤ pos_0 ∧ pos_0 ≤ 2000) : (1 ≤ fault_0) ∨ ((x4 + 1) ≤ pos_0) := by
  first
    | omega
    | (have q1 := (hE_0_2_1 (r_0 + 2) (by omega)).2 (by omega)
       have q2 := (hE_0_2_2 (r_0 + 2) (by omega)).2 (by omega)
       omega)
    | (have q1 := (hE_0_2_1 (r_0 + 1) (by omega)).2 (by omega)
       have q2 := (hE_0_2_2 (r_0 + 1) (by omega)).2 (by omega)
       omega)
    | (have q1 := (hE_0_2_1 (r_0 + 2) (by omega)).2 (by omega)
       omega)
    | (have q1 := (hE_0_2_1 (r_0 + 1) (by omega)).2 (by omega)
       omega)
    | (have q1 := (hE_0_2_1 (r_0 + 2) (by omega)).2 (by omega)
       have q2 := (hE_0_2_2 (r_0 + 2) (by omega)).2 (by omega)
       have q3 := (hE_0_2_3 (r_0 + 2) (by omega)).1 (by omega)
       omega)
    | (have q1 := (hE_0_2_1 (r_0 + 2) (by omega)).2 (by omega)
       have q2 := (hE_0_2_2 (r_0 + 2) (by omega)).2 (by omega)
       have q3 := (hE_0_2_3 (r_0 + 2) (by omega)).2 (by omega)
       omega)
set_option maxHeartbeats 4000000 in
theorem vc_Mo_met_at_g4_38_2 (x8 : Int) (x9 : Int) (fault_0 : Int) (r_0 : Int) (k8 : 1 ≤ x8 ∧ x8 ≤ 5) (k9 : (-1) ≤ x9 ∧ x9 ≤ (-1)) (g1 : x8 = fault_0) (kz_0_8 : 0 ≤ fault_0 ∧ fault_0 ≤ 5) : ((-1) * fault_0 + 0 ≤ (-1)) ∨ ((-1) * x9 + 0 ≤ 0) := by
  first
    | omega
    | (have q1 := (hE_0_2_1 (r_0 + 2) (by omega)).2 (by omega)
       have q2 := (hE_0_2_2 (r_0 + 2) (by omega)).2 (by omega)
       omega)
    | (have q1 := (hE_0_2_1 (r_0 + 1) (by omega)).2 (by omega)
       have q2 := (hE_0_2_2 (r_0 + 1) (by omega)).2 (by omega)
       omega)
    | (have q1 := (hE_0_2_1 (r_0 + 2) (by omega)).2 (by omega)
       omega)
    | (have q1 := (hE_0_2_1 (r_0 + 1) (by omega)).2 (by omega)
       omega)
    | (have q1 := (hE_0_2_1 (r_0 + 2) (by omega)).2 (by omega)
       have q2 := (hE_0_2_2 (r_0 + 2) (by omega)).2 (by omega)
       have q3 := (hE_0_2_3 (r_0 + 2) (by omega)).1 (by omega)
       omega)
    | (have q1 := (hE_0_2_1 (r_0 + 2) (by omega)).2 (by omega)
       have q2 := (hE_0_2_2 (r_0 + 2) (by omega)).2 (by omega)
       have q3 := (hE_0_2_3 (r_0 + 2) (by omega)).2 (by omega)
       omega)
set_option maxHeartbeats 4000000 in
theorem vc_Mo_met_at_g4_38_3 (x2 : Int) (x8 : Int) (fault_0 : Int) (all_0 : Int → Int) (r_0 : Int) (k2 : (-1) ≤ x2 ∧ x2 ≤ 23) (k8 : 1 ≤ x8 ∧ x8 ≤ 5) (g1 : x8 = fault_0) (kz_0_8 : 0 ≤ fault_0 ∧ fault_0 ≤ 5) : (1 ≤ fault_0) ∨ ((x2 ≤ (-1)) ∨ (all_0 ((r_0 + 1)) ≤ 47)) := by
  first
    | omega
    | (have q1 := (hE_0_2_1 (r_0 + 2) (by omega)).2 (by omega)
       have q2 := (hE_0_2_2 (r_0 + 2) (by omega)).2 (by omega)
       omega)
    | (have q1 := (hE_0_2_1 (r_0 + 1) (by omega)).2 (by omega)
       have q2 := (hE_0_2_2 (r_0 + 1) (by omega)).2 (by omega)
       omega)
    | (have q1 := (hE_0_2_1 (r_0 + 2) (by omega)).2 (by omega)
       omega)
    | (have q1 := (hE_0_2_1 (r_0 + 1) (by omega)).2 (by omega)
       omega)
    | (have q1 := (hE_0_2_1 (r_0 + 2) (by omega)).2 (by omega)
       have q2 := (hE_0_2_2 (r_0 + 2) (by omega)).2 (by omega)
       have q3 := (hE_0_2_3 (r_0 + 2) (by omega)).1 (by omega)
       omega)
    | (have q1 := (hE_0_2_1 (r_0 + 2) (by omega)).2 (by omega)
       have q2 := (hE_0_2_2 (r_0 + 2) (by omega)).2 (by omega)
       have q3 := (hE_0_2_3 (r_0 + 2) (by omega)).2 (by omega)
       omega)
set_option maxHeartbeats 4000000 in
theorem vc_Mo_met_at_g4_38_4 (x2 : Int) (x8 : Int) (x9 : Int) (fault_0 : Int) (all_0 : Int → Int) (r_0 : Int) (k2 : (-1) ≤ x2 ∧ x2 ≤ 23) (k8 : 1 ≤ x8 ∧ x8 ≤ 5) (k9 : (-1) ≤ x9 ∧ x9 ≤ (-1)) (g1 : x8 = fault_0) (kz_0_8 : 0 ≤ fault_0 ∧ fault_0 ≤ 5) : MET (r_0) (fault_0) (all_0) (x2) (x9) := by
  first
    | (intro q; exfalso; omega)
    | exact fun _ => ‹MEN _ _ _ _›
set_option maxHeartbeats 4000000 in
theorem vc_Mo_met_at_g4_38_5 (x1 : Int) (x2 : Int) (x5 : Int) (x6 : Int) (x7 : Int) (x8 : Int) (x9 : Int) (fault_0 : Int) (from_0 : Int) (pos_0 : Int) (kind_0 : Int) (all_0 : Int → Int) (r_0 : Int) (tape_0 : Int → Int) (limit_0 : Int) (place_0 : Int) (value_0 : Int) (faultPlace_0 : Int) (k1 : 0 ≤ x1 ∧ x1 ≤ 7) (k2 : (-1) ≤ x2 ∧ x2 ≤ 23) (k5 : 0 ≤ x5 ∧ x5 ≤ 4) (k6 : 0 ≤ x6 ∧ x6 ≤ 48) (k7 : 0 ≤ x7 ∧ x7 ≤ 1) (k8 : 1 ≤ x8 ∧ x8 ≤ 5) (k9 : (-1) ≤ x9 ∧ x9 ≤ (-1)) (g1 : x8 = fault_0) (f9 : zRS4 (limit_0) (pos_0) (kind_0) (place_0) (value_0) (from_0) (fault_0) (r_0) (tape_0) (all_0) (x2) (x6) (x7) (x1) (x5)) (kz_0_8 : 0 ≤ fault_0 ∧ fault_0 ≤ 5) (kz_0_9 : 0 ≤ faultPlace_0 ∧ faultPlace_0 ≤ 2000) (kz_0_10 : 0 ≤ limit_0 ∧ limit_0 ≤ 2000) (kz_0_11 : 0 ≤ pos_0 ∧ pos_0 ≤ 2000) (kz_0_12 : 0 ≤ kind_0 ∧ kind_0 ≤ 4) (kz_0_13 : 0 ≤ place_0 ∧ place_0 ≤ 2000) (kz_0_14 : (-49) ≤ value_0 ∧ value_0 ≤ 1048575) (kz_0_15 : 0 ≤ from_0 ∧ from_0 ≤ 2000) : zOP8 (limit_0) (pos_0) (kind_0) (place_0) (value_0) (from_0) (fault_0) (faultPlace_0) (r_0) (tape_0) (all_0) (x9) (x6) (x2) (x7) (x1) (x5) := by
  first | subst g1 | skip
  first
    | (exfalso; have h := (rsq_0 ‹zRS4 _ _ _ _ _ _ _ _ _ _ _ _ _ _ _›).1; omega)
    | (refine Or.inl (fs_w ?_ ?_ (by assumption)) <;> assumption)
    | exact Or.inr (rsq_of ‹zTP8 _ _ _ _ _ _ _ _ _ _ _ _› ‹TKR _ _ _ _ _ _ _ _›)
    | (exfalso; omega)
def o_Mo_met_at_g4_38 : or_T := (8, 10, [(0, (2, 0, 0, [165])), (1, (0, 0, 7, [])), (2, (0, -1, 23, [])), (3, (0, 0, 2000, [])), (4, (0, 0, 2000, [])), (5, (0, 0, 4, [])), (6, (0, 0, 48, [])), (7, (0, 0, 1, [])), (8, (0, 1, 5, [])), (9, (0, -1, -1, []))], [(9, [8, 0], [8]), (20, [0, 2, 6, 7, 1, 5], [60, 8, 2, 993, 10, 11, 12, 13, 14, 15, 8, 5, 1, 2])], [], [], [(20, [0, 3], [50, 3, 0, 8, 12, 11, 3, 7, 0, 2, 0, 1, 2, 0, 8, 3, 7, 1, 3, 2, 0, 12, 0, 0, 0, 6, 4, 2, 1, 1, 0, 1, 2, 0, 11]), (20, [0, 4], [50, 2, 0, 8, 11, 3, 7, 0, 2, 0, 1, 2, 0, 8, 0, 6, 4, 2, 1, 1, 0, 1, 2, 0, 11]), (20, [0, 9], [31, 1, -1, -1, 1, 8, 0, -1, 0, 0]), (20, [0, 2], [50, 2, 1, 8, 5, 2, 3, 7, 0, 2, 0, 1, 2, 0, 8, 3, 6, 0, 2, 1, 1, 0, -1, 0, 10, 3, 0, 2, 4, 3, 2, 0, 5, 0, 1, 0, 47]), (20, [0, 2, 9], [60, 2, 1, 240, 5, 8, 2]), (20, [0, 9, 6, 2, 7, 1, 5], [60, 9, 2, 1011, 10, 11, 12, 13, 14, 15, 8, 9, 5, 1, 2])], [], [])
theorem oo_Mo_met_at_g4_38 {kA : Nat → ClassId} : or_ok PRD kA GG o_Mo_met_at_g4_38 := by
  refine or_mk fun A ta ws vs hD hth hl => ?_
  intro t0 r0 t1 k1 t2 k2 t3 k3 t4 k4 t5 k5 t6 k6 t7 k7 t8 k8 t9 k9 f1 f9
  replace f1 := shm_293 f1
  have g1 : v_iv (n_v vs 8) = w_fi ws (n_v vs 0) 8 := congrArg v_iv f1
  have kz_0_8 := fdq_34 hD hth r0
  have kz_0_9 := fdq_44 hD hth r0
  have kz_0_10 := fdq_43 hD hth r0
  have kz_0_11 := fdq_237 hD hth r0
  have kz_0_12 := fdq_187 hD hth r0
  have kz_0_13 := fdq_238 hD hth r0
  have kz_0_14 := fdq_188 hD hth r0
  have kz_0_15 := fdq_239 hD hth r0
  have nf0 : fc_1 PRD (20, [0, 3], [50, 3, 0, 8, 12, 11, 3, 7, 0, 2, 0, 1, 2, 0, 8, 3, 7, 1, 3, 2, 0, 12, 0, 0, 0, 6, 4, 2, 1, 1, 0, 1, 2, 0, 11]) ws (vs) := ⟨nf_in hl rfl, sgq_1722 (vc_Mo_met_at_g4_38_0 (v_iv (n_v vs 3)) (v_iv (n_v vs 8)) (w_fi ws (n_v vs 0) 8) (w_fi ws (n_v vs 0) 11) (w_fi ws (n_v vs 0) 12) (w_fi ws (n_v vs 0) 5) k3 k8 g1 kz_0_8 kz_0_11 kz_0_12)⟩
  have nf1 : fc_1 PRD (20, [0, 4], [50, 2, 0, 8, 11, 3, 7, 0, 2, 0, 1, 2, 0, 8, 0, 6, 4, 2, 1, 1, 0, 1, 2, 0, 11]) ws (vs) := ⟨nf_in hl rfl, sgq_1726 (vc_Mo_met_at_g4_38_1 (v_iv (n_v vs 4)) (v_iv (n_v vs 8)) (w_fi ws (n_v vs 0) 8) (w_fi ws (n_v vs 0) 11) (w_fi ws (n_v vs 0) 5) k4 k8 g1 kz_0_8 kz_0_11)⟩
  have nf2 : fc_1 PRD (20, [0, 9], [31, 1, -1, -1, 1, 8, 0, -1, 0, 0]) ws (vs) := ⟨nf_in hl rfl, sgq_2117 (vc_Mo_met_at_g4_38_2 (v_iv (n_v vs 8)) (v_iv (n_v vs 9)) (w_fi ws (n_v vs 0) 8) (w_fi ws (n_v vs 0) 5) k8 k9 g1 kz_0_8)⟩
  have nf3 : fc_1 PRD (20, [0, 2], [50, 2, 1, 8, 5, 2, 3, 7, 0, 2, 0, 1, 2, 0, 8, 3, 6, 0, 2, 1, 1, 0, -1, 0, 10, 3, 0, 2, 4, 3, 2, 0, 5, 0, 1, 0, 47]) ws (vs) := ⟨nf_in hl rfl, sgq_2118 (vc_Mo_met_at_g4_38_3 (v_iv (n_v vs 2)) (v_iv (n_v vs 8)) (w_fi ws (n_v vs 0) 8) (w_ei ws (w_ar ws (n_v vs 0) 2)) (w_fi ws (n_v vs 0) 5) k2 k8 g1 kz_0_8)⟩
  have nf4 : fc_1 PRD (20, [0, 2, 9], [60, 2, 1, 240, 5, 8, 2]) ws (vs) := ⟨nf_in hl rfl, sgq_2119 (vc_Mo_met_at_g4_38_4 (v_iv (n_v vs 2)) (v_iv (n_v vs 8)) (v_iv (n_v vs 9)) (w_fi ws (n_v vs 0) 8) (w_ei ws (w_ar ws (n_v vs 0) 2)) (w_fi ws (n_v vs 0) 5) k2 k8 k9 g1 kz_0_8)⟩
  have nf5 : fc_1 PRD (20, [0, 9, 6, 2, 7, 1, 5], [60, 9, 2, 1011, 10, 11, 12, 13, 14, 15, 8, 9, 5, 1, 2]) ws (vs) := ⟨nf_in hl rfl, sgq_2128 (vc_Mo_met_at_g4_38_5 (v_iv (n_v vs 1)) (v_iv (n_v vs 2)) (v_iv (n_v vs 5)) (v_iv (n_v vs 6)) (v_iv (n_v vs 7)) (v_iv (n_v vs 8)) (v_iv (n_v vs 9)) (w_fi ws (n_v vs 0) 8) (w_fi ws (n_v vs 0) 15) (w_fi ws (n_v vs 0) 11) (w_fi ws (n_v vs 0) 12) (w_ei ws (w_ar ws (n_v vs 0) 2)) (w_fi ws (n_v vs 0) 5) (w_ei ws (w_ar ws (n_v vs 0) 1)) (w_fi ws (n_v vs 0) 10) (w_fi ws (n_v vs 0) 13) (w_fi ws (n_v vs 0) 14) (w_fi ws (n_v vs 0) 9) k1 k2 k5 k6 k7 k8 k9 g1 (shm_2126 f9) kz_0_8 kz_0_9 kz_0_10 kz_0_11 kz_0_12 kz_0_13 kz_0_14 kz_0_15)⟩
  refine ⟨(fun _ h => (by cases h)), [], trivial, ?_, (fun _ h => (by cases h))⟩
  rw [List.append_nil]
  exact List.forall_mem_cons.mpr ⟨⟨show (20 : Nat) < 100 from by decide, nf0⟩, List.forall_mem_cons.mpr ⟨⟨show (20 : Nat) < 100 from by decide, nf1⟩, List.forall_mem_cons.mpr ⟨⟨show (20 : Nat) < 100 from by decide, nf2⟩, List.forall_mem_cons.mpr ⟨⟨show (20 : Nat) < 100 from by decide, nf3⟩, List.forall_mem_cons.mpr ⟨⟨show (20 : Nat) < 100 from by decide, nf4⟩, List.forall_mem_cons.mpr ⟨⟨show (20 : Nat) < 100 from by decide, nf5⟩, (fun _ h => (by cases h))⟩⟩⟩⟩⟩⟩
set_option maxHeartbeats 4000000 in
theorem vc_Mo_met_at_g4_39_0 (x1 : Int) (x2 : Int) (x10 : Int) (x11 : Int) (x18 : Int) (x20 : Int) (x21 : Int) (x22 : Int) (x24 : Int) (x25 : Int) (r_0 : Int) (from_0 : Int) (pos_0 : Int) (kind_0 : Int) (from_1 : Int) (pos_1 : Int) (kind_1 : Int) (from_2 : Int) (pos_2 : Int) (kind_2 : Int) (all_2 : Int → Int) (r_2 : Int) (now_2 : Int → Int) (latest_2 : Int → Int) (tape_2 : Int → Int) (limit_2 : Int) (place_2 : Int) (value_2 : Int) (fault_2 : Int) (r_1 : Int) (fault_0 : Int) (fault_1 : Int) (limit_0 : Int) (limit_1 : Int) (place_0 : Int) (place_1 : Int) (value_0 : Int) (value_1 : Int) (tape_0 : Int → Int) (tape_1 : Int → Int) (all_0 : Int → Int) (all_1 : Int → Int) (now_0 : Int → Int) (now_1 : Int → Int) (latest_0 : Int → Int) (latest_1 : Int → Int) (k1 : 0 ≤ x1 ∧ x1 ≤ 7) (k2 : (-1) ≤ x2 ∧ x2 ≤ 23) (k10 : (-1) ≤ x10 ∧ x10 ≤ 23) (k11 : 0 ≤ x11 ∧ x11 ≤ 23) (k18 : 0 ≤ x18 ∧ x18 ≤ 66297) (k20 : 219 ≤ x20 ∧ x20 ≤ 66516) (k21 : 219 ≤ x21 ∧ x21 ≤ 66539) (k22 : 1 ≤ x22 ∧ x22 ≤ 1) (k24 : 243 ≤ x24 ∧ x24 ≤ 66540) (k25 : 243 ≤ x25 ∧ x25 ≤ 66563) (d2 : x18 + 243 ≤ x25 ∧ x25 ≤ x18 + 266) (d3 : x18 + 243 ≤ x24 ∧ x24 ≤ x18 + 243) (d4 : x11 + 219 ≤ x21 ∧ x21 ≤ x11 + 66516) (d7 : x18 + 219 ≤ x20 ∧ x20 ≤ x18 + 219) (d11 : x10 + (-4294967296) ≤ x2 ∧ x2 ≤ x10 + 0) (d13 : x2 + (-4294967296) ≤ x10 ∧ x10 ≤ x2 + 0) (g0 : x18 = r_0) (f8 : kind_0 = 1) (f13 : x25 = x24 + x11) (f21 : x21 = x20 + x11) (f26 : ((kind_2 = 1) → (pos_2 ≤ (from_2 + 8))) ∧ ((kind_2 = 0) ∨ ((from_2 + 1) ≤ pos_2))) (f30 : (x2 ≤ (-1)) ∨ (all_2 ((r_2 + 1)) ≤ 47)) (fe_0_5_1 : r_0 = r_1) (fe_0_8_1 : fault_0 = fault_1) (fe_0_10_1 : limit_0 = limit_1) (fe_0_11_1 : pos_0 = pos_1) (fe_0_12_1 : kind_0 = kind_1) (fe_0_13_1 : place_0 = place_1) (fe_0_14_1 : value_0 = value_1) (fe_0_15_1 : from_0 = from_1) (fe_0_5_2 : r_1 = r_2) (fe_0_8_2 : fault_1 = fault_2) (fe_0_10_2 : limit_1 = limit_2) (fe_0_11_2 : pos_1 = pos_2) (fe_0_12_2 : kind_1 = kind_2) (fe_0_13_2 : place_1 = place_2) (fe_0_14_2 : value_1 = value_2) (fe_0_15_2 : from_1 = from_2) (hE_0_1_1 : ∀ j : Int, tape_0 j = tape_1 j) (hE_0_1_2 : ∀ j : Int, tape_1 j = tape_2 j) (hE_0_2_1 : ∀ j : Int, 0 ≤ j → (j = x25 → all_0 j = x1) ∧ (j ≠ x25 → all_0 j = all_1 j)) (hE_0_2_2 : ∀ j : Int, 0 ≤ j → (j = x21 → all_1 j = x22) ∧ (j ≠ x21 → all_1 j = all_2 j)) (hE_0_3_1 : ∀ j : Int, now_0 j = now_1 j) (hE_0_3_2 : ∀ j : Int, now_1 j = now_2 j) (hE_0_4_1 : ∀ j : Int, latest_0 j = latest_1 j) (hE_0_4_2 : ∀ j : Int, latest_1 j = latest_2 j) (kz_0_8 : 0 ≤ fault_0 ∧ fault_0 ≤ 5) (kz_0_10 : 0 ≤ limit_0 ∧ limit_0 ≤ 2000) (kz_0_11 : 0 ≤ pos_0 ∧ pos_0 ≤ 2000) (kz_0_12 : 0 ≤ kind_0 ∧ kind_0 ≤ 4) (kz_0_13 : 0 ≤ place_0 ∧ place_0 ≤ 2000) (kz_0_14 : (-49) ≤ value_0 ∧ value_0 ≤ 1048575) (kz_0_15 : 0 ≤ from_0 ∧ from_0 ≤ 2000) : (x2 ≤ (-1)) ∨ (all_0 ((r_0 + 1)) ≤ 47) := by
  subst fe_0_5_1
  subst fe_0_8_1
  subst fe_0_10_1
  subst fe_0_11_1
  subst fe_0_12_1
  subst fe_0_13_1
  subst fe_0_14_1
  subst fe_0_15_1
  subst fe_0_5_2
  subst fe_0_8_2
  subst fe_0_10_2
  subst fe_0_11_2
  subst fe_0_12_2
  subst fe_0_13_2
  subst fe_0_14_2
  subst fe_0_15_2
  have e_hE_0_1_1 := funext hE_0_1_1; subst e_hE_0_1_1
  have e_hE_0_1_2 := funext hE_0_1_2; subst e_hE_0_1_2
  have e_hE_0_3_1 := funext hE_0_3_1; subst e_hE_0_3_1
  have e_hE_0_3_2 := funext hE_0_3_2; subst e_hE_0_3_2
  have e_hE_0_4_1 := funext hE_0_4_1; subst e_hE_0_4_1
  have e_hE_0_4_2 := funext hE_0_4_2; subst e_hE_0_4_2
  first
    | omega
    | (have q1 := (hE_0_2_1 (r_0 + 2) (by omega)).2 (by omega)
       have q2 := (hE_0_2_2 (r_0 + 2) (by omega)).2 (by omega)
       omega)
    | (have q1 := (hE_0_2_1 (r_0 + 1) (by omega)).2 (by omega)
       have q2 := (hE_0_2_2 (r_0 + 1) (by omega)).2 (by omega)
       omega)
    | (have q1 := (hE_0_2_1 (r_0 + 2) (by omega)).2 (by omega)
       omega)
    | (have q1 := (hE_0_2_1 (r_0 + 1) (by omega)).2 (by omega)
       omega)
    | (have q1 := (hE_0_2_1 (r_0 + 2) (by omega)).2 (by omega)
       have q2 := (hE_0_2_2 (r_0 + 2) (by omega)).2 (by omega)
       have q3 := (hE_0_2_3 (r_0 + 2) (by omega)).1 (by omega)
       omega)
    | (have q1 := (hE_0_2_1 (r_0 + 2) (by omega)).2 (by omega)
       have q2 := (hE_0_2_2 (r_0 + 2) (by omega)).2 (by omega)
       have q3 := (hE_0_2_3 (r_0 + 2) (by omega)).2 (by omega)
       omega)
set_option maxHeartbeats 4000000 in
theorem vc_Mo_met_at_g4_39_1 (x1 : Int) (x9 : Int) (x11 : Int) (x18 : Int) (x20 : Int) (x21 : Int) (x22 : Int) (x24 : Int) (x25 : Int) (r_0 : Int) (from_0 : Int) (pos_0 : Int) (kind_0 : Int) (from_1 : Int) (pos_1 : Int) (kind_1 : Int) (from_2 : Int) (pos_2 : Int) (kind_2 : Int) (all_2 : Int → Int) (r_2 : Int) (now_2 : Int → Int) (latest_2 : Int → Int) (tape_2 : Int → Int) (limit_2 : Int) (place_2 : Int) (value_2 : Int) (fault_2 : Int) (r_1 : Int) (fault_0 : Int) (fault_1 : Int) (limit_0 : Int) (limit_1 : Int) (place_0 : Int) (place_1 : Int) (value_0 : Int) (value_1 : Int) (tape_0 : Int → Int) (tape_1 : Int → Int) (all_0 : Int → Int) (all_1 : Int → Int) (now_0 : Int → Int) (now_1 : Int → Int) (latest_0 : Int → Int) (latest_1 : Int → Int) (k1 : 0 ≤ x1 ∧ x1 ≤ 7) (k9 : 0 ≤ x9 ∧ x9 ≤ 7) (k11 : 0 ≤ x11 ∧ x11 ≤ 23) (k18 : 0 ≤ x18 ∧ x18 ≤ 66297) (k20 : 219 ≤ x20 ∧ x20 ≤ 66516) (k21 : 219 ≤ x21 ∧ x21 ≤ 66539) (k22 : 1 ≤ x22 ∧ x22 ≤ 1) (k24 : 243 ≤ x24 ∧ x24 ≤ 66540) (k25 : 243 ≤ x25 ∧ x25 ≤ 66563) (d2 : x18 + 243 ≤ x25 ∧ x25 ≤ x18 + 266) (d3 : x18 + 243 ≤ x24 ∧ x24 ≤ x18 + 243) (d4 : x11 + 219 ≤ x21 ∧ x21 ≤ x11 + 66516) (d7 : x18 + 219 ≤ x20 ∧ x20 ≤ x18 + 219) (d10 : x9 + (-4294967296) ≤ x1 ∧ x1 ≤ x9 + 0) (d12 : x1 + (-4294967296) ≤ x9 ∧ x9 ≤ x1 + 0) (g0 : x18 = r_0) (f13 : x25 = x24 + x11) (f21 : x21 = x20 + x11) (f31 : (x1 + 1) ≤ all_2 ((r_2 + 2))) (fe_0_5_1 : r_0 = r_1) (fe_0_8_1 : fault_0 = fault_1) (fe_0_10_1 : limit_0 = limit_1) (fe_0_11_1 : pos_0 = pos_1) (fe_0_12_1 : kind_0 = kind_1) (fe_0_13_1 : place_0 = place_1) (fe_0_14_1 : value_0 = value_1) (fe_0_15_1 : from_0 = from_1) (fe_0_5_2 : r_1 = r_2) (fe_0_8_2 : fault_1 = fault_2) (fe_0_10_2 : limit_1 = limit_2) (fe_0_11_2 : pos_1 = pos_2) (fe_0_12_2 : kind_1 = kind_2) (fe_0_13_2 : place_1 = place_2) (fe_0_14_2 : value_1 = value_2) (fe_0_15_2 : from_1 = from_2) (hE_0_1_1 : ∀ j : Int, tape_0 j = tape_1 j) (hE_0_1_2 : ∀ j : Int, tape_1 j = tape_2 j) (hE_0_2_1 : ∀ j : Int, 0 ≤ j → (j = x25 → all_0 j = x1) ∧ (j ≠ x25 → all_0 j = all_1 j)) (hE_0_2_2 : ∀ j : Int, 0 ≤ j → (j = x21 → all_1 j = x22) ∧ (j ≠ x21 → all_1 j = all_2 j)) (hE_0_3_1 : ∀ j : Int, now_0 j = now_1 j) (hE_0_3_2 : ∀ j : Int, now_1 j = now_2 j) (hE_0_4_1 : ∀ j : Int, latest_0 j = latest_1 j) (hE_0_4_2 : ∀ j : Int, latest_1 j = latest_2 j) (kz_0_8 : 0 ≤ fault_0 ∧ fault_0 ≤ 5) (kz_0_10 : 0 ≤ limit_0 ∧ limit_0 ≤ 2000) (kz_0_11 : 0 ≤ pos_0 ∧ pos_0 ≤ 2000) (kz_0_12 : 0 ≤ kind_0 ∧ kind_0 ≤ 4) (kz_0_13 : 0 ≤ place_0 ∧ place_0 ≤ 2000) (kz_0_14 : (-49) ≤ value_0 ∧ value_0 ≤ 1048575) (kz_0_15 : 0 ≤ from_0 ∧ from_0 ≤ 2000) : (x1 + 1) ≤ all_0 ((r_0 + 2)) := by
  subst fe_0_5_1
  subst fe_0_8_1
  subst fe_0_10_1
  subst fe_0_11_1
  subst fe_0_12_1
  subst fe_0_13_1
  subst fe_0_14_1
  subst fe_0_15_1
  subst fe_0_5_2
  subst fe_0_8_2
  subst fe_0_10_2
  subst fe_0_11_2
  subst fe_0_12_2
  subst fe_0_13_2
  subst fe_0_14_2
  subst fe_0_15_2
  have e_hE_0_1_1 := funext hE_0_1_1; subst e_hE_0_1_1
  have e_hE_0_1_2 := funext hE_0_1_2; subst e_hE_0_1_2
  have e_hE_0_3_1 := funext hE_0_3_1; subst e_hE_0_3_1
  have e_hE_0_3_2 := funext hE_0_3_2; subst e_hE_0_3_2
  have e_hE_0_4_1 := funext hE_0_4_1; subst e_hE_0_4_1
  have e_hE_0_4_2 := funext hE_0_4_2; subst e_hE_0_4_2
  first
    | omega
    | (have q1 := (hE_0_2_1 (r_0 + 2) (by omega)).2 (by omega)
       have q2 := (hE_0_2_2 (r_0 + 2) (by omega)).2 (by omega)
       omega)
    | (have q1 := (hE_0_2_1 (r_0 + 1) (by omega)).2 (by omega)
       have q2 := (hE_0_2_2 (r_0 + 1) (by omega)).2 (by omega)
       omega)
    | (have q1 := (hE_0_2_1 (r_0 + 2) (by omega)).2 (by omega)
       omega)
    | (have q1 := (hE_0_2_1 (r_0 + 1) (by omega)).2 (by omega)
       omega)
    | (have q1 := (hE_0_2_1 (r_0 + 2) (by omega)).2 (by omega)
       have q2 := (hE_0_2_2 (r_0 + 2) (by omega)).2 (by omega)
       have q3 := (hE_0_2_3 (r_0 + 2) (by omega)).1 (by omega)
       omega)
    | (have q1 := (hE_0_2_1 (r_0 + 2) (by omega)).2 (by omega)
       have q2 := (hE_0_2_2 (r_0 + 2) (by omega)).2 (by omega)
       have q3 := (hE_0_2_3 (r_0 + 2) (by omega)).2 (by omega)
       omega)
set_option maxHeartbeats 4000000 in
theorem vc_Mo_met_at_g4_39_2 (x1 : Int) (x2 : Int) (x11 : Int) (x18 : Int) (x20 : Int) (x21 : Int) (x22 : Int) (x24 : Int) (x25 : Int) (r_0 : Int) (from_0 : Int) (pos_0 : Int) (kind_0 : Int) (from_1 : Int) (pos_1 : Int) (kind_1 : Int) (from_2 : Int) (pos_2 : Int) (kind_2 : Int) (all_2 : Int → Int) (r_2 : Int) (now_2 : Int → Int) (latest_2 : Int → Int) (tape_2 : Int → Int) (limit_2 : Int) (place_2 : Int) (value_2 : Int) (fault_2 : Int) (r_1 : Int) (fault_0 : Int) (fault_1 : Int) (limit_0 : Int) (limit_1 : Int) (place_0 : Int) (place_1 : Int) (value_0 : Int) (value_1 : Int) (tape_0 : Int → Int) (tape_1 : Int → Int) (all_0 : Int → Int) (all_1 : Int → Int) (now_0 : Int → Int) (now_1 : Int → Int) (latest_0 : Int → Int) (latest_1 : Int → Int) (k1 : 0 ≤ x1 ∧ x1 ≤ 7) (k2 : (-1) ≤ x2 ∧ x2 ≤ 23) (k11 : 0 ≤ x11 ∧ x11 ≤ 23) (k18 : 0 ≤ x18 ∧ x18 ≤ 66297) (k20 : 219 ≤ x20 ∧ x20 ≤ 66516) (k21 : 219 ≤ x21 ∧ x21 ≤ 66539) (k22 : 1 ≤ x22 ∧ x22 ≤ 1) (k24 : 243 ≤ x24 ∧ x24 ≤ 66540) (k25 : 243 ≤ x25 ∧ x25 ≤ 66563) (d2 : x18 + 243 ≤ x25 ∧ x25 ≤ x18 + 266) (d3 : x18 + 243 ≤ x24 ∧ x24 ≤ x18 + 243) (d7 : x18 + 219 ≤ x20 ∧ x20 ≤ x18 + 219) (g0 : x18 = r_0) (f13 : x25 = x24 + x11) (f21 : x21 = x20 + x11) (f32 : RWN (r_2) (all_2) (now_2) (latest_2) (x11)) (f33 : MEN (r_2) (all_2) (x2) (x11)) (fe_0_5_1 : r_0 = r_1) (fe_0_8_1 : fault_0 = fault_1) (fe_0_10_1 : limit_0 = limit_1) (fe_0_11_1 : pos_0 = pos_1) (fe_0_12_1 : kind_0 = kind_1) (fe_0_13_1 : place_0 = place_1) (fe_0_14_1 : value_0 = value_1) (fe_0_15_1 : from_0 = from_1) (fe_0_5_2 : r_1 = r_2) (fe_0_8_2 : fault_1 = fault_2) (fe_0_10_2 : limit_1 = limit_2) (fe_0_11_2 : pos_1 = pos_2) (fe_0_12_2 : kind_1 = kind_2) (fe_0_13_2 : place_1 = place_2) (fe_0_14_2 : value_1 = value_2) (fe_0_15_2 : from_1 = from_2) (hE_0_1_1 : ∀ j : Int, tape_0 j = tape_1 j) (hE_0_1_2 : ∀ j : Int, tape_1 j = tape_2 j) (hE_0_2_1 : ∀ j : Int, 0 ≤ j → (j = x25 → all_0 j = x1) ∧ (j ≠ x25 → all_0 j = all_1 j)) (hE_0_2_2 : ∀ j : Int, 0 ≤ j → (j = x21 → all_1 j = x22) ∧ (j ≠ x21 → all_1 j = all_2 j)) (hE_0_3_1 : ∀ j : Int, now_0 j = now_1 j) (hE_0_3_2 : ∀ j : Int, now_1 j = now_2 j) (hE_0_4_1 : ∀ j : Int, latest_0 j = latest_1 j) (hE_0_4_2 : ∀ j : Int, latest_1 j = latest_2 j) (kz_0_8 : 0 ≤ fault_0 ∧ fault_0 ≤ 5) (kz_0_10 : 0 ≤ limit_0 ∧ limit_0 ≤ 2000) (kz_0_11 : 0 ≤ pos_0 ∧ pos_0 ≤ 2000) (kz_0_12 : 0 ≤ kind_0 ∧ kind_0 ≤ 4) (kz_0_13 : 0 ≤ place_0 ∧ place_0 ≤ 2000) (kz_0_14 : (-49) ≤ value_0 ∧ value_0 ≤ 1048575) (kz_0_15 : 0 ≤ from_0 ∧ from_0 ≤ 2000) : RWS (r_0) (all_0) (now_0) (latest_0) := by
  subst fe_0_5_1
  subst fe_0_8_1
  subst fe_0_10_1
  subst fe_0_11_1
  subst fe_0_12_1
  subst fe_0_13_1
  subst fe_0_14_1
  subst fe_0_15_1
  subst fe_0_5_2
  subst fe_0_8_2
  subst fe_0_10_2
  subst fe_0_11_2
  subst fe_0_12_2
  subst fe_0_13_2
  subst fe_0_14_2
  subst fe_0_15_2
  have e_hE_0_1_1 := funext hE_0_1_1; subst e_hE_0_1_1
  have e_hE_0_1_2 := funext hE_0_1_2; subst e_hE_0_1_2
  have e_hE_0_3_1 := funext hE_0_3_1; subst e_hE_0_3_1
  have e_hE_0_3_2 := funext hE_0_3_2; subst e_hE_0_3_2
  have e_hE_0_4_1 := funext hE_0_4_1; subst e_hE_0_4_1
  have e_hE_0_4_2 := funext hE_0_4_2; subst e_hE_0_4_2
  try simp only [Int.add_zero] at *
  first
    | (have hr := rwn_r ‹RWN _ _ _ _ _›
       have hb := ‹MEN _ _ _ _›.1
       exact rws_off (rwn_fin ‹RWN _ _ _ _ _› (by assumption) (by omega) (by omega)) (by assumption) (by omega))
set_option maxHeartbeats 4000000 in
theorem vc_Mo_met_at_g4_39_3 (x1 : Int) (x2 : Int) (x11 : Int) (x18 : Int) (x20 : Int) (x21 : Int) (x22 : Int) (x24 : Int) (x25 : Int) (r_0 : Int) (from_0 : Int) (pos_0 : Int) (kind_0 : Int) (from_1 : Int) (pos_1 : Int) (kind_1 : Int) (from_2 : Int) (pos_2 : Int) (kind_2 : Int) (all_2 : Int → Int) (r_2 : Int) (now_2 : Int → Int) (latest_2 : Int → Int) (tape_2 : Int → Int) (limit_2 : Int) (place_2 : Int) (value_2 : Int) (fault_2 : Int) (r_1 : Int) (fault_0 : Int) (fault_1 : Int) (limit_0 : Int) (limit_1 : Int) (place_0 : Int) (place_1 : Int) (value_0 : Int) (value_1 : Int) (tape_0 : Int → Int) (tape_1 : Int → Int) (all_0 : Int → Int) (all_1 : Int → Int) (now_0 : Int → Int) (now_1 : Int → Int) (latest_0 : Int → Int) (latest_1 : Int → Int) (k1 : 0 ≤ x1 ∧ x1 ≤ 7) (k2 : (-1) ≤ x2 ∧ x2 ≤ 23) (k11 : 0 ≤ x11 ∧ x11 ≤ 23) (k18 : 0 ≤ x18 ∧ x18 ≤ 66297) (k20 : 219 ≤ x20 ∧ x20 ≤ 66516) (k21 : 219 ≤ x21 ∧ x21 ≤ 66539) (k22 : 1 ≤ x22 ∧ x22 ≤ 1) (k24 : 243 ≤ x24 ∧ x24 ≤ 66540) (k25 : 243 ≤ x25 ∧ x25 ≤ 66563) (d2 : x18 + 243 ≤ x25 ∧ x25 ≤ x18 + 266) (d3 : x18 + 243 ≤ x24 ∧ x24 ≤ x18 + 243) (d4 : x11 + 219 ≤ x21 ∧ x21 ≤ x11 + 66516) (d7 : x18 + 219 ≤ x20 ∧ x20 ≤ x18 + 219) (g0 : x18 = r_0) (f13 : x25 = x24 + x11) (f21 : x21 = x20 + x11) (f32 : RWN (r_2) (all_2) (now_2) (latest_2) (x11)) (f33 : MEN (r_2) (all_2) (x2) (x11)) (fe_0_5_1 : r_0 = r_1) (fe_0_8_1 : fault_0 = fault_1) (fe_0_10_1 : limit_0 = limit_1) (fe_0_11_1 : pos_0 = pos_1) (fe_0_12_1 : kind_0 = kind_1) (fe_0_13_1 : place_0 = place_1) (fe_0_14_1 : value_0 = value_1) (fe_0_15_1 : from_0 = from_1) (fe_0_5_2 : r_1 = r_2) (fe_0_8_2 : fault_1 = fault_2) (fe_0_10_2 : limit_1 = limit_2) (fe_0_11_2 : pos_1 = pos_2) (fe_0_12_2 : kind_1 = kind_2) (fe_0_13_2 : place_1 = place_2) (fe_0_14_2 : value_1 = value_2) (fe_0_15_2 : from_1 = from_2) (hE_0_1_1 : ∀ j : Int, tape_0 j = tape_1 j) (hE_0_1_2 : ∀ j : Int, tape_1 j = tape_2 j) (hE_0_2_1 : ∀ j : Int, 0 ≤ j → (j = x25 → all_0 j = x1) ∧ (j ≠ x25 → all_0 j = all_1 j)) (hE_0_2_2 : ∀ j : Int, 0 ≤ j → (j = x21 → all_1 j = x22) ∧ (j ≠ x21 → all_1 j = all_2 j)) (hE_0_3_1 : ∀ j : Int, now_0 j = now_1 j) (hE_0_3_2 : ∀ j : Int, now_1 j = now_2 j) (hE_0_4_1 : ∀ j : Int, latest_0 j = latest_1 j) (hE_0_4_2 : ∀ j : Int, latest_1 j = latest_2 j) (kz_0_8 : 0 ≤ fault_0 ∧ fault_0 ≤ 5) (kz_0_10 : 0 ≤ limit_0 ∧ limit_0 ≤ 2000) (kz_0_11 : 0 ≤ pos_0 ∧ pos_0 ≤ 2000) (kz_0_12 : 0 ≤ kind_0 ∧ kind_0 ≤ 4) (kz_0_13 : 0 ≤ place_0 ∧ place_0 ≤ 2000) (kz_0_14 : (-49) ≤ value_0 ∧ value_0 ≤ 1048575) (kz_0_15 : 0 ≤ from_0 ∧ from_0 ≤ 2000) : MEN (r_0) (all_0) (x2) (x11) := by
  subst fe_0_5_1
  subst fe_0_8_1
  subst fe_0_10_1
  subst fe_0_11_1
  subst fe_0_12_1
  subst fe_0_13_1
  subst fe_0_14_1
  subst fe_0_15_1
  subst fe_0_5_2
  subst fe_0_8_2
  subst fe_0_10_2
  subst fe_0_11_2
  subst fe_0_12_2
  subst fe_0_13_2
  subst fe_0_14_2
  subst fe_0_15_2
  have e_hE_0_1_1 := funext hE_0_1_1; subst e_hE_0_1_1
  have e_hE_0_1_2 := funext hE_0_1_2; subst e_hE_0_1_2
  have e_hE_0_3_1 := funext hE_0_3_1; subst e_hE_0_3_1
  have e_hE_0_3_2 := funext hE_0_3_2; subst e_hE_0_3_2
  have e_hE_0_4_1 := funext hE_0_4_1; subst e_hE_0_4_1
  have e_hE_0_4_2 := funext hE_0_4_2; subst e_hE_0_4_2
  try simp only [Int.add_zero] at *
  first
    | (have hr := rwn_r ‹RWN _ _ _ _ _›
       have hb := ‹MEN _ _ _ _›.1
       exact men_off (by omega) (men_off (by omega) ‹MEN _ _ _ _› (by assumption) (by omega)) (by assumption) (by omega))
set_option maxHeartbeats 4000000 in
theorem vc_Mo_met_at_g4_39_4 (x1 : Int) (x21 : Int) (x22 : Int) (x25 : Int) (r_0 : Int) (from_0 : Int) (pos_0 : Int) (kind_0 : Int) (from_1 : Int) (pos_1 : Int) (kind_1 : Int) (from_2 : Int) (pos_2 : Int) (kind_2 : Int) (all_2 : Int → Int) (r_2 : Int) (now_2 : Int → Int) (latest_2 : Int → Int) (tape_2 : Int → Int) (limit_2 : Int) (place_2 : Int) (value_2 : Int) (fault_2 : Int) (r_1 : Int) (fault_0 : Int) (fault_1 : Int) (limit_0 : Int) (limit_1 : Int) (place_0 : Int) (place_1 : Int) (value_0 : Int) (value_1 : Int) (tape_0 : Int → Int) (tape_1 : Int → Int) (all_0 : Int → Int) (all_1 : Int → Int) (now_0 : Int → Int) (now_1 : Int → Int) (latest_0 : Int → Int) (latest_1 : Int → Int) (gx : Int) (k1 : 0 ≤ x1 ∧ x1 ≤ 7) (k21 : 219 ≤ x21 ∧ x21 ≤ 66539) (k22 : 1 ≤ x22 ∧ x22 ≤ 1) (k25 : 243 ≤ x25 ∧ x25 ≤ 66563) (fe_0_5_1 : r_0 = r_1) (fe_0_8_1 : fault_0 = fault_1) (fe_0_10_1 : limit_0 = limit_1) (fe_0_11_1 : pos_0 = pos_1) (fe_0_12_1 : kind_0 = kind_1) (fe_0_13_1 : place_0 = place_1) (fe_0_14_1 : value_0 = value_1) (fe_0_15_1 : from_0 = from_1) (fe_0_5_2 : r_1 = r_2) (fe_0_8_2 : fault_1 = fault_2) (fe_0_10_2 : limit_1 = limit_2) (fe_0_11_2 : pos_1 = pos_2) (fe_0_12_2 : kind_1 = kind_2) (fe_0_13_2 : place_1 = place_2) (fe_0_14_2 : value_1 = value_2) (fe_0_15_2 : from_1 = from_2) (hE_0_1_1 : ∀ j : Int, tape_0 j = tape_1 j) (hE_0_1_2 : ∀ j : Int, tape_1 j = tape_2 j) (hE_0_2_1 : ∀ j : Int, 0 ≤ j → (j = x25 → all_0 j = x1) ∧ (j ≠ x25 → all_0 j = all_1 j)) (hE_0_2_2 : ∀ j : Int, 0 ≤ j → (j = x21 → all_1 j = x22) ∧ (j ≠ x21 → all_1 j = all_2 j)) (hE_0_3_1 : ∀ j : Int, now_0 j = now_1 j) (hE_0_3_2 : ∀ j : Int, now_1 j = now_2 j) (hE_0_4_1 : ∀ j : Int, latest_0 j = latest_1 j) (hE_0_4_2 : ∀ j : Int, latest_1 j = latest_2 j) (kz_0_8 : 0 ≤ fault_0 ∧ fault_0 ≤ 5) (kz_0_10 : 0 ≤ limit_0 ∧ limit_0 ≤ 2000) (kz_0_11 : 0 ≤ pos_0 ∧ pos_0 ≤ 2000) (kz_0_12 : 0 ≤ kind_0 ∧ kind_0 ≤ 4) (kz_0_13 : 0 ≤ place_0 ∧ place_0 ≤ 2000) (kz_0_14 : (-49) ≤ value_0 ∧ value_0 ≤ 1048575) (kz_0_15 : 0 ≤ from_0 ∧ from_0 ≤ 2000) (ex2 : gx = pos_0) : 1 * gx + ((-1) * pos_0 + 0) ≤ 0 := by
  subst fe_0_5_1
  subst fe_0_8_1
  subst fe_0_10_1
  subst fe_0_11_1
  subst fe_0_12_1
  subst fe_0_13_1
  subst fe_0_14_1
  subst fe_0_15_1
  subst fe_0_5_2
  subst fe_0_8_2
  subst fe_0_10_2
  subst fe_0_11_2
  subst fe_0_12_2
  subst fe_0_13_2
  subst fe_0_14_2
  subst fe_0_15_2
  have e_hE_0_1_1 := funext hE_0_1_1; subst e_hE_0_1_1
  have e_hE_0_1_2 := funext hE_0_1_2; subst e_hE_0_1_2
  have e_hE_0_3_1 := funext hE_0_3_1; subst e_hE_0_3_1
  have e_hE_0_3_2 := funext hE_0_3_2; subst e_hE_0_3_2
  have e_hE_0_4_1 := funext hE_0_4_1; subst e_hE_0_4_1
  have e_hE_0_4_2 := funext hE_0_4_2; subst e_hE_0_4_2
  first
    | omega
    | (have q1 := (hE_0_2_1 (r_0 + 2) (by omega)).2 (by omega)
       have q2 := (hE_0_2_2 (r_0 + 2) (by omega)).2 (by omega)
       omega)
    | (have q1 := (hE_0_2_1 (r_0 + 1) (by omega)).2 (by omega)
       have q2 := (hE_0_2_2 (r_0 + 1) (by omega)).2 (by omega)
       omega)
    | (have q1 := (hE_0_2_1 (r_0 + 2) (by omega)).2 (by omega)
       omega)
    | (have q1 := (hE_0_2_1 (r_0 + 1) (by omega)).2 (by omega)
       omega)
    | (have q1 := (hE_0_2_1 (r_0 + 2) (by omega)).2 (by omega)
       have q2 := (hE_0_2_2 (r_0 + 2) (by omega)).2 (by omega)
       have q3 := (hE_0_2_3 (r_0 + 2) (by omega)).1 (by omega)
       omega)
    | (have q1 := (hE_0_2_1 (r_0 + 2) (by omega)).2 (by omega)
       have q2 := (hE_0_2_2 (r_0 + 2) (by omega)).2 (by omega)
       have q3 := (hE_0_2_3 (r_0 + 2) (by omega)).2 (by omega)
       omega)
set_option maxHeartbeats 4000000 in
theorem vc_Mo_met_at_g4_39_5 (x1 : Int) (x21 : Int) (x22 : Int) (x25 : Int) (r_0 : Int) (from_0 : Int) (pos_0 : Int) (kind_0 : Int) (from_1 : Int) (pos_1 : Int) (kind_1 : Int) (from_2 : Int) (pos_2 : Int) (kind_2 : Int) (all_2 : Int → Int) (r_2 : Int) (now_2 : Int → Int) (latest_2 : Int → Int) (tape_2 : Int → Int) (limit_2 : Int) (place_2 : Int) (value_2 : Int) (fault_2 : Int) (r_1 : Int) (fault_0 : Int) (fault_1 : Int) (limit_0 : Int) (limit_1 : Int) (place_0 : Int) (place_1 : Int) (value_0 : Int) (value_1 : Int) (tape_0 : Int → Int) (tape_1 : Int → Int) (all_0 : Int → Int) (all_1 : Int → Int) (now_0 : Int → Int) (now_1 : Int → Int) (latest_0 : Int → Int) (latest_1 : Int → Int) (gx : Int) (k1 : 0 ≤ x1 ∧ x1 ≤ 7) (k21 : 219 ≤ x21 ∧ x21 ≤ 66539) (k22 : 1 ≤ x22 ∧ x22 ≤ 1) (k25 : 243 ≤ x25 ∧ x25 ≤ 66563) (fe_0_5_1 : r_0 = r_1) (fe_0_8_1 : fault_0 = fault_1) (fe_0_10_1 : limit_0 = limit_1) (fe_0_11_1 : pos_0 = pos_1) (fe_0_12_1 : kind_0 = kind_1) (fe_0_13_1 : place_0 = place_1) (fe_0_14_1 : value_0 = value_1) (fe_0_15_1 : from_0 = from_1) (fe_0_5_2 : r_1 = r_2) (fe_0_8_2 : fault_1 = fault_2) (fe_0_10_2 : limit_1 = limit_2) (fe_0_11_2 : pos_1 = pos_2) (fe_0_12_2 : kind_1 = kind_2) (fe_0_13_2 : place_1 = place_2) (fe_0_14_2 : value_1 = value_2) (fe_0_15_2 : from_1 = from_2) (hE_0_1_1 : ∀ j : Int, tape_0 j = tape_1 j) (hE_0_1_2 : ∀ j : Int, tape_1 j = tape_2 j) (hE_0_2_1 : ∀ j : Int, 0 ≤ j → (j = x25 → all_0 j = x1) ∧ (j ≠ x25 → all_0 j = all_1 j)) (hE_0_2_2 : ∀ j : Int, 0 ≤ j → (j = x21 → all_1 j = x22) ∧ (j ≠ x21 → all_1 j = all_2 j)) (hE_0_3_1 : ∀ j : Int, now_0 j = now_1 j) (hE_0_3_2 : ∀ j : Int, now_1 j = now_2 j) (hE_0_4_1 : ∀ j : Int, latest_0 j = latest_1 j) (hE_0_4_2 : ∀ j : Int, latest_1 j = latest_2 j) (kz_0_8 : 0 ≤ fault_0 ∧ fault_0 ≤ 5) (kz_0_10 : 0 ≤ limit_0 ∧ limit_0 ≤ 2000) (kz_0_11 : 0 ≤ pos_0 ∧ pos_0 ≤ 2000) (kz_0_12 : 0 ≤ kind_0 ∧ kind_0 ≤ 4) (kz_0_13 : 0 ≤ place_0 ∧ place_0 ≤ 2000) (kz_0_14 : (-49) ≤ value_0 ∧ value_0 ≤ 1048575) (kz_0_15 : 0 ≤ from_0 ∧ from_0 ≤ 2000) (ex2 : gx = pos_0) : gx = pos_0 := by
  subst fe_0_5_1
  subst fe_0_8_1
  subst fe_0_10_1
  subst fe_0_11_1
  subst fe_0_12_1
  subst fe_0_13_1
  subst fe_0_14_1
  subst fe_0_15_1
  subst fe_0_5_2
  subst fe_0_8_2
  subst fe_0_10_2
  subst fe_0_11_2
  subst fe_0_12_2
  subst fe_0_13_2
  subst fe_0_14_2
  subst fe_0_15_2
  have e_hE_0_1_1 := funext hE_0_1_1; subst e_hE_0_1_1
  have e_hE_0_1_2 := funext hE_0_1_2; subst e_hE_0_1_2
  have e_hE_0_3_1 := funext hE_0_3_1; subst e_hE_0_3_1
  have e_hE_0_3_2 := funext hE_0_3_2; subst e_hE_0_3_2
  have e_hE_0_4_1 := funext hE_0_4_1; subst e_hE_0_4_1
  have e_hE_0_4_2 := funext hE_0_4_2; subst e_hE_0_4_2
  first
    | omega
    | (have q1 := (hE_0_2_1 (r_0 + 2) (by omega)).2 (by omega)
       have q2 := (hE_0_2_2 (r_0 + 2) (by omega)).2 (by omega)
       omega)
    | (have q1 := (hE_0_2_1 (r_0 + 1) (by omega)).2 (by omega)
       have q2 := (hE_0_2_2 (r_0 + 1) (by omega)).2 (by omega)
       omega)
    | (have q1 := (hE_0_2_1 (r_0 + 2) (by omega)).2 (by omega)
       omega)
    | (have q1 := (hE_0_2_1 (r_0 + 1) (by omega)).2 (by omega)
       omega)
    | (have q1 := (hE_0_2_1 (r_0 + 2) (by omega)).2 (by omega)
       have q2 := (hE_0_2_2 (r_0 + 2) (by omega)).2 (by omega)
       have q3 := (hE_0_2_3 (r_0 + 2) (by omega)).1 (by omega)
       omega)
    | (have q1 := (hE_0_2_1 (r_0 + 2) (by omega)).2 (by omega)
       have q2 := (hE_0_2_2 (r_0 + 2) (by omega)).2 (by omega)
       have q3 := (hE_0_2_3 (r_0 + 2) (by omega)).2 (by omega)
       omega)
set_option maxHeartbeats 4000000 in
theorem vc_Mo_met_at_g4_39_6 (x1 : Int) (x2 : Int) (x5 : Int) (x6 : Int) (x7 : Int) (x11 : Int) (x13 : Int) (r_0 : Int) (from_0 : Int) (pos_0 : Int) (kind_0 : Int) (from_1 : Int) (pos_1 : Int) (kind_1 : Int) (from_2 : Int) (pos_2 : Int) (kind_2 : Int) (all_2 : Int → Int) (r_2 : Int) (now_2 : Int → Int) (latest_2 : Int → Int) (tape_2 : Int → Int) (limit_2 : Int) (place_2 : Int) (value_2 : Int) (fault_2 : Int) (r_1 : Int) (fault_0 : Int) (fault_1 : Int) (limit_0 : Int) (limit_1 : Int) (place_0 : Int) (place_1 : Int) (value_0 : Int) (value_1 : Int) (tape_0 : Int → Int) (tape_1 : Int → Int) (now_0 : Int → Int) (now_1 : Int → Int) (latest_0 : Int → Int) (latest_1 : Int → Int) (k1 : 0 ≤ x1 ∧ x1 ≤ 7) (k2 : (-1) ≤ x2 ∧ x2 ≤ 23) (k5 : 0 ≤ x5 ∧ x5 ≤ 4) (k6 : 0 ≤ x6 ∧ x6 ≤ 48) (k7 : 0 ≤ x7 ∧ x7 ≤ 1) (k11 : 0 ≤ x11 ∧ x11 ≤ 23) (k13 : 0 ≤ x13 ∧ x13 ≤ 8) (f34 : zMN4 (limit_2) (pos_2) (kind_2) (place_2) (value_2) (from_2) (fault_2) (r_2) (tape_2) (all_2) (x11) (x13) (x2) (x6) (x7) (x1) (x5)) (fe_0_5_1 : r_0 = r_1) (fe_0_8_1 : fault_0 = fault_1) (fe_0_10_1 : limit_0 = limit_1) (fe_0_11_1 : pos_0 = pos_1) (fe_0_12_1 : kind_0 = kind_1) (fe_0_13_1 : place_0 = place_1) (fe_0_14_1 : value_0 = value_1) (fe_0_15_1 : from_0 = from_1) (fe_0_5_2 : r_1 = r_2) (fe_0_8_2 : fault_1 = fault_2) (fe_0_10_2 : limit_1 = limit_2) (fe_0_11_2 : pos_1 = pos_2) (fe_0_12_2 : kind_1 = kind_2) (fe_0_13_2 : place_1 = place_2) (fe_0_14_2 : value_1 = value_2) (fe_0_15_2 : from_1 = from_2) (hE_0_1_1 : ∀ j : Int, tape_0 j = tape_1 j) (hE_0_1_2 : ∀ j : Int, tape_1 j = tape_2 j) (hE_0_3_1 : ∀ j : Int, now_0 j = now_1 j) (hE_0_3_2 : ∀ j : Int, now_1 j = now_2 j) (hE_0_4_1 : ∀ j : Int, latest_0 j = latest_1 j) (hE_0_4_2 : ∀ j : Int, latest_1 j = latest_2 j) (kz_0_8 : 0 ≤ fault_0 ∧ fault_0 ≤ 5) (kz_0_10 : 0 ≤ limit_0 ∧ limit_0 ≤ 2000) (kz_0_11 : 0 ≤ pos_0 ∧ pos_0 ≤ 2000) (kz_0_12 : 0 ≤ kind_0 ∧ kind_0 ≤ 4) (kz_0_13 : 0 ≤ place_0 ∧ place_0 ≤ 2000) (kz_0_14 : (-49) ≤ value_0 ∧ value_0 ≤ 1048575) (kz_0_15 : 0 ≤ from_0 ∧ from_0 ≤ 2000) : ZLM (limit_0) (pos_0) := by
  subst fe_0_5_1
  subst fe_0_8_1
  subst fe_0_10_1
  subst fe_0_11_1
  subst fe_0_12_1
  subst fe_0_13_1
  subst fe_0_14_1
  subst fe_0_15_1
  subst fe_0_5_2
  subst fe_0_8_2
  subst fe_0_10_2
  subst fe_0_11_2
  subst fe_0_12_2
  subst fe_0_13_2
  subst fe_0_14_2
  subst fe_0_15_2
  have e_hE_0_1_1 := funext hE_0_1_1; subst e_hE_0_1_1
  have e_hE_0_1_2 := funext hE_0_1_2; subst e_hE_0_1_2
  have e_hE_0_3_1 := funext hE_0_3_1; subst e_hE_0_3_1
  have e_hE_0_3_2 := funext hE_0_3_2; subst e_hE_0_3_2
  have e_hE_0_4_1 := funext hE_0_4_1; subst e_hE_0_4_1
  have e_hE_0_4_2 := funext hE_0_4_2; subst e_hE_0_4_2
  first
    | exact zlm_r (‹zMN0 _ _ _ _ _ _ _ _ _ _ _ _ _ _›).1
    | exact zlm_r (‹zMN1 _ _ _ _ _ _ _ _ _ _ _ _ _ _›).1
    | exact zlm_r (‹zMN4 _ _ _ _ _ _ _ _ _ _ _ _ _ _ _ _ _›).1
    | exact zlm_r (‹zRSE _ _ _ _ _ _ _ _ _ _ _ _›).1.1
    | exact zlm_r ‹zRS1 _ _ _ _ _ _ _ _ _ _ _ _›
    | exact zlm_r ‹zRS4 _ _ _ _ _ _ _ _ _ _ _ _ _ _ _›
    | (exfalso; omega)
set_option maxHeartbeats 4000000 in
theorem vc_Mo_met_at_g4_39_7 (x1 : Int) (x3 : Int) (x21 : Int) (x22 : Int) (x25 : Int) (r_0 : Int) (from_0 : Int) (pos_0 : Int) (kind_0 : Int) (from_1 : Int) (pos_1 : Int) (kind_1 : Int) (from_2 : Int) (pos_2 : Int) (kind_2 : Int) (all_2 : Int → Int) (r_2 : Int) (now_2 : Int → Int) (latest_2 : Int → Int) (tape_2 : Int → Int) (limit_2 : Int) (place_2 : Int) (value_2 : Int) (fault_2 : Int) (r_1 : Int) (fault_0 : Int) (fault_1 : Int) (limit_0 : Int) (limit_1 : Int) (place_0 : Int) (place_1 : Int) (value_0 : Int) (value_1 : Int) (tape_0 : Int → Int) (tape_1 : Int → Int) (all_0 : Int → Int) (all_1 : Int → Int) (now_0 : Int → Int) (now_1 : Int → Int) (latest_0 : Int → Int) (latest_1 : Int → Int) (gx : Int) (k1 : 0 ≤ x1 ∧ x1 ≤ 7) (k3 : 0 ≤ x3 ∧ x3 ≤ 2000) (k21 : 219 ≤ x21 ∧ x21 ≤ 66539) (k22 : 1 ≤ x22 ∧ x22 ≤ 1) (k25 : 243 ≤ x25 ∧ x25 ≤ 66563) (f6 : 1 * x3 + ((-1) * pos_0 + 0) ≤ 0) (fe_0_5_1 : r_0 = r_1) (fe_0_8_1 : fault_0 = fault_1) (fe_0_10_1 : limit_0 = limit_1) (fe_0_11_1 : pos_0 = pos_1) (fe_0_12_1 : kind_0 = kind_1) (fe_0_13_1 : place_0 = place_1) (fe_0_14_1 : value_0 = value_1) (fe_0_15_1 : from_0 = from_1) (fe_0_5_2 : r_1 = r_2) (fe_0_8_2 : fault_1 = fault_2) (fe_0_10_2 : limit_1 = limit_2) (fe_0_11_2 : pos_1 = pos_2) (fe_0_12_2 : kind_1 = kind_2) (fe_0_13_2 : place_1 = place_2) (fe_0_14_2 : value_1 = value_2) (fe_0_15_2 : from_1 = from_2) (hE_0_1_1 : ∀ j : Int, tape_0 j = tape_1 j) (hE_0_1_2 : ∀ j : Int, tape_1 j = tape_2 j) (hE_0_2_1 : ∀ j : Int, 0 ≤ j → (j = x25 → all_0 j = x1) ∧ (j ≠ x25 → all_0 j = all_1 j)) (hE_0_2_2 : ∀ j : Int, 0 ≤ j → (j = x21 → all_1 j = x22) ∧ (j ≠ x21 → all_1 j = all_2 j)) (hE_0_3_1 : ∀ j : Int, now_0 j = now_1 j) (hE_0_3_2 : ∀ j : Int, now_1 j = now_2 j) (hE_0_4_1 : ∀ j : Int, latest_0 j = latest_1 j) (hE_0_4_2 : ∀ j : Int, latest_1 j = latest_2 j) (kz_0_8 : 0 ≤ fault_0 ∧ fault_0 ≤ 5) (kz_0_10 : 0 ≤ limit_0 ∧ limit_0 ≤ 2000) (kz_0_11 : 0 ≤ pos_0 ∧ pos_0 ≤ 2000) (kz_0_12 : 0 ≤ kind_0 ∧ kind_0 ≤ 4) (kz_0_13 : 0 ≤ place_0 ∧ place_0 ≤ 2000) (kz_0_14 : (-49) ≤ value_0 ∧ value_0 ≤ 1048575) (kz_0_15 : 0 ≤ from_0 ∧ from_0 ≤ 2000) (ex2 : gx = pos_0) : 1 * x3 + ((-1) * gx + 0) ≤ 0 := by
  subst fe_0_5_1
  subst fe_0_8_1
  subst fe_0_10_1
  subst fe_0_11_1
  subst fe_0_12_1
  subst fe_0_13_1
  subst fe_0_14_1
  subst fe_0_15_1
  subst fe_0_5_2
  subst fe_0_8_2
  subst fe_0_10_2
  subst fe_0_11_2
  subst fe_0_12_2
  subst fe_0_13_2
  subst fe_0_14_2
  subst fe_0_15_2
  have e_hE_0_1_1 := funext hE_0_1_1; subst e_hE_0_1_1
  have e_hE_0_1_2 := funext hE_0_1_2; subst e_hE_0_1_2
  have e_hE_0_3_1 := funext hE_0_3_1; subst e_hE_0_3_1
  have e_hE_0_3_2 := funext hE_0_3_2; subst e_hE_0_3_2
  have e_hE_0_4_1 := funext hE_0_4_1; subst e_hE_0_4_1
  have e_hE_0_4_2 := funext hE_0_4_2; subst e_hE_0_4_2
  first
    | omega
    | (have q1 := (hE_0_2_1 (r_0 + 2) (by omega)).2 (by omega)
       have q2 := (hE_0_2_2 (r_0 + 2) (by omega)).2 (by omega)
       omega)
    | (have q1 := (hE_0_2_1 (r_0 + 1) (by omega)).2 (by omega)
       have q2 := (hE_0_2_2 (r_0 + 1) (by omega)).2 (by omega)
       omega)
    | (have q1 := (hE_0_2_1 (r_0 + 2) (by omega)).2 (by omega)
       omega)
    | (have q1 := (hE_0_2_1 (r_0 + 1) (by omega)).2 (by omega)
       omega)
    | (have q1 := (hE_0_2_1 (r_0 + 2) (by omega)).2 (by omega)
       have q2 := (hE_0_2_2 (r_0 + 2) (by omega)).2 (by omega)
       have q3 := (hE_0_2_3 (r_0 + 2) (by omega)).1 (by omega)
       omega)
    | (have q1 := (hE_0_2_1 (r_0 + 2) (by omega)).2 (by omega)
       have q2 := (hE_0_2_2 (r_0 + 2) (by omega)).2 (by omega)
       have q3 := (hE_0_2_3 (r_0 + 2) (by omega)).2 (by omega)
       omega)
set_option maxHeartbeats 4000000 in
theorem vc_Mo_met_at_g4_39_8 (x1 : Int) (x4 : Int) (x21 : Int) (x22 : Int) (x25 : Int) (r_0 : Int) (from_0 : Int) (pos_0 : Int) (kind_0 : Int) (from_1 : Int) (pos_1 : Int) (kind_1 : Int) (from_2 : Int) (pos_2 : Int) (kind_2 : Int) (all_2 : Int → Int) (r_2 : Int) (now_2 : Int → Int) (latest_2 : Int → Int) (tape_2 : Int → Int) (limit_2 : Int) (place_2 : Int) (value_2 : Int) (fault_2 : Int) (r_1 : Int) (fault_0 : Int) (fault_1 : Int) (limit_0 : Int) (limit_1 : Int) (place_0 : Int) (place_1 : Int) (value_0 : Int) (value_1 : Int) (tape_0 : Int → Int) (tape_1 : Int → Int) (all_0 : Int → Int) (all_1 : Int → Int) (now_0 : Int → Int) (now_1 : Int → Int) (latest_0 : Int → Int) (latest_1 : Int → Int) (gx : Int) (k1 : 0 ≤ x1 ∧ x1 ≤ 7) (k4 : 0 ≤ x4 ∧ x4 ≤ 2000) (k21 : 219 ≤ x21 ∧ x21 ≤ 66539) (k22 : 1 ≤ x22 ∧ x22 ≤ 1) (k25 : 243 ≤ x25 ∧ x25 ≤ 66563) (f7 : 1 * x4 + ((-1) * pos_0 + 0) ≤ (-1)) (fe_0_5_1 : r_0 = r_1) (fe_0_8_1 : fault_0 = fault_1) (fe_0_10_1 : limit_0 = limit_1) (fe_0_11_1 : pos_0 = pos_1) (fe_0_12_1 : kind_0 = kind_1) (fe_0_13_1 : place_0 = place_1) (fe_0_14_1 : value_0 = value_1) (fe_0_15_1 : from_0 = from_1) (fe_0_5_2 : r_1 = r_2) (fe_0_8_2 : fault_1 = fault_2) (fe_0_10_2 : limit_1 = limit_2) (fe_0_11_2 : pos_1 = pos_2) (fe_0_12_2 : kind_1 = kind_2) (fe_0_13_2 : place_1 = place_2) (fe_0_14_2 : value_1 = value_2) (fe_0_15_2 : from_1 = from_2) (hE_0_1_1 : ∀ j : Int, tape_0 j = tape_1 j) (hE_0_1_2 : ∀ j : Int, tape_1 j = tape_2 j) (hE_0_2_1 : ∀ j : Int, 0 ≤ j → (j = x25 → all_0 j = x1) ∧ (j ≠ x25 → all_0 j = all_1 j)) (hE_0_2_2 : ∀ j : Int, 0 ≤ j → (j = x21 → all_1 j = x22) ∧ (j ≠ x21 → all_1 j = all_2 j)) (hE_0_3_1 : ∀ j : Int, now_0 j = now_1 j) (hE_0_3_2 : ∀ j : Int, now_1 j = now_2 j) (hE_0_4_1 : ∀ j : Int, latest_0 j = latest_1 j) (hE_0_4_2 : ∀ j : Int, latest_1 j = latest_2 j) (kz_0_8 : 0 ≤ fault_0 ∧ fault_0 ≤ 5) (kz_0_10 : 0 ≤ limit_0 ∧ limit_0 ≤ 2000) (kz_0_11 : 0 ≤ pos_0 ∧ pos_0 ≤ 2000) (kz_0_12 : 0 ≤ kind_0 ∧ kind_0 ≤ 4) (kz_0_13 : 0 ≤ place_0 ∧ place_0 ≤ 2000) (kz_0_14 : (-49) ≤ value_0 ∧ value_0 ≤ 1048575) (kz_0_15 : 0 ≤ from_0 ∧ from_0 ≤ 2000) (ex2 : gx = pos_0) : 1 * x4 + ((-1) * gx + 0) ≤ (-1) := by
  subst fe_0_5_1
  subst fe_0_8_1
  subst fe_0_10_1
  subst fe_0_11_1
  subst fe_0_12_1
  subst fe_0_13_1
  subst fe_0_14_1
  subst fe_0_15_1
  subst fe_0_5_2
  subst fe_0_8_2
  subst fe_0_10_2
  subst fe_0_11_2
  subst fe_0_12_2
  subst fe_0_13_2
  subst fe_0_14_2
  subst fe_0_15_2
  have e_hE_0_1_1 := funext hE_0_1_1; subst e_hE_0_1_1
  have e_hE_0_1_2 := funext hE_0_1_2; subst e_hE_0_1_2
  have e_hE_0_3_1 := funext hE_0_3_1; subst e_hE_0_3_1
  have e_hE_0_3_2 := funext hE_0_3_2; subst e_hE_0_3_2
  have e_hE_0_4_1 := funext hE_0_4_1; subst e_hE_0_4_1
  have e_hE_0_4_2 := funext hE_0_4_2; subst e_hE_0_4_2
  first
    | omega
    | (have q1 := (hE_0_2_1 (r_0 + 2) (by omega)).2 (by omega)
       have q2 := (hE_0_2_2 (r_0 + 2) (by omega)).2 (by omega)
       omega)
    | (have q1 := (hE_0_2_1 (r_0 + 1) (by omega)).2 (by omega)
       have q2 := (hE_0_2_2 (r_0 + 1) (by omega)).2 (by omega)
       omega)
    | (have q1 := (hE_0_2_1 (r_0 + 2) (by omega)).2 (by omega)
       omega)
    | (have q1 := (hE_0_2_1 (r_0 + 1) (by omega)).2 (by omega)
       omega)
    | (have q1 := (hE_0_2_1 (r_0 + 2) (by omega)).2 (by omega)
       have q2 := (hE_0_2_2 (r_0 + 2) (by omega)).2 (by omega)
       have q3 := (hE_0_2_3 (r_0 + 2) (by omega)).1 (by omega)
       omega)
    | (have q1 := (hE_0_2_1 (r_0 + 2) (by omega)).2 (by omega)
       have q2 := (hE_0_2_2 (r_0 + 2) (by omega)).2 (by omega)
       have q3 := (hE_0_2_3 (r_0 + 2) (by omega)).2 (by omega)
       omega)
set_option maxHeartbeats 4000000 in
theorem vc_Mo_met_at_g4_39_9 (x1 : Int) (x2 : Int) (x5 : Int) (x6 : Int) (x7 : Int) (x11 : Int) (x13 : Int) (x14 : Int) (x15 : Int) (x16 : Int) (x18 : Int) (x20 : Int) (x21 : Int) (x22 : Int) (x24 : Int) (x25 : Int) (r_0 : Int) (from_0 : Int) (pos_0 : Int) (kind_0 : Int) (from_1 : Int) (pos_1 : Int) (kind_1 : Int) (from_2 : Int) (pos_2 : Int) (kind_2 : Int) (all_2 : Int → Int) (r_2 : Int) (now_2 : Int → Int) (latest_2 : Int → Int) (tape_2 : Int → Int) (limit_2 : Int) (place_2 : Int) (value_2 : Int) (fault_2 : Int) (r_1 : Int) (fault_0 : Int) (fault_1 : Int) (limit_0 : Int) (limit_1 : Int) (place_0 : Int) (place_1 : Int) (value_0 : Int) (value_1 : Int) (tape_0 : Int → Int) (tape_1 : Int → Int) (all_0 : Int → Int) (all_1 : Int → Int) (now_0 : Int → Int) (now_1 : Int → Int) (latest_0 : Int → Int) (latest_1 : Int → Int) (gx : Int) (k1 : 0 ≤ x1 ∧ x1 ≤ 7) (k2 : (-1) ≤ x2 ∧ x2 ≤ 23) (k5 : 0 ≤ x5 ∧ x5 ≤ 4) (k6 : 0 ≤ x6 ∧ x6 ≤ 48) (k7 : 0 ≤ x7 ∧ x7 ≤ 1) (k11 : 0 ≤ x11 ∧ x11 ≤ 23) (k13 : 0 ≤ x13 ∧ x13 ≤ 8) (k14 : 0 ≤ x14 ∧ x14 ≤ 2000) (k15 : 0 ≤ x15 ∧ x15 ≤ 2000) (k16 : (-2000) ≤ x16 ∧ x16 ≤ 8) (k18 : 0 ≤ x18 ∧ x18 ≤ 66297) (k20 : 219 ≤ x20 ∧ x20 ≤ 66516) (k21 : 219 ≤ x21 ∧ x21 ≤ 66539) (k22 : 1 ≤ x22 ∧ x22 ≤ 1) (k24 : 243 ≤ x24 ∧ x24 ≤ 66540) (k25 : 243 ≤ x25 ∧ x25 ≤ 66563) (d3 : x18 + 243 ≤ x24 ∧ x24 ≤ x18 + 243) (d7 : x18 + 219 ≤ x20 ∧ x20 ≤ x18 + 219) (d8 : x16 + 0 ≤ x13 ∧ x13 ≤ x16 + 4294967296) (g0 : x18 = r_0) (g2 : x15 = from_0) (g3 : x14 = pos_0) (f13 : x25 = x24 + x11) (f21 : x21 = x20 + x11) (f24 : x16 = x14 - x15) (f34 : zMN4 (limit_2) (pos_2) (kind_2) (place_2) (value_2) (from_2) (fault_2) (r_2) (tape_2) (all_2) (x11) (x13) (x2) (x6) (x7) (x1) (x5)) (fe_0_5_1 : r_0 = r_1) (fe_0_8_1 : fault_0 = fault_1) (fe_0_10_1 : limit_0 = limit_1) (fe_0_11_1 : pos_0 = pos_1) (fe_0_12_1 : kind_0 = kind_1) (fe_0_13_1 : place_0 = place_1) (fe_0_14_1 : value_0 = value_1) (fe_0_15_1 : from_0 = from_1) (fe_0_5_2 : r_1 = r_2) (fe_0_8_2 : fault_1 = fault_2) (fe_0_10_2 : limit_1 = limit_2) (fe_0_11_2 : pos_1 = pos_2) (fe_0_12_2 : kind_1 = kind_2) (fe_0_13_2 : place_1 = place_2) (fe_0_14_2 : value_1 = value_2) (fe_0_15_2 : from_1 = from_2) (hE_0_1_1 : ∀ j : Int, tape_0 j = tape_1 j) (hE_0_1_2 : ∀ j : Int, tape_1 j = tape_2 j) (hE_0_2_1 : ∀ j : Int, 0 ≤ j → (j = x25 → all_0 j = x1) ∧ (j ≠ x25 → all_0 j = all_1 j)) (hE_0_2_2 : ∀ j : Int, 0 ≤ j → (j = x21 → all_1 j = x22) ∧ (j ≠ x21 → all_1 j = all_2 j)) (hE_0_3_1 : ∀ j : Int, now_0 j = now_1 j) (hE_0_3_2 : ∀ j : Int, now_1 j = now_2 j) (hE_0_4_1 : ∀ j : Int, latest_0 j = latest_1 j) (hE_0_4_2 : ∀ j : Int, latest_1 j = latest_2 j) (kz_0_8 : 0 ≤ fault_0 ∧ fault_0 ≤ 5) (kz_0_10 : 0 ≤ limit_0 ∧ limit_0 ≤ 2000) (kz_0_11 : 0 ≤ pos_0 ∧ pos_0 ≤ 2000) (kz_0_12 : 0 ≤ kind_0 ∧ kind_0 ≤ 4) (kz_0_13 : 0 ≤ place_0 ∧ place_0 ≤ 2000) (kz_0_14 : (-49) ≤ value_0 ∧ value_0 ≤ 1048575) (kz_0_15 : 0 ≤ from_0 ∧ from_0 ≤ 2000) (ex2 : gx = pos_0) : zTP8 (limit_0) (fault_0) (r_0) (tape_0) (all_0) (x11) (x6) (x2) (x7) (x1) (x5) (gx) := by
  subst fe_0_5_1
  subst fe_0_8_1
  subst fe_0_10_1
  subst fe_0_11_1
  subst fe_0_12_1
  subst fe_0_13_1
  subst fe_0_14_1
  subst fe_0_15_1
  subst fe_0_5_2
  subst fe_0_8_2
  subst fe_0_10_2
  subst fe_0_11_2
  subst fe_0_12_2
  subst fe_0_13_2
  subst fe_0_14_2
  subst fe_0_15_2
  have e_hE_0_1_1 := funext hE_0_1_1; subst e_hE_0_1_1
  have e_hE_0_1_2 := funext hE_0_1_2; subst e_hE_0_1_2
  have e_hE_0_3_1 := funext hE_0_3_1; subst e_hE_0_3_1
  have e_hE_0_3_2 := funext hE_0_3_2; subst e_hE_0_3_2
  have e_hE_0_4_1 := funext hE_0_4_1; subst e_hE_0_4_1
  have e_hE_0_4_2 := funext hE_0_4_2; subst e_hE_0_4_2
  first | subst g0 | skip
  first | subst g2 | skip
  first | subst g3 | skip
  first | subst ex2 | skip
  first
    | exact mn_end4 ‹zMN4 _ _ _ _ _ _ _ _ _ _ _ _ _ _ _ _ _› (by omega) (by omega) (by assumption) (by assumption) (by omega) (by omega) (by omega) (by omega) (by omega)
    | exact met_old4 ‹zRS4 _ _ _ _ _ _ _ _ _ _ _ _ _ _ _› ‹NMQ _ _ _ _ _ _› (by omega) ‹KNQ _ _ _ _ _ _ _› (by omega) (Or.inr ⟨by omega, _, by omega, ‹BT2 _ _ _ _ _›⟩) (by omega) (by omega)
    | (exfalso; omega)
def o_Mo_met_at_g4_39 : or_T := (254, 26, [(0, (2, 0, 0, [165])), (1, (0, 0, 7, [])), (2, (0, -1, 23, [])), (3, (0, 0, 2000, [])), (4, (0, 0, 2000, [])), (5, (0, 0, 4, [])), (6, (0, 0, 48, [])), (7, (0, 0, 1, [])), (8, (2, 0, 0, [165])), (9, (0, 0, 7, [])), (10, (0, -1, 23, [])), (11, (0, 0, 23, [])), (13, (0, 0, 8, [])), (14, (0, 0, 2000, [])), (15, (0, 0, 2000, [])), (16, (0, -2000, 8, [])), (17, (2, 0, 0, [167])), (18, (0, 0, 66297, [])), (19, (0, 219, 219, [])), (20, (0, 219, 66516, [])), (21, (0, 219, 66539, [])), (22, (0, 1, 1, [])), (23, (0, 243, 243, [])), (24, (0, 243, 66540, [])), (25, (0, 243, 66563, []))], [(9, [18, 8], [5]), (9, [17, 8], [2]), (9, [15, 8], [15]), (9, [14, 8], [11]), (20, [8, 8], [30, 0, 1, 1, 15, -1, 1, 11]), (20, [8], [50, 3, 0, 12, 11, 15, 2, 21, 4, 7, 1, 3, 2, 0, 12, 0, 1, 0, 3, 2, 0, 11, 4, 3, 2, 0, 15, 0, 8, 3, 7, 1, 3, 2, 0, 12, 0, 0, 0, 7, 4, 3, 2, 0, 15, 0, 1, 2, 0, 11]), (20, [3, 8], [30, 0, 1, 0, 0, -1, 1, 11]), (20, [4, 8], [30, -1, 1, 0, 0, -1, 1, 11]), (20, [8], [50, 1, 0, 12, 1, 3, 2, 0, 12, 0, 1]), (24, [0, 8], []), (24, [1, 9], []), (24, [2, 10], []), (100, [17, 25, 9], []), (1, [25, 24, 11], []), (1, [24, 18, 23], []), (20, [8, 8], [30, 0, 1, 1, 15, -1, 1, 11]), (20, [8], [50, 3, 0, 12, 11, 15, 2, 21, 4, 7, 1, 3, 2, 0, 12, 0, 1, 0, 3, 2, 0, 11, 4, 3, 2, 0, 15, 0, 8, 3, 7, 1, 3, 2, 0, 12, 0, 0, 0, 7, 4, 3, 2, 0, 15, 0, 1, 2, 0, 11]), (20, [3, 8], [30, 0, 1, 0, 0, -1, 1, 11]), (20, [4, 8], [30, -1, 1, 0, 0, -1, 1, 11]), (20, [8], [50, 1, 0, 12, 1, 3, 2, 0, 12, 0, 1]), (100, [17, 21, 22], []), (1, [21, 20, 11], []), (1, [20, 18, 19], []), (7, [13, 16], [3]), (2, [16, 14, 15], []), (20, [8, 8], [30, 0, 1, 1, 15, -1, 1, 11]), (20, [8], [50, 3, 0, 12, 11, 15, 2, 21, 4, 7, 1, 3, 2, 0, 12, 0, 1, 0, 3, 2, 0, 11, 4, 3, 2, 0, 15, 0, 8, 3, 7, 1, 3, 2, 0, 12, 0, 0, 0, 7, 4, 3, 2, 0, 15, 0, 1, 2, 0, 11]), (20, [3, 8], [30, 0, 1, 0, 0, -1, 1, 11]), (20, [4, 8], [30, -1, 1, 0, 0, -1, 1, 11]), (20, [8], [50, 1, 0, 12, 1, 3, 2, 0, 12, 0, 1]), (20, [10, 8], [50, 1, 1, 1005, 1002, 3, 6, 0, 2, 1, 0, 0, -1, 0, 10, 3, 1, 2, 4, 3, 2, 1, 5, 0, 1, 0, 47]), (20, [9, 8], [50, 1, 1, 1005, 1002, 0, 6, 4, 2, 1, 0, 0, 1, 3, 1, 2, 4, 3, 2, 1, 5, 0, 2]), (20, [8, 11], [60, 1, 3, 200, 5, 2, 3, 4]), (20, [8, 10, 11], [60, 1, 1, 243, 5, 2]), (20, [8, 11, 13, 10, 6, 7, 9, 5], [60, 8, 2, 1005, 10, 11, 12, 13, 14, 15, 8, 5, 1, 2])], [], [(0, 0, 2000, [])], [(20, [10, 8], [50, 1, 1, 1005, 1002, 3, 6, 0, 2, 1, 0, 0, -1, 0, 10, 3, 1, 2, 4, 3, 2, 1, 5, 0, 1, 0, 47]), (20, [9, 8], [50, 1, 1, 1005, 1002, 0, 6, 4, 2, 1, 0, 0, 1, 3, 1, 2, 4, 3, 2, 1, 5, 0, 2]), (20, [8], [60, 1, 3, 199, 5, 2, 3, 4]), (20, [8, 10, 11], [60, 1, 1, 243, 5, 2]), (20, [26, 8], [30, 0, 1, 0, 0, -1, 1, 11]), (20, [26, 8], [50, 1, 0, 1011, 1, 2, 1, 0, 2, 1, 11]), (20, [8], [60, 2, 0, 947, 10, 11]), (23, [3, 26], [0, 1, -1]), (23, [4, 26], [-1, 1, -1]), (20, [8, 11, 6, 10, 7, 9, 5, 26], [60, 3, 2, 979, 10, 8, 5, 1, 2])], [], [(25, 11, 243, 66540), (25, 24, 0, 23), (25, 18, 243, 266), (24, 18, 243, 243), (21, 11, 219, 66516), (21, 20, 0, 23), (21, 18, 219, 242), (20, 18, 219, 219), (13, 16, 0, 4294967296), (16, 14, -2000, 0), (1, 9, -4294967296, 0), (2, 10, -4294967296, 0), (9, 1, -4294967296, 0), (10, 2, -4294967296, 0)])
theorem oo_Mo_met_at_g4_39 {kA : Nat → ClassId} : or_ok PRD kA GG o_Mo_met_at_g4_39 := by
  refine or_mk fun A ta ws vs hD hth hl => ?_
  intro t0 r0 t1 k1 t2 k2 t3 k3 t4 k4 t5 k5 t6 k6 t7 k7 t8 r8 t9 k9 t10 k10 t11 k11 t13 k13 t14 k14 t15 k15 t16 k16 t17 r17 t18 k18 t19 k19 t20 k20 t21 k21 t22 k22 t23 k23 t24 k24 t25 k25 d0 d1 d2 d3 d4 d5 d6 d7 d8 d9 d10 d11 d12 d13 f0 f1 f2 f3 f4 f5 f6 f7 f8 f9 f10 f11 ta1 w1 le1 s1 f13 f14 f15 f16 f17 f18 f19 ta2 w2 le2 s2 f21 f22 f23 f24 f25 f26 f27 f28 f29 f30 f31 f32 f33 f34
  replace f0 := shm_110 f0
  replace f1 := shm_120 f1
  replace f2 := shm_177 f2
  replace f3 := shm_116 f3
  replace f4 := shm_1437 f4
  replace f5 := shm_1438 f5
  replace f6 := shm_1431 f6
  replace f7 := shm_2005 f7
  replace f8 := shm_1890 f8
  replace f9 := shm_5 f9
  replace f10 := shm_5 f10
  replace f11 := shm_5 f11
  have s1 : (∀ b j, w_el ws b j = if b = v_ad (n_v vs 17) ∧ j = (v_iv (n_v vs 25)).toNat then v_iv (n_v vs 9) else w_el w1 b j) ∧ ∀ b k, w_fd ws b k = w_fd w1 b k := s1.2
  replace f13 := shm_12 f13
  replace f14 := shm_12 f14
  replace f15 := shm_1437 f15
  replace f16 := shm_1438 f16
  replace f17 := shm_1431 f17
  replace f18 := shm_2005 f18
  replace f19 := shm_1890 f19
  have s2 : (∀ b j, w_el w1 b j = if b = v_ad (n_v vs 17) ∧ j = (v_iv (n_v vs 21)).toNat then v_iv (n_v vs 22) else w_el w2 b j) ∧ ∀ b k, w_fd w1 b k = w_fd w2 b k := s2.2
  replace f21 := shm_12 f21
  replace f22 := shm_12 f22
  replace f23 := shm_2 f23
  replace f24 := shm_14 f24
  replace f25 := shm_1437 f25
  replace f26 := shm_1438 f26
  replace f27 := shm_1431 f27
  replace f28 := shm_2005 f28
  replace f29 := shm_1890 f29
  replace f30 := shm_2114 f30
  replace f31 := shm_1009 f31
  replace f32 := shm_1803 f32
  replace f33 := shm_2115 f33
  replace f34 := shm_2127 f34
  have q8 : n_v vs 8 = n_v vs 0 := f9.symm
  have q9 : n_v vs 9 = n_v vs 1 := f10.symm
  have q10 : n_v vs 10 = n_v vs 2 := f11.symm
  simp only [q8] at f0 f1 f2 f3 f4 f5 f6 f7 f8
  rw [q9] at s1
  simp only [q8, q10, q9] at f15 f16 f17 f18 f19 f25 f26 f27 f28 f29 f30 f31 f32 f33 f34
  have ar_0_1_1 : w_ar w1 (n_v vs 0) 1 = w_ar ws (n_v vs 0) 1 := congrArg v_ad (s1.2 _ _).symm
  have ar_0_1_2 : w_ar w2 (n_v vs 0) 1 = w_ar ws (n_v vs 0) 1 := by rw [← ar_0_1_1]; show v_ad (w_fd w2 _ _) = v_ad (w_fd w1 _ _); rw [s2.2]
  have cr_0_1 := fdq_39 hD hth r0
  have ar_0_2_1 : w_ar w1 (n_v vs 0) 2 = w_ar ws (n_v vs 0) 2 := congrArg v_ad (s1.2 _ _).symm
  have ar_0_2_2 : w_ar w2 (n_v vs 0) 2 = w_ar ws (n_v vs 0) 2 := by rw [← ar_0_2_1]; show v_ad (w_fd w2 _ _) = v_ad (w_fd w1 _ _); rw [s2.2]
  have cr_0_2 := fdq_10 hD hth r0
  have ar_0_3_1 : w_ar w1 (n_v vs 0) 3 = w_ar ws (n_v vs 0) 3 := congrArg v_ad (s1.2 _ _).symm
  have ar_0_3_2 : w_ar w2 (n_v vs 0) 3 = w_ar ws (n_v vs 0) 3 := by rw [← ar_0_3_1]; show v_ad (w_fd w2 _ _) = v_ad (w_fd w1 _ _); rw [s2.2]
  have cr_0_3 := fdq_142 hD hth r0
  have ar_0_4_1 : w_ar w1 (n_v vs 0) 4 = w_ar ws (n_v vs 0) 4 := congrArg v_ad (s1.2 _ _).symm
  have ar_0_4_2 : w_ar w2 (n_v vs 0) 4 = w_ar ws (n_v vs 0) 4 := by rw [← ar_0_4_1]; show v_ad (w_fd w2 _ _) = v_ad (w_fd w1 _ _); rw [s2.2]
  have cr_0_4 := fdq_143 hD hth r0
  have ad_17 : v_ad (n_v vs 17) = w_ar ws (n_v vs 0) 2 := congrArg v_ad f1
  have g0 : v_iv (n_v vs 18) = w_fi ws (n_v vs 0) 5 := congrArg v_iv f0
  have g2 : v_iv (n_v vs 15) = w_fi ws (n_v vs 0) 15 := congrArg v_iv f2
  have g3 : v_iv (n_v vs 14) = w_fi ws (n_v vs 0) 11 := congrArg v_iv f3
  simp only [ar_0_2_2, ar_0_3_2, ar_0_4_2, ar_0_1_2] at f30 f31 f32 f33 f34
  have fe_0_5_1 : w_fi ws (n_v vs 0) 5 = w_fi w1 (n_v vs 0) 5 := congrArg v_iv (s1.2 _ _)
  have fe_0_8_1 : w_fi ws (n_v vs 0) 8 = w_fi w1 (n_v vs 0) 8 := congrArg v_iv (s1.2 _ _)
  have fe_0_10_1 : w_fi ws (n_v vs 0) 10 = w_fi w1 (n_v vs 0) 10 := congrArg v_iv (s1.2 _ _)
  have fe_0_11_1 : w_fi ws (n_v vs 0) 11 = w_fi w1 (n_v vs 0) 11 := congrArg v_iv (s1.2 _ _)
  have fe_0_12_1 : w_fi ws (n_v vs 0) 12 = w_fi w1 (n_v vs 0) 12 := congrArg v_iv (s1.2 _ _)
  have fe_0_13_1 : w_fi ws (n_v vs 0) 13 = w_fi w1 (n_v vs 0) 13 := congrArg v_iv (s1.2 _ _)
  have fe_0_14_1 : w_fi ws (n_v vs 0) 14 = w_fi w1 (n_v vs 0) 14 := congrArg v_iv (s1.2 _ _)
  have fe_0_15_1 : w_fi ws (n_v vs 0) 15 = w_fi w1 (n_v vs 0) 15 := congrArg v_iv (s1.2 _ _)
  have fe_0_5_2 : w_fi w1 (n_v vs 0) 5 = w_fi w2 (n_v vs 0) 5 := congrArg v_iv (s2.2 _ _)
  have fe_0_8_2 : w_fi w1 (n_v vs 0) 8 = w_fi w2 (n_v vs 0) 8 := congrArg v_iv (s2.2 _ _)
  have fe_0_10_2 : w_fi w1 (n_v vs 0) 10 = w_fi w2 (n_v vs 0) 10 := congrArg v_iv (s2.2 _ _)
  have fe_0_11_2 : w_fi w1 (n_v vs 0) 11 = w_fi w2 (n_v vs 0) 11 := congrArg v_iv (s2.2 _ _)
  have fe_0_12_2 : w_fi w1 (n_v vs 0) 12 = w_fi w2 (n_v vs 0) 12 := congrArg v_iv (s2.2 _ _)
  have fe_0_13_2 : w_fi w1 (n_v vs 0) 13 = w_fi w2 (n_v vs 0) 13 := congrArg v_iv (s2.2 _ _)
  have fe_0_14_2 : w_fi w1 (n_v vs 0) 14 = w_fi w2 (n_v vs 0) 14 := congrArg v_iv (s2.2 _ _)
  have fe_0_15_2 : w_fi w1 (n_v vs 0) 15 = w_fi w2 (n_v vs 0) 15 := congrArg v_iv (s2.2 _ _)
  have hE_0_1_1 : ∀ j : Int, w_ei ws (w_ar ws (n_v vs 0) 1) j = w_ei w1 (w_ar ws (n_v vs 0) 1) j := el_kp s1.1 r17 cr_0_1 (by decide)
  have hE_0_1_2 : ∀ j : Int, w_ei w1 (w_ar ws (n_v vs 0) 1) j = w_ei w2 (w_ar ws (n_v vs 0) 1) j := el_kp s2.1 r17 cr_0_1 (by decide)
  have hK_0_1 := elq_7 hD hth cr_0_1
  have hE_0_2_1 : ∀ j : Int, 0 ≤ j → (j = v_iv (n_v vs 25) → w_ei ws (w_ar ws (n_v vs 0) 2) j = v_iv (n_v vs 1)) ∧ (j ≠ v_iv (n_v vs 25) → w_ei ws (w_ar ws (n_v vs 0) 2) j = w_ei w1 (w_ar ws (n_v vs 0) 2) j) := fun j hj => ⟨fun h => by unfold w_ei; rw [s1.1, if_pos ⟨ad_17.symm, by rw [h]⟩], fun h => by unfold w_ei; rw [s1.1, if_neg (fun e => h (by have := e.2; omega))]⟩
  have hE_0_2_2 : ∀ j : Int, 0 ≤ j → (j = v_iv (n_v vs 21) → w_ei w1 (w_ar ws (n_v vs 0) 2) j = v_iv (n_v vs 22)) ∧ (j ≠ v_iv (n_v vs 21) → w_ei w1 (w_ar ws (n_v vs 0) 2) j = w_ei w2 (w_ar ws (n_v vs 0) 2) j) := fun j hj => ⟨fun h => by unfold w_ei; rw [s2.1, if_pos ⟨ad_17.symm, by rw [h]⟩], fun h => by unfold w_ei; rw [s2.1, if_neg (fun e => h (by have := e.2; omega))]⟩
  have hE_0_3_1 : ∀ j : Int, w_ei ws (w_ar ws (n_v vs 0) 3) j = w_ei w1 (w_ar ws (n_v vs 0) 3) j := el_kp s1.1 r17 cr_0_3 (by decide)
  have hE_0_3_2 : ∀ j : Int, w_ei w1 (w_ar ws (n_v vs 0) 3) j = w_ei w2 (w_ar ws (n_v vs 0) 3) j := el_kp s2.1 r17 cr_0_3 (by decide)
  have hK_0_3 := elq_80 hD hth cr_0_3
  have hE_0_4_1 : ∀ j : Int, w_ei ws (w_ar ws (n_v vs 0) 4) j = w_ei w1 (w_ar ws (n_v vs 0) 4) j := el_kp s1.1 r17 cr_0_4 (by decide)
  have hE_0_4_2 : ∀ j : Int, w_ei w1 (w_ar ws (n_v vs 0) 4) j = w_ei w2 (w_ar ws (n_v vs 0) 4) j := el_kp s2.1 r17 cr_0_4 (by decide)
  have hK_0_4 := elq_81 hD hth cr_0_4
  have kz_0_8 := fdq_34 hD hth r0
  have kz_0_10 := fdq_43 hD hth r0
  have kz_0_11 := fdq_237 hD hth r0
  have kz_0_12 := fdq_187 hD hth r0
  have kz_0_13 := fdq_238 hD hth r0
  have kz_0_14 := fdq_188 hD hth r0
  have kz_0_15 := fdq_239 hD hth r0
  first | have hJ0 : w_ei w2 (w_ar ws (n_v vs 0) 2) ((w_fi w2 (n_v vs 0) 5 + 1)) = w_ei w2 (w_ar ws (n_v vs 0) 2) ((w_fi ws (n_v vs 0) 5 + 1)) := congrArg _ (show ((w_fi w2 (n_v vs 0) 5 + 1) : Int) = (w_fi ws (n_v vs 0) 5 + 1) from by omega) | skip
  first | have hJ1 : w_ei w2 (w_ar ws (n_v vs 0) 2) ((w_fi w2 (n_v vs 0) 5 + 2)) = w_ei w2 (w_ar ws (n_v vs 0) 2) ((w_fi ws (n_v vs 0) 5 + 2)) := congrArg _ (show ((w_fi w2 (n_v vs 0) 5 + 2) : Int) = (w_fi ws (n_v vs 0) 5 + 2) from by omega) | skip
  first | have hI2 := (hE_0_2_1 ((w_fi ws (n_v vs 0) 5 + 1)) (by omega)).2 (by omega) | have hI2 := (hE_0_2_1 ((w_fi ws (n_v vs 0) 5 + 1)) (by omega)).1 (by omega) | skip
  first | have hI3 := (hE_0_2_2 ((w_fi ws (n_v vs 0) 5 + 1)) (by omega)).2 (by omega) | have hI3 := (hE_0_2_2 ((w_fi ws (n_v vs 0) 5 + 1)) (by omega)).1 (by omega) | skip
  first | have hI4 := (hE_0_2_1 ((w_fi ws (n_v vs 0) 5 + 2)) (by omega)).2 (by omega) | have hI4 := (hE_0_2_1 ((w_fi ws (n_v vs 0) 5 + 2)) (by omega)).1 (by omega) | skip
  first | have hI5 := (hE_0_2_2 ((w_fi ws (n_v vs 0) 5 + 2)) (by omega)).2 (by omega) | have hI5 := (hE_0_2_2 ((w_fi ws (n_v vs 0) 5 + 2)) (by omega)).1 (by omega) | skip
  have kv0 := fdq_237 hD hth r0
  obtain ⟨x, ex, hx⟩ := iv_ex (ta := ta) (lo := 0) (hi := 2000) (z := w_fi ws (n_v vs 0) 11) (by omega) (by omega) (by omega) (by omega)
  have ex2 : v_iv (Value.int x) = w_fi ws (n_v vs 0) 11 := ex
  have ex3 : 0 ≤ v_iv (Value.int x) ∧ v_iv (Value.int x) ≤ 2000 := tv_rng hx
  have e_3 : n_v (vs ++ [Value.int x]) 3 = n_v vs 3 := n_v_old (by rw [hl]; decide)
  have e_4 : n_v (vs ++ [Value.int x]) 4 = n_v vs 4 := n_v_old (by rw [hl]; decide)
  have e_5 : n_v (vs ++ [Value.int x]) 5 = n_v vs 5 := n_v_old (by rw [hl]; decide)
  have e_6 : n_v (vs ++ [Value.int x]) 6 = n_v vs 6 := n_v_old (by rw [hl]; decide)
  have e_7 : n_v (vs ++ [Value.int x]) 7 = n_v vs 7 := n_v_old (by rw [hl]; decide)
  have e_8 : n_v (vs ++ [Value.int x]) 8 = n_v vs 8 := n_v_old (by rw [hl]; decide)
  have e_9 : n_v (vs ++ [Value.int x]) 9 = n_v vs 9 := n_v_old (by rw [hl]; decide)
  have e_10 : n_v (vs ++ [Value.int x]) 10 = n_v vs 10 := n_v_old (by rw [hl]; decide)
  have e_11 : n_v (vs ++ [Value.int x]) 11 = n_v vs 11 := n_v_old (by rw [hl]; decide)
  have e_26 : n_v (vs ++ [Value.int x]) 26 = Value.int x := n_v_new hl
  have nf0 : fc_1 PRD (20, [10, 8], [50, 1, 1, 1005, 1002, 3, 6, 0, 2, 1, 0, 0, -1, 0, 10, 3, 1, 2, 4, 3, 2, 1, 5, 0, 1, 0, 47]) ws (vs ++ [Value.int x]) := by
    refine ⟨nf_inA hl rfl, sgq_2114 ?_⟩
    · show (v_iv (n_v (vs ++ [Value.int x]) 10) ≤ (-1)) ∨ (w_ei ws (w_ar ws (n_v (vs ++ [Value.int x]) 8) 2) ((w_fi ws (n_v (vs ++ [Value.int x]) 8) 5 + 1)) ≤ 47)
      simp only [e_8, e_10, q8, q10]
      exact vc_Mo_met_at_g4_39_0 (v_iv (n_v vs 1)) (v_iv (n_v vs 2)) (v_iv (n_v vs 10)) (v_iv (n_v vs 11)) (v_iv (n_v vs 18)) (v_iv (n_v vs 20)) (v_iv (n_v vs 21)) (v_iv (n_v vs 22)) (v_iv (n_v vs 24)) (v_iv (n_v vs 25)) (w_fi ws (n_v vs 0) 5) (w_fi ws (n_v vs 0) 15) (w_fi ws (n_v vs 0) 11) (w_fi ws (n_v vs 0) 12) (w_fi w1 (n_v vs 0) 15) (w_fi w1 (n_v vs 0) 11) (w_fi w1 (n_v vs 0) 12) (w_fi w2 (n_v vs 0) 15) (w_fi w2 (n_v vs 0) 11) (w_fi w2 (n_v vs 0) 12) (w_ei w2 (w_ar ws (n_v vs 0) 2)) (w_fi w2 (n_v vs 0) 5) (w_ei w2 (w_ar ws (n_v vs 0) 3)) (w_ei w2 (w_ar ws (n_v vs 0) 4)) (w_ei w2 (w_ar ws (n_v vs 0) 1)) (w_fi w2 (n_v vs 0) 10) (w_fi w2 (n_v vs 0) 13) (w_fi w2 (n_v vs 0) 14) (w_fi w2 (n_v vs 0) 8) (w_fi w1 (n_v vs 0) 5) (w_fi ws (n_v vs 0) 8) (w_fi w1 (n_v vs 0) 8) (w_fi ws (n_v vs 0) 10) (w_fi w1 (n_v vs 0) 10) (w_fi ws (n_v vs 0) 13) (w_fi w1 (n_v vs 0) 13) (w_fi ws (n_v vs 0) 14) (w_fi w1 (n_v vs 0) 14) (w_ei ws (w_ar ws (n_v vs 0) 1)) (w_ei w1 (w_ar ws (n_v vs 0) 1)) (w_ei ws (w_ar ws (n_v vs 0) 2)) (w_ei w1 (w_ar ws (n_v vs 0) 2)) (w_ei ws (w_ar ws (n_v vs 0) 3)) (w_ei w1 (w_ar ws (n_v vs 0) 3)) (w_ei ws (w_ar ws (n_v vs 0) 4)) (w_ei w1 (w_ar ws (n_v vs 0) 4)) k1 k2 k10 k11 k18 k20 k21 k22 k24 k25 d2 d3 d4 d7 d11 d13 g0 f8 f13 f21 f26 f30 fe_0_5_1 fe_0_8_1 fe_0_10_1 fe_0_11_1 fe_0_12_1 fe_0_13_1 fe_0_14_1 fe_0_15_1 fe_0_5_2 fe_0_8_2 fe_0_10_2 fe_0_11_2 fe_0_12_2 fe_0_13_2 fe_0_14_2 fe_0_15_2 hE_0_1_1 hE_0_1_2 hE_0_2_1 hE_0_2_2 hE_0_3_1 hE_0_3_2 hE_0_4_1 hE_0_4_2 kz_0_8 kz_0_10 kz_0_11 kz_0_12 kz_0_13 kz_0_14 kz_0_15
  have nf1 : fc_1 PRD (20, [9, 8], [50, 1, 1, 1005, 1002, 0, 6, 4, 2, 1, 0, 0, 1, 3, 1, 2, 4, 3, 2, 1, 5, 0, 2]) ws (vs ++ [Value.int x]) := by
    refine ⟨nf_inA hl rfl, sgq_1009 ?_⟩
    · show (v_iv (n_v (vs ++ [Value.int x]) 9) + 1) ≤ w_ei ws (w_ar ws (n_v (vs ++ [Value.int x]) 8) 2) ((w_fi ws (n_v (vs ++ [Value.int x]) 8) 5 + 2))
      simp only [e_8, e_9, q8, q9]
      exact vc_Mo_met_at_g4_39_1 (v_iv (n_v vs 1)) (v_iv (n_v vs 9)) (v_iv (n_v vs 11)) (v_iv (n_v vs 18)) (v_iv (n_v vs 20)) (v_iv (n_v vs 21)) (v_iv (n_v vs 22)) (v_iv (n_v vs 24)) (v_iv (n_v vs 25)) (w_fi ws (n_v vs 0) 5) (w_fi ws (n_v vs 0) 15) (w_fi ws (n_v vs 0) 11) (w_fi ws (n_v vs 0) 12) (w_fi w1 (n_v vs 0) 15) (w_fi w1 (n_v vs 0) 11) (w_fi w1 (n_v vs 0) 12) (w_fi w2 (n_v vs 0) 15) (w_fi w2 (n_v vs 0) 11) (w_fi w2 (n_v vs 0) 12) (w_ei w2 (w_ar ws (n_v vs 0) 2)) (w_fi w2 (n_v vs 0) 5) (w_ei w2 (w_ar ws (n_v vs 0) 3)) (w_ei w2 (w_ar ws (n_v vs 0) 4)) (w_ei w2 (w_ar ws (n_v vs 0) 1)) (w_fi w2 (n_v vs 0) 10) (w_fi w2 (n_v vs 0) 13) (w_fi w2 (n_v vs 0) 14) (w_fi w2 (n_v vs 0) 8) (w_fi w1 (n_v vs 0) 5) (w_fi ws (n_v vs 0) 8) (w_fi w1 (n_v vs 0) 8) (w_fi ws (n_v vs 0) 10) (w_fi w1 (n_v vs 0) 10) (w_fi ws (n_v vs 0) 13) (w_fi w1 (n_v vs 0) 13) (w_fi ws (n_v vs 0) 14) (w_fi w1 (n_v vs 0) 14) (w_ei ws (w_ar ws (n_v vs 0) 1)) (w_ei w1 (w_ar ws (n_v vs 0) 1)) (w_ei ws (w_ar ws (n_v vs 0) 2)) (w_ei w1 (w_ar ws (n_v vs 0) 2)) (w_ei ws (w_ar ws (n_v vs 0) 3)) (w_ei w1 (w_ar ws (n_v vs 0) 3)) (w_ei ws (w_ar ws (n_v vs 0) 4)) (w_ei w1 (w_ar ws (n_v vs 0) 4)) k1 k9 k11 k18 k20 k21 k22 k24 k25 d2 d3 d4 d7 d10 d12 g0 f13 f21 f31 fe_0_5_1 fe_0_8_1 fe_0_10_1 fe_0_11_1 fe_0_12_1 fe_0_13_1 fe_0_14_1 fe_0_15_1 fe_0_5_2 fe_0_8_2 fe_0_10_2 fe_0_11_2 fe_0_12_2 fe_0_13_2 fe_0_14_2 fe_0_15_2 hE_0_1_1 hE_0_1_2 hE_0_2_1 hE_0_2_2 hE_0_3_1 hE_0_3_2 hE_0_4_1 hE_0_4_2 kz_0_8 kz_0_10 kz_0_11 kz_0_12 kz_0_13 kz_0_14 kz_0_15
  have nf2 : fc_1 PRD (20, [8], [60, 1, 3, 199, 5, 2, 3, 4]) ws (vs ++ [Value.int x]) := by
    refine ⟨nf_inA hl rfl, sgq_980 ?_⟩
    · show RWS (w_fi ws (n_v (vs ++ [Value.int x]) 8) 5) (w_ei ws (w_ar ws (n_v (vs ++ [Value.int x]) 8) 2)) (w_ei ws (w_ar ws (n_v (vs ++ [Value.int x]) 8) 3)) (w_ei ws (w_ar ws (n_v (vs ++ [Value.int x]) 8) 4))
      simp only [e_8, q8]
      exact vc_Mo_met_at_g4_39_2 (v_iv (n_v vs 1)) (v_iv (n_v vs 2)) (v_iv (n_v vs 11)) (v_iv (n_v vs 18)) (v_iv (n_v vs 20)) (v_iv (n_v vs 21)) (v_iv (n_v vs 22)) (v_iv (n_v vs 24)) (v_iv (n_v vs 25)) (w_fi ws (n_v vs 0) 5) (w_fi ws (n_v vs 0) 15) (w_fi ws (n_v vs 0) 11) (w_fi ws (n_v vs 0) 12) (w_fi w1 (n_v vs 0) 15) (w_fi w1 (n_v vs 0) 11) (w_fi w1 (n_v vs 0) 12) (w_fi w2 (n_v vs 0) 15) (w_fi w2 (n_v vs 0) 11) (w_fi w2 (n_v vs 0) 12) (w_ei w2 (w_ar ws (n_v vs 0) 2)) (w_fi w2 (n_v vs 0) 5) (w_ei w2 (w_ar ws (n_v vs 0) 3)) (w_ei w2 (w_ar ws (n_v vs 0) 4)) (w_ei w2 (w_ar ws (n_v vs 0) 1)) (w_fi w2 (n_v vs 0) 10) (w_fi w2 (n_v vs 0) 13) (w_fi w2 (n_v vs 0) 14) (w_fi w2 (n_v vs 0) 8) (w_fi w1 (n_v vs 0) 5) (w_fi ws (n_v vs 0) 8) (w_fi w1 (n_v vs 0) 8) (w_fi ws (n_v vs 0) 10) (w_fi w1 (n_v vs 0) 10) (w_fi ws (n_v vs 0) 13) (w_fi w1 (n_v vs 0) 13) (w_fi ws (n_v vs 0) 14) (w_fi w1 (n_v vs 0) 14) (w_ei ws (w_ar ws (n_v vs 0) 1)) (w_ei w1 (w_ar ws (n_v vs 0) 1)) (w_ei ws (w_ar ws (n_v vs 0) 2)) (w_ei w1 (w_ar ws (n_v vs 0) 2)) (w_ei ws (w_ar ws (n_v vs 0) 3)) (w_ei w1 (w_ar ws (n_v vs 0) 3)) (w_ei ws (w_ar ws (n_v vs 0) 4)) (w_ei w1 (w_ar ws (n_v vs 0) 4)) k1 k2 k11 k18 k20 k21 k22 k24 k25 d2 d3 d7 g0 f13 f21 f32 f33 fe_0_5_1 fe_0_8_1 fe_0_10_1 fe_0_11_1 fe_0_12_1 fe_0_13_1 fe_0_14_1 fe_0_15_1 fe_0_5_2 fe_0_8_2 fe_0_10_2 fe_0_11_2 fe_0_12_2 fe_0_13_2 fe_0_14_2 fe_0_15_2 hE_0_1_1 hE_0_1_2 hE_0_2_1 hE_0_2_2 hE_0_3_1 hE_0_3_2 hE_0_4_1 hE_0_4_2 kz_0_8 kz_0_10 kz_0_11 kz_0_12 kz_0_13 kz_0_14 kz_0_15
  have nf3 : fc_1 PRD (20, [8, 10, 11], [60, 1, 1, 243, 5, 2]) ws (vs ++ [Value.int x]) := by
    refine ⟨nf_inA hl rfl, sgq_2115 ?_⟩
    · show MEN (w_fi ws (n_v (vs ++ [Value.int x]) 8) 5) (w_ei ws (w_ar ws (n_v (vs ++ [Value.int x]) 8) 2)) (v_iv (n_v (vs ++ [Value.int x]) 10)) (v_iv (n_v (vs ++ [Value.int x]) 11))
      simp only [e_8, e_10, e_11, q8, q10]
      exact vc_Mo_met_at_g4_39_3 (v_iv (n_v vs 1)) (v_iv (n_v vs 2)) (v_iv (n_v vs 11)) (v_iv (n_v vs 18)) (v_iv (n_v vs 20)) (v_iv (n_v vs 21)) (v_iv (n_v vs 22)) (v_iv (n_v vs 24)) (v_iv (n_v vs 25)) (w_fi ws (n_v vs 0) 5) (w_fi ws (n_v vs 0) 15) (w_fi ws (n_v vs 0) 11) (w_fi ws (n_v vs 0) 12) (w_fi w1 (n_v vs 0) 15) (w_fi w1 (n_v vs 0) 11) (w_fi w1 (n_v vs 0) 12) (w_fi w2 (n_v vs 0) 15) (w_fi w2 (n_v vs 0) 11) (w_fi w2 (n_v vs 0) 12) (w_ei w2 (w_ar ws (n_v vs 0) 2)) (w_fi w2 (n_v vs 0) 5) (w_ei w2 (w_ar ws (n_v vs 0) 3)) (w_ei w2 (w_ar ws (n_v vs 0) 4)) (w_ei w2 (w_ar ws (n_v vs 0) 1)) (w_fi w2 (n_v vs 0) 10) (w_fi w2 (n_v vs 0) 13) (w_fi w2 (n_v vs 0) 14) (w_fi w2 (n_v vs 0) 8) (w_fi w1 (n_v vs 0) 5) (w_fi ws (n_v vs 0) 8) (w_fi w1 (n_v vs 0) 8) (w_fi ws (n_v vs 0) 10) (w_fi w1 (n_v vs 0) 10) (w_fi ws (n_v vs 0) 13) (w_fi w1 (n_v vs 0) 13) (w_fi ws (n_v vs 0) 14) (w_fi w1 (n_v vs 0) 14) (w_ei ws (w_ar ws (n_v vs 0) 1)) (w_ei w1 (w_ar ws (n_v vs 0) 1)) (w_ei ws (w_ar ws (n_v vs 0) 2)) (w_ei w1 (w_ar ws (n_v vs 0) 2)) (w_ei ws (w_ar ws (n_v vs 0) 3)) (w_ei w1 (w_ar ws (n_v vs 0) 3)) (w_ei ws (w_ar ws (n_v vs 0) 4)) (w_ei w1 (w_ar ws (n_v vs 0) 4)) k1 k2 k11 k18 k20 k21 k22 k24 k25 d2 d3 d4 d7 g0 f13 f21 f32 f33 fe_0_5_1 fe_0_8_1 fe_0_10_1 fe_0_11_1 fe_0_12_1 fe_0_13_1 fe_0_14_1 fe_0_15_1 fe_0_5_2 fe_0_8_2 fe_0_10_2 fe_0_11_2 fe_0_12_2 fe_0_13_2 fe_0_14_2 fe_0_15_2 hE_0_1_1 hE_0_1_2 hE_0_2_1 hE_0_2_2 hE_0_3_1 hE_0_3_2 hE_0_4_1 hE_0_4_2 kz_0_8 kz_0_10 kz_0_11 kz_0_12 kz_0_13 kz_0_14 kz_0_15
  have nf4 : fc_1 PRD (20, [26, 8], [30, 0, 1, 0, 0, -1, 1, 11]) ws (vs ++ [Value.int x]) := by
    refine ⟨nf_inA hl rfl, sgq_1431 ?_⟩
    · show 1 * v_iv (n_v (vs ++ [Value.int x]) 26) + ((-1) * w_fi ws (n_v (vs ++ [Value.int x]) 8) 11 + 0) ≤ 0
      simp only [e_8, e_26, q8]
      exact vc_Mo_met_at_g4_39_4 (v_iv (n_v vs 1)) (v_iv (n_v vs 21)) (v_iv (n_v vs 22)) (v_iv (n_v vs 25)) (w_fi ws (n_v vs 0) 5) (w_fi ws (n_v vs 0) 15) (w_fi ws (n_v vs 0) 11) (w_fi ws (n_v vs 0) 12) (w_fi w1 (n_v vs 0) 15) (w_fi w1 (n_v vs 0) 11) (w_fi w1 (n_v vs 0) 12) (w_fi w2 (n_v vs 0) 15) (w_fi w2 (n_v vs 0) 11) (w_fi w2 (n_v vs 0) 12) (w_ei w2 (w_ar ws (n_v vs 0) 2)) (w_fi w2 (n_v vs 0) 5) (w_ei w2 (w_ar ws (n_v vs 0) 3)) (w_ei w2 (w_ar ws (n_v vs 0) 4)) (w_ei w2 (w_ar ws (n_v vs 0) 1)) (w_fi w2 (n_v vs 0) 10) (w_fi w2 (n_v vs 0) 13) (w_fi w2 (n_v vs 0) 14) (w_fi w2 (n_v vs 0) 8) (w_fi w1 (n_v vs 0) 5) (w_fi ws (n_v vs 0) 8) (w_fi w1 (n_v vs 0) 8) (w_fi ws (n_v vs 0) 10) (w_fi w1 (n_v vs 0) 10) (w_fi ws (n_v vs 0) 13) (w_fi w1 (n_v vs 0) 13) (w_fi ws (n_v vs 0) 14) (w_fi w1 (n_v vs 0) 14) (w_ei ws (w_ar ws (n_v vs 0) 1)) (w_ei w1 (w_ar ws (n_v vs 0) 1)) (w_ei ws (w_ar ws (n_v vs 0) 2)) (w_ei w1 (w_ar ws (n_v vs 0) 2)) (w_ei ws (w_ar ws (n_v vs 0) 3)) (w_ei w1 (w_ar ws (n_v vs 0) 3)) (w_ei ws (w_ar ws (n_v vs 0) 4)) (w_ei w1 (w_ar ws (n_v vs 0) 4)) (v_iv (Value.int x)) k1 k21 k22 k25 fe_0_5_1 fe_0_8_1 fe_0_10_1 fe_0_11_1 fe_0_12_1 fe_0_13_1 fe_0_14_1 fe_0_15_1 fe_0_5_2 fe_0_8_2 fe_0_10_2 fe_0_11_2 fe_0_12_2 fe_0_13_2 fe_0_14_2 fe_0_15_2 hE_0_1_1 hE_0_1_2 hE_0_2_1 hE_0_2_2 hE_0_3_1 hE_0_3_2 hE_0_4_1 hE_0_4_2 kz_0_8 kz_0_10 kz_0_11 kz_0_12 kz_0_13 kz_0_14 kz_0_15 ex2
  have nf5 : fc_1 PRD (20, [26, 8], [50, 1, 0, 1011, 1, 2, 1, 0, 2, 1, 11]) ws (vs ++ [Value.int x]) := by
    refine ⟨nf_inA hl rfl, sgq_1432 ?_⟩
    · show v_iv (n_v (vs ++ [Value.int x]) 26) = w_fi ws (n_v (vs ++ [Value.int x]) 8) 11
      simp only [e_8, e_26, q8]
      exact vc_Mo_met_at_g4_39_5 (v_iv (n_v vs 1)) (v_iv (n_v vs 21)) (v_iv (n_v vs 22)) (v_iv (n_v vs 25)) (w_fi ws (n_v vs 0) 5) (w_fi ws (n_v vs 0) 15) (w_fi ws (n_v vs 0) 11) (w_fi ws (n_v vs 0) 12) (w_fi w1 (n_v vs 0) 15) (w_fi w1 (n_v vs 0) 11) (w_fi w1 (n_v vs 0) 12) (w_fi w2 (n_v vs 0) 15) (w_fi w2 (n_v vs 0) 11) (w_fi w2 (n_v vs 0) 12) (w_ei w2 (w_ar ws (n_v vs 0) 2)) (w_fi w2 (n_v vs 0) 5) (w_ei w2 (w_ar ws (n_v vs 0) 3)) (w_ei w2 (w_ar ws (n_v vs 0) 4)) (w_ei w2 (w_ar ws (n_v vs 0) 1)) (w_fi w2 (n_v vs 0) 10) (w_fi w2 (n_v vs 0) 13) (w_fi w2 (n_v vs 0) 14) (w_fi w2 (n_v vs 0) 8) (w_fi w1 (n_v vs 0) 5) (w_fi ws (n_v vs 0) 8) (w_fi w1 (n_v vs 0) 8) (w_fi ws (n_v vs 0) 10) (w_fi w1 (n_v vs 0) 10) (w_fi ws (n_v vs 0) 13) (w_fi w1 (n_v vs 0) 13) (w_fi ws (n_v vs 0) 14) (w_fi w1 (n_v vs 0) 14) (w_ei ws (w_ar ws (n_v vs 0) 1)) (w_ei w1 (w_ar ws (n_v vs 0) 1)) (w_ei ws (w_ar ws (n_v vs 0) 2)) (w_ei w1 (w_ar ws (n_v vs 0) 2)) (w_ei ws (w_ar ws (n_v vs 0) 3)) (w_ei w1 (w_ar ws (n_v vs 0) 3)) (w_ei ws (w_ar ws (n_v vs 0) 4)) (w_ei w1 (w_ar ws (n_v vs 0) 4)) (v_iv (Value.int x)) k1 k21 k22 k25 fe_0_5_1 fe_0_8_1 fe_0_10_1 fe_0_11_1 fe_0_12_1 fe_0_13_1 fe_0_14_1 fe_0_15_1 fe_0_5_2 fe_0_8_2 fe_0_10_2 fe_0_11_2 fe_0_12_2 fe_0_13_2 fe_0_14_2 fe_0_15_2 hE_0_1_1 hE_0_1_2 hE_0_2_1 hE_0_2_2 hE_0_3_1 hE_0_3_2 hE_0_4_1 hE_0_4_2 kz_0_8 kz_0_10 kz_0_11 kz_0_12 kz_0_13 kz_0_14 kz_0_15 ex2
  have nf6 : fc_1 PRD (20, [8], [60, 2, 0, 947, 10, 11]) ws (vs ++ [Value.int x]) := by
    refine ⟨nf_inA hl rfl, sgq_1433 ?_⟩
    · show ZLM (w_fi ws (n_v (vs ++ [Value.int x]) 8) 10) (w_fi ws (n_v (vs ++ [Value.int x]) 8) 11)
      simp only [e_8, q8]
      exact vc_Mo_met_at_g4_39_6 (v_iv (n_v vs 1)) (v_iv (n_v vs 2)) (v_iv (n_v vs 5)) (v_iv (n_v vs 6)) (v_iv (n_v vs 7)) (v_iv (n_v vs 11)) (v_iv (n_v vs 13)) (w_fi ws (n_v vs 0) 5) (w_fi ws (n_v vs 0) 15) (w_fi ws (n_v vs 0) 11) (w_fi ws (n_v vs 0) 12) (w_fi w1 (n_v vs 0) 15) (w_fi w1 (n_v vs 0) 11) (w_fi w1 (n_v vs 0) 12) (w_fi w2 (n_v vs 0) 15) (w_fi w2 (n_v vs 0) 11) (w_fi w2 (n_v vs 0) 12) (w_ei w2 (w_ar ws (n_v vs 0) 2)) (w_fi w2 (n_v vs 0) 5) (w_ei w2 (w_ar ws (n_v vs 0) 3)) (w_ei w2 (w_ar ws (n_v vs 0) 4)) (w_ei w2 (w_ar ws (n_v vs 0) 1)) (w_fi w2 (n_v vs 0) 10) (w_fi w2 (n_v vs 0) 13) (w_fi w2 (n_v vs 0) 14) (w_fi w2 (n_v vs 0) 8) (w_fi w1 (n_v vs 0) 5) (w_fi ws (n_v vs 0) 8) (w_fi w1 (n_v vs 0) 8) (w_fi ws (n_v vs 0) 10) (w_fi w1 (n_v vs 0) 10) (w_fi ws (n_v vs 0) 13) (w_fi w1 (n_v vs 0) 13) (w_fi ws (n_v vs 0) 14) (w_fi w1 (n_v vs 0) 14) (w_ei ws (w_ar ws (n_v vs 0) 1)) (w_ei w1 (w_ar ws (n_v vs 0) 1)) (w_ei ws (w_ar ws (n_v vs 0) 3)) (w_ei w1 (w_ar ws (n_v vs 0) 3)) (w_ei ws (w_ar ws (n_v vs 0) 4)) (w_ei w1 (w_ar ws (n_v vs 0) 4)) k1 k2 k5 k6 k7 k11 k13 f34 fe_0_5_1 fe_0_8_1 fe_0_10_1 fe_0_11_1 fe_0_12_1 fe_0_13_1 fe_0_14_1 fe_0_15_1 fe_0_5_2 fe_0_8_2 fe_0_10_2 fe_0_11_2 fe_0_12_2 fe_0_13_2 fe_0_14_2 fe_0_15_2 hE_0_1_1 hE_0_1_2 hE_0_3_1 hE_0_3_2 hE_0_4_1 hE_0_4_2 kz_0_8 kz_0_10 kz_0_11 kz_0_12 kz_0_13 kz_0_14 kz_0_15
  have nf7 : fc_1 PRD (23, [3, 26], [0, 1, -1]) ws (vs ++ [Value.int x]) := by
    refine ⟨nf_inA hl rfl, sgq_7 ?_⟩
    · show 1 * v_iv (n_v (vs ++ [Value.int x]) 3) + ((-1) * v_iv (n_v (vs ++ [Value.int x]) 26) + 0) ≤ 0
      simp only [e_3, e_26]
      exact vc_Mo_met_at_g4_39_7 (v_iv (n_v vs 1)) (v_iv (n_v vs 3)) (v_iv (n_v vs 21)) (v_iv (n_v vs 22)) (v_iv (n_v vs 25)) (w_fi ws (n_v vs 0) 5) (w_fi ws (n_v vs 0) 15) (w_fi ws (n_v vs 0) 11) (w_fi ws (n_v vs 0) 12) (w_fi w1 (n_v vs 0) 15) (w_fi w1 (n_v vs 0) 11) (w_fi w1 (n_v vs 0) 12) (w_fi w2 (n_v vs 0) 15) (w_fi w2 (n_v vs 0) 11) (w_fi w2 (n_v vs 0) 12) (w_ei w2 (w_ar ws (n_v vs 0) 2)) (w_fi w2 (n_v vs 0) 5) (w_ei w2 (w_ar ws (n_v vs 0) 3)) (w_ei w2 (w_ar ws (n_v vs 0) 4)) (w_ei w2 (w_ar ws (n_v vs 0) 1)) (w_fi w2 (n_v vs 0) 10) (w_fi w2 (n_v vs 0) 13) (w_fi w2 (n_v vs 0) 14) (w_fi w2 (n_v vs 0) 8) (w_fi w1 (n_v vs 0) 5) (w_fi ws (n_v vs 0) 8) (w_fi w1 (n_v vs 0) 8) (w_fi ws (n_v vs 0) 10) (w_fi w1 (n_v vs 0) 10) (w_fi ws (n_v vs 0) 13) (w_fi w1 (n_v vs 0) 13) (w_fi ws (n_v vs 0) 14) (w_fi w1 (n_v vs 0) 14) (w_ei ws (w_ar ws (n_v vs 0) 1)) (w_ei w1 (w_ar ws (n_v vs 0) 1)) (w_ei ws (w_ar ws (n_v vs 0) 2)) (w_ei w1 (w_ar ws (n_v vs 0) 2)) (w_ei ws (w_ar ws (n_v vs 0) 3)) (w_ei w1 (w_ar ws (n_v vs 0) 3)) (w_ei ws (w_ar ws (n_v vs 0) 4)) (w_ei w1 (w_ar ws (n_v vs 0) 4)) (v_iv (Value.int x)) k1 k3 k21 k22 k25 f6 fe_0_5_1 fe_0_8_1 fe_0_10_1 fe_0_11_1 fe_0_12_1 fe_0_13_1 fe_0_14_1 fe_0_15_1 fe_0_5_2 fe_0_8_2 fe_0_10_2 fe_0_11_2 fe_0_12_2 fe_0_13_2 fe_0_14_2 fe_0_15_2 hE_0_1_1 hE_0_1_2 hE_0_2_1 hE_0_2_2 hE_0_3_1 hE_0_3_2 hE_0_4_1 hE_0_4_2 kz_0_8 kz_0_10 kz_0_11 kz_0_12 kz_0_13 kz_0_14 kz_0_15 ex2
  have nf8 : fc_1 PRD (23, [4, 26], [-1, 1, -1]) ws (vs ++ [Value.int x]) := by
    refine ⟨nf_inA hl rfl, sgq_193 ?_⟩
    · show 1 * v_iv (n_v (vs ++ [Value.int x]) 4) + ((-1) * v_iv (n_v (vs ++ [Value.int x]) 26) + 0) ≤ (-1)
      simp only [e_4, e_26]
      exact vc_Mo_met_at_g4_39_8 (v_iv (n_v vs 1)) (v_iv (n_v vs 4)) (v_iv (n_v vs 21)) (v_iv (n_v vs 22)) (v_iv (n_v vs 25)) (w_fi ws (n_v vs 0) 5) (w_fi ws (n_v vs 0) 15) (w_fi ws (n_v vs 0) 11) (w_fi ws (n_v vs 0) 12) (w_fi w1 (n_v vs 0) 15) (w_fi w1 (n_v vs 0) 11) (w_fi w1 (n_v vs 0) 12) (w_fi w2 (n_v vs 0) 15) (w_fi w2 (n_v vs 0) 11) (w_fi w2 (n_v vs 0) 12) (w_ei w2 (w_ar ws (n_v vs 0) 2)) (w_fi w2 (n_v vs 0) 5) (w_ei w2 (w_ar ws (n_v vs 0) 3)) (w_ei w2 (w_ar ws (n_v vs 0) 4)) (w_ei w2 (w_ar ws (n_v vs 0) 1)) (w_fi w2 (n_v vs 0) 10) (w_fi w2 (n_v vs 0) 13) (w_fi w2 (n_v vs 0) 14) (w_fi w2 (n_v vs 0) 8) (w_fi w1 (n_v vs 0) 5) (w_fi ws (n_v vs 0) 8) (w_fi w1 (n_v vs 0) 8) (w_fi ws (n_v vs 0) 10) (w_fi w1 (n_v vs 0) 10) (w_fi ws (n_v vs 0) 13) (w_fi w1 (n_v vs 0) 13) (w_fi ws (n_v vs 0) 14) (w_fi w1 (n_v vs 0) 14) (w_ei ws (w_ar ws (n_v vs 0) 1)) (w_ei w1 (w_ar ws (n_v vs 0) 1)) (w_ei ws (w_ar ws (n_v vs 0) 2)) (w_ei w1 (w_ar ws (n_v vs 0) 2)) (w_ei ws (w_ar ws (n_v vs 0) 3)) (w_ei w1 (w_ar ws (n_v vs 0) 3)) (w_ei ws (w_ar ws (n_v vs 0) 4)) (w_ei w1 (w_ar ws (n_v vs 0) 4)) (v_iv (Value.int x)) k1 k4 k21 k22 k25 f7 fe_0_5_1 fe_0_8_1 fe_0_10_1 fe_0_11_1 fe_0_12_1 fe_0_13_1 fe_0_14_1 fe_0_15_1 fe_0_5_2 fe_0_8_2 fe_0_10_2 fe_0_11_2 fe_0_12_2 fe_0_13_2 fe_0_14_2 fe_0_15_2 hE_0_1_1 hE_0_1_2 hE_0_2_1 hE_0_2_2 hE_0_3_1 hE_0_3_2 hE_0_4_1 hE_0_4_2 kz_0_8 kz_0_10 kz_0_11 kz_0_12 kz_0_13 kz_0_14 kz_0_15 ex2
  have nf9 : fc_1 PRD (20, [8, 11, 6, 10, 7, 9, 5, 26], [60, 3, 2, 979, 10, 8, 5, 1, 2]) ws (vs ++ [Value.int x]) := by
    refine ⟨nf_inA hl rfl, sgq_2129 ?_⟩
    · show zTP8 (w_fi ws (n_v (vs ++ [Value.int x]) 8) 10) (w_fi ws (n_v (vs ++ [Value.int x]) 8) 8) (w_fi ws (n_v (vs ++ [Value.int x]) 8) 5) (w_ei ws (w_ar ws (n_v (vs ++ [Value.int x]) 8) 1)) (w_ei ws (w_ar ws (n_v (vs ++ [Value.int x]) 8) 2)) (v_iv (n_v (vs ++ [Value.int x]) 11)) (v_iv (n_v (vs ++ [Value.int x]) 6)) (v_iv (n_v (vs ++ [Value.int x]) 10)) (v_iv (n_v (vs ++ [Value.int x]) 7)) (v_iv (n_v (vs ++ [Value.int x]) 9)) (v_iv (n_v (vs ++ [Value.int x]) 5)) (v_iv (n_v (vs ++ [Value.int x]) 26))
      simp only [e_5, e_6, e_7, e_8, e_9, e_10, e_11, e_26, q8, q9, q10]
      exact vc_Mo_met_at_g4_39_9 (v_iv (n_v vs 1)) (v_iv (n_v vs 2)) (v_iv (n_v vs 5)) (v_iv (n_v vs 6)) (v_iv (n_v vs 7)) (v_iv (n_v vs 11)) (v_iv (n_v vs 13)) (v_iv (n_v vs 14)) (v_iv (n_v vs 15)) (v_iv (n_v vs 16)) (v_iv (n_v vs 18)) (v_iv (n_v vs 20)) (v_iv (n_v vs 21)) (v_iv (n_v vs 22)) (v_iv (n_v vs 24)) (v_iv (n_v vs 25)) (w_fi ws (n_v vs 0) 5) (w_fi ws (n_v vs 0) 15) (w_fi ws (n_v vs 0) 11) (w_fi ws (n_v vs 0) 12) (w_fi w1 (n_v vs 0) 15) (w_fi w1 (n_v vs 0) 11) (w_fi w1 (n_v vs 0) 12) (w_fi w2 (n_v vs 0) 15) (w_fi w2 (n_v vs 0) 11) (w_fi w2 (n_v vs 0) 12) (w_ei w2 (w_ar ws (n_v vs 0) 2)) (w_fi w2 (n_v vs 0) 5) (w_ei w2 (w_ar ws (n_v vs 0) 3)) (w_ei w2 (w_ar ws (n_v vs 0) 4)) (w_ei w2 (w_ar ws (n_v vs 0) 1)) (w_fi w2 (n_v vs 0) 10) (w_fi w2 (n_v vs 0) 13) (w_fi w2 (n_v vs 0) 14) (w_fi w2 (n_v vs 0) 8) (w_fi w1 (n_v vs 0) 5) (w_fi ws (n_v vs 0) 8) (w_fi w1 (n_v vs 0) 8) (w_fi ws (n_v vs 0) 10) (w_fi w1 (n_v vs 0) 10) (w_fi ws (n_v vs 0) 13) (w_fi w1 (n_v vs 0) 13) (w_fi ws (n_v vs 0) 14) (w_fi w1 (n_v vs 0) 14) (w_ei ws (w_ar ws (n_v vs 0) 1)) (w_ei w1 (w_ar ws (n_v vs 0) 1)) (w_ei ws (w_ar ws (n_v vs 0) 2)) (w_ei w1 (w_ar ws (n_v vs 0) 2)) (w_ei ws (w_ar ws (n_v vs 0) 3)) (w_ei w1 (w_ar ws (n_v vs 0) 3)) (w_ei ws (w_ar ws (n_v vs 0) 4)) (w_ei w1 (w_ar ws (n_v vs 0) 4)) (v_iv (Value.int x)) k1 k2 k5 k6 k7 k11 k13 k14 k15 k16 k18 k20 k21 k22 k24 k25 d3 d7 d8 g0 g2 g3 f13 f21 f24 f34 fe_0_5_1 fe_0_8_1 fe_0_10_1 fe_0_11_1 fe_0_12_1 fe_0_13_1 fe_0_14_1 fe_0_15_1 fe_0_5_2 fe_0_8_2 fe_0_10_2 fe_0_11_2 fe_0_12_2 fe_0_13_2 fe_0_14_2 fe_0_15_2 hE_0_1_1 hE_0_1_2 hE_0_2_1 hE_0_2_2 hE_0_3_1 hE_0_3_2 hE_0_4_1 hE_0_4_2 kz_0_8 kz_0_10 kz_0_11 kz_0_12 kz_0_13 kz_0_14 kz_0_15 ex2
  exact ⟨(fun _ h => (by cases h)), [Value.int x], ag_one hx, List.forall_mem_cons.mpr ⟨⟨show (20 : Nat) < 100 from by decide, nf0⟩, List.forall_mem_cons.mpr ⟨⟨show (20 : Nat) < 100 from by decide, nf1⟩, List.forall_mem_cons.mpr ⟨⟨show (20 : Nat) < 100 from by decide, nf2⟩, List.forall_mem_cons.mpr ⟨⟨show (20 : Nat) < 100 from by decide, nf3⟩, List.forall_mem_cons.mpr ⟨⟨show (20 : Nat) < 100 from by decide, nf4⟩, List.forall_mem_cons.mpr ⟨⟨show (20 : Nat) < 100 from by decide, nf5⟩, List.forall_mem_cons.mpr ⟨⟨show (20 : Nat) < 100 from by decide, nf6⟩, List.forall_mem_cons.mpr ⟨⟨show (23 : Nat) < 100 from by decide, nf7⟩, List.forall_mem_cons.mpr ⟨⟨show (23 : Nat) < 100 from by decide, nf8⟩, List.forall_mem_cons.mpr ⟨⟨show (20 : Nat) < 100 from by decide, nf9⟩, (fun _ h => (by cases h))⟩⟩⟩⟩⟩⟩⟩⟩⟩⟩, (fun _ h => (by cases h))⟩

set_option maxHeartbeats 4000000 in
theorem vc_Mo_met_at_g4_40_0 (r_0 : Int) (from_0 : Int) (pos_0 : Int) (f12 : 1 * from_0 + ((-1) * pos_0 + 0) ≤ 0) (kz_0_11 : 0 ≤ pos_0 ∧ pos_0 ≤ 2000) (kz_0_15 : 0 ≤ from_0 ∧ from_0 ≤ 2000) : 1 * from_0 + ((-1) * pos_0 + 0) ≤ 0 := by
  first
    | omega
    | (have q1 := (hE_0_2_1 (r_0 + 2) (by omega)).2 (by omega)
       have q2 := (hE_0_2_2 (r_0 + 2) (by omega)).2 (by omega)
       omega)
    | (have q1 := (hE_0_2_1 (r_0 + 1) (by omega)).2 (by omega)
       have q2 := (hE_0_2_2 (r_0 + 1) (by omega)).2 (by omega)
       omega)
    | (have q1 := (hE_0_2_1 (r_0 + 2) (by omega)).2 (by omega)
       omega)
    | (have q1 := (hE_0_2_1 (r_0 + 1) (by omega)).2 (by omega)
       omega)
    | (have q1 := (hE_0_2_1 (r_0 + 2) (by omega)).2 (by omega)
       have q2 := (hE_0_2_2 (r_0 + 2) (by omega)).2 (by omega)
       have q3 := (hE_0_2_3 (r_0 + 2) (by omega)).1 (by omega)
       omega)
    | (have q1 := (hE_0_2_1 (r_0 + 2) (by omega)).2 (by omega)
       have q2 := (hE_0_2_2 (r_0 + 2) (by omega)).2 (by omega)
       have q3 := (hE_0_2_3 (r_0 + 2) (by omega)).2 (by omega)
       omega)
set_option maxHeartbeats 4000000 in
theorem vc_Mo_met_at_g4_40_1 (r_0 : Int) (from_0 : Int) (pos_0 : Int) (kind_0 : Int) (f13 : ((kind_0 = 1) → (pos_0 ≤ (from_0 + 8))) ∧ ((kind_0 = 0) ∨ ((from_0 + 1) ≤ pos_0))) (kz_0_11 : 0 ≤ pos_0 ∧ pos_0 ≤ 2000) (kz_0_12 : 0 ≤ kind_0 ∧ kind_0 ≤ 4) (kz_0_15 : 0 ≤ from_0 ∧ from_0 ≤ 2000) : ((kind_0 = 1) → (pos_0 ≤ (from_0 + 8))) ∧ ((kind_0 = 0) ∨ ((from_0 + 1) ≤ pos_0)) := by
  first
    | omega
    | (have q1 := (hE_0_2_1 (r_0 + 2) (by omega)).2 (by omega)
       have q2 := (hE_0_2_2 (r_0 + 2) (by omega)).2 (by omega)
       omega)
    | (have q1 := (hE_0_2_1 (r_0 + 1) (by omega)).2 (by omega)
       have q2 := (hE_0_2_2 (r_0 + 1) (by omega)).2 (by omega)
       omega)
    | (have q1 := (hE_0_2_1 (r_0 + 2) (by omega)).2 (by omega)
       omega)
    | (have q1 := (hE_0_2_1 (r_0 + 1) (by omega)).2 (by omega)
       omega)
    | (have q1 := (hE_0_2_1 (r_0 + 2) (by omega)).2 (by omega)
       have q2 := (hE_0_2_2 (r_0 + 2) (by omega)).2 (by omega)
       have q3 := (hE_0_2_3 (r_0 + 2) (by omega)).1 (by omega)
       omega)
    | (have q1 := (hE_0_2_1 (r_0 + 2) (by omega)).2 (by omega)
       have q2 := (hE_0_2_2 (r_0 + 2) (by omega)).2 (by omega)
       have q3 := (hE_0_2_3 (r_0 + 2) (by omega)).2 (by omega)
       omega)
set_option maxHeartbeats 4000000 in
theorem vc_Mo_met_at_g4_40_2 (x3 : Int) (x26 : Int) (r_0 : Int) (from_0 : Int) (pos_0 : Int) (k3 : 0 ≤ x3 ∧ x3 ≤ 2000) (k26 : 0 ≤ x26 ∧ x26 ≤ 2000) (f6 : 1 * x3 + ((-1) * x26 + 0) ≤ 0) (f12 : 1 * from_0 + ((-1) * pos_0 + 0) ≤ 0) (f14 : 1 * x26 + ((-1) * from_0 + 0) ≤ 0) (kz_0_11 : 0 ≤ pos_0 ∧ pos_0 ≤ 2000) (kz_0_15 : 0 ≤ from_0 ∧ from_0 ≤ 2000) : 1 * x3 + ((-1) * pos_0 + 0) ≤ 0 := by
  first
    | omega
    | (have q1 := (hE_0_2_1 (r_0 + 2) (by omega)).2 (by omega)
       have q2 := (hE_0_2_2 (r_0 + 2) (by omega)).2 (by omega)
       omega)
    | (have q1 := (hE_0_2_1 (r_0 + 1) (by omega)).2 (by omega)
       have q2 := (hE_0_2_2 (r_0 + 1) (by omega)).2 (by omega)
       omega)
    | (have q1 := (hE_0_2_1 (r_0 + 2) (by omega)).2 (by omega)
       omega)
    | (have q1 := (hE_0_2_1 (r_0 + 1) (by omega)).2 (by omega)
       omega)
    | (have q1 := (hE_0_2_1 (r_0 + 2) (by omega)).2 (by omega)
       have q2 := (hE_0_2_2 (r_0 + 2) (by omega)).2 (by omega)
       have q3 := (hE_0_2_3 (r_0 + 2) (by omega)).1 (by omega)
       omega)
    | (have q1 := (hE_0_2_1 (r_0 + 2) (by omega)).2 (by omega)
       have q2 := (hE_0_2_2 (r_0 + 2) (by omega)).2 (by omega)
       have q3 := (hE_0_2_3 (r_0 + 2) (by omega)).2 (by omega)
       omega)
set_option maxHeartbeats 4000000 in
theorem vc_Mo_met_at_g4_40_3 (x3 : Int) (x26 : Int) (r_0 : Int) (fault_0 : Int) (from_0 : Int) (pos_0 : Int) (kind_0 : Int) (k3 : 0 ≤ x3 ∧ x3 ≤ 2000) (k26 : 0 ≤ x26 ∧ x26 ≤ 2000) (f6 : 1 * x3 + ((-1) * x26 + 0) ≤ 0) (f13 : ((kind_0 = 1) → (pos_0 ≤ (from_0 + 8))) ∧ ((kind_0 = 0) ∨ ((from_0 + 1) ≤ pos_0))) (f14 : 1 * x26 + ((-1) * from_0 + 0) ≤ 0) (kz_0_8 : 0 ≤ fault_0 ∧ fault_0 ≤ 5) (kz_0_11 : 0 ≤ pos_0 ∧ pos_0 ≤ 2000) (kz_0_12 : 0 ≤ kind_0 ∧ kind_0 ≤ 4) (kz_0_15 : 0 ≤ from_0 ∧ from_0 ≤ 2000) : (1 ≤ fault_0) ∨ ((kind_0 = 0) ∨ ((x3 + 1) ≤ pos_0)) := by
  first
    | omega
    | (have q1 := (hE_0_2_1 (r_0 + 2) (by omega)).2 (by omega)
       have q2 := (hE_0_2_2 (r_0 + 2) (by omega)).2 (by omega)
       omega)
    | (have q1 := (hE_0_2_1 (r_0 + 1) (by omega)).2 (by omega)
       have q2 := (hE_0_2_2 (r_0 + 1) (by omega)).2 (by omega)
       omega)
    | (have q1 := (hE_0_2_1 (r_0 + 2) (by omega)).2 (by omega)
       omega)
    | (have q1 := (hE_0_2_1 (r_0 + 1) (by omega)).2 (by omega)
       omega)
    | (have q1 := (hE_0_2_1 (r_0 + 2) (by omega)).2 (by omega)
       have q2 := (hE_0_2_2 (r_0 + 2) (by omega)).2 (by omega)
       have q3 := (hE_0_2_3 (r_0 + 2) (by omega)).1 (by omega)
       omega)
    | (have q1 := (hE_0_2_1 (r_0 + 2) (by omega)).2 (by omega)
       have q2 := (hE_0_2_2 (r_0 + 2) (by omega)).2 (by omega)
       have q3 := (hE_0_2_3 (r_0 + 2) (by omega)).2 (by omega)
       omega)
set_option maxHeartbeats 4000000 in
theorem vc_Mo_met_at_g4_40_4 (x4 : Int) (x26 : Int) (r_0 : Int) (fault_0 : Int) (from_0 : Int) (pos_0 : Int) (k4 : 0 ≤ x4 ∧ x4 ≤ 2000) (k26 : 0 ≤ x26 ∧ x26 ≤ 2000) (f7 : 1 * x4 + ((-1) * x26 + 0) ≤ (-1)) (f12 : 1 * from_0 + ((-1) * pos_0 + 0) ≤ 0) (f14 : 1 * x26 + ((-1) * from_0 + 0) ≤ 0) (kz_0_8 : 0 ≤ fault_0 ∧ fault_0 ≤ 5) (kz_0_11 : 0 ≤ pos_0 ∧ pos_0 ≤ 2000) (kz_0_15 : 0 ≤ from_0 ∧ from_0 ≤ 2000) : (1 ≤ fault_0) ∨ ((x4 + 1) ≤ pos_0) := by
  first
    | omega
    | (have q1 := (hE_0_2_1 (r_0 + 2) (by omega)).2 (by omega)
       have q2 := (hE_0_2_2 (r_0 + 2) (by omega)).2 (by omega)
       omega)
    | (have q1 := (hE_0_2_1 (r_0 + 1) (by omega)).2 (by omega)
       have q2 := (hE_0_2_2 (r_0 + 1) (by omega)).2 (by omega)
       omega)
    | (have q1 := (hE_0_2_1 (r_0 + 2) (by omega)).2 (by omega)
       omega)
    | (have q1 := (hE_0_2_1 (r_0 + 1) (by omega)).2 (by omega)
       omega)
    | (have q1 := (hE_0_2_1 (r_0 + 2) (by omega)).2 (by omega)
       have q2 := (hE_0_2_2 (r_0 + 2) (by omega)).2 (by omega)
       have q3 := (hE_0_2_3 (r_0 + 2) (by omega)).1 (by omega)
       omega)
    | (have q1 := (hE_0_2_1 (r_0 + 2) (by omega)).2 (by omega)
       have q2 := (hE_0_2_2 (r_0 + 2) (by omega)).2 (by omega)
       have q3 := (hE_0_2_3 (r_0 + 2) (by omega)).2 (by omega)
       omega)
set_option maxHeartbeats 4000000 in
theorem vc_Mo_met_at_g4_40_5 (x11 : Int) (x18 : Int) (x24 : Int) (x25 : Int) (r_0 : Int) (fault_0 : Int) (k11 : 0 ≤ x11 ∧ x11 ≤ 23) (k18 : 0 ≤ x18 ∧ x18 ≤ 66297) (k24 : 243 ≤ x24 ∧ x24 ≤ 66540) (k25 : 243 ≤ x25 ∧ x25 ≤ 66563) (d1 : x24 + 0 ≤ x25 ∧ x25 ≤ x24 + 23) (d3 : x18 + 243 ≤ x24 ∧ x24 ≤ x18 + 243) (g0 : x18 = r_0) (f20 : x25 = x24 + x11) (kz_0_8 : 0 ≤ fault_0 ∧ fault_0 ≤ 5) : ((-1) * fault_0 + 0 ≤ (-1)) ∨ ((-1) * x11 + 0 ≤ 0) := by
  first
    | omega
    | (have q1 := (hE_0_2_1 (r_0 + 2) (by omega)).2 (by omega)
       have q2 := (hE_0_2_2 (r_0 + 2) (by omega)).2 (by omega)
       omega)
    | (have q1 := (hE_0_2_1 (r_0 + 1) (by omega)).2 (by omega)
       have q2 := (hE_0_2_2 (r_0 + 1) (by omega)).2 (by omega)
       omega)
    | (have q1 := (hE_0_2_1 (r_0 + 2) (by omega)).2 (by omega)
       omega)
    | (have q1 := (hE_0_2_1 (r_0 + 1) (by omega)).2 (by omega)
       omega)
    | (have q1 := (hE_0_2_1 (r_0 + 2) (by omega)).2 (by omega)
       have q2 := (hE_0_2_2 (r_0 + 2) (by omega)).2 (by omega)
       have q3 := (hE_0_2_3 (r_0 + 2) (by omega)).1 (by omega)
       omega)
    | (have q1 := (hE_0_2_1 (r_0 + 2) (by omega)).2 (by omega)
       have q2 := (hE_0_2_2 (r_0 + 2) (by omega)).2 (by omega)
       have q3 := (hE_0_2_3 (r_0 + 2) (by omega)).2 (by omega)
       omega)
set_option maxHeartbeats 4000000 in
theorem vc_Mo_met_at_g4_40_6 (x2 : Int) (x10 : Int) (r_0 : Int) (all_0 : Int → Int) (fault_0 : Int) (from_0 : Int) (pos_0 : Int) (kind_0 : Int) (k2 : (-1) ≤ x2 ∧ x2 ≤ 23) (k10 : (-1) ≤ x10 ∧ x10 ≤ 23) (d9 : x10 + (-4294967296) ≤ x2 ∧ x2 ≤ x10 + 0) (d11 : x2 + (-4294967296) ≤ x10 ∧ x10 ≤ x2 + 0) (f2 : (x2 ≤ (-1)) ∨ (all_0 ((r_0 + 1)) ≤ 47)) (f13 : ((kind_0 = 1) → (pos_0 ≤ (from_0 + 8))) ∧ ((kind_0 = 0) ∨ ((from_0 + 1) ≤ pos_0))) (kz_0_8 : 0 ≤ fault_0 ∧ fault_0 ≤ 5) (kz_0_11 : 0 ≤ pos_0 ∧ pos_0 ≤ 2000) (kz_0_12 : 0 ≤ kind_0 ∧ kind_0 ≤ 4) (kz_0_15 : 0 ≤ from_0 ∧ from_0 ≤ 2000) : (1 ≤ fault_0) ∨ ((x2 ≤ (-1)) ∨ (all_0 ((r_0 + 1)) ≤ 47)) := by
  first
    | omega
    | (have q1 := (hE_0_2_1 (r_0 + 2) (by omega)).2 (by omega)
       have q2 := (hE_0_2_2 (r_0 + 2) (by omega)).2 (by omega)
       omega)
    | (have q1 := (hE_0_2_1 (r_0 + 1) (by omega)).2 (by omega)
       have q2 := (hE_0_2_2 (r_0 + 1) (by omega)).2 (by omega)
       omega)
    | (have q1 := (hE_0_2_1 (r_0 + 2) (by omega)).2 (by omega)
       omega)
    | (have q1 := (hE_0_2_1 (r_0 + 1) (by omega)).2 (by omega)
       omega)
    | (have q1 := (hE_0_2_1 (r_0 + 2) (by omega)).2 (by omega)
       have q2 := (hE_0_2_2 (r_0 + 2) (by omega)).2 (by omega)
       have q3 := (hE_0_2_3 (r_0 + 2) (by omega)).1 (by omega)
       omega)
    | (have q1 := (hE_0_2_1 (r_0 + 2) (by omega)).2 (by omega)
       have q2 := (hE_0_2_2 (r_0 + 2) (by omega)).2 (by omega)
       have q3 := (hE_0_2_3 (r_0 + 2) (by omega)).2 (by omega)
       omega)
set_option maxHeartbeats 4000000 in
theorem vc_Mo_met_at_g4_40_7 (x1 : Int) (r_0 : Int) (all_0 : Int → Int) (k1 : 0 ≤ x1 ∧ x1 ≤ 7) (f3 : (x1 + 1) ≤ all_0 ((r_0 + 2))) : (x1 + 1) ≤ all_0 ((r_0 + 2)) := by
  first
    | omega
    | (have q1 := (hE_0_2_1 (r_0 + 2) (by omega)).2 (by omega)
       have q2 := (hE_0_2_2 (r_0 + 2) (by omega)).2 (by omega)
       omega)
    | (have q1 := (hE_0_2_1 (r_0 + 1) (by omega)).2 (by omega)
       have q2 := (hE_0_2_2 (r_0 + 1) (by omega)).2 (by omega)
       omega)
    | (have q1 := (hE_0_2_1 (r_0 + 2) (by omega)).2 (by omega)
       omega)
    | (have q1 := (hE_0_2_1 (r_0 + 1) (by omega)).2 (by omega)
       omega)
    | (have q1 := (hE_0_2_1 (r_0 + 2) (by omega)).2 (by omega)
       have q2 := (hE_0_2_2 (r_0 + 2) (by omega)).2 (by omega)
       have q3 := (hE_0_2_3 (r_0 + 2) (by omega)).1 (by omega)
       omega)
    | (have q1 := (hE_0_2_1 (r_0 + 2) (by omega)).2 (by omega)
       have q2 := (hE_0_2_2 (r_0 + 2) (by omega)).2 (by omega)
       have q3 := (hE_0_2_3 (r_0 + 2) (by omega)).2 (by omega)
       omega)
set_option maxHeartbeats 4000000 in
theorem vc_Mo_met_at_g4_40_8 (r_0 : Int) (all_0 : Int → Int) (now_0 : Int → Int) (latest_0 : Int → Int) (f4 : RWS (r_0) (all_0) (now_0) (latest_0)) : RWS (r_0) (all_0) (now_0) (latest_0) := by
  assumption
set_option maxHeartbeats 4000000 in
theorem vc_Mo_met_at_g4_40_9 (x2 : Int) (x11 : Int) (r_0 : Int) (all_0 : Int → Int) (fault_0 : Int) (k2 : (-1) ≤ x2 ∧ x2 ≤ 23) (k11 : 0 ≤ x11 ∧ x11 ≤ 23) (f5 : MEN (r_0) (all_0) (x2) (x11)) (kz_0_8 : 0 ≤ fault_0 ∧ fault_0 ≤ 5) : MET (r_0) (fault_0) (all_0) (x2) (x11) := by
  first
    | (intro q; exfalso; omega)
    | exact fun _ => ‹MEN _ _ _ _›
set_option maxHeartbeats 4000000 in
theorem vc_Mo_met_at_g4_40_10 (x1 : Int) (x2 : Int) (x5 : Int) (x6 : Int) (x7 : Int) (x11 : Int) (x18 : Int) (x26 : Int) (r_0 : Int) (all_0 : Int → Int) (tape_0 : Int → Int) (limit_0 : Int) (fault_0 : Int) (from_0 : Int) (pos_0 : Int) (kind_0 : Int) (place_0 : Int) (value_0 : Int) (faultPlace_0 : Int) (k1 : 0 ≤ x1 ∧ x1 ≤ 7) (k2 : (-1) ≤ x2 ∧ x2 ≤ 23) (k5 : 0 ≤ x5 ∧ x5 ≤ 4) (k6 : 0 ≤ x6 ∧ x6 ≤ 48) (k7 : 0 ≤ x7 ∧ x7 ≤ 1) (k11 : 0 ≤ x11 ∧ x11 ≤ 23) (k18 : 0 ≤ x18 ∧ x18 ≤ 66297) (k26 : 0 ≤ x26 ∧ x26 ≤ 2000) (g0 : x18 = r_0) (f8 : zTP8 (limit_0) (fault_0) (r_0) (tape_0) (all_0) (x11) (x6) (x2) (x7) (x1) (x5) (x26)) (f15 : TKR (limit_0) (pos_0) (kind_0) (place_0) (value_0) (from_0) (tape_0) (x26)) (kz_0_8 : 0 ≤ fault_0 ∧ fault_0 ≤ 5) (kz_0_9 : 0 ≤ faultPlace_0 ∧ faultPlace_0 ≤ 2000) (kz_0_10 : 0 ≤ limit_0 ∧ limit_0 ≤ 2000) (kz_0_11 : 0 ≤ pos_0 ∧ pos_0 ≤ 2000) (kz_0_12 : 0 ≤ kind_0 ∧ kind_0 ≤ 4) (kz_0_13 : 0 ≤ place_0 ∧ place_0 ≤ 2000) (kz_0_14 : (-49) ≤ value_0 ∧ value_0 ≤ 1048575) (kz_0_15 : 0 ≤ from_0 ∧ from_0 ≤ 2000) : zOP8 (limit_0) (pos_0) (kind_0) (place_0) (value_0) (from_0) (fault_0) (faultPlace_0) (r_0) (tape_0) (all_0) (x11) (x6) (x2) (x7) (x1) (x5) := by
  first | subst g0 | skip
  first
    | (exfalso; have h := (rsq_0 ‹zRS4 _ _ _ _ _ _ _ _ _ _ _ _ _ _ _›).1; omega)
    | (refine Or.inl (fs_w ?_ ?_ (by assumption)) <;> assumption)
    | exact Or.inr (rsq_of ‹zTP8 _ _ _ _ _ _ _ _ _ _ _ _› ‹TKR _ _ _ _ _ _ _ _›)
    | (exfalso; omega)
def o_Mo_met_at_g4_40 : or_T := (258, 27, [(0, (2, 0, 0, [165])), (1, (0, 0, 7, [])), (2, (0, -1, 23, [])), (3, (0, 0, 2000, [])), (4, (0, 0, 2000, [])), (5, (0, 0, 4, [])), (6, (0, 0, 48, [])), (7, (0, 0, 1, [])), (10, (0, -1, 23, [])), (11, (0, 0, 23, [])), (18, (0, 0, 66297, [])), (24, (0, 243, 66540, [])), (25, (0, 243, 66563, [])), (26, (0, 0, 2000, []))], [(9, [18, 8], [5]), (20, [10, 8], [50, 1, 1, 1005, 1002, 3, 6, 0, 2, 1, 0, 0, -1, 0, 10, 3, 1, 2, 4, 3, 2, 1, 5, 0, 1, 0, 47]), (20, [9, 8], [50, 1, 1, 1005, 1002, 0, 6, 4, 2, 1, 0, 0, 1, 3, 1, 2, 4, 3, 2, 1, 5, 0, 2]), (20, [8], [60, 1, 3, 199, 5, 2, 3, 4]), (20, [8, 10, 11], [60, 1, 1, 243, 5, 2]), (23, [3, 26], [0, 1, -1]), (23, [4, 26], [-1, 1, -1]), (20, [8, 11, 6, 10, 7, 9, 5, 26], [60, 3, 2, 979, 10, 8, 5, 1, 2]), (24, [0, 8], []), (24, [1, 9], []), (24, [2, 10], []), (20, [8, 8], [30, 0, 1, 1, 15, -1, 1, 11]), (20, [8], [50, 3, 0, 12, 11, 15, 2, 21, 4, 7, 1, 3, 2, 0, 12, 0, 1, 0, 3, 2, 0, 11, 4, 3, 2, 0, 15, 0, 8, 3, 7, 1, 3, 2, 0, 12, 0, 0, 0, 7, 4, 3, 2, 0, 15, 0, 1, 2, 0, 11]), (20, [26, 8], [30, 0, 1, 0, 0, -1, 1, 15]), (20, [8, 26], [60, 6, 1, 948, 10, 11, 12, 13, 14, 15, 1]), (102, [26], [0, 165011, 165012, 165013, 165014, 165015]), (100, [17, 25, 9], []), (1, [25, 24, 11], [])], [], [], [(20, [0, 0], [30, 0, 1, 1, 15, -1, 1, 11]), (20, [0], [50, 3, 0, 12, 11, 15, 2, 21, 4, 7, 1, 3, 2, 0, 12, 0, 1, 0, 3, 2, 0, 11, 4, 3, 2, 0, 15, 0, 8, 3, 7, 1, 3, 2, 0, 12, 0, 0, 0, 7, 4, 3, 2, 0, 15, 0, 1, 2, 0, 11]), (20, [3, 0], [30, 0, 1, 0, 0, -1, 1, 11]), (20, [0, 3], [50, 3, 0, 8, 12, 11, 3, 7, 0, 2, 0, 1, 2, 0, 8, 3, 7, 1, 3, 2, 0, 12, 0, 0, 0, 6, 4, 2, 1, 1, 0, 1, 2, 0, 11]), (20, [0, 4], [50, 2, 0, 8, 11, 3, 7, 0, 2, 0, 1, 2, 0, 8, 0, 6, 4, 2, 1, 1, 0, 1, 2, 0, 11]), (20, [0, 11], [31, 1, -1, -1, 1, 8, 0, -1, 0, 0]), (20, [0, 2], [50, 2, 1, 8, 5, 2, 3, 7, 0, 2, 0, 1, 2, 0, 8, 3, 6, 0, 2, 1, 1, 0, -1, 0, 10, 3, 0, 2, 4, 3, 2, 0, 5, 0, 1, 0, 47]), (20, [1, 0], [50, 1, 1, 1005, 1002, 0, 6, 4, 2, 1, 0, 0, 1, 3, 1, 2, 4, 3, 2, 1, 5, 0, 2]), (20, [0], [60, 1, 3, 199, 5, 2, 3, 4]), (20, [0, 2, 11], [60, 2, 1, 240, 5, 8, 2]), (20, [0, 11, 6, 2, 7, 1, 5], [60, 9, 2, 1011, 10, 11, 12, 13, 14, 15, 8, 9, 5, 1, 2])], [], [(25, 24, 0, 23), (24, 18, 243, 243), (2, 10, -4294967296, 0), (10, 2, -4294967296, 0)])
theorem oo_Mo_met_at_g4_40 {kA : Nat → ClassId} : or_ok PRD kA GG o_Mo_met_at_g4_40 := by
  refine or_mk fun A ta ws vs hD hth hl => ?_
  intro t0 r0 t1 k1 t2 k2 t3 k3 t4 k4 t5 k5 t6 k6 t7 k7 t10 k10 t11 k11 t18 k18 t24 k24 t25 k25 t26 k26 d1 d3 d9 d11 f0 f2 f3 f4 f5 f6 f7 f8 f9 f10 f11 f12 f13 f14 f15 ta1 w1 le1 s1 ta2 w2 le2 s2 f20
  replace f0 := shm_110 f0
  replace f2 := shm_2114 f2
  replace f3 := shm_1009 f3
  replace f4 := shm_980 f4
  replace f5 := shm_2115 f5
  replace f8 := shm_2129 f8
  replace f9 := shm_5 f9
  replace f10 := shm_5 f10
  replace f11 := shm_5 f11
  replace f12 := shm_1437 f12
  replace f13 := shm_1438 f13
  replace f14 := shm_1436 f14
  replace f15 := shm_1439 f15
  have q8 : n_v vs 8 = n_v vs 0 := f9.symm
  have q9 : n_v vs 9 = n_v vs 1 := f10.symm
  have q10 : n_v vs 10 = n_v vs 2 := f11.symm
  simp only [q8, q10, q9] at f0 f2 f3 f4 f5 f8 f12 f13 f14 f15
  have g0 : v_iv (n_v vs 18) = w_fi ws (n_v vs 0) 5 := congrArg v_iv f0
  have kz_0_8 := fdq_34 hD hth r0
  have kz_0_9 := fdq_44 hD hth r0
  have kz_0_10 := fdq_43 hD hth r0
  have kz_0_11 := fdq_237 hD hth r0
  have kz_0_12 := fdq_187 hD hth r0
  have kz_0_13 := fdq_238 hD hth r0
  have kz_0_14 := fdq_188 hD hth r0
  have kz_0_15 := fdq_239 hD hth r0
  have nf0 : fc_1 PRD (20, [0, 0], [30, 0, 1, 1, 15, -1, 1, 11]) ws (vs) := ⟨nf_in hl rfl, sgq_1437 (vc_Mo_met_at_g4_40_0 (w_fi ws (n_v vs 0) 5) (w_fi ws (n_v vs 0) 15) (w_fi ws (n_v vs 0) 11) f12 kz_0_11 kz_0_15)⟩
  have nf1 : fc_1 PRD (20, [0], [50, 3, 0, 12, 11, 15, 2, 21, 4, 7, 1, 3, 2, 0, 12, 0, 1, 0, 3, 2, 0, 11, 4, 3, 2, 0, 15, 0, 8, 3, 7, 1, 3, 2, 0, 12, 0, 0, 0, 7, 4, 3, 2, 0, 15, 0, 1, 2, 0, 11]) ws (vs) := ⟨nf_in hl rfl, sgq_1438 (vc_Mo_met_at_g4_40_1 (w_fi ws (n_v vs 0) 5) (w_fi ws (n_v vs 0) 15) (w_fi ws (n_v vs 0) 11) (w_fi ws (n_v vs 0) 12) f13 kz_0_11 kz_0_12 kz_0_15)⟩
  have nf2 : fc_1 PRD (20, [3, 0], [30, 0, 1, 0, 0, -1, 1, 11]) ws (vs) := ⟨nf_in hl rfl, sgq_1431 (vc_Mo_met_at_g4_40_2 (v_iv (n_v vs 3)) (v_iv (n_v vs 26)) (w_fi ws (n_v vs 0) 5) (w_fi ws (n_v vs 0) 15) (w_fi ws (n_v vs 0) 11) k3 k26 (shm_7 f6) f12 f14 kz_0_11 kz_0_15)⟩
  have nf3 : fc_1 PRD (20, [0, 3], [50, 3, 0, 8, 12, 11, 3, 7, 0, 2, 0, 1, 2, 0, 8, 3, 7, 1, 3, 2, 0, 12, 0, 0, 0, 6, 4, 2, 1, 1, 0, 1, 2, 0, 11]) ws (vs) := ⟨nf_in hl rfl, sgq_1722 (vc_Mo_met_at_g4_40_3 (v_iv (n_v vs 3)) (v_iv (n_v vs 26)) (w_fi ws (n_v vs 0) 5) (w_fi ws (n_v vs 0) 8) (w_fi ws (n_v vs 0) 15) (w_fi ws (n_v vs 0) 11) (w_fi ws (n_v vs 0) 12) k3 k26 (shm_7 f6) f13 f14 kz_0_8 kz_0_11 kz_0_12 kz_0_15)⟩
  have nf4 : fc_1 PRD (20, [0, 4], [50, 2, 0, 8, 11, 3, 7, 0, 2, 0, 1, 2, 0, 8, 0, 6, 4, 2, 1, 1, 0, 1, 2, 0, 11]) ws (vs) := ⟨nf_in hl rfl, sgq_1726 (vc_Mo_met_at_g4_40_4 (v_iv (n_v vs 4)) (v_iv (n_v vs 26)) (w_fi ws (n_v vs 0) 5) (w_fi ws (n_v vs 0) 8) (w_fi ws (n_v vs 0) 15) (w_fi ws (n_v vs 0) 11) k4 k26 (shm_193 f7) f12 f14 kz_0_8 kz_0_11 kz_0_15)⟩
  have nf5 : fc_1 PRD (20, [0, 11], [31, 1, -1, -1, 1, 8, 0, -1, 0, 0]) ws (vs) := ⟨nf_in hl rfl, sgq_2117 (vc_Mo_met_at_g4_40_5 (v_iv (n_v vs 11)) (v_iv (n_v vs 18)) (v_iv (n_v vs 24)) (v_iv (n_v vs 25)) (w_fi ws (n_v vs 0) 5) (w_fi ws (n_v vs 0) 8) k11 k18 k24 k25 d1 d3 g0 (shm_12 f20) kz_0_8)⟩
  have nf6 : fc_1 PRD (20, [0, 2], [50, 2, 1, 8, 5, 2, 3, 7, 0, 2, 0, 1, 2, 0, 8, 3, 6, 0, 2, 1, 1, 0, -1, 0, 10, 3, 0, 2, 4, 3, 2, 0, 5, 0, 1, 0, 47]) ws (vs) := ⟨nf_in hl rfl, sgq_2118 (vc_Mo_met_at_g4_40_6 (v_iv (n_v vs 2)) (v_iv (n_v vs 10)) (w_fi ws (n_v vs 0) 5) (w_ei ws (w_ar ws (n_v vs 0) 2)) (w_fi ws (n_v vs 0) 8) (w_fi ws (n_v vs 0) 15) (w_fi ws (n_v vs 0) 11) (w_fi ws (n_v vs 0) 12) k2 k10 d9 d11 f2 f13 kz_0_8 kz_0_11 kz_0_12 kz_0_15)⟩
  have nf7 : fc_1 PRD (20, [1, 0], [50, 1, 1, 1005, 1002, 0, 6, 4, 2, 1, 0, 0, 1, 3, 1, 2, 4, 3, 2, 1, 5, 0, 2]) ws (vs) := ⟨nf_in hl rfl, sgq_1009 (vc_Mo_met_at_g4_40_7 (v_iv (n_v vs 1)) (w_fi ws (n_v vs 0) 5) (w_ei ws (w_ar ws (n_v vs 0) 2)) k1 f3)⟩
  have nf8 : fc_1 PRD (20, [0], [60, 1, 3, 199, 5, 2, 3, 4]) ws (vs) := ⟨nf_in hl rfl, sgq_980 (vc_Mo_met_at_g4_40_8 (w_fi ws (n_v vs 0) 5) (w_ei ws (w_ar ws (n_v vs 0) 2)) (w_ei ws (w_ar ws (n_v vs 0) 3)) (w_ei ws (w_ar ws (n_v vs 0) 4)) f4)⟩
  have nf9 : fc_1 PRD (20, [0, 2, 11], [60, 2, 1, 240, 5, 8, 2]) ws (vs) := ⟨nf_in hl rfl, sgq_2119 (vc_Mo_met_at_g4_40_9 (v_iv (n_v vs 2)) (v_iv (n_v vs 11)) (w_fi ws (n_v vs 0) 5) (w_ei ws (w_ar ws (n_v vs 0) 2)) (w_fi ws (n_v vs 0) 8) k2 k11 f5 kz_0_8)⟩
  have nf10 : fc_1 PRD (20, [0, 11, 6, 2, 7, 1, 5], [60, 9, 2, 1011, 10, 11, 12, 13, 14, 15, 8, 9, 5, 1, 2]) ws (vs) := ⟨nf_in hl rfl, sgq_2128 (vc_Mo_met_at_g4_40_10 (v_iv (n_v vs 1)) (v_iv (n_v vs 2)) (v_iv (n_v vs 5)) (v_iv (n_v vs 6)) (v_iv (n_v vs 7)) (v_iv (n_v vs 11)) (v_iv (n_v vs 18)) (v_iv (n_v vs 26)) (w_fi ws (n_v vs 0) 5) (w_ei ws (w_ar ws (n_v vs 0) 2)) (w_ei ws (w_ar ws (n_v vs 0) 1)) (w_fi ws (n_v vs 0) 10) (w_fi ws (n_v vs 0) 8) (w_fi ws (n_v vs 0) 15) (w_fi ws (n_v vs 0) 11) (w_fi ws (n_v vs 0) 12) (w_fi ws (n_v vs 0) 13) (w_fi ws (n_v vs 0) 14) (w_fi ws (n_v vs 0) 9) k1 k2 k5 k6 k7 k11 k18 k26 g0 f8 f15 kz_0_8 kz_0_9 kz_0_10 kz_0_11 kz_0_12 kz_0_13 kz_0_14 kz_0_15)⟩
  refine ⟨(fun _ h => (by cases h)), [], trivial, ?_, (fun _ h => (by cases h))⟩
  rw [List.append_nil]
  exact List.forall_mem_cons.mpr ⟨⟨show (20 : Nat) < 100 from by decide, nf0⟩, List.forall_mem_cons.mpr ⟨⟨show (20 : Nat) < 100 from by decide, nf1⟩, List.forall_mem_cons.mpr ⟨⟨show (20 : Nat) < 100 from by decide, nf2⟩, List.forall_mem_cons.mpr ⟨⟨show (20 : Nat) < 100 from by decide, nf3⟩, List.forall_mem_cons.mpr ⟨⟨show (20 : Nat) < 100 from by decide, nf4⟩, List.forall_mem_cons.mpr ⟨⟨show (20 : Nat) < 100 from by decide, nf5⟩, List.forall_mem_cons.mpr ⟨⟨show (20 : Nat) < 100 from by decide, nf6⟩, List.forall_mem_cons.mpr ⟨⟨show (20 : Nat) < 100 from by decide, nf7⟩, List.forall_mem_cons.mpr ⟨⟨show (20 : Nat) < 100 from by decide, nf8⟩, List.forall_mem_cons.mpr ⟨⟨show (20 : Nat) < 100 from by decide, nf9⟩, List.forall_mem_cons.mpr ⟨⟨show (20 : Nat) < 100 from by decide, nf10⟩, (fun _ h => (by cases h))⟩⟩⟩⟩⟩⟩⟩⟩⟩⟩⟩
set_option maxHeartbeats 4000000 in
theorem vc_Mo_met_at_g4_41_r0 (x2 : Int) (x13 : Int) (x14 : Int) (x15 : Int) (x16 : Int) (r_0 : Int) (from_0 : Int) (pos_0 : Int) (kind_0 : Int) (all_0 : Int → Int) (k2 : (-1) ≤ x2 ∧ x2 ≤ 23) (k13 : 0 ≤ x13 ∧ x13 ≤ 8) (k14 : 1 ≤ x14 ∧ x14 ≤ 2000) (k15 : 0 ≤ x15 ∧ x15 ≤ 2000) (k16 : 1 ≤ x16 ∧ x16 ≤ 2000) (d1 : x16 + (-4294967296) ≤ x13 ∧ x13 ≤ x16 + (-1)) (f4 : x16 = x14 - x15) (g5 : x15 = from_0) (g6 : x14 = pos_0) (f8 : ((kind_0 = 1) → (pos_0 ≤ (from_0 + 8))) ∧ ((kind_0 = 0) ∨ ((from_0 + 1) ≤ pos_0))) (f11 : kind_0 = 1) (f12 : (x2 ≤ (-1)) ∨ (all_0 ((r_0 + 1)) ≤ 47)) (kz_0_11 : 0 ≤ pos_0 ∧ pos_0 ≤ 2000) (kz_0_12 : 0 ≤ kind_0 ∧ kind_0 ≤ 4) (kz_0_15 : 0 ≤ from_0 ∧ from_0 ≤ 2000) : 0 ≤ x13 ∧ x13 ≤ 7 := by
  first
    | omega
    | (have q1 := (hE_0_2_1 (r_0 + 2) (by omega)).2 (by omega)
       have q2 := (hE_0_2_2 (r_0 + 2) (by omega)).2 (by omega)
       omega)
    | (have q1 := (hE_0_2_1 (r_0 + 1) (by omega)).2 (by omega)
       have q2 := (hE_0_2_2 (r_0 + 1) (by omega)).2 (by omega)
       omega)
    | (have q1 := (hE_0_2_1 (r_0 + 2) (by omega)).2 (by omega)
       omega)
    | (have q1 := (hE_0_2_1 (r_0 + 1) (by omega)).2 (by omega)
       omega)
    | (have q1 := (hE_0_2_1 (r_0 + 2) (by omega)).2 (by omega)
       have q2 := (hE_0_2_2 (r_0 + 2) (by omega)).2 (by omega)
       have q3 := (hE_0_2_3 (r_0 + 2) (by omega)).1 (by omega)
       omega)
    | (have q1 := (hE_0_2_1 (r_0 + 2) (by omega)).2 (by omega)
       have q2 := (hE_0_2_2 (r_0 + 2) (by omega)).2 (by omega)
       have q3 := (hE_0_2_3 (r_0 + 2) (by omega)).2 (by omega)
       omega)
def o_Mo_met_at_g4_41 : or_T := (202, 24, [(0, (2, 0, 0, [165])), (1, (0, 0, 7, [])), (2, (0, -1, 23, [])), (3, (0, 0, 2000, [])), (4, (0, 0, 2000, [])), (5, (0, 0, 4, [])), (6, (0, 0, 48, [])), (7, (0, 0, 1, [])), (8, (2, 0, 0, [165])), (9, (0, 0, 7, [])), (10, (0, -1, 23, [])), (11, (0, 0, 23, [])), (13, (0, 0, 8, [])), (14, (0, 1, 2000, [])), (15, (0, 0, 2000, [])), (16, (0, 1, 2000, [])), (17, (2, 0, 0, [167])), (18, (0, 0, 66297, [])), (19, (0, 3, 3, [])), (20, (0, 3, 66300, []))], [(1, [20, 18, 19], []), (9, [18, 8], [5]), (9, [17, 8], [2]), (7, [13, 16], [2]), (2, [16, 14, 15], []), (9, [15, 8], [15]), (9, [14, 8], [11]), (20, [8, 8], [30, 0, 1, 1, 15, -1, 1, 11]), (20, [8], [50, 3, 0, 12, 11, 15, 2, 21, 4, 7, 1, 3, 2, 0, 12, 0, 1, 0, 3, 2, 0, 11, 4, 3, 2, 0, 15, 0, 8, 3, 7, 1, 3, 2, 0, 12, 0, 0, 0, 7, 4, 3, 2, 0, 15, 0, 1, 2, 0, 11]), (20, [3, 8], [30, 0, 1, 0, 0, -1, 1, 11]), (20, [4, 8], [30, -1, 1, 0, 0, -1, 1, 11]), (20, [8], [50, 1, 0, 12, 1, 3, 2, 0, 12, 0, 1]), (20, [10, 8], [50, 1, 1, 1005, 1002, 3, 6, 0, 2, 1, 0, 0, -1, 0, 10, 3, 1, 2, 4, 3, 2, 1, 5, 0, 1, 0, 47]), (20, [9, 8], [50, 1, 1, 1005, 1002, 0, 6, 4, 2, 1, 0, 0, 1, 3, 1, 2, 4, 3, 2, 1, 5, 0, 2]), (20, [8, 11], [60, 1, 3, 200, 5, 2, 3, 4]), (20, [8, 10, 11], [60, 1, 1, 243, 5, 2]), (20, [8, 11, 13, 10, 6, 7, 9, 5], [60, 8, 2, 1005, 10, 11, 12, 13, 14, 15, 8, 5, 1, 2]), (24, [0, 8], []), (24, [1, 9], []), (24, [2, 10], [])], [(13, (0, 0, 7, []))], [], [], [], [(20, 18, 3, 3), (13, 16, -4294967296, -1), (16, 14, -2000, 0), (1, 9, -4294967296, 0), (2, 10, -4294967296, 0), (9, 1, -4294967296, 0), (10, 2, -4294967296, 0)])
theorem oo_Mo_met_at_g4_41 {kA : Nat → ClassId} : or_ok PRD kA GG o_Mo_met_at_g4_41 := by
  refine or_mk fun A ta ws vs hD hth hl => ?_
  intro t0 r0 t1 k1 t2 k2 t3 k3 t4 k4 t5 k5 t6 k6 t7 k7 t8 r8 t9 k9 t10 k10 t11 k11 t13 k13 t14 k14 t15 k15 t16 k16 t17 r17 t18 k18 t19 k19 t20 k20 d0 d1 d2 d3 d4 d5 d6 f0 f1 f2 f3 f4 f5 f6 f7 f8 f9 f10 f11 f12 f13 f14 f15 f16 f17 f18 f19
  replace f5 := shm_177 f5
  replace f6 := shm_116 f6
  replace f8 := shm_1438 f8
  replace f11 := shm_1890 f11
  replace f12 := shm_2114 f12
  replace f17 := shm_5 f17
  replace f19 := shm_5 f19
  have q8 : n_v vs 8 = n_v vs 0 := f17.symm
  have q10 : n_v vs 10 = n_v vs 2 := f19.symm
  simp only [q8, q10] at f5 f6 f8 f11 f12
  have g5 : v_iv (n_v vs 15) = w_fi ws (n_v vs 0) 15 := congrArg v_iv f5
  have g6 : v_iv (n_v vs 14) = w_fi ws (n_v vs 0) 11 := congrArg v_iv f6
  have kz_0_11 := fdq_237 hD hth r0
  have kz_0_12 := fdq_187 hD hth r0
  have kz_0_15 := fdq_239 hD hth r0
  have hrf0 : 0 ≤ v_iv (n_v vs 13) ∧ v_iv (n_v vs 13) ≤ 7 := vc_Mo_met_at_g4_41_r0 (v_iv (n_v vs 2)) (v_iv (n_v vs 13)) (v_iv (n_v vs 14)) (v_iv (n_v vs 15)) (v_iv (n_v vs 16)) (w_fi ws (n_v vs 0) 5) (w_fi ws (n_v vs 0) 15) (w_fi ws (n_v vs 0) 11) (w_fi ws (n_v vs 0) 12) (w_ei ws (w_ar ws (n_v vs 0) 2)) k2 k13 k14 k15 k16 d1 (shm_14 f4) g5 g6 f8 f11 f12 kz_0_11 kz_0_12 kz_0_15
  have rf13 : tv_ok ta (0, 0, 7, []) (n_v vs 13) := tv_in t13 (by first | omega | grind) (by first | omega | grind)
  refine ⟨List.forall_mem_cons.mpr ⟨rf13, (fun _ h => (by cases h))⟩, [], trivial, ?_, (fun _ h => (by cases h))⟩
  rw [List.append_nil]
  exact (fun _ h => (by cases h))
def o_Mo_met_at_g4_42 : or_T := (214, 27, [(11, (0, 0, 23, [])), (13, (0, 0, 7, [])), (18, (5, 0, 66297, [539])), (19, (0, 3, 3, [])), (20, (0, 3, 66300, [])), (21, (0, 8, 8, [])), (22, (0, 0, 184, [])), (23, (0, 3, 66484, [])), (24, (0, 3, 66491, [])), (26, (0, -1, -1, []))], [(1, [24, 23, 13], []), (1, [23, 20, 22], []), (3, [22, 21, 11], []), (1, [20, 18, 19], [])], [], [], [(18, [24, 26], [1])], [], [(24, 13, 3, 66484), (24, 23, 0, 7), (24, 22, 3, 66307), (24, 20, 0, 191), (24, 18, 3, 194), (23, 22, 3, 66300), (23, 20, 0, 184), (23, 18, 3, 187), (20, 18, 3, 3)])
theorem oo_Mo_met_at_g4_42 {kA : Nat → ClassId} : or_ok PRD kA GG o_Mo_met_at_g4_42 := by
  refine or_mk fun A ta ws vs hD hth hl => ?_
  intro t11 k11 t13 k13 t18 t19 k19 t20 k20 t21 k21 t22 k22 t23 k23 t24 k24 t26 k26 d0 d1 d2 d3 d4 d5 d6 d7 d8 f0 f1 f2 f3
  obtain ⟨k18, q18_⟩ : (0 ≤ v_iv (n_v vs 18) ∧ v_iv (n_v vs 18) ≤ 66297) ∧ ∃ q : Int, v_iv (n_v vs 18) = 539 * q := tv_dvk t18
  obtain ⟨q18, hq18⟩ := q18_
  replace f0 := shm_12 f0
  replace f1 := shm_12 f1
  replace f2 := shm_38 f2
  rw [show v_iv (n_v vs 21) = 8 from by omega] at f2
  replace f3 := shm_12 f3
  have nf0 : fc_1 PRD (18, [24, 26], [1]) ws (vs) := by
    refine ⟨nf_in hl rfl, sgq_1302 ?_⟩
    · show pl_ok 1 (v_iv (n_v vs 24)).toNat (v_iv (n_v vs 26))
      exact pl_in pl_M1 (lo := 3) (hi := 194) (a := (-1)) (b := (-1)) (by decide +kernel) (by omega) (by omega) (by omega) (by omega)
  refine ⟨(fun _ h => (by cases h)), [], trivial, ?_, (fun _ h => (by cases h))⟩
  rw [List.append_nil]
  exact List.forall_mem_cons.mpr ⟨⟨show (18 : Nat) < 100 from by decide, nf0⟩, (fun _ h => (by cases h))⟩
set_option maxHeartbeats 4000000 in
theorem vc_Mo_met_at_g4_43_0 (x2 : Int) (x10 : Int) (x11 : Int) (x13 : Int) (x15 : Int) (x18 : Int) (x20 : Int) (x22 : Int) (x23 : Int) (x24 : Int) (x25 : Int) (x26 : Int) (x27 : Int) (r_0 : Int) (from_0 : Int) (pos_0 : Int) (tape_0 : Int → Int) (limit_0 : Int) (kind_0 : Int) (tape_1 : Int → Int) (limit_1 : Int) (from_1 : Int) (pos_1 : Int) (kind_1 : Int) (all_1 : Int → Int) (r_1 : Int) (now_1 : Int → Int) (latest_1 : Int → Int) (place_1 : Int) (value_1 : Int) (fault_1 : Int) (fault_0 : Int) (place_0 : Int) (value_0 : Int) (all_0 : Int → Int) (now_0 : Int → Int) (latest_0 : Int → Int) (k2 : (-1) ≤ x2 ∧ x2 ≤ 23) (k10 : (-1) ≤ x10 ∧ x10 ≤ 23) (k11 : 0 ≤ x11 ∧ x11 ≤ 23) (k13 : 0 ≤ x13 ∧ x13 ≤ 7) (k15 : 0 ≤ x15 ∧ x15 ≤ 2000) (k18 : 0 ≤ x18 ∧ x18 ≤ 66297) (k20 : 3 ≤ x20 ∧ x20 ≤ 66300) (k22 : 0 ≤ x22 ∧ x22 ≤ 184) (k23 : 3 ≤ x23 ∧ x23 ≤ 66484) (k24 : 3 ≤ x24 ∧ x24 ≤ 66491) (k25 : 0 ≤ x25 ∧ x25 ≤ 2007) (k26 : (-1) ≤ x26 ∧ x26 ≤ (-1)) (k27 : 1 ≤ x27 ∧ x27 ≤ 8) (d0 : x13 + 1 ≤ x27 ∧ x27 ≤ x13 + 1) (d9 : x20 + 0 ≤ x24 ∧ x24 ≤ x20 + 191) (d11 : x22 + 3 ≤ x23 ∧ x23 ≤ x22 + 66300) (d14 : x18 + 3 ≤ x20 ∧ x20 ≤ x18 + 3) (d18 : x10 + (-4294967296) ≤ x2 ∧ x2 ≤ x10 + 0) (d20 : x2 + (-4294967296) ≤ x10 ∧ x10 ≤ x2 + 0) (g0 : x18 = r_0) (g2 : x15 = from_0) (f11 : kind_0 = 1) (f16 : ((x25 + 1) ≤ limit_1) → (x26 = (tape_1 (x25) % 256))) (f17 : (limit_1 ≤ x25) → (x26 = (-1))) (f18 : x25 = x15 + x13) (f19 : x24 = x23 + x13) (f20 : x23 = x20 + x22) (f21 : x22 = 8 * x11) (f26 : ((kind_1 = 1) → (pos_1 ≤ (from_1 + 8))) ∧ ((kind_1 = 0) ∨ ((from_1 + 1) ≤ pos_1))) (f30 : (x2 ≤ (-1)) ∨ (all_1 ((r_1 + 1)) ≤ 47)) (fe_0_5_1 : r_0 = r_1) (fe_0_8_1 : fault_0 = fault_1) (fe_0_10_1 : limit_0 = limit_1) (fe_0_11_1 : pos_0 = pos_1) (fe_0_12_1 : kind_0 = kind_1) (fe_0_13_1 : place_0 = place_1) (fe_0_14_1 : value_0 = value_1) (fe_0_15_1 : from_0 = from_1) (hE_0_1_1 : ∀ j : Int, tape_0 j = tape_1 j) (hE_0_2_1 : ∀ j : Int, 0 ≤ j → (j = x24 → all_0 j = x26) ∧ (j ≠ x24 → all_0 j = all_1 j)) (hE_0_3_1 : ∀ j : Int, now_0 j = now_1 j) (hE_0_4_1 : ∀ j : Int, latest_0 j = latest_1 j) (kz_0_8 : 0 ≤ fault_0 ∧ fault_0 ≤ 5) (kz_0_10 : 0 ≤ limit_0 ∧ limit_0 ≤ 2000) (kz_0_11 : 0 ≤ pos_0 ∧ pos_0 ≤ 2000) (kz_0_12 : 0 ≤ kind_0 ∧ kind_0 ≤ 4) (kz_0_13 : 0 ≤ place_0 ∧ place_0 ≤ 2000) (kz_0_14 : (-49) ≤ value_0 ∧ value_0 ≤ 1048575) (kz_0_15 : 0 ≤ from_0 ∧ from_0 ≤ 2000) : (x2 ≤ (-1)) ∨ (all_0 ((r_0 + 1)) ≤ 47) := by
  subst fe_0_5_1
  subst fe_0_8_1
  subst fe_0_10_1
  subst fe_0_11_1
  subst fe_0_12_1
  subst fe_0_13_1
  subst fe_0_14_1
  subst fe_0_15_1
  have e_hE_0_1_1 := funext hE_0_1_1; subst e_hE_0_1_1
  have e_hE_0_3_1 := funext hE_0_3_1; subst e_hE_0_3_1
  have e_hE_0_4_1 := funext hE_0_4_1; subst e_hE_0_4_1
  first
    | omega
    | (have q1 := (hE_0_2_1 (r_0 + 2) (by omega)).2 (by omega)
       have q2 := (hE_0_2_2 (r_0 + 2) (by omega)).2 (by omega)
       omega)
    | (have q1 := (hE_0_2_1 (r_0 + 1) (by omega)).2 (by omega)
       have q2 := (hE_0_2_2 (r_0 + 1) (by omega)).2 (by omega)
       omega)
    | (have q1 := (hE_0_2_1 (r_0 + 2) (by omega)).2 (by omega)
       omega)
    | (have q1 := (hE_0_2_1 (r_0 + 1) (by omega)).2 (by omega)
       omega)
    | (have q1 := (hE_0_2_1 (r_0 + 2) (by omega)).2 (by omega)
       have q2 := (hE_0_2_2 (r_0 + 2) (by omega)).2 (by omega)
       have q3 := (hE_0_2_3 (r_0 + 2) (by omega)).1 (by omega)
       omega)
    | (have q1 := (hE_0_2_1 (r_0 + 2) (by omega)).2 (by omega)
       have q2 := (hE_0_2_2 (r_0 + 2) (by omega)).2 (by omega)
       have q3 := (hE_0_2_3 (r_0 + 2) (by omega)).2 (by omega)
       omega)
set_option maxHeartbeats 4000000 in
theorem vc_Mo_met_at_g4_43_1 (x1 : Int) (x9 : Int) (x11 : Int) (x13 : Int) (x18 : Int) (x20 : Int) (x22 : Int) (x23 : Int) (x24 : Int) (x26 : Int) (x27 : Int) (r_0 : Int) (from_0 : Int) (pos_0 : Int) (tape_0 : Int → Int) (limit_0 : Int) (kind_0 : Int) (tape_1 : Int → Int) (limit_1 : Int) (from_1 : Int) (pos_1 : Int) (kind_1 : Int) (all_1 : Int → Int) (r_1 : Int) (now_1 : Int → Int) (latest_1 : Int → Int) (place_1 : Int) (value_1 : Int) (fault_1 : Int) (fault_0 : Int) (place_0 : Int) (value_0 : Int) (all_0 : Int → Int) (now_0 : Int → Int) (latest_0 : Int → Int) (k1 : 0 ≤ x1 ∧ x1 ≤ 7) (k9 : 0 ≤ x9 ∧ x9 ≤ 7) (k11 : 0 ≤ x11 ∧ x11 ≤ 23) (k13 : 0 ≤ x13 ∧ x13 ≤ 7) (k18 : 0 ≤ x18 ∧ x18 ≤ 66297) (k20 : 3 ≤ x20 ∧ x20 ≤ 66300) (k22 : 0 ≤ x22 ∧ x22 ≤ 184) (k23 : 3 ≤ x23 ∧ x23 ≤ 66484) (k24 : 3 ≤ x24 ∧ x24 ≤ 66491) (k26 : (-1) ≤ x26 ∧ x26 ≤ (-1)) (k27 : 1 ≤ x27 ∧ x27 ≤ 8) (d0 : x13 + 1 ≤ x27 ∧ x27 ≤ x13 + 1) (d9 : x20 + 0 ≤ x24 ∧ x24 ≤ x20 + 191) (d11 : x22 + 3 ≤ x23 ∧ x23 ≤ x22 + 66300) (d14 : x18 + 3 ≤ x20 ∧ x20 ≤ x18 + 3) (d17 : x9 + (-4294967296) ≤ x1 ∧ x1 ≤ x9 + 0) (d19 : x1 + (-4294967296) ≤ x9 ∧ x9 ≤ x1 + 0) (g0 : x18 = r_0) (f19 : x24 = x23 + x13) (f20 : x23 = x20 + x22) (f21 : x22 = 8 * x11) (f31 : (x1 + 1) ≤ all_1 ((r_1 + 2))) (fe_0_5_1 : r_0 = r_1) (fe_0_8_1 : fault_0 = fault_1) (fe_0_10_1 : limit_0 = limit_1) (fe_0_11_1 : pos_0 = pos_1) (fe_0_12_1 : kind_0 = kind_1) (fe_0_13_1 : place_0 = place_1) (fe_0_14_1 : value_0 = value_1) (fe_0_15_1 : from_0 = from_1) (hE_0_1_1 : ∀ j : Int, tape_0 j = tape_1 j) (hE_0_2_1 : ∀ j : Int, 0 ≤ j → (j = x24 → all_0 j = x26) ∧ (j ≠ x24 → all_0 j = all_1 j)) (hE_0_3_1 : ∀ j : Int, now_0 j = now_1 j) (hE_0_4_1 : ∀ j : Int, latest_0 j = latest_1 j) (kz_0_8 : 0 ≤ fault_0 ∧ fault_0 ≤ 5) (kz_0_10 : 0 ≤ limit_0 ∧ limit_0 ≤ 2000) (kz_0_11 : 0 ≤ pos_0 ∧ pos_0 ≤ 2000) (kz_0_12 : 0 ≤ kind_0 ∧ kind_0 ≤ 4) (kz_0_13 : 0 ≤ place_0 ∧ place_0 ≤ 2000) (kz_0_14 : (-49) ≤ value_0 ∧ value_0 ≤ 1048575) (kz_0_15 : 0 ≤ from_0 ∧ from_0 ≤ 2000) : (x1 + 1) ≤ all_0 ((r_0 + 2)) := by
  subst fe_0_5_1
  subst fe_0_8_1
  subst fe_0_10_1
  subst fe_0_11_1
  subst fe_0_12_1
  subst fe_0_13_1
  subst fe_0_14_1
  subst fe_0_15_1
  have e_hE_0_1_1 := funext hE_0_1_1; subst e_hE_0_1_1
  have e_hE_0_3_1 := funext hE_0_3_1; subst e_hE_0_3_1
  have e_hE_0_4_1 := funext hE_0_4_1; subst e_hE_0_4_1
  first
    | omega
    | (have q1 := (hE_0_2_1 (r_0 + 2) (by omega)).2 (by omega)
       have q2 := (hE_0_2_2 (r_0 + 2) (by omega)).2 (by omega)
       omega)
    | (have q1 := (hE_0_2_1 (r_0 + 1) (by omega)).2 (by omega)
       have q2 := (hE_0_2_2 (r_0 + 1) (by omega)).2 (by omega)
       omega)
    | (have q1 := (hE_0_2_1 (r_0 + 2) (by omega)).2 (by omega)
       omega)
    | (have q1 := (hE_0_2_1 (r_0 + 1) (by omega)).2 (by omega)
       omega)
    | (have q1 := (hE_0_2_1 (r_0 + 2) (by omega)).2 (by omega)
       have q2 := (hE_0_2_2 (r_0 + 2) (by omega)).2 (by omega)
       have q3 := (hE_0_2_3 (r_0 + 2) (by omega)).1 (by omega)
       omega)
    | (have q1 := (hE_0_2_1 (r_0 + 2) (by omega)).2 (by omega)
       have q2 := (hE_0_2_2 (r_0 + 2) (by omega)).2 (by omega)
       have q3 := (hE_0_2_3 (r_0 + 2) (by omega)).2 (by omega)
       omega)
set_option maxHeartbeats 4000000 in
theorem vc_Mo_met_at_g4_43_2 (x2 : Int) (x11 : Int) (x13 : Int) (x18 : Int) (x20 : Int) (x22 : Int) (x23 : Int) (x24 : Int) (x26 : Int) (x27 : Int) (r_0 : Int) (from_0 : Int) (pos_0 : Int) (tape_0 : Int → Int) (limit_0 : Int) (kind_0 : Int) (tape_1 : Int → Int) (limit_1 : Int) (from_1 : Int) (pos_1 : Int) (kind_1 : Int) (all_1 : Int → Int) (r_1 : Int) (now_1 : Int → Int) (latest_1 : Int → Int) (place_1 : Int) (value_1 : Int) (fault_1 : Int) (fault_0 : Int) (place_0 : Int) (value_0 : Int) (all_0 : Int → Int) (now_0 : Int → Int) (latest_0 : Int → Int) (k2 : (-1) ≤ x2 ∧ x2 ≤ 23) (k11 : 0 ≤ x11 ∧ x11 ≤ 23) (k13 : 0 ≤ x13 ∧ x13 ≤ 7) (k18 : 0 ≤ x18 ∧ x18 ≤ 66297) (k20 : 3 ≤ x20 ∧ x20 ≤ 66300) (k22 : 0 ≤ x22 ∧ x22 ≤ 184) (k23 : 3 ≤ x23 ∧ x23 ≤ 66484) (k24 : 3 ≤ x24 ∧ x24 ≤ 66491) (k26 : (-1) ≤ x26 ∧ x26 ≤ (-1)) (k27 : 1 ≤ x27 ∧ x27 ≤ 8) (d0 : x13 + 1 ≤ x27 ∧ x27 ≤ x13 + 1) (d10 : x18 + 3 ≤ x24 ∧ x24 ≤ x18 + 194) (d14 : x18 + 3 ≤ x20 ∧ x20 ≤ x18 + 3) (g0 : x18 = r_0) (f19 : x24 = x23 + x13) (f20 : x23 = x20 + x22) (f21 : x22 = 8 * x11) (f32 : RWN (r_1) (all_1) (now_1) (latest_1) (x11)) (f33 : MEN (r_1) (all_1) (x2) (x11)) (fe_0_5_1 : r_0 = r_1) (fe_0_8_1 : fault_0 = fault_1) (fe_0_10_1 : limit_0 = limit_1) (fe_0_11_1 : pos_0 = pos_1) (fe_0_12_1 : kind_0 = kind_1) (fe_0_13_1 : place_0 = place_1) (fe_0_14_1 : value_0 = value_1) (fe_0_15_1 : from_0 = from_1) (hE_0_1_1 : ∀ j : Int, tape_0 j = tape_1 j) (hE_0_2_1 : ∀ j : Int, 0 ≤ j → (j = x24 → all_0 j = x26) ∧ (j ≠ x24 → all_0 j = all_1 j)) (hE_0_3_1 : ∀ j : Int, now_0 j = now_1 j) (hE_0_4_1 : ∀ j : Int, latest_0 j = latest_1 j) (kz_0_8 : 0 ≤ fault_0 ∧ fault_0 ≤ 5) (kz_0_10 : 0 ≤ limit_0 ∧ limit_0 ≤ 2000) (kz_0_11 : 0 ≤ pos_0 ∧ pos_0 ≤ 2000) (kz_0_12 : 0 ≤ kind_0 ∧ kind_0 ≤ 4) (kz_0_13 : 0 ≤ place_0 ∧ place_0 ≤ 2000) (kz_0_14 : (-49) ≤ value_0 ∧ value_0 ≤ 1048575) (kz_0_15 : 0 ≤ from_0 ∧ from_0 ≤ 2000) : RWN (r_0) (all_0) (now_0) (latest_0) (x11) := by
  subst fe_0_5_1
  subst fe_0_8_1
  subst fe_0_10_1
  subst fe_0_11_1
  subst fe_0_12_1
  subst fe_0_13_1
  subst fe_0_14_1
  subst fe_0_15_1
  have e_hE_0_1_1 := funext hE_0_1_1; subst e_hE_0_1_1
  have e_hE_0_3_1 := funext hE_0_3_1; subst e_hE_0_3_1
  have e_hE_0_4_1 := funext hE_0_4_1; subst e_hE_0_4_1
  try simp only [Int.add_zero] at *
  first
    | (have hr := rwn_r ‹RWN _ _ _ _ _›
       have hb := ‹MEN _ _ _ _›.1
       exact rwn_off ‹RWN _ _ _ _ _› (by assumption) (by omega))
set_option maxHeartbeats 4000000 in
theorem vc_Mo_met_at_g4_43_3 (x2 : Int) (x11 : Int) (x13 : Int) (x18 : Int) (x20 : Int) (x22 : Int) (x23 : Int) (x24 : Int) (x26 : Int) (x27 : Int) (r_0 : Int) (from_0 : Int) (pos_0 : Int) (tape_0 : Int → Int) (limit_0 : Int) (kind_0 : Int) (tape_1 : Int → Int) (limit_1 : Int) (from_1 : Int) (pos_1 : Int) (kind_1 : Int) (all_1 : Int → Int) (r_1 : Int) (now_1 : Int → Int) (latest_1 : Int → Int) (place_1 : Int) (value_1 : Int) (fault_1 : Int) (fault_0 : Int) (place_0 : Int) (value_0 : Int) (all_0 : Int → Int) (now_0 : Int → Int) (latest_0 : Int → Int) (k2 : (-1) ≤ x2 ∧ x2 ≤ 23) (k11 : 0 ≤ x11 ∧ x11 ≤ 23) (k13 : 0 ≤ x13 ∧ x13 ≤ 7) (k18 : 0 ≤ x18 ∧ x18 ≤ 66297) (k20 : 3 ≤ x20 ∧ x20 ≤ 66300) (k22 : 0 ≤ x22 ∧ x22 ≤ 184) (k23 : 3 ≤ x23 ∧ x23 ≤ 66484) (k24 : 3 ≤ x24 ∧ x24 ≤ 66491) (k26 : (-1) ≤ x26 ∧ x26 ≤ (-1)) (k27 : 1 ≤ x27 ∧ x27 ≤ 8) (d0 : x13 + 1 ≤ x27 ∧ x27 ≤ x13 + 1) (d10 : x18 + 3 ≤ x24 ∧ x24 ≤ x18 + 194) (d11 : x22 + 3 ≤ x23 ∧ x23 ≤ x22 + 66300) (d14 : x18 + 3 ≤ x20 ∧ x20 ≤ x18 + 3) (g0 : x18 = r_0) (f19 : x24 = x23 + x13) (f20 : x23 = x20 + x22) (f21 : x22 = 8 * x11) (f32 : RWN (r_1) (all_1) (now_1) (latest_1) (x11)) (f33 : MEN (r_1) (all_1) (x2) (x11)) (fe_0_5_1 : r_0 = r_1) (fe_0_8_1 : fault_0 = fault_1) (fe_0_10_1 : limit_0 = limit_1) (fe_0_11_1 : pos_0 = pos_1) (fe_0_12_1 : kind_0 = kind_1) (fe_0_13_1 : place_0 = place_1) (fe_0_14_1 : value_0 = value_1) (fe_0_15_1 : from_0 = from_1) (hE_0_1_1 : ∀ j : Int, tape_0 j = tape_1 j) (hE_0_2_1 : ∀ j : Int, 0 ≤ j → (j = x24 → all_0 j = x26) ∧ (j ≠ x24 → all_0 j = all_1 j)) (hE_0_3_1 : ∀ j : Int, now_0 j = now_1 j) (hE_0_4_1 : ∀ j : Int, latest_0 j = latest_1 j) (kz_0_8 : 0 ≤ fault_0 ∧ fault_0 ≤ 5) (kz_0_10 : 0 ≤ limit_0 ∧ limit_0 ≤ 2000) (kz_0_11 : 0 ≤ pos_0 ∧ pos_0 ≤ 2000) (kz_0_12 : 0 ≤ kind_0 ∧ kind_0 ≤ 4) (kz_0_13 : 0 ≤ place_0 ∧ place_0 ≤ 2000) (kz_0_14 : (-49) ≤ value_0 ∧ value_0 ≤ 1048575) (kz_0_15 : 0 ≤ from_0 ∧ from_0 ≤ 2000) : MEN (r_0) (all_0) (x2) (x11) := by
  subst fe_0_5_1
  subst fe_0_8_1
  subst fe_0_10_1
  subst fe_0_11_1
  subst fe_0_12_1
  subst fe_0_13_1
  subst fe_0_14_1
  subst fe_0_15_1
  have e_hE_0_1_1 := funext hE_0_1_1; subst e_hE_0_1_1
  have e_hE_0_3_1 := funext hE_0_3_1; subst e_hE_0_3_1
  have e_hE_0_4_1 := funext hE_0_4_1; subst e_hE_0_4_1
  try simp only [Int.add_zero] at *
  first
    | (have hr := rwn_r ‹RWN _ _ _ _ _›
       have hb := ‹MEN _ _ _ _›.1
       exact men_off (by omega) ‹MEN _ _ _ _› (by assumption) (by omega))
set_option maxHeartbeats 4000000 in
theorem vc_Mo_met_at_g4_43_4 (x1 : Int) (x2 : Int) (x5 : Int) (x6 : Int) (x7 : Int) (x11 : Int) (x13 : Int) (x14 : Int) (x15 : Int) (x16 : Int) (x18 : Int) (x20 : Int) (x22 : Int) (x23 : Int) (x24 : Int) (x25 : Int) (x26 : Int) (x27 : Int) (r_0 : Int) (from_0 : Int) (pos_0 : Int) (tape_0 : Int → Int) (limit_0 : Int) (kind_0 : Int) (tape_1 : Int → Int) (limit_1 : Int) (from_1 : Int) (pos_1 : Int) (kind_1 : Int) (all_1 : Int → Int) (r_1 : Int) (now_1 : Int → Int) (latest_1 : Int → Int) (place_1 : Int) (value_1 : Int) (fault_1 : Int) (fault_0 : Int) (place_0 : Int) (value_0 : Int) (all_0 : Int → Int) (now_0 : Int → Int) (latest_0 : Int → Int) (k1 : 0 ≤ x1 ∧ x1 ≤ 7) (k2 : (-1) ≤ x2 ∧ x2 ≤ 23) (k5 : 0 ≤ x5 ∧ x5 ≤ 4) (k6 : 0 ≤ x6 ∧ x6 ≤ 48) (k7 : 0 ≤ x7 ∧ x7 ≤ 1) (k11 : 0 ≤ x11 ∧ x11 ≤ 23) (k13 : 0 ≤ x13 ∧ x13 ≤ 7) (k14 : 1 ≤ x14 ∧ x14 ≤ 2000) (k15 : 0 ≤ x15 ∧ x15 ≤ 2000) (k16 : 1 ≤ x16 ∧ x16 ≤ 2000) (k18 : 0 ≤ x18 ∧ x18 ≤ 66297) (k20 : 3 ≤ x20 ∧ x20 ≤ 66300) (k22 : 0 ≤ x22 ∧ x22 ≤ 184) (k23 : 3 ≤ x23 ∧ x23 ≤ 66484) (k24 : 3 ≤ x24 ∧ x24 ≤ 66491) (k25 : 0 ≤ x25 ∧ x25 ≤ 2007) (k26 : (-1) ≤ x26 ∧ x26 ≤ (-1)) (k27 : 1 ≤ x27 ∧ x27 ≤ 8) (d0 : x13 + 1 ≤ x27 ∧ x27 ≤ x13 + 1) (d11 : x22 + 3 ≤ x23 ∧ x23 ≤ x22 + 66300) (d14 : x18 + 3 ≤ x20 ∧ x20 ≤ x18 + 3) (d15 : x16 + (-4294967296) ≤ x13 ∧ x13 ≤ x16 + (-1)) (g0 : x18 = r_0) (g2 : x15 = from_0) (g3 : x14 = pos_0) (f4 : x27 = x13 + 1) (f16 : ((x25 + 1) ≤ limit_1) → (x26 = (tape_1 (x25) % 256))) (f18 : x25 = x15 + x13) (f19 : x24 = x23 + x13) (f20 : x23 = x20 + x22) (f21 : x22 = 8 * x11) (f24 : x16 = x14 - x15) (f29 : kind_1 = 1) (f34 : zMN4 (limit_1) (pos_1) (kind_1) (place_1) (value_1) (from_1) (fault_1) (r_1) (tape_1) (all_1) (x11) (x13) (x2) (x6) (x7) (x1) (x5)) (fe_0_5_1 : r_0 = r_1) (fe_0_8_1 : fault_0 = fault_1) (fe_0_10_1 : limit_0 = limit_1) (fe_0_11_1 : pos_0 = pos_1) (fe_0_12_1 : kind_0 = kind_1) (fe_0_13_1 : place_0 = place_1) (fe_0_14_1 : value_0 = value_1) (fe_0_15_1 : from_0 = from_1) (hE_0_1_1 : ∀ j : Int, tape_0 j = tape_1 j) (hE_0_2_1 : ∀ j : Int, 0 ≤ j → (j = x24 → all_0 j = x26) ∧ (j ≠ x24 → all_0 j = all_1 j)) (hE_0_3_1 : ∀ j : Int, now_0 j = now_1 j) (hE_0_4_1 : ∀ j : Int, latest_0 j = latest_1 j) (kz_0_8 : 0 ≤ fault_0 ∧ fault_0 ≤ 5) (kz_0_10 : 0 ≤ limit_0 ∧ limit_0 ≤ 2000) (kz_0_11 : 0 ≤ pos_0 ∧ pos_0 ≤ 2000) (kz_0_12 : 0 ≤ kind_0 ∧ kind_0 ≤ 4) (kz_0_13 : 0 ≤ place_0 ∧ place_0 ≤ 2000) (kz_0_14 : (-49) ≤ value_0 ∧ value_0 ≤ 1048575) (kz_0_15 : 0 ≤ from_0 ∧ from_0 ≤ 2000) : zMN4 (limit_0) (pos_0) (kind_0) (place_0) (value_0) (from_0) (fault_0) (r_0) (tape_0) (all_0) (x11) (x27) (x2) (x6) (x7) (x1) (x5) := by
  subst fe_0_5_1
  subst fe_0_8_1
  subst fe_0_10_1
  subst fe_0_11_1
  subst fe_0_12_1
  subst fe_0_13_1
  subst fe_0_14_1
  subst fe_0_15_1
  have e_hE_0_1_1 := funext hE_0_1_1; subst e_hE_0_1_1
  have e_hE_0_3_1 := funext hE_0_3_1; subst e_hE_0_3_1
  have e_hE_0_4_1 := funext hE_0_4_1; subst e_hE_0_4_1
  first | subst g0 | skip
  first | subst g2 | skip
  first | subst g3 | skip
  try simp only [Int.add_zero] at *
  first
    | exact mn_step4 ((rsq_lim (‹zMN4 _ _ _ _ _ _ _ _ _ _ _ _ _ _ _ _ _›).1).2.2.2 (by omega)).2 ‹zMN4 _ _ _ _ _ _ _ _ _ _ _ _ _ _ _ _ _› (by omega) (by assumption) (by omega) (rsq_byte (‹zMN4 _ _ _ _ _ _ _ _ _ _ _ _ _ _ _ _ _›).1 (by omega) (by assumption) (by omega) (by omega) (by omega)) (by omega) (by omega)
    | exact mn_start4 ‹zRS4 _ _ _ _ _ _ _ _ _ _ _ _ _ _ _› (by omega) ‹NMQ _ _ _ _ _ _› (by omega) ‹KNQ _ _ _ _ _ _ _› (by omega) (by simp only [Int.add_zero]; omega) (by omega) (by assumption) (by assumption) (by omega) (by omega) (by omega) (by omega) (by omega) (by omega)
    | (exfalso; omega)
def o_Mo_met_at_g4_43 : or_T := (171, 28, [(0, (2, 0, 0, [165])), (1, (0, 0, 7, [])), (2, (0, -1, 23, [])), (3, (0, 0, 2000, [])), (4, (0, 0, 2000, [])), (5, (0, 0, 4, [])), (6, (0, 0, 48, [])), (7, (0, 0, 1, [])), (8, (2, 0, 0, [165])), (9, (0, 0, 7, [])), (10, (0, -1, 23, [])), (11, (0, 0, 23, [])), (13, (0, 0, 7, [])), (14, (0, 1, 2000, [])), (15, (0, 0, 2000, [])), (16, (0, 1, 2000, [])), (17, (2, 0, 0, [167])), (18, (0, 0, 66297, [])), (19, (0, 3, 3, [])), (20, (0, 3, 66300, [])), (21, (0, 8, 8, [])), (22, (0, 0, 184, [])), (23, (0, 3, 66484, [])), (24, (0, 3, 66491, [])), (25, (0, 0, 2007, [])), (26, (0, -1, -1, [])), (27, (0, 1, 8, []))], [(9, [18, 8], [5]), (9, [17, 8], [2]), (9, [15, 8], [15]), (9, [14, 8], [11]), (6, [27, 13], [1]), (20, [25, 8, 26], [50, 1, 1, 1010, 1001, 4, 11, 0, 6, 4, 2, 1, 0, 0, 1, 2, 1, 10, 1, 2, 1, 2, 9, 5, 3, 1, 1, 1, 0, 0, 256]), (20, [8, 25, 26], [50, 1, 0, 10, 4, 7, 0, 3, 2, 0, 10, 1, 1, 1, 2, 1, 2, 0, -1]), (20, [8, 8], [30, 0, 1, 1, 15, -1, 1, 11]), (20, [8], [50, 3, 0, 12, 11, 15, 2, 21, 4, 7, 1, 3, 2, 0, 12, 0, 1, 0, 3, 2, 0, 11, 4, 3, 2, 0, 15, 0, 8, 3, 7, 1, 3, 2, 0, 12, 0, 0, 0, 7, 4, 3, 2, 0, 15, 0, 1, 2, 0, 11]), (20, [3, 8], [30, 0, 1, 0, 0, -1, 1, 11]), (20, [4, 8], [30, -1, 1, 0, 0, -1, 1, 11]), (20, [8], [50, 1, 0, 12, 1, 3, 2, 0, 12, 0, 1]), (24, [0, 8], []), (24, [1, 9], []), (24, [2, 10], []), (100, [17, 24, 26], []), (20, [25, 8, 26], [50, 1, 1, 1010, 1001, 4, 11, 0, 6, 4, 2, 1, 0, 0, 1, 2, 1, 10, 1, 2, 1, 2, 9, 5, 3, 1, 1, 1, 0, 0, 256]), (20, [8, 25, 26], [50, 1, 0, 10, 4, 7, 0, 3, 2, 0, 10, 1, 1, 1, 2, 1, 2, 0, -1]), (1, [25, 15, 13], []), (1, [24, 23, 13], []), (1, [23, 20, 22], []), (3, [22, 21, 11], []), (1, [20, 18, 19], []), (7, [13, 16], [2]), (2, [16, 14, 15], []), (20, [8, 8], [30, 0, 1, 1, 15, -1, 1, 11]), (20, [8], [50, 3, 0, 12, 11, 15, 2, 21, 4, 7, 1, 3, 2, 0, 12, 0, 1, 0, 3, 2, 0, 11, 4, 3, 2, 0, 15, 0, 8, 3, 7, 1, 3, 2, 0, 12, 0, 0, 0, 7, 4, 3, 2, 0, 15, 0, 1, 2, 0, 11]), (20, [3, 8], [30, 0, 1, 0, 0, -1, 1, 11]), (20, [4, 8], [30, -1, 1, 0, 0, -1, 1, 11]), (20, [8], [50, 1, 0, 12, 1, 3, 2, 0, 12, 0, 1]), (20, [10, 8], [50, 1, 1, 1005, 1002, 3, 6, 0, 2, 1, 0, 0, -1, 0, 10, 3, 1, 2, 4, 3, 2, 1, 5, 0, 1, 0, 47]), (20, [9, 8], [50, 1, 1, 1005, 1002, 0, 6, 4, 2, 1, 0, 0, 1, 3, 1, 2, 4, 3, 2, 1, 5, 0, 2]), (20, [8, 11], [60, 1, 3, 200, 5, 2, 3, 4]), (20, [8, 10, 11], [60, 1, 1, 243, 5, 2]), (20, [8, 11, 13, 10, 6, 7, 9, 5], [60, 8, 2, 1005, 10, 11, 12, 13, 14, 15, 8, 5, 1, 2])], [], [], [(20, [10, 8], [50, 1, 1, 1005, 1002, 3, 6, 0, 2, 1, 0, 0, -1, 0, 10, 3, 1, 2, 4, 3, 2, 1, 5, 0, 1, 0, 47]), (20, [9, 8], [50, 1, 1, 1005, 1002, 0, 6, 4, 2, 1, 0, 0, 1, 3, 1, 2, 4, 3, 2, 1, 5, 0, 2]), (20, [8, 11], [60, 1, 3, 200, 5, 2, 3, 4]), (20, [8, 10, 11], [60, 1, 1, 243, 5, 2]), (20, [8, 11, 27, 10, 6, 7, 9, 5], [60, 8, 2, 1005, 10, 11, 12, 13, 14, 15, 8, 5, 1, 2])], [], [(27, 13, 1, 1), (27, 16, -4294967296, 0), (25, 13, 0, 2000), (25, 16, -4294967296, 1999), (25, 15, 0, 7), (24, 13, 3, 66484), (24, 16, -4294967296, 66483), (24, 23, 0, 7), (24, 22, 3, 66307), (24, 20, 0, 191), (24, 18, 3, 194), (23, 22, 3, 66300), (23, 20, 0, 184), (23, 18, 3, 187), (20, 18, 3, 3), (13, 16, -4294967296, -1), (16, 14, -2000, 0), (1, 9, -4294967296, 0), (2, 10, -4294967296, 0), (9, 1, -4294967296, 0), (10, 2, -4294967296, 0)])
theorem oo_Mo_met_at_g4_43 {kA : Nat → ClassId} : or_ok PRD kA GG o_Mo_met_at_g4_43 := by
  refine or_mk fun A ta ws vs hD hth hl => ?_
  intro t0 r0 t1 k1 t2 k2 t3 k3 t4 k4 t5 k5 t6 k6 t7 k7 t8 r8 t9 k9 t10 k10 t11 k11 t13 k13 t14 k14 t15 k15 t16 k16 t17 r17 t18 k18 t19 k19 t20 k20 t21 k21 t22 k22 t23 k23 t24 k24 t25 k25 t26 k26 t27 k27 d0 d1 d2 d3 d4 d5 d6 d7 d8 d9 d10 d11 d12 d13 d14 d15 d16 d17 d18 d19 d20 f0 f1 f2 f3 f4 f5 f6 f7 f8 f9 f10 f11 f12 f13 f14 ta1 w1 le1 s1 f16 f17 f18 f19 f20 f21 f22 f23 f24 f25 f26 f27 f28 f29 f30 f31 f32 f33 f34
  replace f0 := shm_110 f0
  replace f1 := shm_120 f1
  replace f2 := shm_177 f2
  replace f3 := shm_116 f3
  replace f4 := shm_4 f4
  replace f5 := shm_541 f5
  replace f6 := shm_542 f6
  replace f7 := shm_1437 f7
  replace f8 := shm_1438 f8
  replace f9 := shm_1431 f9
  replace f10 := shm_2005 f10
  replace f11 := shm_1890 f11
  replace f12 := shm_5 f12
  replace f13 := shm_5 f13
  replace f14 := shm_5 f14
  have s1 : (∀ b j, w_el ws b j = if b = v_ad (n_v vs 17) ∧ j = (v_iv (n_v vs 24)).toNat then v_iv (n_v vs 26) else w_el w1 b j) ∧ ∀ b k, w_fd ws b k = w_fd w1 b k := s1.2
  replace f16 := shm_541 f16
  replace f17 := shm_542 f17
  replace f18 := shm_12 f18
  replace f19 := shm_12 f19
  replace f20 := shm_12 f20
  replace f21 := shm_38 f21
  rw [show v_iv (n_v vs 21) = 8 from by omega] at f21
  replace f22 := shm_12 f22
  replace f23 := shm_6 f23
  replace f24 := shm_14 f24
  replace f25 := shm_1437 f25
  replace f26 := shm_1438 f26
  replace f27 := shm_1431 f27
  replace f28 := shm_2005 f28
  replace f29 := shm_1890 f29
  replace f30 := shm_2114 f30
  replace f31 := shm_1009 f31
  replace f32 := shm_1803 f32
  replace f33 := shm_2115 f33
  replace f34 := shm_2127 f34
  have q8 : n_v vs 8 = n_v vs 0 := f12.symm
  have q9 : n_v vs 9 = n_v vs 1 := f13.symm
  have q10 : n_v vs 10 = n_v vs 2 := f14.symm
  simp only [q8, q10, q9] at f0 f1 f2 f3 f5 f6 f7 f8 f9 f10 f11 f16 f17 f25 f26 f27 f28 f29 f30 f31 f32 f33 f34
  have ar_0_1_1 : w_ar w1 (n_v vs 0) 1 = w_ar ws (n_v vs 0) 1 := congrArg v_ad (s1.2 _ _).symm
  have cr_0_1 := fdq_39 hD hth r0
  have ar_0_2_1 : w_ar w1 (n_v vs 0) 2 = w_ar ws (n_v vs 0) 2 := congrArg v_ad (s1.2 _ _).symm
  have cr_0_2 := fdq_10 hD hth r0
  have ar_0_3_1 : w_ar w1 (n_v vs 0) 3 = w_ar ws (n_v vs 0) 3 := congrArg v_ad (s1.2 _ _).symm
  have cr_0_3 := fdq_142 hD hth r0
  have ar_0_4_1 : w_ar w1 (n_v vs 0) 4 = w_ar ws (n_v vs 0) 4 := congrArg v_ad (s1.2 _ _).symm
  have cr_0_4 := fdq_143 hD hth r0
  have ad_17 : v_ad (n_v vs 17) = w_ar ws (n_v vs 0) 2 := congrArg v_ad f1
  have g0 : v_iv (n_v vs 18) = w_fi ws (n_v vs 0) 5 := congrArg v_iv f0
  have g2 : v_iv (n_v vs 15) = w_fi ws (n_v vs 0) 15 := congrArg v_iv f2
  have g3 : v_iv (n_v vs 14) = w_fi ws (n_v vs 0) 11 := congrArg v_iv f3
  simp only [ar_0_1_1, ar_0_2_1, ar_0_3_1, ar_0_4_1] at f16 f30 f31 f32 f33 f34
  have fe_0_5_1 : w_fi ws (n_v vs 0) 5 = w_fi w1 (n_v vs 0) 5 := congrArg v_iv (s1.2 _ _)
  have fe_0_8_1 : w_fi ws (n_v vs 0) 8 = w_fi w1 (n_v vs 0) 8 := congrArg v_iv (s1.2 _ _)
  have fe_0_10_1 : w_fi ws (n_v vs 0) 10 = w_fi w1 (n_v vs 0) 10 := congrArg v_iv (s1.2 _ _)
  have fe_0_11_1 : w_fi ws (n_v vs 0) 11 = w_fi w1 (n_v vs 0) 11 := congrArg v_iv (s1.2 _ _)
  have fe_0_12_1 : w_fi ws (n_v vs 0) 12 = w_fi w1 (n_v vs 0) 12 := congrArg v_iv (s1.2 _ _)
  have fe_0_13_1 : w_fi ws (n_v vs 0) 13 = w_fi w1 (n_v vs 0) 13 := congrArg v_iv (s1.2 _ _)
  have fe_0_14_1 : w_fi ws (n_v vs 0) 14 = w_fi w1 (n_v vs 0) 14 := congrArg v_iv (s1.2 _ _)
  have fe_0_15_1 : w_fi ws (n_v vs 0) 15 = w_fi w1 (n_v vs 0) 15 := congrArg v_iv (s1.2 _ _)
  have hE_0_1_1 : ∀ j : Int, w_ei ws (w_ar ws (n_v vs 0) 1) j = w_ei w1 (w_ar ws (n_v vs 0) 1) j := el_kp s1.1 r17 cr_0_1 (by decide)
  have hK_0_1 := elq_7 hD hth cr_0_1
  have hE_0_2_1 : ∀ j : Int, 0 ≤ j → (j = v_iv (n_v vs 24) → w_ei ws (w_ar ws (n_v vs 0) 2) j = v_iv (n_v vs 26)) ∧ (j ≠ v_iv (n_v vs 24) → w_ei ws (w_ar ws (n_v vs 0) 2) j = w_ei w1 (w_ar ws (n_v vs 0) 2) j) := fun j hj => ⟨fun h => by unfold w_ei; rw [s1.1, if_pos ⟨ad_17.symm, by rw [h]⟩], fun h => by unfold w_ei; rw [s1.1, if_neg (fun e => h (by have := e.2; omega))]⟩
  have hE_0_3_1 : ∀ j : Int, w_ei ws (w_ar ws (n_v vs 0) 3) j = w_ei w1 (w_ar ws (n_v vs 0) 3) j := el_kp s1.1 r17 cr_0_3 (by decide)
  have hK_0_3 := elq_80 hD hth cr_0_3
  have hE_0_4_1 : ∀ j : Int, w_ei ws (w_ar ws (n_v vs 0) 4) j = w_ei w1 (w_ar ws (n_v vs 0) 4) j := el_kp s1.1 r17 cr_0_4 (by decide)
  have hK_0_4 := elq_81 hD hth cr_0_4
  have kz_0_8 := fdq_34 hD hth r0
  have kz_0_10 := fdq_43 hD hth r0
  have kz_0_11 := fdq_237 hD hth r0
  have kz_0_12 := fdq_187 hD hth r0
  have kz_0_13 := fdq_238 hD hth r0
  have kz_0_14 := fdq_188 hD hth r0
  have kz_0_15 := fdq_239 hD hth r0
  first | have hJ0 : w_ei w1 (w_ar ws (n_v vs 0) 2) ((w_fi w1 (n_v vs 0) 5 + 1)) = w_ei w1 (w_ar ws (n_v vs 0) 2) ((w_fi ws (n_v vs 0) 5 + 1)) := congrArg _ (show ((w_fi w1 (n_v vs 0) 5 + 1) : Int) = (w_fi ws (n_v vs 0) 5 + 1) from by omega) | skip
  first | have hJ1 : w_ei w1 (w_ar ws (n_v vs 0) 2) ((w_fi w1 (n_v vs 0) 5 + 2)) = w_ei w1 (w_ar ws (n_v vs 0) 2) ((w_fi ws (n_v vs 0) 5 + 2)) := congrArg _ (show ((w_fi w1 (n_v vs 0) 5 + 2) : Int) = (w_fi ws (n_v vs 0) 5 + 2) from by omega) | skip
  have hI2 := hE_0_1_1 (v_iv (n_v vs 25))
  first | have hI3 := (hE_0_2_1 ((w_fi ws (n_v vs 0) 5 + 1)) (by omega)).2 (by omega) | have hI3 := (hE_0_2_1 ((w_fi ws (n_v vs 0) 5 + 1)) (by omega)).1 (by omega) | skip
  first | have hI4 := (hE_0_2_1 ((w_fi ws (n_v vs 0) 5 + 2)) (by omega)).2 (by omega) | have hI4 := (hE_0_2_1 ((w_fi ws (n_v vs 0) 5 + 2)) (by omega)).1 (by omega) | skip
  have nf0 : fc_1 PRD (20, [10, 8], [50, 1, 1, 1005, 1002, 3, 6, 0, 2, 1, 0, 0, -1, 0, 10, 3, 1, 2, 4, 3, 2, 1, 5, 0, 1, 0, 47]) ws (vs) := by
    refine ⟨nf_in hl rfl, sgq_2114 ?_⟩
    · show (v_iv (n_v vs 10) ≤ (-1)) ∨ (w_ei ws (w_ar ws (n_v vs 8) 2) ((w_fi ws (n_v vs 8) 5 + 1)) ≤ 47)
      simp only [q8, q10]
      exact vc_Mo_met_at_g4_43_0 (v_iv (n_v vs 2)) (v_iv (n_v vs 10)) (v_iv (n_v vs 11)) (v_iv (n_v vs 13)) (v_iv (n_v vs 15)) (v_iv (n_v vs 18)) (v_iv (n_v vs 20)) (v_iv (n_v vs 22)) (v_iv (n_v vs 23)) (v_iv (n_v vs 24)) (v_iv (n_v vs 25)) (v_iv (n_v vs 26)) (v_iv (n_v vs 27)) (w_fi ws (n_v vs 0) 5) (w_fi ws (n_v vs 0) 15) (w_fi ws (n_v vs 0) 11) (w_ei ws (w_ar ws (n_v vs 0) 1)) (w_fi ws (n_v vs 0) 10) (w_fi ws (n_v vs 0) 12) (w_ei w1 (w_ar ws (n_v vs 0) 1)) (w_fi w1 (n_v vs 0) 10) (w_fi w1 (n_v vs 0) 15) (w_fi w1 (n_v vs 0) 11) (w_fi w1 (n_v vs 0) 12) (w_ei w1 (w_ar ws (n_v vs 0) 2)) (w_fi w1 (n_v vs 0) 5) (w_ei w1 (w_ar ws (n_v vs 0) 3)) (w_ei w1 (w_ar ws (n_v vs 0) 4)) (w_fi w1 (n_v vs 0) 13) (w_fi w1 (n_v vs 0) 14) (w_fi w1 (n_v vs 0) 8) (w_fi ws (n_v vs 0) 8) (w_fi ws (n_v vs 0) 13) (w_fi ws (n_v vs 0) 14) (w_ei ws (w_ar ws (n_v vs 0) 2)) (w_ei ws (w_ar ws (n_v vs 0) 3)) (w_ei ws (w_ar ws (n_v vs 0) 4)) k2 k10 k11 k13 k15 k18 k20 k22 k23 k24 k25 k26 k27 d0 d9 d11 d14 d18 d20 g0 g2 f11 f16 f17 f18 f19 f20 f21 f26 f30 fe_0_5_1 fe_0_8_1 fe_0_10_1 fe_0_11_1 fe_0_12_1 fe_0_13_1 fe_0_14_1 fe_0_15_1 hE_0_1_1 hE_0_2_1 hE_0_3_1 hE_0_4_1 kz_0_8 kz_0_10 kz_0_11 kz_0_12 kz_0_13 kz_0_14 kz_0_15
  have nf1 : fc_1 PRD (20, [9, 8], [50, 1, 1, 1005, 1002, 0, 6, 4, 2, 1, 0, 0, 1, 3, 1, 2, 4, 3, 2, 1, 5, 0, 2]) ws (vs) := by
    refine ⟨nf_in hl rfl, sgq_1009 ?_⟩
    · show (v_iv (n_v vs 9) + 1) ≤ w_ei ws (w_ar ws (n_v vs 8) 2) ((w_fi ws (n_v vs 8) 5 + 2))
      simp only [q8, q9]
      exact vc_Mo_met_at_g4_43_1 (v_iv (n_v vs 1)) (v_iv (n_v vs 9)) (v_iv (n_v vs 11)) (v_iv (n_v vs 13)) (v_iv (n_v vs 18)) (v_iv (n_v vs 20)) (v_iv (n_v vs 22)) (v_iv (n_v vs 23)) (v_iv (n_v vs 24)) (v_iv (n_v vs 26)) (v_iv (n_v vs 27)) (w_fi ws (n_v vs 0) 5) (w_fi ws (n_v vs 0) 15) (w_fi ws (n_v vs 0) 11) (w_ei ws (w_ar ws (n_v vs 0) 1)) (w_fi ws (n_v vs 0) 10) (w_fi ws (n_v vs 0) 12) (w_ei w1 (w_ar ws (n_v vs 0) 1)) (w_fi w1 (n_v vs 0) 10) (w_fi w1 (n_v vs 0) 15) (w_fi w1 (n_v vs 0) 11) (w_fi w1 (n_v vs 0) 12) (w_ei w1 (w_ar ws (n_v vs 0) 2)) (w_fi w1 (n_v vs 0) 5) (w_ei w1 (w_ar ws (n_v vs 0) 3)) (w_ei w1 (w_ar ws (n_v vs 0) 4)) (w_fi w1 (n_v vs 0) 13) (w_fi w1 (n_v vs 0) 14) (w_fi w1 (n_v vs 0) 8) (w_fi ws (n_v vs 0) 8) (w_fi ws (n_v vs 0) 13) (w_fi ws (n_v vs 0) 14) (w_ei ws (w_ar ws (n_v vs 0) 2)) (w_ei ws (w_ar ws (n_v vs 0) 3)) (w_ei ws (w_ar ws (n_v vs 0) 4)) k1 k9 k11 k13 k18 k20 k22 k23 k24 k26 k27 d0 d9 d11 d14 d17 d19 g0 f19 f20 f21 f31 fe_0_5_1 fe_0_8_1 fe_0_10_1 fe_0_11_1 fe_0_12_1 fe_0_13_1 fe_0_14_1 fe_0_15_1 hE_0_1_1 hE_0_2_1 hE_0_3_1 hE_0_4_1 kz_0_8 kz_0_10 kz_0_11 kz_0_12 kz_0_13 kz_0_14 kz_0_15
  have nf2 : fc_1 PRD (20, [8, 11], [60, 1, 3, 200, 5, 2, 3, 4]) ws (vs) := by
    refine ⟨nf_in hl rfl, sgq_1803 ?_⟩
    · show RWN (w_fi ws (n_v vs 8) 5) (w_ei ws (w_ar ws (n_v vs 8) 2)) (w_ei ws (w_ar ws (n_v vs 8) 3)) (w_ei ws (w_ar ws (n_v vs 8) 4)) (v_iv (n_v vs 11))
      rw [q8]
      exact vc_Mo_met_at_g4_43_2 (v_iv (n_v vs 2)) (v_iv (n_v vs 11)) (v_iv (n_v vs 13)) (v_iv (n_v vs 18)) (v_iv (n_v vs 20)) (v_iv (n_v vs 22)) (v_iv (n_v vs 23)) (v_iv (n_v vs 24)) (v_iv (n_v vs 26)) (v_iv (n_v vs 27)) (w_fi ws (n_v vs 0) 5) (w_fi ws (n_v vs 0) 15) (w_fi ws (n_v vs 0) 11) (w_ei ws (w_ar ws (n_v vs 0) 1)) (w_fi ws (n_v vs 0) 10) (w_fi ws (n_v vs 0) 12) (w_ei w1 (w_ar ws (n_v vs 0) 1)) (w_fi w1 (n_v vs 0) 10) (w_fi w1 (n_v vs 0) 15) (w_fi w1 (n_v vs 0) 11) (w_fi w1 (n_v vs 0) 12) (w_ei w1 (w_ar ws (n_v vs 0) 2)) (w_fi w1 (n_v vs 0) 5) (w_ei w1 (w_ar ws (n_v vs 0) 3)) (w_ei w1 (w_ar ws (n_v vs 0) 4)) (w_fi w1 (n_v vs 0) 13) (w_fi w1 (n_v vs 0) 14) (w_fi w1 (n_v vs 0) 8) (w_fi ws (n_v vs 0) 8) (w_fi ws (n_v vs 0) 13) (w_fi ws (n_v vs 0) 14) (w_ei ws (w_ar ws (n_v vs 0) 2)) (w_ei ws (w_ar ws (n_v vs 0) 3)) (w_ei ws (w_ar ws (n_v vs 0) 4)) k2 k11 k13 k18 k20 k22 k23 k24 k26 k27 d0 d10 d14 g0 f19 f20 f21 f32 f33 fe_0_5_1 fe_0_8_1 fe_0_10_1 fe_0_11_1 fe_0_12_1 fe_0_13_1 fe_0_14_1 fe_0_15_1 hE_0_1_1 hE_0_2_1 hE_0_3_1 hE_0_4_1 kz_0_8 kz_0_10 kz_0_11 kz_0_12 kz_0_13 kz_0_14 kz_0_15
  have nf3 : fc_1 PRD (20, [8, 10, 11], [60, 1, 1, 243, 5, 2]) ws (vs) := by
    refine ⟨nf_in hl rfl, sgq_2115 ?_⟩
    · show MEN (w_fi ws (n_v vs 8) 5) (w_ei ws (w_ar ws (n_v vs 8) 2)) (v_iv (n_v vs 10)) (v_iv (n_v vs 11))
      simp only [q8, q10]
      exact vc_Mo_met_at_g4_43_3 (v_iv (n_v vs 2)) (v_iv (n_v vs 11)) (v_iv (n_v vs 13)) (v_iv (n_v vs 18)) (v_iv (n_v vs 20)) (v_iv (n_v vs 22)) (v_iv (n_v vs 23)) (v_iv (n_v vs 24)) (v_iv (n_v vs 26)) (v_iv (n_v vs 27)) (w_fi ws (n_v vs 0) 5) (w_fi ws (n_v vs 0) 15) (w_fi ws (n_v vs 0) 11) (w_ei ws (w_ar ws (n_v vs 0) 1)) (w_fi ws (n_v vs 0) 10) (w_fi ws (n_v vs 0) 12) (w_ei w1 (w_ar ws (n_v vs 0) 1)) (w_fi w1 (n_v vs 0) 10) (w_fi w1 (n_v vs 0) 15) (w_fi w1 (n_v vs 0) 11) (w_fi w1 (n_v vs 0) 12) (w_ei w1 (w_ar ws (n_v vs 0) 2)) (w_fi w1 (n_v vs 0) 5) (w_ei w1 (w_ar ws (n_v vs 0) 3)) (w_ei w1 (w_ar ws (n_v vs 0) 4)) (w_fi w1 (n_v vs 0) 13) (w_fi w1 (n_v vs 0) 14) (w_fi w1 (n_v vs 0) 8) (w_fi ws (n_v vs 0) 8) (w_fi ws (n_v vs 0) 13) (w_fi ws (n_v vs 0) 14) (w_ei ws (w_ar ws (n_v vs 0) 2)) (w_ei ws (w_ar ws (n_v vs 0) 3)) (w_ei ws (w_ar ws (n_v vs 0) 4)) k2 k11 k13 k18 k20 k22 k23 k24 k26 k27 d0 d10 d11 d14 g0 f19 f20 f21 f32 f33 fe_0_5_1 fe_0_8_1 fe_0_10_1 fe_0_11_1 fe_0_12_1 fe_0_13_1 fe_0_14_1 fe_0_15_1 hE_0_1_1 hE_0_2_1 hE_0_3_1 hE_0_4_1 kz_0_8 kz_0_10 kz_0_11 kz_0_12 kz_0_13 kz_0_14 kz_0_15
  have nf4 : fc_1 PRD (20, [8, 11, 27, 10, 6, 7, 9, 5], [60, 8, 2, 1005, 10, 11, 12, 13, 14, 15, 8, 5, 1, 2]) ws (vs) := by
    refine ⟨nf_in hl rfl, sgq_2127 ?_⟩
    · show zMN4 (w_fi ws (n_v vs 8) 10) (w_fi ws (n_v vs 8) 11) (w_fi ws (n_v vs 8) 12) (w_fi ws (n_v vs 8) 13) (w_fi ws (n_v vs 8) 14) (w_fi ws (n_v vs 8) 15) (w_fi ws (n_v vs 8) 8) (w_fi ws (n_v vs 8) 5) (w_ei ws (w_ar ws (n_v vs 8) 1)) (w_ei ws (w_ar ws (n_v vs 8) 2)) (v_iv (n_v vs 11)) (v_iv (n_v vs 27)) (v_iv (n_v vs 10)) (v_iv (n_v vs 6)) (v_iv (n_v vs 7)) (v_iv (n_v vs 9)) (v_iv (n_v vs 5))
      simp only [q8, q9, q10]
      exact vc_Mo_met_at_g4_43_4 (v_iv (n_v vs 1)) (v_iv (n_v vs 2)) (v_iv (n_v vs 5)) (v_iv (n_v vs 6)) (v_iv (n_v vs 7)) (v_iv (n_v vs 11)) (v_iv (n_v vs 13)) (v_iv (n_v vs 14)) (v_iv (n_v vs 15)) (v_iv (n_v vs 16)) (v_iv (n_v vs 18)) (v_iv (n_v vs 20)) (v_iv (n_v vs 22)) (v_iv (n_v vs 23)) (v_iv (n_v vs 24)) (v_iv (n_v vs 25)) (v_iv (n_v vs 26)) (v_iv (n_v vs 27)) (w_fi ws (n_v vs 0) 5) (w_fi ws (n_v vs 0) 15) (w_fi ws (n_v vs 0) 11) (w_ei ws (w_ar ws (n_v vs 0) 1)) (w_fi ws (n_v vs 0) 10) (w_fi ws (n_v vs 0) 12) (w_ei w1 (w_ar ws (n_v vs 0) 1)) (w_fi w1 (n_v vs 0) 10) (w_fi w1 (n_v vs 0) 15) (w_fi w1 (n_v vs 0) 11) (w_fi w1 (n_v vs 0) 12) (w_ei w1 (w_ar ws (n_v vs 0) 2)) (w_fi w1 (n_v vs 0) 5) (w_ei w1 (w_ar ws (n_v vs 0) 3)) (w_ei w1 (w_ar ws (n_v vs 0) 4)) (w_fi w1 (n_v vs 0) 13) (w_fi w1 (n_v vs 0) 14) (w_fi w1 (n_v vs 0) 8) (w_fi ws (n_v vs 0) 8) (w_fi ws (n_v vs 0) 13) (w_fi ws (n_v vs 0) 14) (w_ei ws (w_ar ws (n_v vs 0) 2)) (w_ei ws (w_ar ws (n_v vs 0) 3)) (w_ei ws (w_ar ws (n_v vs 0) 4)) k1 k2 k5 k6 k7 k11 k13 k14 k15 k16 k18 k20 k22 k23 k24 k25 k26 k27 d0 d11 d14 d15 g0 g2 g3 f4 f16 f18 f19 f20 f21 f24 f29 f34 fe_0_5_1 fe_0_8_1 fe_0_10_1 fe_0_11_1 fe_0_12_1 fe_0_13_1 fe_0_14_1 fe_0_15_1 hE_0_1_1 hE_0_2_1 hE_0_3_1 hE_0_4_1 kz_0_8 kz_0_10 kz_0_11 kz_0_12 kz_0_13 kz_0_14 kz_0_15
  refine ⟨(fun _ h => (by cases h)), [], trivial, ?_, (fun _ h => (by cases h))⟩
  rw [List.append_nil]
  exact List.forall_mem_cons.mpr ⟨⟨show (20 : Nat) < 100 from by decide, nf0⟩, List.forall_mem_cons.mpr ⟨⟨show (20 : Nat) < 100 from by decide, nf1⟩, List.forall_mem_cons.mpr ⟨⟨show (20 : Nat) < 100 from by decide, nf2⟩, List.forall_mem_cons.mpr ⟨⟨show (20 : Nat) < 100 from by decide, nf3⟩, List.forall_mem_cons.mpr ⟨⟨show (20 : Nat) < 100 from by decide, nf4⟩, (fun _ h => (by cases h))⟩⟩⟩⟩⟩
def o_Mo_met_at_g4_44 : or_T := (214, 27, [(11, (0, 0, 23, [])), (13, (0, 0, 7, [])), (18, (5, 0, 66297, [539])), (19, (0, 3, 3, [])), (20, (0, 3, 66300, [])), (21, (0, 8, 8, [])), (22, (0, 0, 184, [])), (23, (0, 3, 66484, [])), (24, (0, 3, 66491, [])), (26, (0, 0, 255, []))], [(1, [24, 23, 13], []), (1, [23, 20, 22], []), (3, [22, 21, 11], []), (1, [20, 18, 19], [])], [], [], [(18, [24, 26], [1])], [], [(24, 13, 3, 66484), (24, 23, 0, 7), (24, 22, 3, 66307), (24, 20, 0, 191), (24, 18, 3, 194), (23, 22, 3, 66300), (23, 20, 0, 184), (23, 18, 3, 187), (20, 18, 3, 3)])
theorem oo_Mo_met_at_g4_44 {kA : Nat → ClassId} : or_ok PRD kA GG o_Mo_met_at_g4_44 := by
  refine or_mk fun A ta ws vs hD hth hl => ?_
  intro t11 k11 t13 k13 t18 t19 k19 t20 k20 t21 k21 t22 k22 t23 k23 t24 k24 t26 k26 d0 d1 d2 d3 d4 d5 d6 d7 d8 f0 f1 f2 f3
  obtain ⟨k18, q18_⟩ : (0 ≤ v_iv (n_v vs 18) ∧ v_iv (n_v vs 18) ≤ 66297) ∧ ∃ q : Int, v_iv (n_v vs 18) = 539 * q := tv_dvk t18
  obtain ⟨q18, hq18⟩ := q18_
  replace f0 := shm_12 f0
  replace f1 := shm_12 f1
  replace f2 := shm_38 f2
  rw [show v_iv (n_v vs 21) = 8 from by omega] at f2
  replace f3 := shm_12 f3
  have nf0 : fc_1 PRD (18, [24, 26], [1]) ws (vs) := by
    refine ⟨nf_in hl rfl, sgq_1302 ?_⟩
    · show pl_ok 1 (v_iv (n_v vs 24)).toNat (v_iv (n_v vs 26))
      exact pl_in pl_M1 (lo := 3) (hi := 194) (a := 0) (b := 255) (by decide +kernel) (by omega) (by omega) (by omega) (by omega)
  refine ⟨(fun _ h => (by cases h)), [], trivial, ?_, (fun _ h => (by cases h))⟩
  rw [List.append_nil]
  exact List.forall_mem_cons.mpr ⟨⟨show (18 : Nat) < 100 from by decide, nf0⟩, (fun _ h => (by cases h))⟩
set_option maxHeartbeats 4000000 in
theorem vc_Mo_met_at_g4_45_0 (x2 : Int) (x10 : Int) (x11 : Int) (x13 : Int) (x15 : Int) (x18 : Int) (x20 : Int) (x22 : Int) (x23 : Int) (x24 : Int) (x25 : Int) (x26 : Int) (x27 : Int) (r_0 : Int) (from_0 : Int) (pos_0 : Int) (tape_0 : Int → Int) (limit_0 : Int) (kind_0 : Int) (tape_1 : Int → Int) (limit_1 : Int) (from_1 : Int) (pos_1 : Int) (kind_1 : Int) (all_1 : Int → Int) (r_1 : Int) (now_1 : Int → Int) (latest_1 : Int → Int) (place_1 : Int) (value_1 : Int) (fault_1 : Int) (fault_0 : Int) (place_0 : Int) (value_0 : Int) (all_0 : Int → Int) (now_0 : Int → Int) (latest_0 : Int → Int) (k2 : (-1) ≤ x2 ∧ x2 ≤ 23) (k10 : (-1) ≤ x10 ∧ x10 ≤ 23) (k11 : 0 ≤ x11 ∧ x11 ≤ 23) (k13 : 0 ≤ x13 ∧ x13 ≤ 7) (k15 : 0 ≤ x15 ∧ x15 ≤ 1999) (k18 : 0 ≤ x18 ∧ x18 ≤ 66297) (k20 : 3 ≤ x20 ∧ x20 ≤ 66300) (k22 : 0 ≤ x22 ∧ x22 ≤ 184) (k23 : 3 ≤ x23 ∧ x23 ≤ 66484) (k24 : 3 ≤ x24 ∧ x24 ≤ 66491) (k25 : 0 ≤ x25 ∧ x25 ≤ 1999) (k26 : 0 ≤ x26 ∧ x26 ≤ 255) (k27 : 1 ≤ x27 ∧ x27 ≤ 8) (d0 : x13 + 1 ≤ x27 ∧ x27 ≤ x13 + 1) (d8 : x20 + 0 ≤ x24 ∧ x24 ≤ x20 + 191) (d10 : x22 + 3 ≤ x23 ∧ x23 ≤ x22 + 66300) (d13 : x18 + 3 ≤ x20 ∧ x20 ≤ x18 + 3) (d17 : x10 + (-4294967296) ≤ x2 ∧ x2 ≤ x10 + 0) (d19 : x2 + (-4294967296) ≤ x10 ∧ x10 ≤ x2 + 0) (g0 : x18 = r_0) (g2 : x15 = from_0) (f11 : kind_0 = 1) (f16 : ((x25 + 1) ≤ limit_1) → (x26 = (tape_1 (x25) % 256))) (f17 : (limit_1 ≤ x25) → (x26 = (-1))) (f18 : x25 = x15 + x13) (f19 : x24 = x23 + x13) (f20 : x23 = x20 + x22) (f21 : x22 = 8 * x11) (f26 : ((kind_1 = 1) → (pos_1 ≤ (from_1 + 8))) ∧ ((kind_1 = 0) ∨ ((from_1 + 1) ≤ pos_1))) (f30 : (x2 ≤ (-1)) ∨ (all_1 ((r_1 + 1)) ≤ 47)) (fe_0_5_1 : r_0 = r_1) (fe_0_8_1 : fault_0 = fault_1) (fe_0_10_1 : limit_0 = limit_1) (fe_0_11_1 : pos_0 = pos_1) (fe_0_12_1 : kind_0 = kind_1) (fe_0_13_1 : place_0 = place_1) (fe_0_14_1 : value_0 = value_1) (fe_0_15_1 : from_0 = from_1) (hE_0_1_1 : ∀ j : Int, tape_0 j = tape_1 j) (hE_0_2_1 : ∀ j : Int, 0 ≤ j → (j = x24 → all_0 j = x26) ∧ (j ≠ x24 → all_0 j = all_1 j)) (hE_0_3_1 : ∀ j : Int, now_0 j = now_1 j) (hE_0_4_1 : ∀ j : Int, latest_0 j = latest_1 j) (kz_0_8 : 0 ≤ fault_0 ∧ fault_0 ≤ 5) (kz_0_10 : 0 ≤ limit_0 ∧ limit_0 ≤ 2000) (kz_0_11 : 0 ≤ pos_0 ∧ pos_0 ≤ 2000) (kz_0_12 : 0 ≤ kind_0 ∧ kind_0 ≤ 4) (kz_0_13 : 0 ≤ place_0 ∧ place_0 ≤ 2000) (kz_0_14 : (-49) ≤ value_0 ∧ value_0 ≤ 1048575) (kz_0_15 : 0 ≤ from_0 ∧ from_0 ≤ 2000) : (x2 ≤ (-1)) ∨ (all_0 ((r_0 + 1)) ≤ 47) := by
  subst fe_0_5_1
  subst fe_0_8_1
  subst fe_0_10_1
  subst fe_0_11_1
  subst fe_0_12_1
  subst fe_0_13_1
  subst fe_0_14_1
  subst fe_0_15_1
  have e_hE_0_1_1 := funext hE_0_1_1; subst e_hE_0_1_1
  have e_hE_0_3_1 := funext hE_0_3_1; subst e_hE_0_3_1
  have e_hE_0_4_1 := funext hE_0_4_1; subst e_hE_0_4_1
  first
    | omega
    | (have q1 := (hE_0_2_1 (r_0 + 2) (by omega)).2 (by omega)
       have q2 := (hE_0_2_2 (r_0 + 2) (by omega)).2 (by omega)
       omega)
    | (have q1 := (hE_0_2_1 (r_0 + 1) (by omega)).2 (by omega)
       have q2 := (hE_0_2_2 (r_0 + 1) (by omega)).2 (by omega)
       omega)
    | (have q1 := (hE_0_2_1 (r_0 + 2) (by omega)).2 (by omega)
       omega)
    | (have q1 := (hE_0_2_1 (r_0 + 1) (by omega)).2 (by omega)
       omega)
    | (have q1 := (hE_0_2_1 (r_0 + 2) (by omega)).2 (by omega)
       have q2 := (hE_0_2_2 (r_0 + 2) (by omega)).2 (by omega)
       have q3 := (hE_0_2_3 (r_0 + 2) (by omega)).1 (by omega)
       omega)
    | (have q1 := (hE_0_2_1 (r_0 + 2) (by omega)).2 (by omega)
       have q2 := (hE_0_2_2 (r_0 + 2) (by omega)).2 (by omega)
       have q3 := (hE_0_2_3 (r_0 + 2) (by omega)).2 (by omega)
       omega)
set_option maxHeartbeats 4000000 in
theorem vc_Mo_met_at_g4_45_1 (x1 : Int) (x9 : Int) (x11 : Int) (x13 : Int) (x18 : Int) (x20 : Int) (x22 : Int) (x23 : Int) (x24 : Int) (x26 : Int) (x27 : Int) (r_0 : Int) (from_0 : Int) (pos_0 : Int) (tape_0 : Int → Int) (limit_0 : Int) (kind_0 : Int) (tape_1 : Int → Int) (limit_1 : Int) (from_1 : Int) (pos_1 : Int) (kind_1 : Int) (all_1 : Int → Int) (r_1 : Int) (now_1 : Int → Int) (latest_1 : Int → Int) (place_1 : Int) (value_1 : Int) (fault_1 : Int) (fault_0 : Int) (place_0 : Int) (value_0 : Int) (all_0 : Int → Int) (now_0 : Int → Int) (latest_0 : Int → Int) (k1 : 0 ≤ x1 ∧ x1 ≤ 7) (k9 : 0 ≤ x9 ∧ x9 ≤ 7) (k11 : 0 ≤ x11 ∧ x11 ≤ 23) (k13 : 0 ≤ x13 ∧ x13 ≤ 7) (k18 : 0 ≤ x18 ∧ x18 ≤ 66297) (k20 : 3 ≤ x20 ∧ x20 ≤ 66300) (k22 : 0 ≤ x22 ∧ x22 ≤ 184) (k23 : 3 ≤ x23 ∧ x23 ≤ 66484) (k24 : 3 ≤ x24 ∧ x24 ≤ 66491) (k26 : 0 ≤ x26 ∧ x26 ≤ 255) (k27 : 1 ≤ x27 ∧ x27 ≤ 8) (d0 : x13 + 1 ≤ x27 ∧ x27 ≤ x13 + 1) (d8 : x20 + 0 ≤ x24 ∧ x24 ≤ x20 + 191) (d10 : x22 + 3 ≤ x23 ∧ x23 ≤ x22 + 66300) (d13 : x18 + 3 ≤ x20 ∧ x20 ≤ x18 + 3) (d16 : x9 + (-4294967296) ≤ x1 ∧ x1 ≤ x9 + 0) (d18 : x1 + (-4294967296) ≤ x9 ∧ x9 ≤ x1 + 0) (g0 : x18 = r_0) (f19 : x24 = x23 + x13) (f20 : x23 = x20 + x22) (f21 : x22 = 8 * x11) (f31 : (x1 + 1) ≤ all_1 ((r_1 + 2))) (fe_0_5_1 : r_0 = r_1) (fe_0_8_1 : fault_0 = fault_1) (fe_0_10_1 : limit_0 = limit_1) (fe_0_11_1 : pos_0 = pos_1) (fe_0_12_1 : kind_0 = kind_1) (fe_0_13_1 : place_0 = place_1) (fe_0_14_1 : value_0 = value_1) (fe_0_15_1 : from_0 = from_1) (hE_0_1_1 : ∀ j : Int, tape_0 j = tape_1 j) (hE_0_2_1 : ∀ j : Int, 0 ≤ j → (j = x24 → all_0 j = x26) ∧ (j ≠ x24 → all_0 j = all_1 j)) (hE_0_3_1 : ∀ j : Int, now_0 j = now_1 j) (hE_0_4_1 : ∀ j : Int, latest_0 j = latest_1 j) (kz_0_8 : 0 ≤ fault_0 ∧ fault_0 ≤ 5) (kz_0_10 : 0 ≤ limit_0 ∧ limit_0 ≤ 2000) (kz_0_11 : 0 ≤ pos_0 ∧ pos_0 ≤ 2000) (kz_0_12 : 0 ≤ kind_0 ∧ kind_0 ≤ 4) (kz_0_13 : 0 ≤ place_0 ∧ place_0 ≤ 2000) (kz_0_14 : (-49) ≤ value_0 ∧ value_0 ≤ 1048575) (kz_0_15 : 0 ≤ from_0 ∧ from_0 ≤ 2000) : (x1 + 1) ≤ all_0 ((r_0 + 2)) := by
  subst fe_0_5_1
  subst fe_0_8_1
  subst fe_0_10_1
  subst fe_0_11_1
  subst fe_0_12_1
  subst fe_0_13_1
  subst fe_0_14_1
  subst fe_0_15_1
  have e_hE_0_1_1 := funext hE_0_1_1; subst e_hE_0_1_1
  have e_hE_0_3_1 := funext hE_0_3_1; subst e_hE_0_3_1
  have e_hE_0_4_1 := funext hE_0_4_1; subst e_hE_0_4_1
  first
    | omega
    | (have q1 := (hE_0_2_1 (r_0 + 2) (by omega)).2 (by omega)
       have q2 := (hE_0_2_2 (r_0 + 2) (by omega)).2 (by omega)
       omega)
    | (have q1 := (hE_0_2_1 (r_0 + 1) (by omega)).2 (by omega)
       have q2 := (hE_0_2_2 (r_0 + 1) (by omega)).2 (by omega)
       omega)
    | (have q1 := (hE_0_2_1 (r_0 + 2) (by omega)).2 (by omega)
       omega)
    | (have q1 := (hE_0_2_1 (r_0 + 1) (by omega)).2 (by omega)
       omega)
    | (have q1 := (hE_0_2_1 (r_0 + 2) (by omega)).2 (by omega)
       have q2 := (hE_0_2_2 (r_0 + 2) (by omega)).2 (by omega)
       have q3 := (hE_0_2_3 (r_0 + 2) (by omega)).1 (by omega)
       omega)
    | (have q1 := (hE_0_2_1 (r_0 + 2) (by omega)).2 (by omega)
       have q2 := (hE_0_2_2 (r_0 + 2) (by omega)).2 (by omega)
       have q3 := (hE_0_2_3 (r_0 + 2) (by omega)).2 (by omega)
       omega)
set_option maxHeartbeats 4000000 in
theorem vc_Mo_met_at_g4_45_2 (x2 : Int) (x11 : Int) (x13 : Int) (x18 : Int) (x20 : Int) (x22 : Int) (x23 : Int) (x24 : Int) (x26 : Int) (x27 : Int) (r_0 : Int) (from_0 : Int) (pos_0 : Int) (tape_0 : Int → Int) (limit_0 : Int) (kind_0 : Int) (tape_1 : Int → Int) (limit_1 : Int) (from_1 : Int) (pos_1 : Int) (kind_1 : Int) (all_1 : Int → Int) (r_1 : Int) (now_1 : Int → Int) (latest_1 : Int → Int) (place_1 : Int) (value_1 : Int) (fault_1 : Int) (fault_0 : Int) (place_0 : Int) (value_0 : Int) (all_0 : Int → Int) (now_0 : Int → Int) (latest_0 : Int → Int) (k2 : (-1) ≤ x2 ∧ x2 ≤ 23) (k11 : 0 ≤ x11 ∧ x11 ≤ 23) (k13 : 0 ≤ x13 ∧ x13 ≤ 7) (k18 : 0 ≤ x18 ∧ x18 ≤ 66297) (k20 : 3 ≤ x20 ∧ x20 ≤ 66300) (k22 : 0 ≤ x22 ∧ x22 ≤ 184) (k23 : 3 ≤ x23 ∧ x23 ≤ 66484) (k24 : 3 ≤ x24 ∧ x24 ≤ 66491) (k26 : 0 ≤ x26 ∧ x26 ≤ 255) (k27 : 1 ≤ x27 ∧ x27 ≤ 8) (d0 : x13 + 1 ≤ x27 ∧ x27 ≤ x13 + 1) (d9 : x18 + 3 ≤ x24 ∧ x24 ≤ x18 + 194) (d13 : x18 + 3 ≤ x20 ∧ x20 ≤ x18 + 3) (g0 : x18 = r_0) (f19 : x24 = x23 + x13) (f20 : x23 = x20 + x22) (f21 : x22 = 8 * x11) (f32 : RWN (r_1) (all_1) (now_1) (latest_1) (x11)) (f33 : MEN (r_1) (all_1) (x2) (x11)) (fe_0_5_1 : r_0 = r_1) (fe_0_8_1 : fault_0 = fault_1) (fe_0_10_1 : limit_0 = limit_1) (fe_0_11_1 : pos_0 = pos_1) (fe_0_12_1 : kind_0 = kind_1) (fe_0_13_1 : place_0 = place_1) (fe_0_14_1 : value_0 = value_1) (fe_0_15_1 : from_0 = from_1) (hE_0_1_1 : ∀ j : Int, tape_0 j = tape_1 j) (hE_0_2_1 : ∀ j : Int, 0 ≤ j → (j = x24 → all_0 j = x26) ∧ (j ≠ x24 → all_0 j = all_1 j)) (hE_0_3_1 : ∀ j : Int, now_0 j = now_1 j) (hE_0_4_1 : ∀ j : Int, latest_0 j = latest_1 j) (kz_0_8 : 0 ≤ fault_0 ∧ fault_0 ≤ 5) (kz_0_10 : 0 ≤ limit_0 ∧ limit_0 ≤ 2000) (kz_0_11 : 0 ≤ pos_0 ∧ pos_0 ≤ 2000) (kz_0_12 : 0 ≤ kind_0 ∧ kind_0 ≤ 4) (kz_0_13 : 0 ≤ place_0 ∧ place_0 ≤ 2000) (kz_0_14 : (-49) ≤ value_0 ∧ value_0 ≤ 1048575) (kz_0_15 : 0 ≤ from_0 ∧ from_0 ≤ 2000) : RWN (r_0) (all_0) (now_0) (latest_0) (x11) := by
  subst fe_0_5_1
  subst fe_0_8_1
  subst fe_0_10_1
  subst fe_0_11_1
  subst fe_0_12_1
  subst fe_0_13_1
  subst fe_0_14_1
  subst fe_0_15_1
  have e_hE_0_1_1 := funext hE_0_1_1; subst e_hE_0_1_1
  have e_hE_0_3_1 := funext hE_0_3_1; subst e_hE_0_3_1
  have e_hE_0_4_1 := funext hE_0_4_1; subst e_hE_0_4_1
  try simp only [Int.add_zero] at *
  first
    | (have hr := rwn_r ‹RWN _ _ _ _ _›
       have hb := ‹MEN _ _ _ _›.1
       exact rwn_off ‹RWN _ _ _ _ _› (by assumption) (by omega))
set_option maxHeartbeats 4000000 in
theorem vc_Mo_met_at_g4_45_3 (x2 : Int) (x11 : Int) (x13 : Int) (x18 : Int) (x20 : Int) (x22 : Int) (x23 : Int) (x24 : Int) (x26 : Int) (x27 : Int) (r_0 : Int) (from_0 : Int) (pos_0 : Int) (tape_0 : Int → Int) (limit_0 : Int) (kind_0 : Int) (tape_1 : Int → Int) (limit_1 : Int) (from_1 : Int) (pos_1 : Int) (kind_1 : Int) (all_1 : Int → Int) (r_1 : Int) (now_1 : Int → Int) (latest_1 : Int → Int) (place_1 : Int) (value_1 : Int) (fault_1 : Int) (fault_0 : Int) (place_0 : Int) (value_0 : Int) (all_0 : Int → Int) (now_0 : Int → Int) (latest_0 : Int → Int) (k2 : (-1) ≤ x2 ∧ x2 ≤ 23) (k11 : 0 ≤ x11 ∧ x11 ≤ 23) (k13 : 0 ≤ x13 ∧ x13 ≤ 7) (k18 : 0 ≤ x18 ∧ x18 ≤ 66297) (k20 : 3 ≤ x20 ∧ x20 ≤ 66300) (k22 : 0 ≤ x22 ∧ x22 ≤ 184) (k23 : 3 ≤ x23 ∧ x23 ≤ 66484) (k24 : 3 ≤ x24 ∧ x24 ≤ 66491) (k26 : 0 ≤ x26 ∧ x26 ≤ 255) (k27 : 1 ≤ x27 ∧ x27 ≤ 8) (d0 : x13 + 1 ≤ x27 ∧ x27 ≤ x13 + 1) (d9 : x18 + 3 ≤ x24 ∧ x24 ≤ x18 + 194) (d10 : x22 + 3 ≤ x23 ∧ x23 ≤ x22 + 66300) (d13 : x18 + 3 ≤ x20 ∧ x20 ≤ x18 + 3) (g0 : x18 = r_0) (f19 : x24 = x23 + x13) (f20 : x23 = x20 + x22) (f21 : x22 = 8 * x11) (f32 : RWN (r_1) (all_1) (now_1) (latest_1) (x11)) (f33 : MEN (r_1) (all_1) (x2) (x11)) (fe_0_5_1 : r_0 = r_1) (fe_0_8_1 : fault_0 = fault_1) (fe_0_10_1 : limit_0 = limit_1) (fe_0_11_1 : pos_0 = pos_1) (fe_0_12_1 : kind_0 = kind_1) (fe_0_13_1 : place_0 = place_1) (fe_0_14_1 : value_0 = value_1) (fe_0_15_1 : from_0 = from_1) (hE_0_1_1 : ∀ j : Int, tape_0 j = tape_1 j) (hE_0_2_1 : ∀ j : Int, 0 ≤ j → (j = x24 → all_0 j = x26) ∧ (j ≠ x24 → all_0 j = all_1 j)) (hE_0_3_1 : ∀ j : Int, now_0 j = now_1 j) (hE_0_4_1 : ∀ j : Int, latest_0 j = latest_1 j) (kz_0_8 : 0 ≤ fault_0 ∧ fault_0 ≤ 5) (kz_0_10 : 0 ≤ limit_0 ∧ limit_0 ≤ 2000) (kz_0_11 : 0 ≤ pos_0 ∧ pos_0 ≤ 2000) (kz_0_12 : 0 ≤ kind_0 ∧ kind_0 ≤ 4) (kz_0_13 : 0 ≤ place_0 ∧ place_0 ≤ 2000) (kz_0_14 : (-49) ≤ value_0 ∧ value_0 ≤ 1048575) (kz_0_15 : 0 ≤ from_0 ∧ from_0 ≤ 2000) : MEN (r_0) (all_0) (x2) (x11) := by
  subst fe_0_5_1
  subst fe_0_8_1
  subst fe_0_10_1
  subst fe_0_11_1
  subst fe_0_12_1
  subst fe_0_13_1
  subst fe_0_14_1
  subst fe_0_15_1
  have e_hE_0_1_1 := funext hE_0_1_1; subst e_hE_0_1_1
  have e_hE_0_3_1 := funext hE_0_3_1; subst e_hE_0_3_1
  have e_hE_0_4_1 := funext hE_0_4_1; subst e_hE_0_4_1
  try simp only [Int.add_zero] at *
  first
    | (have hr := rwn_r ‹RWN _ _ _ _ _›
       have hb := ‹MEN _ _ _ _›.1
       exact men_off (by omega) ‹MEN _ _ _ _› (by assumption) (by omega))
end
