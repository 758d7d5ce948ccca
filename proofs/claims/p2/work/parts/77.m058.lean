set_option maxHeartbeats 4000000 in
theorem vc_Mo_groupItem_at_k0_19_2 (x13 : Int) (pos_0 : Int) (r_0 : Int) (gx : Int) (kz_0_11 : 0 ≤ pos_0 ∧ pos_0 ≤ 2000) (ex2 : gx = pos_0) : 1 * gx + ((-1) * pos_0 + 0) ≤ 0 := by
  first
    | omega
    | (have q1 := (hE_0_2_1 (r_0 + 2) (by omega)).2 (by omega)
       have q2 := (hE_0_2_2 (r_0 + 2) (by omega)).2 (by omega)
       omega)
    | (have q1 := (hE_0_2_1 (r_0 + 1) (by omega)).2 (by omega)
       have q2 := (hE_0_2_2 (r_0 + 1) (by omega)).2 (by omega)
       omega)
    | (have q1 := (hE_0_2_1 (r_0 + 2) (by omega)).2 (by omega)
       omega)
    | (have q1 := (hE_0_2_1 (r_0 + 1) (by omega)).2 (by omega)
       omega)
    | (have q1 := (hE_0_2_1 (r_0 + 2) (by omega)).2 (by omega)
       have q2 := (hE_0_2_2 (r_0 + 2) (by omega)).2 (by omega)
       have q3 := (hE_0_2_3 (r_0 + 2) (by omega)).1 (by omega)
       omega)
    | (have q1 := (hE_0_2_1 (r_0 + 2) (by omega)).2 (by omega)
       have q2 := (hE_0_2_2 (r_0 + 2) (by omega)).2 (by omega)
       have q3 := (hE_0_2_3 (r_0 + 2) (by omega)).2 (by omega)
       omega)
    | (have q1 := (hE_0_2_1 (r_0 + 2) (by omega)).2 (by omega)
       have q2 := (hE_0_2_2 (r_0 + 2) (by omega)).2 (by omega)
       have q3 := (hE_0_2_3 (r_0 + 2) (by omega)).1 (by omega)
       have q4 : x13 = r_0 + 2 := by omega
       rw [q4] at h34
       omega)
set_option maxHeartbeats 4000000 in
theorem vc_Mo_groupItem_at_k0_19_3 (x7 : Int) (x13 : Int) (all_0 : Int → Int) (r_0 : Int) (k7 : 0 ≤ x7 ∧ x7 ≤ 7) (f9 : (x7 + 1) ≤ all_0 ((r_0 + 2))) : (x7 + 1) ≤ all_0 ((r_0 + 2)) := by
  first
    | omega
    | (have q1 := (hE_0_2_1 (r_0 + 2) (by omega)).2 (by omega)
       have q2 := (hE_0_2_2 (r_0 + 2) (by omega)).2 (by omega)
       omega)
    | (have q1 := (hE_0_2_1 (r_0 + 1) (by omega)).2 (by omega)
       have q2 := (hE_0_2_2 (r_0 + 1) (by omega)).2 (by omega)
       omega)
    | (have q1 := (hE_0_2_1 (r_0 + 2) (by omega)).2 (by omega)
       omega)
    | (have q1 := (hE_0_2_1 (r_0 + 1) (by omega)).2 (by omega)
       omega)
    | (have q1 := (hE_0_2_1 (r_0 + 2) (by omega)).2 (by omega)
       have q2 := (hE_0_2_2 (r_0 + 2) (by omega)).2 (by omega)
       have q3 := (hE_0_2_3 (r_0 + 2) (by omega)).1 (by omega)
       omega)
    | (have q1 := (hE_0_2_1 (r_0 + 2) (by omega)).2 (by omega)
       have q2 := (hE_0_2_2 (r_0 + 2) (by omega)).2 (by omega)
       have q3 := (hE_0_2_3 (r_0 + 2) (by omega)).2 (by omega)
       omega)
    | (have q1 := (hE_0_2_1 (r_0 + 2) (by omega)).2 (by omega)
       have q2 := (hE_0_2_2 (r_0 + 2) (by omega)).2 (by omega)
       have q3 := (hE_0_2_3 (r_0 + 2) (by omega)).1 (by omega)
       have q4 : x13 = r_0 + 2 := by omega
       rw [q4] at h34
       omega)
set_option maxHeartbeats 4000000 in
theorem vc_Mo_groupItem_at_k0_19_4 (all_0 : Int → Int) (r_0 : Int) (now_0 : Int → Int) (latest_0 : Int → Int) (f11 : RWS (r_0) (all_0) (now_0) (latest_0)) : RWS (r_0) (all_0) (now_0) (latest_0) := by
  first
    | assumption
set_option maxHeartbeats 4000000 in
theorem vc_Mo_groupItem_at_k0_19_5 (x3 : Int) (x10 : Int) (x13 : Int) (fault_0 : Int) (pos_0 : Int) (r_0 : Int) (gx : Int) (k3 : 0 ≤ x3 ∧ x3 ≤ 2000) (k10 : 0 ≤ x10 ∧ x10 ≤ 0) (g4 : x10 = fault_0) (f7 : 1 * x3 + ((-1) * pos_0 + 0) ≤ 0) (f8 : (1 ≤ fault_0) ∨ ((x3 + 1) ≤ pos_0)) (kz_0_8 : 0 ≤ fault_0 ∧ fault_0 ≤ 5) (kz_0_11 : 0 ≤ pos_0 ∧ pos_0 ≤ 2000) (ex2 : gx = pos_0) : 1 * x3 + ((-1) * gx + 0) ≤ (-1) := by
  first
    | omega
    | (have q1 := (hE_0_2_1 (r_0 + 2) (by omega)).2 (by omega)
       have q2 := (hE_0_2_2 (r_0 + 2) (by omega)).2 (by omega)
       omega)
    | (have q1 := (hE_0_2_1 (r_0 + 1) (by omega)).2 (by omega)
       have q2 := (hE_0_2_2 (r_0 + 1) (by omega)).2 (by omega)
       omega)
    | (have q1 := (hE_0_2_1 (r_0 + 2) (by omega)).2 (by omega)
       omega)
    | (have q1 := (hE_0_2_1 (r_0 + 1) (by omega)).2 (by omega)
       omega)
    | (have q1 := (hE_0_2_1 (r_0 + 2) (by omega)).2 (by omega)
       have q2 := (hE_0_2_2 (r_0 + 2) (by omega)).2 (by omega)
       have q3 := (hE_0_2_3 (r_0 + 2) (by omega)).1 (by omega)
       omega)
    | (have q1 := (hE_0_2_1 (r_0 + 2) (by omega)).2 (by omega)
       have q2 := (hE_0_2_2 (r_0 + 2) (by omega)).2 (by omega)
       have q3 := (hE_0_2_3 (r_0 + 2) (by omega)).2 (by omega)
       omega)
    | (have q1 := (hE_0_2_1 (r_0 + 2) (by omega)).2 (by omega)
       have q2 := (hE_0_2_2 (r_0 + 2) (by omega)).2 (by omega)
       have q3 := (hE_0_2_3 (r_0 + 2) (by omega)).1 (by omega)
       have q4 : x13 = r_0 + 2 := by omega
       rw [q4] at h34
       omega)
set_option maxHeartbeats 4000000 in
theorem vc_Mo_groupItem_at_k0_19_6 (x9 : Int) (x10 : Int) (x13 : Int) (fault_0 : Int) (pos_0 : Int) (r_0 : Int) (gx : Int) (k9 : 0 ≤ x9 ∧ x9 ≤ 2005) (k10 : 0 ≤ x10 ∧ x10 ≤ 0) (g4 : x10 = fault_0) (f14 : 1 * x9 + (1 * pos_0 + (1 * fault_0 + 0)) ≤ 2005) (f15 : (-1) * x9 + ((-1) * pos_0 + ((-1) * fault_0 + 0)) ≤ (-2005)) (kz_0_8 : 0 ≤ fault_0 ∧ fault_0 ≤ 5) (kz_0_11 : 0 ≤ pos_0 ∧ pos_0 ≤ 2000) (ex2 : gx = pos_0) : (-1) * x9 + ((-1) * gx + 0) ≤ (-2005) := by
  first
    | omega
    | (have q1 := (hE_0_2_1 (r_0 + 2) (by omega)).2 (by omega)
       have q2 := (hE_0_2_2 (r_0 + 2) (by omega)).2 (by omega)
       omega)
    | (have q1 := (hE_0_2_1 (r_0 + 1) (by omega)).2 (by omega)
       have q2 := (hE_0_2_2 (r_0 + 1) (by omega)).2 (by omega)
       omega)
    | (have q1 := (hE_0_2_1 (r_0 + 2) (by omega)).2 (by omega)
       omega)
    | (have q1 := (hE_0_2_1 (r_0 + 1) (by omega)).2 (by omega)
       omega)
    | (have q1 := (hE_0_2_1 (r_0 + 2) (by omega)).2 (by omega)
       have q2 := (hE_0_2_2 (r_0 + 2) (by omega)).2 (by omega)
       have q3 := (hE_0_2_3 (r_0 + 2) (by omega)).1 (by omega)
       omega)
    | (have q1 := (hE_0_2_1 (r_0 + 2) (by omega)).2 (by omega)
       have q2 := (hE_0_2_2 (r_0 + 2) (by omega)).2 (by omega)
       have q3 := (hE_0_2_3 (r_0 + 2) (by omega)).2 (by omega)
       omega)
    | (have q1 := (hE_0_2_1 (r_0 + 2) (by omega)).2 (by omega)
       have q2 := (hE_0_2_2 (r_0 + 2) (by omega)).2 (by omega)
       have q3 := (hE_0_2_3 (r_0 + 2) (by omega)).1 (by omega)
       have q4 : x13 = r_0 + 2 := by omega
       rw [q4] at h34
       omega)
def o_Mo_groupItem_at_k0_19 : or_T := (191, 15, [(0, (2, 0, 0, [165])), (3, (0, 0, 2000, [])), (7, (0, 0, 7, [])), (9, (0, 0, 2005, [])), (10, (0, 0, 0, []))], [(9, [10, 4], [8]), (20, [4, 4], [30, 0, 1, 1, 15, -1, 1, 11]), (20, [4], [50, 3, 0, 12, 11, 15, 2, 21, 4, 7, 1, 3, 2, 0, 12, 0, 1, 0, 3, 2, 0, 11, 4, 3, 2, 0, 15, 0, 8, 3, 7, 1, 3, 2, 0, 12, 0, 0, 0, 7, 4, 3, 2, 0, 15, 0, 1, 2, 0, 11]), (20, [3, 4], [30, 0, 1, 0, 0, -1, 1, 11]), (20, [4, 3], [50, 2, 0, 8, 11, 3, 7, 0, 2, 0, 1, 2, 0, 8, 0, 6, 4, 2, 1, 1, 0, 1, 2, 0, 11]), (20, [7, 4], [50, 1, 1, 1005, 1002, 0, 6, 4, 2, 1, 0, 0, 1, 3, 1, 2, 4, 3, 2, 1, 5, 0, 2]), (20, [4], [60, 1, 3, 199, 5, 2, 3, 4]), (24, [0, 4], []), (20, [9, 4, 4], [30, 2005, 1, 0, 0, 1, 1, 11, 1, 1, 8]), (20, [9, 4, 4], [30, -2005, -1, 0, 0, -1, 1, 11, -1, 1, 8])], [], [(0, 0, 2000, [])], [(20, [4, 4], [30, 0, 1, 1, 15, -1, 1, 11]), (20, [4], [50, 3, 0, 12, 11, 15, 2, 21, 4, 7, 1, 3, 2, 0, 12, 0, 1, 0, 3, 2, 0, 11, 4, 3, 2, 0, 15, 0, 8, 3, 7, 1, 3, 2, 0, 12, 0, 0, 0, 7, 4, 3, 2, 0, 15, 0, 1, 2, 0, 11]), (20, [15, 4], [30, 0, 1, 0, 0, -1, 1, 11]), (20, [7, 4], [50, 1, 1, 1005, 1002, 0, 6, 4, 2, 1, 0, 0, 1, 3, 1, 2, 4, 3, 2, 1, 5, 0, 2]), (20, [4], [60, 1, 3, 199, 5, 2, 3, 4]), (23, [3, 15], [-1, 1, -1]), (23, [9, 15], [-2005, -1, -1])], [], [])
theorem oo_Mo_groupItem_at_k0_19 {kA : Nat → ClassId} : or_ok PRD kA GG o_Mo_groupItem_at_k0_19 := by
  refine or_mk fun A ta ws vs hD hth hl => ?_
  intro t0 r0 t3 k3 t7 k7 t9 k9 t10 k10 f4 f5 f6 f7 f8 f9 f11 f12 f14 f15
  replace f4 := shm_143 f4
  replace f5 := shm_1397 f5
  replace f6 := shm_1398 f6
  replace f7 := shm_1395 f7
  replace f8 := shm_1659 f8
  replace f9 := shm_981 f9
  replace f11 := shm_952 f11
  replace f12 := shm_5 f12
  replace f14 := shm_2010 f14
  replace f15 := shm_2011 f15
  have q4 : n_v vs 4 = n_v vs 0 := f12.symm
  simp only [q4] at f4 f5 f6 f7 f8 f9 f11 f14 f15
  have g4 : v_iv (n_v vs 10) = w_fi ws (n_v vs 0) 8 := congrArg v_iv f4
  have kz_0_8 := fdq_14 hD hth r0
  have kz_0_11 := fdq_273 hD hth r0
  have kz_0_12 := fdq_186 hD hth r0
  have kz_0_15 := fdq_274 hD hth r0
  obtain ⟨x, ex, hx⟩ := iv_ex (ta := ta) (lo := 0) (hi := 2000) (z := w_fi ws (n_v vs 0) 11) (by omega) (by omega) (by omega) (by omega)
  have ex2 : v_iv (Value.int x) = w_fi ws (n_v vs 0) 11 := ex
  have ex3 : 0 ≤ v_iv (Value.int x) ∧ v_iv (Value.int x) ≤ 2000 := tv_rng hx
  have e_3 : n_v (vs ++ [Value.int x]) 3 = n_v vs 3 := n_v_old (by rw [hl]; decide)
  have e_4 : n_v (vs ++ [Value.int x]) 4 = n_v vs 4 := n_v_old (by rw [hl]; decide)
  have e_7 : n_v (vs ++ [Value.int x]) 7 = n_v vs 7 := n_v_old (by rw [hl]; decide)
  have e_9 : n_v (vs ++ [Value.int x]) 9 = n_v vs 9 := n_v_old (by rw [hl]; decide)
  have e_15 : n_v (vs ++ [Value.int x]) 15 = Value.int x := n_v_new hl
  have nf0 : fc_1 PRD (20, [4, 4], [30, 0, 1, 1, 15, -1, 1, 11]) ws (vs ++ [Value.int x]) := by
    refine ⟨nf_inA hl rfl, sgq_1397 ?_⟩
    · show 1 * w_fi ws (n_v (vs ++ [Value.int x]) 4) 15 + ((-1) * w_fi ws (n_v (vs ++ [Value.int x]) 4) 11 + 0) ≤ 0
      simp only [e_4, q4]
      exact vc_Mo_groupItem_at_k0_19_0 (v_iv (n_v vs 13)) (w_fi ws (n_v vs 0) 15) (w_fi ws (n_v vs 0) 11) (w_fi ws (n_v vs 0) 5) f5 kz_0_11 kz_0_15
  have nf1 : fc_1 PRD (20, [4], [50, 3, 0, 12, 11, 15, 2, 21, 4, 7, 1, 3, 2, 0, 12, 0, 1, 0, 3, 2, 0, 11, 4, 3, 2, 0, 15, 0, 8, 3, 7, 1, 3, 2, 0, 12, 0, 0, 0, 7, 4, 3, 2, 0, 15, 0, 1, 2, 0, 11]) ws (vs ++ [Value.int x]) := by
    refine ⟨nf_inA hl rfl, sgq_1398 ?_⟩
    · show ((w_fi ws (n_v (vs ++ [Value.int x]) 4) 12 = 1) → (w_fi ws (n_v (vs ++ [Value.int x]) 4) 11 ≤ (w_fi ws (n_v (vs ++ [Value.int x]) 4) 15 + 8))) ∧ ((w_fi ws (n_v (vs ++ [Value.int x]) 4) 12 = 0) ∨ ((w_fi ws (n_v (vs ++ [Value.int x]) 4) 15 + 1) ≤ w_fi ws (n_v (vs ++ [Value.int x]) 4) 11))
      simp only [e_4, q4]
      exact vc_Mo_groupItem_at_k0_19_1 (v_iv (n_v vs 13)) (w_fi ws (n_v vs 0) 12) (w_fi ws (n_v vs 0) 15) (w_fi ws (n_v vs 0) 11) (w_fi ws (n_v vs 0) 5) f6 kz_0_11 kz_0_12 kz_0_15
  have nf2 : fc_1 PRD (20, [15, 4], [30, 0, 1, 0, 0, -1, 1, 11]) ws (vs ++ [Value.int x]) := by
    refine ⟨nf_inA hl rfl, sgq_1395 ?_⟩
    · show 1 * v_iv (n_v (vs ++ [Value.int x]) 15) + ((-1) * w_fi ws (n_v (vs ++ [Value.int x]) 4) 11 + 0) ≤ 0
      simp only [e_4, e_15, q4]
      exact vc_Mo_groupItem_at_k0_19_2 (v_iv (n_v vs 13)) (w_fi ws (n_v vs 0) 11) (w_fi ws (n_v vs 0) 5) (v_iv (Value.int x)) kz_0_11 ex2
  have nf3 : fc_1 PRD (20, [7, 4], [50, 1, 1, 1005, 1002, 0, 6, 4, 2, 1, 0, 0, 1, 3, 1, 2, 4, 3, 2, 1, 5, 0, 2]) ws (vs ++ [Value.int x]) := by
    refine ⟨nf_inA hl rfl, sgq_981 ?_⟩
    · show (v_iv (n_v (vs ++ [Value.int x]) 7) + 1) ≤ w_ei ws (w_ar ws (n_v (vs ++ [Value.int x]) 4) 2) ((w_fi ws (n_v (vs ++ [Value.int x]) 4) 5 + 2))
      simp only [e_4, e_7, q4]
      exact vc_Mo_groupItem_at_k0_19_3 (v_iv (n_v vs 7)) (v_iv (n_v vs 13)) (w_ei ws (w_ar ws (n_v vs 0) 2)) (w_fi ws (n_v vs 0) 5) k7 f9
  have nf4 : fc_1 PRD (20, [4], [60, 1, 3, 199, 5, 2, 3, 4]) ws (vs ++ [Value.int x]) := by
    refine ⟨nf_inA hl rfl, sgq_952 ?_⟩
    · show RWS (w_fi ws (n_v (vs ++ [Value.int x]) 4) 5) (w_ei ws (w_ar ws (n_v (vs ++ [Value.int x]) 4) 2)) (w_ei ws (w_ar ws (n_v (vs ++ [Value.int x]) 4) 3)) (w_ei ws (w_ar ws (n_v (vs ++ [Value.int x]) 4) 4))
      simp only [e_4, q4]
      exact vc_Mo_groupItem_at_k0_19_4 (w_ei ws (w_ar ws (n_v vs 0) 2)) (w_fi ws (n_v vs 0) 5) (w_ei ws (w_ar ws (n_v vs 0) 3)) (w_ei ws (w_ar ws (n_v vs 0) 4)) f11
  have nf5 : fc_1 PRD (23, [3, 15], [-1, 1, -1]) ws (vs ++ [Value.int x]) := by
    refine ⟨nf_inA hl rfl, sgq_211 ?_⟩
    · show 1 * v_iv (n_v (vs ++ [Value.int x]) 3) + ((-1) * v_iv (n_v (vs ++ [Value.int x]) 15) + 0) ≤ (-1)
      simp only [e_3, e_15]
      exact vc_Mo_groupItem_at_k0_19_5 (v_iv (n_v vs 3)) (v_iv (n_v vs 10)) (v_iv (n_v vs 13)) (w_fi ws (n_v vs 0) 8) (w_fi ws (n_v vs 0) 11) (w_fi ws (n_v vs 0) 5) (v_iv (Value.int x)) k3 k10 g4 f7 f8 kz_0_8 kz_0_11 ex2
  have nf6 : fc_1 PRD (23, [9, 15], [-2005, -1, -1]) ws (vs ++ [Value.int x]) := by
    refine ⟨nf_inA hl rfl, sgq_2012 ?_⟩
    · show (-1) * v_iv (n_v (vs ++ [Value.int x]) 9) + ((-1) * v_iv (n_v (vs ++ [Value.int x]) 15) + 0) ≤ (-2005)
      simp only [e_9, e_15]
      exact vc_Mo_groupItem_at_k0_19_6 (v_iv (n_v vs 9)) (v_iv (n_v vs 10)) (v_iv (n_v vs 13)) (w_fi ws (n_v vs 0) 8) (w_fi ws (n_v vs 0) 11) (w_fi ws (n_v vs 0) 5) (v_iv (Value.int x)) k9 k10 g4 f14 f15 kz_0_8 kz_0_11 ex2
  exact ⟨(fun _ h => (by cases h)), [Value.int x], ag_one hx, List.forall_mem_cons.mpr ⟨⟨show (20 : Nat) < 100 from by decide, nf0⟩, List.forall_mem_cons.mpr ⟨⟨show (20 : Nat) < 100 from by decide, nf1⟩, List.forall_mem_cons.mpr ⟨⟨show (20 : Nat) < 100 from by decide, nf2⟩, List.forall_mem_cons.mpr ⟨⟨show (20 : Nat) < 100 from by decide, nf3⟩, List.forall_mem_cons.mpr ⟨⟨show (20 : Nat) < 100 from by decide, nf4⟩, List.forall_mem_cons.mpr ⟨⟨show (23 : Nat) < 100 from by decide, nf5⟩, List.forall_mem_cons.mpr ⟨⟨show (23 : Nat) < 100 from by decide, nf6⟩, (fun _ h => (by cases h))⟩⟩⟩⟩⟩⟩⟩, (fun _ h => (by cases h))⟩
set_option maxHeartbeats 4000000 in
theorem vc_Mo_groupItem_at_k0_20_0 (x13 : Int) (from_0 : Int) (pos_0 : Int) (r_0 : Int) (f5 : 1 * from_0 + ((-1) * pos_0 + 0) ≤ 0) (kz_0_11 : 0 ≤ pos_0 ∧ pos_0 ≤ 2000) (kz_0_15 : 0 ≤ from_0 ∧ from_0 ≤ 2000) : 1 * from_0 + ((-1) * pos_0 + 0) ≤ 0 := by
  first
    | omega
    | (have q1 := (hE_0_2_1 (r_0 + 2) (by omega)).2 (by omega)
       have q2 := (hE_0_2_2 (r_0 + 2) (by omega)).2 (by omega)
       omega)
    | (have q1 := (hE_0_2_1 (r_0 + 1) (by omega)).2 (by omega)
       have q2 := (hE_0_2_2 (r_0 + 1) (by omega)).2 (by omega)
       omega)
    | (have q1 := (hE_0_2_1 (r_0 + 2) (by omega)).2 (by omega)
       omega)
    | (have q1 := (hE_0_2_1 (r_0 + 1) (by omega)).2 (by omega)
       omega)
    | (have q1 := (hE_0_2_1 (r_0 + 2) (by omega)).2 (by omega)
       have q2 := (hE_0_2_2 (r_0 + 2) (by omega)).2 (by omega)
       have q3 := (hE_0_2_3 (r_0 + 2) (by omega)).1 (by omega)
       omega)
    | (have q1 := (hE_0_2_1 (r_0 + 2) (by omega)).2 (by omega)
       have q2 := (hE_0_2_2 (r_0 + 2) (by omega)).2 (by omega)
       have q3 := (hE_0_2_3 (r_0 + 2) (by omega)).2 (by omega)
       omega)
    | (have q1 := (hE_0_2_1 (r_0 + 2) (by omega)).2 (by omega)
       have q2 := (hE_0_2_2 (r_0 + 2) (by omega)).2 (by omega)
       have q3 := (hE_0_2_3 (r_0 + 2) (by omega)).1 (by omega)
       have q4 : x13 = r_0 + 2 := by omega
       rw [q4] at h34
       omega)
set_option maxHeartbeats 4000000 in
theorem vc_Mo_groupItem_at_k0_20_1 (x13 : Int) (from_0 : Int) (pos_0 : Int) (kind_0 : Int) (r_0 : Int) (f6 : ((kind_0 = 1) → (pos_0 ≤ (from_0 + 8))) ∧ ((kind_0 = 0) ∨ ((from_0 + 1) ≤ pos_0))) (kz_0_11 : 0 ≤ pos_0 ∧ pos_0 ≤ 2000) (kz_0_12 : 0 ≤ kind_0 ∧ kind_0 ≤ 4) (kz_0_15 : 0 ≤ from_0 ∧ from_0 ≤ 2000) : ((kind_0 = 1) → (pos_0 ≤ (from_0 + 8))) ∧ ((kind_0 = 0) ∨ ((from_0 + 1) ≤ pos_0)) := by
  first
    | omega
    | (have q1 := (hE_0_2_1 (r_0 + 2) (by omega)).2 (by omega)
       have q2 := (hE_0_2_2 (r_0 + 2) (by omega)).2 (by omega)
       omega)
    | (have q1 := (hE_0_2_1 (r_0 + 1) (by omega)).2 (by omega)
       have q2 := (hE_0_2_2 (r_0 + 1) (by omega)).2 (by omega)
       omega)
    | (have q1 := (hE_0_2_1 (r_0 + 2) (by omega)).2 (by omega)
       omega)
    | (have q1 := (hE_0_2_1 (r_0 + 1) (by omega)).2 (by omega)
       omega)
    | (have q1 := (hE_0_2_1 (r_0 + 2) (by omega)).2 (by omega)
       have q2 := (hE_0_2_2 (r_0 + 2) (by omega)).2 (by omega)
       have q3 := (hE_0_2_3 (r_0 + 2) (by omega)).1 (by omega)
       omega)
    | (have q1 := (hE_0_2_1 (r_0 + 2) (by omega)).2 (by omega)
       have q2 := (hE_0_2_2 (r_0 + 2) (by omega)).2 (by omega)
       have q3 := (hE_0_2_3 (r_0 + 2) (by omega)).2 (by omega)
       omega)
    | (have q1 := (hE_0_2_1 (r_0 + 2) (by omega)).2 (by omega)
       have q2 := (hE_0_2_2 (r_0 + 2) (by omega)).2 (by omega)
       have q3 := (hE_0_2_3 (r_0 + 2) (by omega)).1 (by omega)
       have q4 : x13 = r_0 + 2 := by omega
       rw [q4] at h34
       omega)
set_option maxHeartbeats 4000000 in
theorem vc_Mo_groupItem_at_k0_20_2 (x3 : Int) (x13 : Int) (x15 : Int) (pos_0 : Int) (r_0 : Int) (k3 : 0 ≤ x3 ∧ x3 ≤ 2000) (k15 : 0 ≤ x15 ∧ x15 ≤ 2000) (f0 : 1 * x3 + ((-1) * x15 + 0) ≤ (-1)) (f7 : 1 * x15 + ((-1) * pos_0 + 0) ≤ 0) (kz_0_11 : 0 ≤ pos_0 ∧ pos_0 ≤ 2000) : 1 * x3 + ((-1) * pos_0 + 0) ≤ 0 := by
  first
    | omega
    | (have q1 := (hE_0_2_1 (r_0 + 2) (by omega)).2 (by omega)
       have q2 := (hE_0_2_2 (r_0 + 2) (by omega)).2 (by omega)
       omega)
    | (have q1 := (hE_0_2_1 (r_0 + 1) (by omega)).2 (by omega)
       have q2 := (hE_0_2_2 (r_0 + 1) (by omega)).2 (by omega)
       omega)
    | (have q1 := (hE_0_2_1 (r_0 + 2) (by omega)).2 (by omega)
       omega)
    | (have q1 := (hE_0_2_1 (r_0 + 1) (by omega)).2 (by omega)
       omega)
    | (have q1 := (hE_0_2_1 (r_0 + 2) (by omega)).2 (by omega)
       have q2 := (hE_0_2_2 (r_0 + 2) (by omega)).2 (by omega)
       have q3 := (hE_0_2_3 (r_0 + 2) (by omega)).1 (by omega)
       omega)
    | (have q1 := (hE_0_2_1 (r_0 + 2) (by omega)).2 (by omega)
       have q2 := (hE_0_2_2 (r_0 + 2) (by omega)).2 (by omega)
       have q3 := (hE_0_2_3 (r_0 + 2) (by omega)).2 (by omega)
       omega)
    | (have q1 := (hE_0_2_1 (r_0 + 2) (by omega)).2 (by omega)
       have q2 := (hE_0_2_2 (r_0 + 2) (by omega)).2 (by omega)
       have q3 := (hE_0_2_3 (r_0 + 2) (by omega)).1 (by omega)
       have q4 : x13 = r_0 + 2 := by omega
       rw [q4] at h34
       omega)
set_option maxHeartbeats 4000000 in
theorem vc_Mo_groupItem_at_k0_20_3 (x3 : Int) (x13 : Int) (x15 : Int) (pos_0 : Int) (fault_0 : Int) (r_0 : Int) (k3 : 0 ≤ x3 ∧ x3 ≤ 2000) (k15 : 0 ≤ x15 ∧ x15 ≤ 2000) (f0 : 1 * x3 + ((-1) * x15 + 0) ≤ (-1)) (f7 : 1 * x15 + ((-1) * pos_0 + 0) ≤ 0) (kz_0_8 : 0 ≤ fault_0 ∧ fault_0 ≤ 5) (kz_0_11 : 0 ≤ pos_0 ∧ pos_0 ≤ 2000) : (1 ≤ fault_0) ∨ ((x3 + 1) ≤ pos_0) := by
  first
    | omega
    | (have q1 := (hE_0_2_1 (r_0 + 2) (by omega)).2 (by omega)
       have q2 := (hE_0_2_2 (r_0 + 2) (by omega)).2 (by omega)
       omega)
    | (have q1 := (hE_0_2_1 (r_0 + 1) (by omega)).2 (by omega)
       have q2 := (hE_0_2_2 (r_0 + 1) (by omega)).2 (by omega)
       omega)
    | (have q1 := (hE_0_2_1 (r_0 + 2) (by omega)).2 (by omega)
       omega)
    | (have q1 := (hE_0_2_1 (r_0 + 1) (by omega)).2 (by omega)
       omega)
    | (have q1 := (hE_0_2_1 (r_0 + 2) (by omega)).2 (by omega)
       have q2 := (hE_0_2_2 (r_0 + 2) (by omega)).2 (by omega)
       have q3 := (hE_0_2_3 (r_0 + 2) (by omega)).1 (by omega)
       omega)
    | (have q1 := (hE_0_2_1 (r_0 + 2) (by omega)).2 (by omega)
       have q2 := (hE_0_2_2 (r_0 + 2) (by omega)).2 (by omega)
       have q3 := (hE_0_2_3 (r_0 + 2) (by omega)).2 (by omega)
       omega)
    | (have q1 := (hE_0_2_1 (r_0 + 2) (by omega)).2 (by omega)
       have q2 := (hE_0_2_2 (r_0 + 2) (by omega)).2 (by omega)
       have q3 := (hE_0_2_3 (r_0 + 2) (by omega)).1 (by omega)
       have q4 : x13 = r_0 + 2 := by omega
       rw [q4] at h34
       omega)
set_option maxHeartbeats 4000000 in
theorem vc_Mo_groupItem_at_k0_20_4 (x7 : Int) (x13 : Int) (all_0 : Int → Int) (r_0 : Int) (k7 : 0 ≤ x7 ∧ x7 ≤ 7) (f9 : (x7 + 1) ≤ all_0 ((r_0 + 2))) : (x7 + 1) ≤ all_0 ((r_0 + 2)) := by
  first
    | omega
    | (have q1 := (hE_0_2_1 (r_0 + 2) (by omega)).2 (by omega)
       have q2 := (hE_0_2_2 (r_0 + 2) (by omega)).2 (by omega)
       omega)
    | (have q1 := (hE_0_2_1 (r_0 + 1) (by omega)).2 (by omega)
       have q2 := (hE_0_2_2 (r_0 + 1) (by omega)).2 (by omega)
       omega)
    | (have q1 := (hE_0_2_1 (r_0 + 2) (by omega)).2 (by omega)
       omega)
    | (have q1 := (hE_0_2_1 (r_0 + 1) (by omega)).2 (by omega)
       omega)
    | (have q1 := (hE_0_2_1 (r_0 + 2) (by omega)).2 (by omega)
       have q2 := (hE_0_2_2 (r_0 + 2) (by omega)).2 (by omega)
       have q3 := (hE_0_2_3 (r_0 + 2) (by omega)).1 (by omega)
       omega)
    | (have q1 := (hE_0_2_1 (r_0 + 2) (by omega)).2 (by omega)
       have q2 := (hE_0_2_2 (r_0 + 2) (by omega)).2 (by omega)
       have q3 := (hE_0_2_3 (r_0 + 2) (by omega)).2 (by omega)
       omega)
    | (have q1 := (hE_0_2_1 (r_0 + 2) (by omega)).2 (by omega)
       have q2 := (hE_0_2_2 (r_0 + 2) (by omega)).2 (by omega)
       have q3 := (hE_0_2_3 (r_0 + 2) (by omega)).1 (by omega)
       have q4 : x13 = r_0 + 2 := by omega
       rw [q4] at h34
       omega)
set_option maxHeartbeats 4000000 in
theorem vc_Mo_groupItem_at_k0_20_5 (x1 : Int) (x7 : Int) (x13 : Int) (r_0 : Int) (k1 : 0 ≤ x1 ∧ x1 ≤ 0) (k7 : 0 ≤ x7 ∧ x7 ≤ 7) (f15 : 1 * x1 + ((-1) * x7 + 0) ≤ (-1)) : 1 * x1 + ((-1) * x7 + 0) ≤ (-1) := by
  first
    | omega
    | (have q1 := (hE_0_2_1 (r_0 + 2) (by omega)).2 (by omega)
       have q2 := (hE_0_2_2 (r_0 + 2) (by omega)).2 (by omega)
       omega)
    | (have q1 := (hE_0_2_1 (r_0 + 1) (by omega)).2 (by omega)
       have q2 := (hE_0_2_2 (r_0 + 1) (by omega)).2 (by omega)
       omega)
    | (have q1 := (hE_0_2_1 (r_0 + 2) (by omega)).2 (by omega)
       omega)
    | (have q1 := (hE_0_2_1 (r_0 + 1) (by omega)).2 (by omega)
       omega)
    | (have q1 := (hE_0_2_1 (r_0 + 2) (by omega)).2 (by omega)
       have q2 := (hE_0_2_2 (r_0 + 2) (by omega)).2 (by omega)
       have q3 := (hE_0_2_3 (r_0 + 2) (by omega)).1 (by omega)
       omega)
    | (have q1 := (hE_0_2_1 (r_0 + 2) (by omega)).2 (by omega)
       have q2 := (hE_0_2_2 (r_0 + 2) (by omega)).2 (by omega)
       have q3 := (hE_0_2_3 (r_0 + 2) (by omega)).2 (by omega)
       omega)
    | (have q1 := (hE_0_2_1 (r_0 + 2) (by omega)).2 (by omega)
       have q2 := (hE_0_2_2 (r_0 + 2) (by omega)).2 (by omega)
       have q3 := (hE_0_2_3 (r_0 + 2) (by omega)).1 (by omega)
       have q4 : x13 = r_0 + 2 := by omega
       rw [q4] at h34
       omega)
set_option maxHeartbeats 4000000 in
theorem vc_Mo_groupItem_at_k0_20_6 (all_0 : Int → Int) (r_0 : Int) (now_0 : Int → Int) (latest_0 : Int → Int) (f10 : RWS (r_0) (all_0) (now_0) (latest_0)) : RWS (r_0) (all_0) (now_0) (latest_0) := by
  first
    | assumption
set_option maxHeartbeats 4000000 in
theorem vc_Mo_groupItem_at_k0_20_7 (x9 : Int) (x13 : Int) (x15 : Int) (pos_0 : Int) (fault_0 : Int) (r_0 : Int) (gx : Int) (k9 : 0 ≤ x9 ∧ x9 ≤ 2005) (k15 : 0 ≤ x15 ∧ x15 ≤ 2000) (f1 : (-1) * x9 + ((-1) * x15 + 0) ≤ (-2005)) (f7 : 1 * x15 + ((-1) * pos_0 + 0) ≤ 0) (f8 : (1 ≤ fault_0) ∨ ((x15 + 1) ≤ pos_0)) (kz_0_8 : 0 ≤ fault_0 ∧ fault_0 ≤ 5) (kz_0_11 : 0 ≤ pos_0 ∧ pos_0 ≤ 2000) (ex2 : gx = 0 + (1 * x9 + 0)) : (-1) * gx + ((-1) * pos_0 + ((-1) * fault_0 + 0)) ≤ (-2006) := by
  first
    | omega
    | (have q1 := (hE_0_2_1 (r_0 + 2) (by omega)).2 (by omega)
       have q2 := (hE_0_2_2 (r_0 + 2) (by omega)).2 (by omega)
       omega)
    | (have q1 := (hE_0_2_1 (r_0 + 1) (by omega)).2 (by omega)
       have q2 := (hE_0_2_2 (r_0 + 1) (by omega)).2 (by omega)
       omega)
    | (have q1 := (hE_0_2_1 (r_0 + 2) (by omega)).2 (by omega)
       omega)
    | (have q1 := (hE_0_2_1 (r_0 + 1) (by omega)).2 (by omega)
       omega)
    | (have q1 := (hE_0_2_1 (r_0 + 2) (by omega)).2 (by omega)
       have q2 := (hE_0_2_2 (r_0 + 2) (by omega)).2 (by omega)
       have q3 := (hE_0_2_3 (r_0 + 2) (by omega)).1 (by omega)
       omega)
    | (have q1 := (hE_0_2_1 (r_0 + 2) (by omega)).2 (by omega)
       have q2 := (hE_0_2_2 (r_0 + 2) (by omega)).2 (by omega)
       have q3 := (hE_0_2_3 (r_0 + 2) (by omega)).2 (by omega)
       omega)
    | (have q1 := (hE_0_2_1 (r_0 + 2) (by omega)).2 (by omega)
       have q2 := (hE_0_2_2 (r_0 + 2) (by omega)).2 (by omega)
       have q3 := (hE_0_2_3 (r_0 + 2) (by omega)).1 (by omega)
       have q4 : x13 = r_0 + 2 := by omega
       rw [q4] at h34
       omega)
def o_Mo_groupItem_at_k0_20 : or_T := (194, 16, [(0, (2, 0, 0, [165])), (1, (0, 0, 0, [])), (3, (0, 0, 2000, [])), (4, (2, 0, 0, [165])), (5, (0, 0, 0, [])), (6, (0, 0, 0, [])), (7, (0, 0, 7, [])), (9, (0, 0, 2005, [])), (13, (0, 1, 1, [])), (14, (0, 1, 1, [])), (15, (0, 0, 2000, []))], [(23, [3, 15], [-1, 1, -1]), (23, [9, 15], [-2005, -1, -1]), (23, [5, 7], [-1, 1, -1]), (24, [0, 4], []), (24, [1, 5], []), (20, [4, 4], [30, 0, 1, 1, 15, -1, 1, 11]), (20, [4], [50, 3, 0, 12, 11, 15, 2, 21, 4, 7, 1, 3, 2, 0, 12, 0, 1, 0, 3, 2, 0, 11, 4, 3, 2, 0, 15, 0, 8, 3, 7, 1, 3, 2, 0, 12, 0, 0, 0, 7, 4, 3, 2, 0, 15, 0, 1, 2, 0, 11]), (20, [15, 4], [30, 0, 1, 0, 0, -1, 1, 11]), (20, [4, 15], [50, 2, 0, 8, 11, 3, 7, 0, 2, 0, 1, 2, 0, 8, 0, 6, 4, 2, 1, 1, 0, 1, 2, 0, 11]), (20, [7, 4], [50, 1, 1, 1005, 1002, 0, 6, 4, 2, 1, 0, 0, 1, 3, 1, 2, 4, 3, 2, 1, 5, 0, 2]), (20, [4], [60, 1, 3, 199, 5, 2, 3, 4]), (102, [15], [187072209578355573530071658587684226515959365500928, 165008, 165009, 165011, 165012, 165013, 165014, 165015]), (23, [3, 15], [-1, 1, -1]), (23, [9, 15], [-2005, -1, -1]), (1, [14, 6, 13], []), (23, [5, 7], [-1, 1, -1])], [], [(0, 0, 2005, [])], [(20, [4, 4], [30, 0, 1, 1, 15, -1, 1, 11]), (20, [4], [50, 3, 0, 12, 11, 15, 2, 21, 4, 7, 1, 3, 2, 0, 12, 0, 1, 0, 3, 2, 0, 11, 4, 3, 2, 0, 15, 0, 8, 3, 7, 1, 3, 2, 0, 12, 0, 0, 0, 7, 4, 3, 2, 0, 15, 0, 1, 2, 0, 11]), (20, [3, 4], [30, 0, 1, 0, 0, -1, 1, 11]), (20, [4, 3], [50, 2, 0, 8, 11, 3, 7, 0, 2, 0, 1, 2, 0, 8, 0, 6, 4, 2, 1, 1, 0, 1, 2, 0, 11]), (20, [7, 4], [50, 1, 1, 1005, 1002, 0, 6, 4, 2, 1, 0, 0, 1, 3, 1, 2, 4, 3, 2, 1, 5, 0, 2]), (23, [5, 7], [-1, 1, -1]), (20, [4], [60, 1, 3, 199, 5, 2, 3, 4]), (20, [16, 4, 4], [30, -2006, -1, 0, 0, -1, 1, 11, -1, 1, 8]), (24, [0, 4], []), (24, [1, 5], [])], [(16, 9, 0, 0)], [])
theorem oo_Mo_groupItem_at_k0_20 {kA : Nat → ClassId} : or_ok PRD kA GG o_Mo_groupItem_at_k0_20 := by
  refine or_mk fun A ta ws vs hD hth hl => ?_
  intro t0 r0 t1 k1 t3 k3 t4 r4 t5 k5 t6 k6 t7 k7 t9 k9 t13 k13 t14 k14 t15 k15 f0 f1 f2 f3 f4 f5 f6 f7 f8 f9 f10 ta1 w1 le1 s1 f12 f13 f14 f15
  replace f0 := shm_211 f0
  replace f1 := shm_2012 f1
  replace f2 := shm_211 f2
  replace f3 := shm_5 f3
  replace f4 := shm_5 f4
  replace f5 := shm_1397 f5
  replace f6 := shm_1398 f6
  replace f7 := shm_1395 f7
  replace f8 := shm_1659 f8
  replace f9 := shm_981 f9
  replace f10 := shm_952 f10
  replace f12 := shm_211 f12
  replace f13 := shm_2012 f13
  replace f14 := shm_12 f14
  replace f15 := shm_211 f15
  have q4 : n_v vs 4 = n_v vs 0 := f3.symm
  have q5 : n_v vs 5 = n_v vs 1 := f4.symm
  simp only [q5, q4] at f2 f5 f6 f7 f8 f9 f10 f15
  have cr_0_2 := fdq_12 hD hth r0
  have cr_0_3 := fdq_141 hD hth r0
  have cr_0_4 := fdq_142 hD hth r0
  have hK_0_3 := elq_77 hD hth cr_0_3
  have hK_0_4 := elq_78 hD hth cr_0_4
  have kz_0_8 := fdq_14 hD hth r0
  have kz_0_11 := fdq_273 hD hth r0
  have kz_0_12 := fdq_186 hD hth r0
  have kz_0_15 := fdq_274 hD hth r0
  obtain ⟨x, ex, hx⟩ := iv_ex (ta := ta) (lo := 0) (hi := 2005) (z := 0 + (1 * v_iv (n_v vs 9) + 0)) (by omega) (by omega) (by omega) (by omega)
  have ex2 : v_iv (Value.int x) = 0 + (1 * v_iv (n_v vs 9) + 0) := ex
  have ex3 : 0 ≤ v_iv (Value.int x) ∧ v_iv (Value.int x) ≤ 2005 := tv_rng hx
  have e_0 : n_v (vs ++ [Value.int x]) 0 = n_v vs 0 := n_v_old (by rw [hl]; decide)
  have e_1 : n_v (vs ++ [Value.int x]) 1 = n_v vs 1 := n_v_old (by rw [hl]; decide)
  have e_3 : n_v (vs ++ [Value.int x]) 3 = n_v vs 3 := n_v_old (by rw [hl]; decide)
  have e_4 : n_v (vs ++ [Value.int x]) 4 = n_v vs 4 := n_v_old (by rw [hl]; decide)
  have e_5 : n_v (vs ++ [Value.int x]) 5 = n_v vs 5 := n_v_old (by rw [hl]; decide)
  have e_7 : n_v (vs ++ [Value.int x]) 7 = n_v vs 7 := n_v_old (by rw [hl]; decide)
  have e_16 : n_v (vs ++ [Value.int x]) 16 = Value.int x := n_v_new hl
  have nf0 : fc_1 PRD (20, [4, 4], [30, 0, 1, 1, 15, -1, 1, 11]) ws (vs ++ [Value.int x]) := by
    refine ⟨nf_inA hl rfl, sgq_1397 ?_⟩
    · show 1 * w_fi ws (n_v (vs ++ [Value.int x]) 4) 15 + ((-1) * w_fi ws (n_v (vs ++ [Value.int x]) 4) 11 + 0) ≤ 0
      simp only [e_4, q4]
      exact vc_Mo_groupItem_at_k0_20_0 (v_iv (n_v vs 13)) (w_fi ws (n_v vs 0) 15) (w_fi ws (n_v vs 0) 11) (w_fi ws (n_v vs 0) 5) f5 kz_0_11 kz_0_15
  have nf1 : fc_1 PRD (20, [4], [50, 3, 0, 12, 11, 15, 2, 21, 4, 7, 1, 3, 2, 0, 12, 0, 1, 0, 3, 2, 0, 11, 4, 3, 2, 0, 15, 0, 8, 3, 7, 1, 3, 2, 0, 12, 0, 0, 0, 7, 4, 3, 2, 0, 15, 0, 1, 2, 0, 11]) ws (vs ++ [Value.int x]) := by
    refine ⟨nf_inA hl rfl, sgq_1398 ?_⟩
    · show ((w_fi ws (n_v (vs ++ [Value.int x]) 4) 12 = 1) → (w_fi ws (n_v (vs ++ [Value.int x]) 4) 11 ≤ (w_fi ws (n_v (vs ++ [Value.int x]) 4) 15 + 8))) ∧ ((w_fi ws (n_v (vs ++ [Value.int x]) 4) 12 = 0) ∨ ((w_fi ws (n_v (vs ++ [Value.int x]) 4) 15 + 1) ≤ w_fi ws (n_v (vs ++ [Value.int x]) 4) 11))
      simp only [e_4, q4]
      exact vc_Mo_groupItem_at_k0_20_1 (v_iv (n_v vs 13)) (w_fi ws (n_v vs 0) 15) (w_fi ws (n_v vs 0) 11) (w_fi ws (n_v vs 0) 12) (w_fi ws (n_v vs 0) 5) f6 kz_0_11 kz_0_12 kz_0_15
  have nf2 : fc_1 PRD (20, [3, 4], [30, 0, 1, 0, 0, -1, 1, 11]) ws (vs ++ [Value.int x]) := by
    refine ⟨nf_inA hl rfl, sgq_1395 ?_⟩
    · show 1 * v_iv (n_v (vs ++ [Value.int x]) 3) + ((-1) * w_fi ws (n_v (vs ++ [Value.int x]) 4) 11 + 0) ≤ 0
      simp only [e_3, e_4, q4]
      exact vc_Mo_groupItem_at_k0_20_2 (v_iv (n_v vs 3)) (v_iv (n_v vs 13)) (v_iv (n_v vs 15)) (w_fi ws (n_v vs 0) 11) (w_fi ws (n_v vs 0) 5) k3 k15 f0 f7 kz_0_11
  have nf3 : fc_1 PRD (20, [4, 3], [50, 2, 0, 8, 11, 3, 7, 0, 2, 0, 1, 2, 0, 8, 0, 6, 4, 2, 1, 1, 0, 1, 2, 0, 11]) ws (vs ++ [Value.int x]) := by
    refine ⟨nf_inA hl rfl, sgq_1659 ?_⟩
    · show (1 ≤ w_fi ws (n_v (vs ++ [Value.int x]) 4) 8) ∨ ((v_iv (n_v (vs ++ [Value.int x]) 3) + 1) ≤ w_fi ws (n_v (vs ++ [Value.int x]) 4) 11)
      simp only [e_3, e_4, q4]
      exact vc_Mo_groupItem_at_k0_20_3 (v_iv (n_v vs 3)) (v_iv (n_v vs 13)) (v_iv (n_v vs 15)) (w_fi ws (n_v vs 0) 11) (w_fi ws (n_v vs 0) 8) (w_fi ws (n_v vs 0) 5) k3 k15 f0 f7 kz_0_8 kz_0_11
  have nf4 : fc_1 PRD (20, [7, 4], [50, 1, 1, 1005, 1002, 0, 6, 4, 2, 1, 0, 0, 1, 3, 1, 2, 4, 3, 2, 1, 5, 0, 2]) ws (vs ++ [Value.int x]) := by
    refine ⟨nf_inA hl rfl, sgq_981 ?_⟩
    · show (v_iv (n_v (vs ++ [Value.int x]) 7) + 1) ≤ w_ei ws (w_ar ws (n_v (vs ++ [Value.int x]) 4) 2) ((w_fi ws (n_v (vs ++ [Value.int x]) 4) 5 + 2))
      simp only [e_4, e_7, q4]
      exact vc_Mo_groupItem_at_k0_20_4 (v_iv (n_v vs 7)) (v_iv (n_v vs 13)) (w_ei ws (w_ar ws (n_v vs 0) 2)) (w_fi ws (n_v vs 0) 5) k7 f9
  have nf5 : fc_1 PRD (23, [5, 7], [-1, 1, -1]) ws (vs ++ [Value.int x]) := by
    refine ⟨nf_inA hl rfl, sgq_211 ?_⟩
    · show 1 * v_iv (n_v (vs ++ [Value.int x]) 5) + ((-1) * v_iv (n_v (vs ++ [Value.int x]) 7) + 0) ≤ (-1)
      simp only [e_5, e_7, q5]
      exact vc_Mo_groupItem_at_k0_20_5 (v_iv (n_v vs 1)) (v_iv (n_v vs 7)) (v_iv (n_v vs 13)) (w_fi ws (n_v vs 0) 5) k1 k7 f15
  have nf6 : fc_1 PRD (20, [4], [60, 1, 3, 199, 5, 2, 3, 4]) ws (vs ++ [Value.int x]) := by
    refine ⟨nf_inA hl rfl, sgq_952 ?_⟩
    · show RWS (w_fi ws (n_v (vs ++ [Value.int x]) 4) 5) (w_ei ws (w_ar ws (n_v (vs ++ [Value.int x]) 4) 2)) (w_ei ws (w_ar ws (n_v (vs ++ [Value.int x]) 4) 3)) (w_ei ws (w_ar ws (n_v (vs ++ [Value.int x]) 4) 4))
      simp only [e_4, q4]
      exact vc_Mo_groupItem_at_k0_20_6 (w_ei ws (w_ar ws (n_v vs 0) 2)) (w_fi ws (n_v vs 0) 5) (w_ei ws (w_ar ws (n_v vs 0) 3)) (w_ei ws (w_ar ws (n_v vs 0) 4)) f10
  have nf7 : fc_1 PRD (20, [16, 4, 4], [30, -2006, -1, 0, 0, -1, 1, 11, -1, 1, 8]) ws (vs ++ [Value.int x]) := by
    refine ⟨nf_inA hl rfl, sgq_2013 ?_⟩
    · show (-1) * v_iv (n_v (vs ++ [Value.int x]) 16) + ((-1) * w_fi ws (n_v (vs ++ [Value.int x]) 4) 11 + ((-1) * w_fi ws (n_v (vs ++ [Value.int x]) 4) 8 + 0)) ≤ (-2006)
      simp only [e_4, e_16, q4]
      exact vc_Mo_groupItem_at_k0_20_7 (v_iv (n_v vs 9)) (v_iv (n_v vs 13)) (v_iv (n_v vs 15)) (w_fi ws (n_v vs 0) 11) (w_fi ws (n_v vs 0) 8) (w_fi ws (n_v vs 0) 5) (v_iv (Value.int x)) k9 k15 f1 f7 f8 kz_0_8 kz_0_11 ex2
  have nf8 : fc_1 PRD (24, [0, 4], []) ws (vs ++ [Value.int x]) := by
    refine ⟨nf_inA hl rfl, sgq_5 ?_⟩
    · show n_v (vs ++ [Value.int x]) 0 = n_v (vs ++ [Value.int x]) 4
      first | rfl | simp only [e_0, e_4, q4, q5]
  have nf9 : fc_1 PRD (24, [1, 5], []) ws (vs ++ [Value.int x]) := by
    refine ⟨nf_inA hl rfl, sgq_5 ?_⟩
    · show n_v (vs ++ [Value.int x]) 1 = n_v (vs ++ [Value.int x]) 5
      first | rfl | simp only [e_1, e_5, q4, q5]
  obtain ⟨x0, e0, _, _⟩ := tv_int t9 rfl
  have e1 : v_iv (n_v vs 9) = x0.toInt := by rw [e0]; rfl
  have ho : sy_ofs (vs ++ [Value.int x]) (16, 9, 0, 0) := by
    refine ⟨x, x0, by rw [List.getElem?_append_right (by rw [hl]; decide), hl]; rfl, ?_, ?_, ?_⟩
    · rw [List.getElem?_append_left (by rw [hl]; decide)]; exact n_v_some (by rw [hl]; decide) e0
    · show x0.toInt + 0 ≤ x.toInt; omega
    · show x.toInt ≤ x0.toInt + 0; omega
  exact ⟨(fun _ h => (by cases h)), [Value.int x], ag_one hx, List.forall_mem_cons.mpr ⟨⟨show (20 : Nat) < 100 from by decide, nf0⟩, List.forall_mem_cons.mpr ⟨⟨show (20 : Nat) < 100 from by decide, nf1⟩, List.forall_mem_cons.mpr ⟨⟨show (20 : Nat) < 100 from by decide, nf2⟩, List.forall_mem_cons.mpr ⟨⟨show (20 : Nat) < 100 from by decide, nf3⟩, List.forall_mem_cons.mpr ⟨⟨show (20 : Nat) < 100 from by decide, nf4⟩, List.forall_mem_cons.mpr ⟨⟨show (23 : Nat) < 100 from by decide, nf5⟩, List.forall_mem_cons.mpr ⟨⟨show (20 : Nat) < 100 from by decide, nf6⟩, List.forall_mem_cons.mpr ⟨⟨show (20 : Nat) < 100 from by decide, nf7⟩, List.forall_mem_cons.mpr ⟨⟨show (24 : Nat) < 100 from by decide, nf8⟩, List.forall_mem_cons.mpr ⟨⟨show (24 : Nat) < 100 from by decide, nf9⟩, (fun _ h => (by cases h))⟩⟩⟩⟩⟩⟩⟩⟩⟩⟩, List.forall_mem_cons.mpr ⟨ho, (fun _ h => (by cases h))⟩⟩
set_option maxHeartbeats 4000000 in
theorem vc_Mo_groupItem_at_k0_21_0 (x3 : Int) (r_0 : Int) (gx : Int) (k3 : 0 ≤ x3 ∧ x3 ≤ 2000) (ex2 : gx = x3) : 1 * gx + ((-1) * x3 + 0) ≤ 0 := by
  first
    | omega
    | (have q1 := (hE_0_2_1 (r_0 + 2) (by omega)).2 (by omega)
       have q2 := (hE_0_2_2 (r_0 + 2) (by omega)).2 (by omega)
       omega)
    | (have q1 := (hE_0_2_1 (r_0 + 1) (by omega)).2 (by omega)
       have q2 := (hE_0_2_2 (r_0 + 1) (by omega)).2 (by omega)
       omega)
    | (have q1 := (hE_0_2_1 (r_0 + 2) (by omega)).2 (by omega)
       omega)
    | (have q1 := (hE_0_2_1 (r_0 + 1) (by omega)).2 (by omega)
       omega)
    | (have q1 := (hE_0_2_1 (r_0 + 2) (by omega)).2 (by omega)
       have q2 := (hE_0_2_2 (r_0 + 2) (by omega)).2 (by omega)
       have q3 := (hE_0_2_3 (r_0 + 2) (by omega)).1 (by omega)
       omega)
    | (have q1 := (hE_0_2_1 (r_0 + 2) (by omega)).2 (by omega)
       have q2 := (hE_0_2_2 (r_0 + 2) (by omega)).2 (by omega)
       have q3 := (hE_0_2_3 (r_0 + 2) (by omega)).2 (by omega)
       omega)
    | (have q1 := (hE_0_2_1 (r_0 + 2) (by omega)).2 (by omega)
       have q2 := (hE_0_2_2 (r_0 + 2) (by omega)).2 (by omega)
       have q3 := (hE_0_2_3 (r_0 + 2) (by omega)).1 (by omega)
       have q4 : x13 = r_0 + 2 := by omega
       rw [q4] at h34
       omega)
set_option maxHeartbeats 4000000 in
theorem vc_Mo_groupItem_at_k0_21_1 (x3 : Int) (r_0 : Int) (gx : Int) (k3 : 0 ≤ x3 ∧ x3 ≤ 2000) (ex2 : gx = x3) : (-1) * gx + (1 * x3 + 0) ≤ 0 := by
  first
    | omega
    | (have q1 := (hE_0_2_1 (r_0 + 2) (by omega)).2 (by omega)
       have q2 := (hE_0_2_2 (r_0 + 2) (by omega)).2 (by omega)
       omega)
    | (have q1 := (hE_0_2_1 (r_0 + 1) (by omega)).2 (by omega)
       have q2 := (hE_0_2_2 (r_0 + 1) (by omega)).2 (by omega)
       omega)
    | (have q1 := (hE_0_2_1 (r_0 + 2) (by omega)).2 (by omega)
       omega)
    | (have q1 := (hE_0_2_1 (r_0 + 1) (by omega)).2 (by omega)
       omega)
    | (have q1 := (hE_0_2_1 (r_0 + 2) (by omega)).2 (by omega)
       have q2 := (hE_0_2_2 (r_0 + 2) (by omega)).2 (by omega)
       have q3 := (hE_0_2_3 (r_0 + 2) (by omega)).1 (by omega)
       omega)
    | (have q1 := (hE_0_2_1 (r_0 + 2) (by omega)).2 (by omega)
       have q2 := (hE_0_2_2 (r_0 + 2) (by omega)).2 (by omega)
       have q3 := (hE_0_2_3 (r_0 + 2) (by omega)).2 (by omega)
       omega)
    | (have q1 := (hE_0_2_1 (r_0 + 2) (by omega)).2 (by omega)
       have q2 := (hE_0_2_2 (r_0 + 2) (by omega)).2 (by omega)
       have q3 := (hE_0_2_3 (r_0 + 2) (by omega)).1 (by omega)
       have q4 : x13 = r_0 + 2 := by omega
       rw [q4] at h34
       omega)
set_option maxHeartbeats 4000000 in
theorem vc_Mo_groupItem_at_k0_21_2 (from_0 : Int) (pos_0 : Int) (r_0 : Int) (f4 : 1 * from_0 + ((-1) * pos_0 + 0) ≤ 0) (kz_0_11 : 0 ≤ pos_0 ∧ pos_0 ≤ 2000) (kz_0_15 : 0 ≤ from_0 ∧ from_0 ≤ 2000) : 1 * from_0 + ((-1) * pos_0 + 0) ≤ 0 := by
  first
    | omega
    | (have q1 := (hE_0_2_1 (r_0 + 2) (by omega)).2 (by omega)
       have q2 := (hE_0_2_2 (r_0 + 2) (by omega)).2 (by omega)
       omega)
    | (have q1 := (hE_0_2_1 (r_0 + 1) (by omega)).2 (by omega)
       have q2 := (hE_0_2_2 (r_0 + 1) (by omega)).2 (by omega)
       omega)
    | (have q1 := (hE_0_2_1 (r_0 + 2) (by omega)).2 (by omega)
       omega)
    | (have q1 := (hE_0_2_1 (r_0 + 1) (by omega)).2 (by omega)
       omega)
    | (have q1 := (hE_0_2_1 (r_0 + 2) (by omega)).2 (by omega)
       have q2 := (hE_0_2_2 (r_0 + 2) (by omega)).2 (by omega)
       have q3 := (hE_0_2_3 (r_0 + 2) (by omega)).1 (by omega)
       omega)
    | (have q1 := (hE_0_2_1 (r_0 + 2) (by omega)).2 (by omega)
       have q2 := (hE_0_2_2 (r_0 + 2) (by omega)).2 (by omega)
       have q3 := (hE_0_2_3 (r_0 + 2) (by omega)).2 (by omega)
       omega)
    | (have q1 := (hE_0_2_1 (r_0 + 2) (by omega)).2 (by omega)
       have q2 := (hE_0_2_2 (r_0 + 2) (by omega)).2 (by omega)
       have q3 := (hE_0_2_3 (r_0 + 2) (by omega)).1 (by omega)
       have q4 : x13 = r_0 + 2 := by omega
       rw [q4] at h34
       omega)
set_option maxHeartbeats 4000000 in
theorem vc_Mo_groupItem_at_k0_21_3 (kind_0 : Int) (from_0 : Int) (pos_0 : Int) (r_0 : Int) (f5 : ((kind_0 = 1) → (pos_0 ≤ (from_0 + 8))) ∧ ((kind_0 = 0) ∨ ((from_0 + 1) ≤ pos_0))) (kz_0_11 : 0 ≤ pos_0 ∧ pos_0 ≤ 2000) (kz_0_12 : 0 ≤ kind_0 ∧ kind_0 ≤ 4) (kz_0_15 : 0 ≤ from_0 ∧ from_0 ≤ 2000) : ((kind_0 = 1) → (pos_0 ≤ (from_0 + 8))) ∧ ((kind_0 = 0) ∨ ((from_0 + 1) ≤ pos_0)) := by
  first
    | omega
    | (have q1 := (hE_0_2_1 (r_0 + 2) (by omega)).2 (by omega)
       have q2 := (hE_0_2_2 (r_0 + 2) (by omega)).2 (by omega)
       omega)
    | (have q1 := (hE_0_2_1 (r_0 + 1) (by omega)).2 (by omega)
       have q2 := (hE_0_2_2 (r_0 + 1) (by omega)).2 (by omega)
       omega)
    | (have q1 := (hE_0_2_1 (r_0 + 2) (by omega)).2 (by omega)
       omega)
    | (have q1 := (hE_0_2_1 (r_0 + 1) (by omega)).2 (by omega)
       omega)
    | (have q1 := (hE_0_2_1 (r_0 + 2) (by omega)).2 (by omega)
       have q2 := (hE_0_2_2 (r_0 + 2) (by omega)).2 (by omega)
       have q3 := (hE_0_2_3 (r_0 + 2) (by omega)).1 (by omega)
       omega)
    | (have q1 := (hE_0_2_1 (r_0 + 2) (by omega)).2 (by omega)
       have q2 := (hE_0_2_2 (r_0 + 2) (by omega)).2 (by omega)
       have q3 := (hE_0_2_3 (r_0 + 2) (by omega)).2 (by omega)
       omega)
    | (have q1 := (hE_0_2_1 (r_0 + 2) (by omega)).2 (by omega)
       have q2 := (hE_0_2_2 (r_0 + 2) (by omega)).2 (by omega)
       have q3 := (hE_0_2_3 (r_0 + 2) (by omega)).1 (by omega)
       have q4 : x13 = r_0 + 2 := by omega
       rw [q4] at h34
       omega)
set_option maxHeartbeats 4000000 in
theorem vc_Mo_groupItem_at_k0_21_4 (x3 : Int) (pos_0 : Int) (r_0 : Int) (gx : Int) (k3 : 0 ≤ x3 ∧ x3 ≤ 2000) (f6 : 1 * x3 + ((-1) * pos_0 + 0) ≤ 0) (kz_0_11 : 0 ≤ pos_0 ∧ pos_0 ≤ 2000) (ex2 : gx = x3) : 1 * gx + ((-1) * pos_0 + 0) ≤ 0 := by
  first
    | omega
    | (have q1 := (hE_0_2_1 (r_0 + 2) (by omega)).2 (by omega)
       have q2 := (hE_0_2_2 (r_0 + 2) (by omega)).2 (by omega)
       omega)
    | (have q1 := (hE_0_2_1 (r_0 + 1) (by omega)).2 (by omega)
       have q2 := (hE_0_2_2 (r_0 + 1) (by omega)).2 (by omega)
       omega)
    | (have q1 := (hE_0_2_1 (r_0 + 2) (by omega)).2 (by omega)
       omega)
    | (have q1 := (hE_0_2_1 (r_0 + 1) (by omega)).2 (by omega)
       omega)
    | (have q1 := (hE_0_2_1 (r_0 + 2) (by omega)).2 (by omega)
       have q2 := (hE_0_2_2 (r_0 + 2) (by omega)).2 (by omega)
       have q3 := (hE_0_2_3 (r_0 + 2) (by omega)).1 (by omega)
       omega)
    | (have q1 := (hE_0_2_1 (r_0 + 2) (by omega)).2 (by omega)
       have q2 := (hE_0_2_2 (r_0 + 2) (by omega)).2 (by omega)
       have q3 := (hE_0_2_3 (r_0 + 2) (by omega)).2 (by omega)
       omega)
    | (have q1 := (hE_0_2_1 (r_0 + 2) (by omega)).2 (by omega)
       have q2 := (hE_0_2_2 (r_0 + 2) (by omega)).2 (by omega)
       have q3 := (hE_0_2_3 (r_0 + 2) (by omega)).1 (by omega)
       have q4 : x13 = r_0 + 2 := by omega
       rw [q4] at h34
       omega)
set_option maxHeartbeats 4000000 in
theorem vc_Mo_groupItem_at_k0_21_5 (x3 : Int) (x10 : Int) (kind_0 : Int) (fault_0 : Int) (pos_0 : Int) (r_0 : Int) (gx : Int) (k3 : 0 ≤ x3 ∧ x3 ≤ 2000) (k10 : 0 ≤ x10 ∧ x10 ≤ 0) (g3 : x10 = fault_0) (f6 : 1 * x3 + ((-1) * pos_0 + 0) ≤ 0) (f7 : (1 ≤ fault_0) ∨ ((x3 + 1) ≤ pos_0)) (kz_0_8 : 0 ≤ fault_0 ∧ fault_0 ≤ 5) (kz_0_11 : 0 ≤ pos_0 ∧ pos_0 ≤ 2000) (kz_0_12 : 0 ≤ kind_0 ∧ kind_0 ≤ 4) (ex2 : gx = x3) : (1 ≤ fault_0) ∨ ((kind_0 = 0) ∨ ((gx + 1) ≤ pos_0)) := by
  first
    | omega
    | (have q1 := (hE_0_2_1 (r_0 + 2) (by omega)).2 (by omega)
       have q2 := (hE_0_2_2 (r_0 + 2) (by omega)).2 (by omega)
       omega)
    | (have q1 := (hE_0_2_1 (r_0 + 1) (by omega)).2 (by omega)
       have q2 := (hE_0_2_2 (r_0 + 1) (by omega)).2 (by omega)
       omega)
    | (have q1 := (hE_0_2_1 (r_0 + 2) (by omega)).2 (by omega)
       omega)
    | (have q1 := (hE_0_2_1 (r_0 + 1) (by omega)).2 (by omega)
       omega)
    | (have q1 := (hE_0_2_1 (r_0 + 2) (by omega)).2 (by omega)
       have q2 := (hE_0_2_2 (r_0 + 2) (by omega)).2 (by omega)
       have q3 := (hE_0_2_3 (r_0 + 2) (by omega)).1 (by omega)
       omega)
    | (have q1 := (hE_0_2_1 (r_0 + 2) (by omega)).2 (by omega)
       have q2 := (hE_0_2_2 (r_0 + 2) (by omega)).2 (by omega)
       have q3 := (hE_0_2_3 (r_0 + 2) (by omega)).2 (by omega)
       omega)
    | (have q1 := (hE_0_2_1 (r_0 + 2) (by omega)).2 (by omega)
       have q2 := (hE_0_2_2 (r_0 + 2) (by omega)).2 (by omega)
       have q3 := (hE_0_2_3 (r_0 + 2) (by omega)).1 (by omega)
       have q4 : x13 = r_0 + 2 := by omega
       rw [q4] at h34
       omega)
def o_Mo_groupItem_at_k0_21 : or_T := (200, 14, [(0, (2, 0, 0, [165])), (3, (0, 0, 2000, [])), (10, (0, 0, 0, []))], [(9, [10, 4], [8]), (20, [4, 4], [30, 0, 1, 1, 15, -1, 1, 11]), (20, [4], [50, 3, 0, 12, 11, 15, 2, 21, 4, 7, 1, 3, 2, 0, 12, 0, 1, 0, 3, 2, 0, 11, 4, 3, 2, 0, 15, 0, 8, 3, 7, 1, 3, 2, 0, 12, 0, 0, 0, 7, 4, 3, 2, 0, 15, 0, 1, 2, 0, 11]), (20, [3, 4], [30, 0, 1, 0, 0, -1, 1, 11]), (20, [4, 3], [50, 2, 0, 8, 11, 3, 7, 0, 2, 0, 1, 2, 0, 8, 0, 6, 4, 2, 1, 1, 0, 1, 2, 0, 11]), (24, [0, 4], [])], [], [(0, 0, 2000, [])], [(23, [14, 3], [0, 1, -1]), (23, [14, 3], [0, -1, 1]), (20, [4, 4], [30, 0, 1, 1, 15, -1, 1, 11]), (20, [4], [50, 3, 0, 12, 11, 15, 2, 21, 4, 7, 1, 3, 2, 0, 12, 0, 1, 0, 3, 2, 0, 11, 4, 3, 2, 0, 15, 0, 8, 3, 7, 1, 3, 2, 0, 12, 0, 0, 0, 7, 4, 3, 2, 0, 15, 0, 1, 2, 0, 11]), (20, [14, 4], [30, 0, 1, 0, 0, -1, 1, 11]), (20, [4, 14], [50, 3, 0, 8, 12, 11, 3, 7, 0, 2, 0, 1, 2, 0, 8, 3, 7, 1, 3, 2, 0, 12, 0, 0, 0, 6, 4, 2, 1, 1, 0, 1, 2, 0, 11])], [], [])
theorem oo_Mo_groupItem_at_k0_21 {kA : Nat → ClassId} : or_ok PRD kA GG o_Mo_groupItem_at_k0_21 := by
  refine or_mk fun A ta ws vs hD hth hl => ?_
  intro t0 r0 t3 k3 t10 k10 f3 f4 f5 f6 f7 f11
  replace f3 := shm_143 f3
  replace f4 := shm_1397 f4
  replace f5 := shm_1398 f5
  replace f6 := shm_1395 f6
  replace f7 := shm_1659 f7
  replace f11 := shm_5 f11
  have q4 : n_v vs 4 = n_v vs 0 := f11.symm
  simp only [q4] at f3 f4 f5 f6 f7
  have g3 : v_iv (n_v vs 10) = w_fi ws (n_v vs 0) 8 := congrArg v_iv f3
  have kz_0_8 := fdq_14 hD hth r0
  have kz_0_11 := fdq_273 hD hth r0
  have kz_0_12 := fdq_186 hD hth r0
  have kz_0_15 := fdq_274 hD hth r0
  obtain ⟨x, ex, hx⟩ := iv_ex (ta := ta) (lo := 0) (hi := 2000) (z := v_iv (n_v vs 3)) (by omega) (by omega) (by omega) (by omega)
  have ex2 : v_iv (Value.int x) = v_iv (n_v vs 3) := ex
  have ex3 : 0 ≤ v_iv (Value.int x) ∧ v_iv (Value.int x) ≤ 2000 := tv_rng hx
  have e_3 : n_v (vs ++ [Value.int x]) 3 = n_v vs 3 := n_v_old (by rw [hl]; decide)
  have e_4 : n_v (vs ++ [Value.int x]) 4 = n_v vs 4 := n_v_old (by rw [hl]; decide)
  have e_14 : n_v (vs ++ [Value.int x]) 14 = Value.int x := n_v_new hl
  have nf0 : fc_1 PRD (23, [14, 3], [0, 1, -1]) ws (vs ++ [Value.int x]) := by
    refine ⟨nf_inA hl rfl, sgq_7 ?_⟩
    · show 1 * v_iv (n_v (vs ++ [Value.int x]) 14) + ((-1) * v_iv (n_v (vs ++ [Value.int x]) 3) + 0) ≤ 0
      simp only [e_3, e_14]
      exact vc_Mo_groupItem_at_k0_21_0 (v_iv (n_v vs 3)) (w_fi ws (n_v vs 0) 5) (v_iv (Value.int x)) k3 ex2
  have nf1 : fc_1 PRD (23, [14, 3], [0, -1, 1]) ws (vs ++ [Value.int x]) := by
    refine ⟨nf_inA hl rfl, sgq_22 ?_⟩
    · show (-1) * v_iv (n_v (vs ++ [Value.int x]) 14) + (1 * v_iv (n_v (vs ++ [Value.int x]) 3) + 0) ≤ 0
      simp only [e_3, e_14]
      exact vc_Mo_groupItem_at_k0_21_1 (v_iv (n_v vs 3)) (w_fi ws (n_v vs 0) 5) (v_iv (Value.int x)) k3 ex2
  have nf2 : fc_1 PRD (20, [4, 4], [30, 0, 1, 1, 15, -1, 1, 11]) ws (vs ++ [Value.int x]) := by
    refine ⟨nf_inA hl rfl, sgq_1397 ?_⟩
    · show 1 * w_fi ws (n_v (vs ++ [Value.int x]) 4) 15 + ((-1) * w_fi ws (n_v (vs ++ [Value.int x]) 4) 11 + 0) ≤ 0
      simp only [e_4, q4]
      exact vc_Mo_groupItem_at_k0_21_2 (w_fi ws (n_v vs 0) 15) (w_fi ws (n_v vs 0) 11) (w_fi ws (n_v vs 0) 5) f4 kz_0_11 kz_0_15
  have nf3 : fc_1 PRD (20, [4], [50, 3, 0, 12, 11, 15, 2, 21, 4, 7, 1, 3, 2, 0, 12, 0, 1, 0, 3, 2, 0, 11, 4, 3, 2, 0, 15, 0, 8, 3, 7, 1, 3, 2, 0, 12, 0, 0, 0, 7, 4, 3, 2, 0, 15, 0, 1, 2, 0, 11]) ws (vs ++ [Value.int x]) := by
    refine ⟨nf_inA hl rfl, sgq_1398 ?_⟩
    · show ((w_fi ws (n_v (vs ++ [Value.int x]) 4) 12 = 1) → (w_fi ws (n_v (vs ++ [Value.int x]) 4) 11 ≤ (w_fi ws (n_v (vs ++ [Value.int x]) 4) 15 + 8))) ∧ ((w_fi ws (n_v (vs ++ [Value.int x]) 4) 12 = 0) ∨ ((w_fi ws (n_v (vs ++ [Value.int x]) 4) 15 + 1) ≤ w_fi ws (n_v (vs ++ [Value.int x]) 4) 11))
      simp only [e_4, q4]
      exact vc_Mo_groupItem_at_k0_21_3 (w_fi ws (n_v vs 0) 12) (w_fi ws (n_v vs 0) 15) (w_fi ws (n_v vs 0) 11) (w_fi ws (n_v vs 0) 5) f5 kz_0_11 kz_0_12 kz_0_15
  have nf4 : fc_1 PRD (20, [14, 4], [30, 0, 1, 0, 0, -1, 1, 11]) ws (vs ++ [Value.int x]) := by
    refine ⟨nf_inA hl rfl, sgq_1395 ?_⟩
    · show 1 * v_iv (n_v (vs ++ [Value.int x]) 14) + ((-1) * w_fi ws (n_v (vs ++ [Value.int x]) 4) 11 + 0) ≤ 0
      simp only [e_4, e_14, q4]
      exact vc_Mo_groupItem_at_k0_21_4 (v_iv (n_v vs 3)) (w_fi ws (n_v vs 0) 11) (w_fi ws (n_v vs 0) 5) (v_iv (Value.int x)) k3 f6 kz_0_11 ex2
  have nf5 : fc_1 PRD (20, [4, 14], [50, 3, 0, 8, 12, 11, 3, 7, 0, 2, 0, 1, 2, 0, 8, 3, 7, 1, 3, 2, 0, 12, 0, 0, 0, 6, 4, 2, 1, 1, 0, 1, 2, 0, 11]) ws (vs ++ [Value.int x]) := by
    refine ⟨nf_inA hl rfl, sgq_1660 ?_⟩
    · show (1 ≤ w_fi ws (n_v (vs ++ [Value.int x]) 4) 8) ∨ ((w_fi ws (n_v (vs ++ [Value.int x]) 4) 12 = 0) ∨ ((v_iv (n_v (vs ++ [Value.int x]) 14) + 1) ≤ w_fi ws (n_v (vs ++ [Value.int x]) 4) 11))
      simp only [e_4, e_14, q4]
      exact vc_Mo_groupItem_at_k0_21_5 (v_iv (n_v vs 3)) (v_iv (n_v vs 10)) (w_fi ws (n_v vs 0) 12) (w_fi ws (n_v vs 0) 8) (w_fi ws (n_v vs 0) 11) (w_fi ws (n_v vs 0) 5) (v_iv (Value.int x)) k3 k10 g3 f6 f7 kz_0_8 kz_0_11 kz_0_12 ex2
  exact ⟨(fun _ h => (by cases h)), [Value.int x], ag_one hx, List.forall_mem_cons.mpr ⟨⟨show (23 : Nat) < 100 from by decide, nf0⟩, List.forall_mem_cons.mpr ⟨⟨show (23 : Nat) < 100 from by decide, nf1⟩, List.forall_mem_cons.mpr ⟨⟨show (20 : Nat) < 100 from by decide, nf2⟩, List.forall_mem_cons.mpr ⟨⟨show (20 : Nat) < 100 from by decide, nf3⟩, List.forall_mem_cons.mpr ⟨⟨show (20 : Nat) < 100 from by decide, nf4⟩, List.forall_mem_cons.mpr ⟨⟨show (20 : Nat) < 100 from by decide, nf5⟩, (fun _ h => (by cases h))⟩⟩⟩⟩⟩⟩, (fun _ h => (by cases h))⟩
set_option maxHeartbeats 4000000 in
theorem vc_Mo_groupItem_at_k0_22_0 (r_0 : Int) (from_0 : Int) (pos_0 : Int) (f7 : 1 * from_0 + ((-1) * pos_0 + 0) ≤ 0) (kz_0_11 : 0 ≤ pos_0 ∧ pos_0 ≤ 2000) (kz_0_15 : 0 ≤ from_0 ∧ from_0 ≤ 2000) : 1 * from_0 + ((-1) * pos_0 + 0) ≤ 0 := by
  first
    | omega
    | (have q1 := (hE_0_2_1 (r_0 + 2) (by omega)).2 (by omega)
       have q2 := (hE_0_2_2 (r_0 + 2) (by omega)).2 (by omega)
       omega)
    | (have q1 := (hE_0_2_1 (r_0 + 1) (by omega)).2 (by omega)
       have q2 := (hE_0_2_2 (r_0 + 1) (by omega)).2 (by omega)
       omega)
    | (have q1 := (hE_0_2_1 (r_0 + 2) (by omega)).2 (by omega)
       omega)
    | (have q1 := (hE_0_2_1 (r_0 + 1) (by omega)).2 (by omega)
       omega)
    | (have q1 := (hE_0_2_1 (r_0 + 2) (by omega)).2 (by omega)
       have q2 := (hE_0_2_2 (r_0 + 2) (by omega)).2 (by omega)
       have q3 := (hE_0_2_3 (r_0 + 2) (by omega)).1 (by omega)
       omega)
    | (have q1 := (hE_0_2_1 (r_0 + 2) (by omega)).2 (by omega)
       have q2 := (hE_0_2_2 (r_0 + 2) (by omega)).2 (by omega)
       have q3 := (hE_0_2_3 (r_0 + 2) (by omega)).2 (by omega)
       omega)
    | (have q1 := (hE_0_2_1 (r_0 + 2) (by omega)).2 (by omega)
       have q2 := (hE_0_2_2 (r_0 + 2) (by omega)).2 (by omega)
       have q3 := (hE_0_2_3 (r_0 + 2) (by omega)).1 (by omega)
       have q4 : x13 = r_0 + 2 := by omega
       rw [q4] at h34
       omega)
set_option maxHeartbeats 4000000 in
theorem vc_Mo_groupItem_at_k0_22_1 (r_0 : Int) (from_0 : Int) (pos_0 : Int) (kind_0 : Int) (f8 : ((kind_0 = 1) → (pos_0 ≤ (from_0 + 8))) ∧ ((kind_0 = 0) ∨ ((from_0 + 1) ≤ pos_0))) (kz_0_11 : 0 ≤ pos_0 ∧ pos_0 ≤ 2000) (kz_0_12 : 0 ≤ kind_0 ∧ kind_0 ≤ 4) (kz_0_15 : 0 ≤ from_0 ∧ from_0 ≤ 2000) : ((kind_0 = 1) → (pos_0 ≤ (from_0 + 8))) ∧ ((kind_0 = 0) ∨ ((from_0 + 1) ≤ pos_0)) := by
  first
    | omega
    | (have q1 := (hE_0_2_1 (r_0 + 2) (by omega)).2 (by omega)
       have q2 := (hE_0_2_2 (r_0 + 2) (by omega)).2 (by omega)
       omega)
    | (have q1 := (hE_0_2_1 (r_0 + 1) (by omega)).2 (by omega)
       have q2 := (hE_0_2_2 (r_0 + 1) (by omega)).2 (by omega)
       omega)
    | (have q1 := (hE_0_2_1 (r_0 + 2) (by omega)).2 (by omega)
       omega)
    | (have q1 := (hE_0_2_1 (r_0 + 1) (by omega)).2 (by omega)
       omega)
    | (have q1 := (hE_0_2_1 (r_0 + 2) (by omega)).2 (by omega)
       have q2 := (hE_0_2_2 (r_0 + 2) (by omega)).2 (by omega)
       have q3 := (hE_0_2_3 (r_0 + 2) (by omega)).1 (by omega)
       omega)
    | (have q1 := (hE_0_2_1 (r_0 + 2) (by omega)).2 (by omega)
       have q2 := (hE_0_2_2 (r_0 + 2) (by omega)).2 (by omega)
       have q3 := (hE_0_2_3 (r_0 + 2) (by omega)).2 (by omega)
       omega)
    | (have q1 := (hE_0_2_1 (r_0 + 2) (by omega)).2 (by omega)
       have q2 := (hE_0_2_2 (r_0 + 2) (by omega)).2 (by omega)
       have q3 := (hE_0_2_3 (r_0 + 2) (by omega)).1 (by omega)
       have q4 : x13 = r_0 + 2 := by omega
       rw [q4] at h34
       omega)
set_option maxHeartbeats 4000000 in
theorem vc_Mo_groupItem_at_k0_22_2 (x3 : Int) (x14 : Int) (r_0 : Int) (pos_0 : Int) (k3 : 0 ≤ x3 ∧ x3 ≤ 2000) (k14 : 0 ≤ x14 ∧ x14 ≤ 2000) (f0 : 1 * x14 + ((-1) * x3 + 0) ≤ 0) (f1 : (-1) * x14 + (1 * x3 + 0) ≤ 0) (f9 : 1 * x14 + ((-1) * pos_0 + 0) ≤ 0) (kz_0_11 : 0 ≤ pos_0 ∧ pos_0 ≤ 2000) : 1 * x3 + ((-1) * pos_0 + 0) ≤ 0 := by
  first
    | omega
    | (have q1 := (hE_0_2_1 (r_0 + 2) (by omega)).2 (by omega)
       have q2 := (hE_0_2_2 (r_0 + 2) (by omega)).2 (by omega)
       omega)
    | (have q1 := (hE_0_2_1 (r_0 + 1) (by omega)).2 (by omega)
       have q2 := (hE_0_2_2 (r_0 + 1) (by omega)).2 (by omega)
       omega)
    | (have q1 := (hE_0_2_1 (r_0 + 2) (by omega)).2 (by omega)
       omega)
    | (have q1 := (hE_0_2_1 (r_0 + 1) (by omega)).2 (by omega)
       omega)
    | (have q1 := (hE_0_2_1 (r_0 + 2) (by omega)).2 (by omega)
       have q2 := (hE_0_2_2 (r_0 + 2) (by omega)).2 (by omega)
       have q3 := (hE_0_2_3 (r_0 + 2) (by omega)).1 (by omega)
       omega)
    | (have q1 := (hE_0_2_1 (r_0 + 2) (by omega)).2 (by omega)
       have q2 := (hE_0_2_2 (r_0 + 2) (by omega)).2 (by omega)
       have q3 := (hE_0_2_3 (r_0 + 2) (by omega)).2 (by omega)
       omega)
    | (have q1 := (hE_0_2_1 (r_0 + 2) (by omega)).2 (by omega)
       have q2 := (hE_0_2_2 (r_0 + 2) (by omega)).2 (by omega)
       have q3 := (hE_0_2_3 (r_0 + 2) (by omega)).1 (by omega)
       have q4 : x13 = r_0 + 2 := by omega
       rw [q4] at h34
       omega)
set_option maxHeartbeats 4000000 in
theorem vc_Mo_groupItem_at_k0_22_3 (x3 : Int) (x14 : Int) (r_0 : Int) (pos_0 : Int) (fault_0 : Int) (k3 : 0 ≤ x3 ∧ x3 ≤ 2000) (k14 : 0 ≤ x14 ∧ x14 ≤ 2000) (f0 : 1 * x14 + ((-1) * x3 + 0) ≤ 0) (f1 : (-1) * x14 + (1 * x3 + 0) ≤ 0) (f9 : 1 * x14 + ((-1) * pos_0 + 0) ≤ 0) (f10 : (1 ≤ fault_0) ∨ ((x14 + 1) ≤ pos_0)) (kz_0_8 : 0 ≤ fault_0 ∧ fault_0 ≤ 5) (kz_0_11 : 0 ≤ pos_0 ∧ pos_0 ≤ 2000) : (1 ≤ fault_0) ∨ ((x3 + 1) ≤ pos_0) := by
  first
    | omega
    | (have q1 := (hE_0_2_1 (r_0 + 2) (by omega)).2 (by omega)
       have q2 := (hE_0_2_2 (r_0 + 2) (by omega)).2 (by omega)
       omega)
    | (have q1 := (hE_0_2_1 (r_0 + 1) (by omega)).2 (by omega)
       have q2 := (hE_0_2_2 (r_0 + 1) (by omega)).2 (by omega)
       omega)
    | (have q1 := (hE_0_2_1 (r_0 + 2) (by omega)).2 (by omega)
       omega)
    | (have q1 := (hE_0_2_1 (r_0 + 1) (by omega)).2 (by omega)
       omega)
    | (have q1 := (hE_0_2_1 (r_0 + 2) (by omega)).2 (by omega)
       have q2 := (hE_0_2_2 (r_0 + 2) (by omega)).2 (by omega)
       have q3 := (hE_0_2_3 (r_0 + 2) (by omega)).1 (by omega)
       omega)
    | (have q1 := (hE_0_2_1 (r_0 + 2) (by omega)).2 (by omega)
       have q2 := (hE_0_2_2 (r_0 + 2) (by omega)).2 (by omega)
       have q3 := (hE_0_2_3 (r_0 + 2) (by omega)).2 (by omega)
       omega)
    | (have q1 := (hE_0_2_1 (r_0 + 2) (by omega)).2 (by omega)
       have q2 := (hE_0_2_2 (r_0 + 2) (by omega)).2 (by omega)
       have q3 := (hE_0_2_3 (r_0 + 2) (by omega)).1 (by omega)
       have q4 : x13 = r_0 + 2 := by omega
       rw [q4] at h34
       omega)
set_option maxHeartbeats 4000000 in
theorem vc_Mo_groupItem_at_k0_22_4 (x1 : Int) (x7 : Int) (all_0 : Int → Int) (r_0 : Int) (k1 : 0 ≤ x1 ∧ x1 ≤ 0) (k7 : 0 ≤ x7 ∧ x7 ≤ 7) (f2 : (x7 + 1) ≤ all_0 ((r_0 + 2))) (f3 : 1 * x1 + ((-1) * x7 + 0) ≤ (-1)) : (x1 + 1) ≤ all_0 ((r_0 + 2)) := by
  first
    | omega
    | (have q1 := (hE_0_2_1 (r_0 + 2) (by omega)).2 (by omega)
       have q2 := (hE_0_2_2 (r_0 + 2) (by omega)).2 (by omega)
       omega)
    | (have q1 := (hE_0_2_1 (r_0 + 1) (by omega)).2 (by omega)
       have q2 := (hE_0_2_2 (r_0 + 1) (by omega)).2 (by omega)
       omega)
    | (have q1 := (hE_0_2_1 (r_0 + 2) (by omega)).2 (by omega)
       omega)
    | (have q1 := (hE_0_2_1 (r_0 + 1) (by omega)).2 (by omega)
       omega)
    | (have q1 := (hE_0_2_1 (r_0 + 2) (by omega)).2 (by omega)
       have q2 := (hE_0_2_2 (r_0 + 2) (by omega)).2 (by omega)
       have q3 := (hE_0_2_3 (r_0 + 2) (by omega)).1 (by omega)
       omega)
    | (have q1 := (hE_0_2_1 (r_0 + 2) (by omega)).2 (by omega)
       have q2 := (hE_0_2_2 (r_0 + 2) (by omega)).2 (by omega)
       have q3 := (hE_0_2_3 (r_0 + 2) (by omega)).2 (by omega)
       omega)
    | (have q1 := (hE_0_2_1 (r_0 + 2) (by omega)).2 (by omega)
       have q2 := (hE_0_2_2 (r_0 + 2) (by omega)).2 (by omega)
       have q3 := (hE_0_2_3 (r_0 + 2) (by omega)).1 (by omega)
       have q4 : x13 = r_0 + 2 := by omega
       rw [q4] at h34
       omega)
set_option maxHeartbeats 4000000 in
theorem vc_Mo_groupItem_at_k0_22_5 (all_0 : Int → Int) (r_0 : Int) (now_0 : Int → Int) (latest_0 : Int → Int) (f4 : RWS (r_0) (all_0) (now_0) (latest_0)) : RWS (r_0) (all_0) (now_0) (latest_0) := by
  first
    | assumption
def o_Mo_groupItem_at_k0_22 : or_T := (203, 15, [(0, (2, 0, 0, [165])), (1, (0, 0, 0, [])), (3, (0, 0, 2000, [])), (7, (0, 0, 7, [])), (14, (0, 0, 2000, []))], [(23, [14, 3], [0, 1, -1]), (23, [14, 3], [0, -1, 1]), (20, [7, 4], [50, 1, 1, 1005, 1002, 0, 6, 4, 2, 1, 0, 0, 1, 3, 1, 2, 4, 3, 2, 1, 5, 0, 2]), (23, [5, 7], [-1, 1, -1]), (20, [4], [60, 1, 3, 199, 5, 2, 3, 4]), (24, [0, 4], []), (24, [1, 5], []), (20, [4, 4], [30, 0, 1, 1, 15, -1, 1, 11]), (20, [4], [50, 3, 0, 12, 11, 15, 2, 21, 4, 7, 1, 3, 2, 0, 12, 0, 1, 0, 3, 2, 0, 11, 4, 3, 2, 0, 15, 0, 8, 3, 7, 1, 3, 2, 0, 12, 0, 0, 0, 7, 4, 3, 2, 0, 15, 0, 1, 2, 0, 11]), (20, [14, 4], [30, 0, 1, 0, 0, -1, 1, 11]), (20, [4, 14], [50, 2, 0, 8, 11, 3, 7, 0, 2, 0, 1, 2, 0, 8, 0, 6, 4, 2, 1, 1, 0, 1, 2, 0, 11])], [], [], [(20, [0, 0], [30, 0, 1, 1, 15, -1, 1, 11]), (20, [0], [50, 3, 0, 12, 11, 15, 2, 21, 4, 7, 1, 3, 2, 0, 12, 0, 1, 0, 3, 2, 0, 11, 4, 3, 2, 0, 15, 0, 8, 3, 7, 1, 3, 2, 0, 12, 0, 0, 0, 7, 4, 3, 2, 0, 15, 0, 1, 2, 0, 11]), (20, [3, 0], [30, 0, 1, 0, 0, -1, 1, 11]), (20, [0, 3], [50, 2, 0, 8, 11, 3, 7, 0, 2, 0, 1, 2, 0, 8, 0, 6, 4, 2, 1, 1, 0, 1, 2, 0, 11]), (20, [1, 0], [50, 1, 1, 1005, 1002, 0, 6, 4, 2, 1, 0, 0, 1, 3, 1, 2, 4, 3, 2, 1, 5, 0, 2]), (20, [0], [60, 1, 3, 199, 5, 2, 3, 4])], [], [])
theorem oo_Mo_groupItem_at_k0_22 {kA : Nat → ClassId} : or_ok PRD kA GG o_Mo_groupItem_at_k0_22 := by
  refine or_mk fun A ta ws vs hD hth hl => ?_
  intro t0 r0 t1 k1 t3 k3 t7 k7 t14 k14 f0 f1 f2 f3 f4 f5 f6 f7 f8 f9 f10
  replace f2 := shm_981 f2
  replace f3 := shm_211 f3
  replace f4 := shm_952 f4
  replace f5 := shm_5 f5
  replace f6 := shm_5 f6
  replace f7 := shm_1397 f7
  replace f8 := shm_1398 f8
  replace f9 := shm_1395 f9
  replace f10 := shm_1659 f10
  have q4 : n_v vs 4 = n_v vs 0 := f5.symm
  have q5 : n_v vs 5 = n_v vs 1 := f6.symm
  simp only [q4, q5] at f2 f3 f4 f7 f8 f9 f10
  have kz_0_8 := fdq_14 hD hth r0
  have kz_0_11 := fdq_273 hD hth r0
  have kz_0_12 := fdq_186 hD hth r0
  have kz_0_15 := fdq_274 hD hth r0
  have nf0 : fc_1 PRD (20, [0, 0], [30, 0, 1, 1, 15, -1, 1, 11]) ws (vs) := ⟨nf_in hl rfl, sgq_1397 (vc_Mo_groupItem_at_k0_22_0 (w_fi ws (n_v vs 0) 5) (w_fi ws (n_v vs 0) 15) (w_fi ws (n_v vs 0) 11) f7 kz_0_11 kz_0_15)⟩
  have nf1 : fc_1 PRD (20, [0], [50, 3, 0, 12, 11, 15, 2, 21, 4, 7, 1, 3, 2, 0, 12, 0, 1, 0, 3, 2, 0, 11, 4, 3, 2, 0, 15, 0, 8, 3, 7, 1, 3, 2, 0, 12, 0, 0, 0, 7, 4, 3, 2, 0, 15, 0, 1, 2, 0, 11]) ws (vs) := ⟨nf_in hl rfl, sgq_1398 (vc_Mo_groupItem_at_k0_22_1 (w_fi ws (n_v vs 0) 5) (w_fi ws (n_v vs 0) 15) (w_fi ws (n_v vs 0) 11) (w_fi ws (n_v vs 0) 12) f8 kz_0_11 kz_0_12 kz_0_15)⟩
  have nf2 : fc_1 PRD (20, [3, 0], [30, 0, 1, 0, 0, -1, 1, 11]) ws (vs) := ⟨nf_in hl rfl, sgq_1395 (vc_Mo_groupItem_at_k0_22_2 (v_iv (n_v vs 3)) (v_iv (n_v vs 14)) (w_fi ws (n_v vs 0) 5) (w_fi ws (n_v vs 0) 11) k3 k14 (shm_7 f0) (shm_22 f1) f9 kz_0_11)⟩
  have nf3 : fc_1 PRD (20, [0, 3], [50, 2, 0, 8, 11, 3, 7, 0, 2, 0, 1, 2, 0, 8, 0, 6, 4, 2, 1, 1, 0, 1, 2, 0, 11]) ws (vs) := ⟨nf_in hl rfl, sgq_1659 (vc_Mo_groupItem_at_k0_22_3 (v_iv (n_v vs 3)) (v_iv (n_v vs 14)) (w_fi ws (n_v vs 0) 5) (w_fi ws (n_v vs 0) 11) (w_fi ws (n_v vs 0) 8) k3 k14 (shm_7 f0) (shm_22 f1) f9 f10 kz_0_8 kz_0_11)⟩
  have nf4 : fc_1 PRD (20, [1, 0], [50, 1, 1, 1005, 1002, 0, 6, 4, 2, 1, 0, 0, 1, 3, 1, 2, 4, 3, 2, 1, 5, 0, 2]) ws (vs) := ⟨nf_in hl rfl, sgq_981 (vc_Mo_groupItem_at_k0_22_4 (v_iv (n_v vs 1)) (v_iv (n_v vs 7)) (w_ei ws (w_ar ws (n_v vs 0) 2)) (w_fi ws (n_v vs 0) 5) k1 k7 f2 f3)⟩
  have nf5 : fc_1 PRD (20, [0], [60, 1, 3, 199, 5, 2, 3, 4]) ws (vs) := ⟨nf_in hl rfl, sgq_952 (vc_Mo_groupItem_at_k0_22_5 (w_ei ws (w_ar ws (n_v vs 0) 2)) (w_fi ws (n_v vs 0) 5) (w_ei ws (w_ar ws (n_v vs 0) 3)) (w_ei ws (w_ar ws (n_v vs 0) 4)) f4)⟩
  refine ⟨(fun _ h => (by cases h)), [], trivial, ?_, (fun _ h => (by cases h))⟩
  rw [List.append_nil]
  exact List.forall_mem_cons.mpr ⟨⟨show (20 : Nat) < 100 from by decide, nf0⟩, List.forall_mem_cons.mpr ⟨⟨show (20 : Nat) < 100 from by decide, nf1⟩, List.forall_mem_cons.mpr ⟨⟨show (20 : Nat) < 100 from by decide, nf2⟩, List.forall_mem_cons.mpr ⟨⟨show (20 : Nat) < 100 from by decide, nf3⟩, List.forall_mem_cons.mpr ⟨⟨show (20 : Nat) < 100 from by decide, nf4⟩, List.forall_mem_cons.mpr ⟨⟨show (20 : Nat) < 100 from by decide, nf5⟩, (fun _ h => (by cases h))⟩⟩⟩⟩⟩⟩
set_option maxHeartbeats 4000000 in
theorem vc_Mo_groupItem_at_k0_23_0 (from_0 : Int) (pos_0 : Int) (r_0 : Int) (f0 : 1 * from_0 + ((-1) * pos_0 + 0) ≤ 0) (kz_0_11 : 0 ≤ pos_0 ∧ pos_0 ≤ 2000) (kz_0_15 : 0 ≤ from_0 ∧ from_0 ≤ 2000) : 1 * from_0 + ((-1) * pos_0 + 0) ≤ 0 := by
  first
    | omega
    | (have q1 := (hE_0_2_1 (r_0 + 2) (by omega)).2 (by omega)
       have q2 := (hE_0_2_2 (r_0 + 2) (by omega)).2 (by omega)
       omega)
    | (have q1 := (hE_0_2_1 (r_0 + 1) (by omega)).2 (by omega)
       have q2 := (hE_0_2_2 (r_0 + 1) (by omega)).2 (by omega)
       omega)
    | (have q1 := (hE_0_2_1 (r_0 + 2) (by omega)).2 (by omega)
       omega)
    | (have q1 := (hE_0_2_1 (r_0 + 1) (by omega)).2 (by omega)
       omega)
    | (have q1 := (hE_0_2_1 (r_0 + 2) (by omega)).2 (by omega)
       have q2 := (hE_0_2_2 (r_0 + 2) (by omega)).2 (by omega)
       have q3 := (hE_0_2_3 (r_0 + 2) (by omega)).1 (by omega)
       omega)
    | (have q1 := (hE_0_2_1 (r_0 + 2) (by omega)).2 (by omega)
       have q2 := (hE_0_2_2 (r_0 + 2) (by omega)).2 (by omega)
       have q3 := (hE_0_2_3 (r_0 + 2) (by omega)).2 (by omega)
       omega)
    | (have q1 := (hE_0_2_1 (r_0 + 2) (by omega)).2 (by omega)
       have q2 := (hE_0_2_2 (r_0 + 2) (by omega)).2 (by omega)
       have q3 := (hE_0_2_3 (r_0 + 2) (by omega)).1 (by omega)
       have q4 : x13 = r_0 + 2 := by omega
       rw [q4] at h34
       omega)
set_option maxHeartbeats 4000000 in
theorem vc_Mo_groupItem_at_k0_23_1 (from_0 : Int) (pos_0 : Int) (kind_0 : Int) (r_0 : Int) (f1 : ((kind_0 = 1) → (pos_0 ≤ (from_0 + 8))) ∧ ((kind_0 = 0) ∨ ((from_0 + 1) ≤ pos_0))) (kz_0_11 : 0 ≤ pos_0 ∧ pos_0 ≤ 2000) (kz_0_12 : 0 ≤ kind_0 ∧ kind_0 ≤ 4) (kz_0_15 : 0 ≤ from_0 ∧ from_0 ≤ 2000) : ((kind_0 = 1) → (pos_0 ≤ (from_0 + 8))) ∧ ((kind_0 = 0) ∨ ((from_0 + 1) ≤ pos_0)) := by
  first
    | omega
    | (have q1 := (hE_0_2_1 (r_0 + 2) (by omega)).2 (by omega)
       have q2 := (hE_0_2_2 (r_0 + 2) (by omega)).2 (by omega)
       omega)
    | (have q1 := (hE_0_2_1 (r_0 + 1) (by omega)).2 (by omega)
       have q2 := (hE_0_2_2 (r_0 + 1) (by omega)).2 (by omega)
       omega)
    | (have q1 := (hE_0_2_1 (r_0 + 2) (by omega)).2 (by omega)
       omega)
    | (have q1 := (hE_0_2_1 (r_0 + 1) (by omega)).2 (by omega)
       omega)
    | (have q1 := (hE_0_2_1 (r_0 + 2) (by omega)).2 (by omega)
       have q2 := (hE_0_2_2 (r_0 + 2) (by omega)).2 (by omega)
       have q3 := (hE_0_2_3 (r_0 + 2) (by omega)).1 (by omega)
       omega)
    | (have q1 := (hE_0_2_1 (r_0 + 2) (by omega)).2 (by omega)
       have q2 := (hE_0_2_2 (r_0 + 2) (by omega)).2 (by omega)
       have q3 := (hE_0_2_3 (r_0 + 2) (by omega)).2 (by omega)
       omega)
    | (have q1 := (hE_0_2_1 (r_0 + 2) (by omega)).2 (by omega)
       have q2 := (hE_0_2_2 (r_0 + 2) (by omega)).2 (by omega)
       have q3 := (hE_0_2_3 (r_0 + 2) (by omega)).1 (by omega)
       have q4 : x13 = r_0 + 2 := by omega
       rw [q4] at h34
       omega)
set_option maxHeartbeats 4000000 in
theorem vc_Mo_groupItem_at_k0_23_2 (x3 : Int) (pos_0 : Int) (r_0 : Int) (k3 : 0 ≤ x3 ∧ x3 ≤ 2000) (f2 : 1 * x3 + ((-1) * pos_0 + 0) ≤ 0) (kz_0_11 : 0 ≤ pos_0 ∧ pos_0 ≤ 2000) : 1 * x3 + ((-1) * pos_0 + 0) ≤ 0 := by
  first
    | omega
    | (have q1 := (hE_0_2_1 (r_0 + 2) (by omega)).2 (by omega)
       have q2 := (hE_0_2_2 (r_0 + 2) (by omega)).2 (by omega)
       omega)
    | (have q1 := (hE_0_2_1 (r_0 + 1) (by omega)).2 (by omega)
       have q2 := (hE_0_2_2 (r_0 + 1) (by omega)).2 (by omega)
       omega)
    | (have q1 := (hE_0_2_1 (r_0 + 2) (by omega)).2 (by omega)
       omega)
    | (have q1 := (hE_0_2_1 (r_0 + 1) (by omega)).2 (by omega)
       omega)
    | (have q1 := (hE_0_2_1 (r_0 + 2) (by omega)).2 (by omega)
       have q2 := (hE_0_2_2 (r_0 + 2) (by omega)).2 (by omega)
       have q3 := (hE_0_2_3 (r_0 + 2) (by omega)).1 (by omega)
       omega)
    | (have q1 := (hE_0_2_1 (r_0 + 2) (by omega)).2 (by omega)
       have q2 := (hE_0_2_2 (r_0 + 2) (by omega)).2 (by omega)
       have q3 := (hE_0_2_3 (r_0 + 2) (by omega)).2 (by omega)
       omega)
    | (have q1 := (hE_0_2_1 (r_0 + 2) (by omega)).2 (by omega)
       have q2 := (hE_0_2_2 (r_0 + 2) (by omega)).2 (by omega)
       have q3 := (hE_0_2_3 (r_0 + 2) (by omega)).1 (by omega)
       have q4 : x13 = r_0 + 2 := by omega
       rw [q4] at h34
       omega)
set_option maxHeartbeats 4000000 in
theorem vc_Mo_groupItem_at_k0_23_3 (x3 : Int) (pos_0 : Int) (fault_0 : Int) (r_0 : Int) (k3 : 0 ≤ x3 ∧ x3 ≤ 2000) (f3 : (1 ≤ fault_0) ∨ ((x3 + 1) ≤ pos_0)) (kz_0_8 : 0 ≤ fault_0 ∧ fault_0 ≤ 5) (kz_0_11 : 0 ≤ pos_0 ∧ pos_0 ≤ 2000) : (1 ≤ fault_0) ∨ ((x3 + 1) ≤ pos_0) := by
  first
    | omega
    | (have q1 := (hE_0_2_1 (r_0 + 2) (by omega)).2 (by omega)
       have q2 := (hE_0_2_2 (r_0 + 2) (by omega)).2 (by omega)
       omega)
    | (have q1 := (hE_0_2_1 (r_0 + 1) (by omega)).2 (by omega)
       have q2 := (hE_0_2_2 (r_0 + 1) (by omega)).2 (by omega)
       omega)
    | (have q1 := (hE_0_2_1 (r_0 + 2) (by omega)).2 (by omega)
       omega)
    | (have q1 := (hE_0_2_1 (r_0 + 1) (by omega)).2 (by omega)
       omega)
    | (have q1 := (hE_0_2_1 (r_0 + 2) (by omega)).2 (by omega)
       have q2 := (hE_0_2_2 (r_0 + 2) (by omega)).2 (by omega)
       have q3 := (hE_0_2_3 (r_0 + 2) (by omega)).1 (by omega)
       omega)
    | (have q1 := (hE_0_2_1 (r_0 + 2) (by omega)).2 (by omega)
       have q2 := (hE_0_2_2 (r_0 + 2) (by omega)).2 (by omega)
       have q3 := (hE_0_2_3 (r_0 + 2) (by omega)).2 (by omega)
       omega)
    | (have q1 := (hE_0_2_1 (r_0 + 2) (by omega)).2 (by omega)
       have q2 := (hE_0_2_2 (r_0 + 2) (by omega)).2 (by omega)
       have q3 := (hE_0_2_3 (r_0 + 2) (by omega)).1 (by omega)
       have q4 : x13 = r_0 + 2 := by omega
       rw [q4] at h34
       omega)
set_option maxHeartbeats 4000000 in
theorem vc_Mo_groupItem_at_k0_23_4 (x7 : Int) (all_0 : Int → Int) (r_0 : Int) (k7 : 0 ≤ x7 ∧ x7 ≤ 7) (f4 : (x7 + 1) ≤ all_0 ((r_0 + 2))) : (x7 + 1) ≤ all_0 ((r_0 + 2)) := by
  first
    | omega
    | (have q1 := (hE_0_2_1 (r_0 + 2) (by omega)).2 (by omega)
       have q2 := (hE_0_2_2 (r_0 + 2) (by omega)).2 (by omega)
       omega)
    | (have q1 := (hE_0_2_1 (r_0 + 1) (by omega)).2 (by omega)
       have q2 := (hE_0_2_2 (r_0 + 1) (by omega)).2 (by omega)
       omega)
    | (have q1 := (hE_0_2_1 (r_0 + 2) (by omega)).2 (by omega)
       omega)
    | (have q1 := (hE_0_2_1 (r_0 + 1) (by omega)).2 (by omega)
       omega)
    | (have q1 := (hE_0_2_1 (r_0 + 2) (by omega)).2 (by omega)
       have q2 := (hE_0_2_2 (r_0 + 2) (by omega)).2 (by omega)
       have q3 := (hE_0_2_3 (r_0 + 2) (by omega)).1 (by omega)
       omega)
    | (have q1 := (hE_0_2_1 (r_0 + 2) (by omega)).2 (by omega)
       have q2 := (hE_0_2_2 (r_0 + 2) (by omega)).2 (by omega)
       have q3 := (hE_0_2_3 (r_0 + 2) (by omega)).2 (by omega)
       omega)
    | (have q1 := (hE_0_2_1 (r_0 + 2) (by omega)).2 (by omega)
       have q2 := (hE_0_2_2 (r_0 + 2) (by omega)).2 (by omega)
       have q3 := (hE_0_2_3 (r_0 + 2) (by omega)).1 (by omega)
       have q4 : x13 = r_0 + 2 := by omega
       rw [q4] at h34
       omega)
set_option maxHeartbeats 4000000 in
theorem vc_Mo_groupItem_at_k0_23_5 (x1 : Int) (x7 : Int) (r_0 : Int) (k1 : 0 ≤ x1 ∧ x1 ≤ 0) (k7 : 0 ≤ x7 ∧ x7 ≤ 7) (f5 : 1 * x1 + ((-1) * x7 + 0) ≤ (-1)) : 1 * x1 + ((-1) * x7 + 0) ≤ (-1) := by
  first
    | omega
    | (have q1 := (hE_0_2_1 (r_0 + 2) (by omega)).2 (by omega)
       have q2 := (hE_0_2_2 (r_0 + 2) (by omega)).2 (by omega)
       omega)
    | (have q1 := (hE_0_2_1 (r_0 + 1) (by omega)).2 (by omega)
       have q2 := (hE_0_2_2 (r_0 + 1) (by omega)).2 (by omega)
       omega)
    | (have q1 := (hE_0_2_1 (r_0 + 2) (by omega)).2 (by omega)
       omega)
    | (have q1 := (hE_0_2_1 (r_0 + 1) (by omega)).2 (by omega)
       omega)
    | (have q1 := (hE_0_2_1 (r_0 + 2) (by omega)).2 (by omega)
       have q2 := (hE_0_2_2 (r_0 + 2) (by omega)).2 (by omega)
       have q3 := (hE_0_2_3 (r_0 + 2) (by omega)).1 (by omega)
       omega)
    | (have q1 := (hE_0_2_1 (r_0 + 2) (by omega)).2 (by omega)
       have q2 := (hE_0_2_2 (r_0 + 2) (by omega)).2 (by omega)
       have q3 := (hE_0_2_3 (r_0 + 2) (by omega)).2 (by omega)
       omega)
    | (have q1 := (hE_0_2_1 (r_0 + 2) (by omega)).2 (by omega)
       have q2 := (hE_0_2_2 (r_0 + 2) (by omega)).2 (by omega)
       have q3 := (hE_0_2_3 (r_0 + 2) (by omega)).1 (by omega)
       have q4 : x13 = r_0 + 2 := by omega
       rw [q4] at h34
       omega)
set_option maxHeartbeats 4000000 in
theorem vc_Mo_groupItem_at_k0_23_6 (all_0 : Int → Int) (r_0 : Int) (now_0 : Int → Int) (latest_0 : Int → Int) (f6 : RWS (r_0) (all_0) (now_0) (latest_0)) : RWS (r_0) (all_0) (now_0) (latest_0) := by
  first
    | assumption
set_option maxHeartbeats 4000000 in
theorem vc_Mo_groupItem_at_k0_23_9 (pos_0 : Int) (fault_0 : Int) (r_0 : Int) (gx : Int) (kz_0_8 : 0 ≤ fault_0 ∧ fault_0 ≤ 5) (kz_0_11 : 0 ≤ pos_0 ∧ pos_0 ≤ 2000) (ex2 : gx = 2005 + ((-1) * pos_0 + ((-1) * fault_0 + 0))) : 1 * gx + (1 * pos_0 + (1 * fault_0 + 0)) ≤ 2005 := by
  first
    | omega
    | (have q1 := (hE_0_2_1 (r_0 + 2) (by omega)).2 (by omega)
       have q2 := (hE_0_2_2 (r_0 + 2) (by omega)).2 (by omega)
       omega)
    | (have q1 := (hE_0_2_1 (r_0 + 1) (by omega)).2 (by omega)
       have q2 := (hE_0_2_2 (r_0 + 1) (by omega)).2 (by omega)
       omega)
    | (have q1 := (hE_0_2_1 (r_0 + 2) (by omega)).2 (by omega)
       omega)
    | (have q1 := (hE_0_2_1 (r_0 + 1) (by omega)).2 (by omega)
       omega)
    | (have q1 := (hE_0_2_1 (r_0 + 2) (by omega)).2 (by omega)
       have q2 := (hE_0_2_2 (r_0 + 2) (by omega)).2 (by omega)
       have q3 := (hE_0_2_3 (r_0 + 2) (by omega)).1 (by omega)
       omega)
    | (have q1 := (hE_0_2_1 (r_0 + 2) (by omega)).2 (by omega)
       have q2 := (hE_0_2_2 (r_0 + 2) (by omega)).2 (by omega)
       have q3 := (hE_0_2_3 (r_0 + 2) (by omega)).2 (by omega)
       omega)
    | (have q1 := (hE_0_2_1 (r_0 + 2) (by omega)).2 (by omega)
       have q2 := (hE_0_2_2 (r_0 + 2) (by omega)).2 (by omega)
       have q3 := (hE_0_2_3 (r_0 + 2) (by omega)).1 (by omega)
       have q4 : x13 = r_0 + 2 := by omega
       rw [q4] at h34
       omega)
set_option maxHeartbeats 4000000 in
theorem vc_Mo_groupItem_at_k0_23_10 (pos_0 : Int) (fault_0 : Int) (r_0 : Int) (gx : Int) (kz_0_8 : 0 ≤ fault_0 ∧ fault_0 ≤ 5) (kz_0_11 : 0 ≤ pos_0 ∧ pos_0 ≤ 2000) (ex2 : gx = 2005 + ((-1) * pos_0 + ((-1) * fault_0 + 0))) : (-1) * gx + ((-1) * pos_0 + ((-1) * fault_0 + 0)) ≤ (-2005) := by
  first
    | omega
    | (have q1 := (hE_0_2_1 (r_0 + 2) (by omega)).2 (by omega)
       have q2 := (hE_0_2_2 (r_0 + 2) (by omega)).2 (by omega)
       omega)
    | (have q1 := (hE_0_2_1 (r_0 + 1) (by omega)).2 (by omega)
       have q2 := (hE_0_2_2 (r_0 + 1) (by omega)).2 (by omega)
       omega)
    | (have q1 := (hE_0_2_1 (r_0 + 2) (by omega)).2 (by omega)
       omega)
    | (have q1 := (hE_0_2_1 (r_0 + 1) (by omega)).2 (by omega)
       omega)
    | (have q1 := (hE_0_2_1 (r_0 + 2) (by omega)).2 (by omega)
       have q2 := (hE_0_2_2 (r_0 + 2) (by omega)).2 (by omega)
       have q3 := (hE_0_2_3 (r_0 + 2) (by omega)).1 (by omega)
       omega)
    | (have q1 := (hE_0_2_1 (r_0 + 2) (by omega)).2 (by omega)
       have q2 := (hE_0_2_2 (r_0 + 2) (by omega)).2 (by omega)
       have q3 := (hE_0_2_3 (r_0 + 2) (by omega)).2 (by omega)
       omega)
    | (have q1 := (hE_0_2_1 (r_0 + 2) (by omega)).2 (by omega)
       have q2 := (hE_0_2_2 (r_0 + 2) (by omega)).2 (by omega)
       have q3 := (hE_0_2_3 (r_0 + 2) (by omega)).1 (by omega)
       have q4 : x13 = r_0 + 2 := by omega
       rw [q4] at h34
       omega)
def o_Mo_groupItem_at_k0_23 : or_T := (170, 10, [(0, (2, 0, 0, [165])), (1, (0, 0, 0, [])), (3, (0, 0, 2000, [])), (4, (2, 0, 0, [165])), (5, (0, 0, 0, [])), (7, (0, 0, 7, [])), (9, (0, 0, 2005, []))], [(20, [4, 4], [30, 0, 1, 1, 15, -1, 1, 11]), (20, [4], [50, 3, 0, 12, 11, 15, 2, 21, 4, 7, 1, 3, 2, 0, 12, 0, 1, 0, 3, 2, 0, 11, 4, 3, 2, 0, 15, 0, 8, 3, 7, 1, 3, 2, 0, 12, 0, 0, 0, 7, 4, 3, 2, 0, 15, 0, 1, 2, 0, 11]), (20, [3, 4], [30, 0, 1, 0, 0, -1, 1, 11]), (20, [4, 3], [50, 2, 0, 8, 11, 3, 7, 0, 2, 0, 1, 2, 0, 8, 0, 6, 4, 2, 1, 1, 0, 1, 2, 0, 11]), (20, [7, 4], [50, 1, 1, 1005, 1002, 0, 6, 4, 2, 1, 0, 0, 1, 3, 1, 2, 4, 3, 2, 1, 5, 0, 2]), (23, [5, 7], [-1, 1, -1]), (20, [4], [60, 1, 3, 199, 5, 2, 3, 4]), (20, [9, 4, 4], [30, -2006, -1, 0, 0, -1, 1, 11, -1, 1, 8]), (24, [0, 4], []), (24, [1, 5], [])], [], [(0, 0, 2005, [])], [(20, [4, 4], [30, 0, 1, 1, 15, -1, 1, 11]), (20, [4], [50, 3, 0, 12, 11, 15, 2, 21, 4, 7, 1, 3, 2, 0, 12, 0, 1, 0, 3, 2, 0, 11, 4, 3, 2, 0, 15, 0, 8, 3, 7, 1, 3, 2, 0, 12, 0, 0, 0, 7, 4, 3, 2, 0, 15, 0, 1, 2, 0, 11]), (20, [3, 4], [30, 0, 1, 0, 0, -1, 1, 11]), (20, [4, 3], [50, 2, 0, 8, 11, 3, 7, 0, 2, 0, 1, 2, 0, 8, 0, 6, 4, 2, 1, 1, 0, 1, 2, 0, 11]), (20, [7, 4], [50, 1, 1, 1005, 1002, 0, 6, 4, 2, 1, 0, 0, 1, 3, 1, 2, 4, 3, 2, 1, 5, 0, 2]), (23, [5, 7], [-1, 1, -1]), (20, [4], [60, 1, 3, 199, 5, 2, 3, 4]), (24, [0, 4], []), (24, [1, 5], []), (20, [10, 4, 4], [30, 2005, 1, 0, 0, 1, 1, 11, 1, 1, 8]), (20, [10, 4, 4], [30, -2005, -1, 0, 0, -1, 1, 11, -1, 1, 8])], [(10, 9, -1000000000000, -1)], [])
theorem oo_Mo_groupItem_at_k0_23 {kA : Nat → ClassId} : or_ok PRD kA GG o_Mo_groupItem_at_k0_23 := by
  refine or_mk fun A ta ws vs hD hth hl => ?_
  intro t0 r0 t1 k1 t3 k3 t4 r4 t5 k5 t7 k7 t9 k9 f0 f1 f2 f3 f4 f5 f6 f7 f8 f9
  replace f0 := shm_1397 f0
  replace f1 := shm_1398 f1
  replace f2 := shm_1395 f2
  replace f3 := shm_1659 f3
  replace f4 := shm_981 f4
  replace f5 := shm_211 f5
  replace f6 := shm_952 f6
  replace f7 := shm_2013 f7
  replace f8 := shm_5 f8
  replace f9 := shm_5 f9
  have q4 : n_v vs 4 = n_v vs 0 := f8.symm
  have q5 : n_v vs 5 = n_v vs 1 := f9.symm
  simp only [q4, q5] at f0 f1 f2 f3 f4 f5 f6 f7
  have cr_0_2 := fdq_12 hD hth r0
  have cr_0_3 := fdq_141 hD hth r0
  have cr_0_4 := fdq_142 hD hth r0
  have hK_0_3 := elq_77 hD hth cr_0_3
  have hK_0_4 := elq_78 hD hth cr_0_4
  have kz_0_8 := fdq_14 hD hth r0
  have kz_0_11 := fdq_273 hD hth r0
  have kz_0_12 := fdq_186 hD hth r0
  have kz_0_15 := fdq_274 hD hth r0
  have kb_0_8 := fdq_14 hD hth r0
  have kb_0_11 := fdq_273 hD hth r0
  obtain ⟨x, ex, hx⟩ := iv_ex (ta := ta) (lo := 0) (hi := 2005) (z := 2005 + ((-1) * w_fi ws (n_v vs 0) 11 + ((-1) * w_fi ws (n_v vs 0) 8 + 0))) (by omega) (by omega) (by omega) (by omega)
  have ex2 : v_iv (Value.int x) = 2005 + ((-1) * w_fi ws (n_v vs 0) 11 + ((-1) * w_fi ws (n_v vs 0) 8 + 0)) := ex
  have ex3 : 0 ≤ v_iv (Value.int x) ∧ v_iv (Value.int x) ≤ 2005 := tv_rng hx
  have e_0 : n_v (vs ++ [Value.int x]) 0 = n_v vs 0 := n_v_old (by rw [hl]; decide)
  have e_1 : n_v (vs ++ [Value.int x]) 1 = n_v vs 1 := n_v_old (by rw [hl]; decide)
  have e_3 : n_v (vs ++ [Value.int x]) 3 = n_v vs 3 := n_v_old (by rw [hl]; decide)
  have e_4 : n_v (vs ++ [Value.int x]) 4 = n_v vs 4 := n_v_old (by rw [hl]; decide)
  have e_5 : n_v (vs ++ [Value.int x]) 5 = n_v vs 5 := n_v_old (by rw [hl]; decide)
  have e_7 : n_v (vs ++ [Value.int x]) 7 = n_v vs 7 := n_v_old (by rw [hl]; decide)
  have e_10 : n_v (vs ++ [Value.int x]) 10 = Value.int x := n_v_new hl
  have nf0 : fc_1 PRD (20, [4, 4], [30, 0, 1, 1, 15, -1, 1, 11]) ws (vs ++ [Value.int x]) := by
    refine ⟨nf_inA hl rfl, sgq_1397 ?_⟩
    · show 1 * w_fi ws (n_v (vs ++ [Value.int x]) 4) 15 + ((-1) * w_fi ws (n_v (vs ++ [Value.int x]) 4) 11 + 0) ≤ 0
      simp only [e_4, q4]
      exact vc_Mo_groupItem_at_k0_23_0 (w_fi ws (n_v vs 0) 15) (w_fi ws (n_v vs 0) 11) (w_fi ws (n_v vs 0) 5) f0 kz_0_11 kz_0_15
  have nf1 : fc_1 PRD (20, [4], [50, 3, 0, 12, 11, 15, 2, 21, 4, 7, 1, 3, 2, 0, 12, 0, 1, 0, 3, 2, 0, 11, 4, 3, 2, 0, 15, 0, 8, 3, 7, 1, 3, 2, 0, 12, 0, 0, 0, 7, 4, 3, 2, 0, 15, 0, 1, 2, 0, 11]) ws (vs ++ [Value.int x]) := by
    refine ⟨nf_inA hl rfl, sgq_1398 ?_⟩
    · show ((w_fi ws (n_v (vs ++ [Value.int x]) 4) 12 = 1) → (w_fi ws (n_v (vs ++ [Value.int x]) 4) 11 ≤ (w_fi ws (n_v (vs ++ [Value.int x]) 4) 15 + 8))) ∧ ((w_fi ws (n_v (vs ++ [Value.int x]) 4) 12 = 0) ∨ ((w_fi ws (n_v (vs ++ [Value.int x]) 4) 15 + 1) ≤ w_fi ws (n_v (vs ++ [Value.int x]) 4) 11))
      simp only [e_4, q4]
      exact vc_Mo_groupItem_at_k0_23_1 (w_fi ws (n_v vs 0) 15) (w_fi ws (n_v vs 0) 11) (w_fi ws (n_v vs 0) 12) (w_fi ws (n_v vs 0) 5) f1 kz_0_11 kz_0_12 kz_0_15
  have nf2 : fc_1 PRD (20, [3, 4], [30, 0, 1, 0, 0, -1, 1, 11]) ws (vs ++ [Value.int x]) := by
    refine ⟨nf_inA hl rfl, sgq_1395 ?_⟩
    · show 1 * v_iv (n_v (vs ++ [Value.int x]) 3) + ((-1) * w_fi ws (n_v (vs ++ [Value.int x]) 4) 11 + 0) ≤ 0
      simp only [e_3, e_4, q4]
      exact vc_Mo_groupItem_at_k0_23_2 (v_iv (n_v vs 3)) (w_fi ws (n_v vs 0) 11) (w_fi ws (n_v vs 0) 5) k3 f2 kz_0_11
  have nf3 : fc_1 PRD (20, [4, 3], [50, 2, 0, 8, 11, 3, 7, 0, 2, 0, 1, 2, 0, 8, 0, 6, 4, 2, 1, 1, 0, 1, 2, 0, 11]) ws (vs ++ [Value.int x]) := by
    refine ⟨nf_inA hl rfl, sgq_1659 ?_⟩
    · show (1 ≤ w_fi ws (n_v (vs ++ [Value.int x]) 4) 8) ∨ ((v_iv (n_v (vs ++ [Value.int x]) 3) + 1) ≤ w_fi ws (n_v (vs ++ [Value.int x]) 4) 11)
      simp only [e_3, e_4, q4]
      exact vc_Mo_groupItem_at_k0_23_3 (v_iv (n_v vs 3)) (w_fi ws (n_v vs 0) 11) (w_fi ws (n_v vs 0) 8) (w_fi ws (n_v vs 0) 5) k3 f3 kz_0_8 kz_0_11
  have nf4 : fc_1 PRD (20, [7, 4], [50, 1, 1, 1005, 1002, 0, 6, 4, 2, 1, 0, 0, 1, 3, 1, 2, 4, 3, 2, 1, 5, 0, 2]) ws (vs ++ [Value.int x]) := by
    refine ⟨nf_inA hl rfl, sgq_981 ?_⟩
    · show (v_iv (n_v (vs ++ [Value.int x]) 7) + 1) ≤ w_ei ws (w_ar ws (n_v (vs ++ [Value.int x]) 4) 2) ((w_fi ws (n_v (vs ++ [Value.int x]) 4) 5 + 2))
      simp only [e_4, e_7, q4]
      exact vc_Mo_groupItem_at_k0_23_4 (v_iv (n_v vs 7)) (w_ei ws (w_ar ws (n_v vs 0) 2)) (w_fi ws (n_v vs 0) 5) k7 f4
  have nf5 : fc_1 PRD (23, [5, 7], [-1, 1, -1]) ws (vs ++ [Value.int x]) := by
    refine ⟨nf_inA hl rfl, sgq_211 ?_⟩
    · show 1 * v_iv (n_v (vs ++ [Value.int x]) 5) + ((-1) * v_iv (n_v (vs ++ [Value.int x]) 7) + 0) ≤ (-1)
      simp only [e_5, e_7, q5]
      exact vc_Mo_groupItem_at_k0_23_5 (v_iv (n_v vs 1)) (v_iv (n_v vs 7)) (w_fi ws (n_v vs 0) 5) k1 k7 f5
  have nf6 : fc_1 PRD (20, [4], [60, 1, 3, 199, 5, 2, 3, 4]) ws (vs ++ [Value.int x]) := by
    refine ⟨nf_inA hl rfl, sgq_952 ?_⟩
    · show RWS (w_fi ws (n_v (vs ++ [Value.int x]) 4) 5) (w_ei ws (w_ar ws (n_v (vs ++ [Value.int x]) 4) 2)) (w_ei ws (w_ar ws (n_v (vs ++ [Value.int x]) 4) 3)) (w_ei ws (w_ar ws (n_v (vs ++ [Value.int x]) 4) 4))
      simp only [e_4, q4]
      exact vc_Mo_groupItem_at_k0_23_6 (w_ei ws (w_ar ws (n_v vs 0) 2)) (w_fi ws (n_v vs 0) 5) (w_ei ws (w_ar ws (n_v vs 0) 3)) (w_ei ws (w_ar ws (n_v vs 0) 4)) f6
  have nf7 : fc_1 PRD (24, [0, 4], []) ws (vs ++ [Value.int x]) := by
    refine ⟨nf_inA hl rfl, sgq_5 ?_⟩
    · show n_v (vs ++ [Value.int x]) 0 = n_v (vs ++ [Value.int x]) 4
      first | rfl | simp only [e_0, e_4, q4, q5]
  have nf8 : fc_1 PRD (24, [1, 5], []) ws (vs ++ [Value.int x]) := by
    refine ⟨nf_inA hl rfl, sgq_5 ?_⟩
    · show n_v (vs ++ [Value.int x]) 1 = n_v (vs ++ [Value.int x]) 5
      first | rfl | simp only [e_1, e_5, q4, q5]
  have nf9 : fc_1 PRD (20, [10, 4, 4], [30, 2005, 1, 0, 0, 1, 1, 11, 1, 1, 8]) ws (vs ++ [Value.int x]) := by
    refine ⟨nf_inA hl rfl, sgq_2010 ?_⟩
    · show 1 * v_iv (n_v (vs ++ [Value.int x]) 10) + (1 * w_fi ws (n_v (vs ++ [Value.int x]) 4) 11 + (1 * w_fi ws (n_v (vs ++ [Value.int x]) 4) 8 + 0)) ≤ 2005
      simp only [e_4, e_10, q4]
      exact vc_Mo_groupItem_at_k0_23_9 (w_fi ws (n_v vs 0) 11) (w_fi ws (n_v vs 0) 8) (w_fi ws (n_v vs 0) 5) (v_iv (Value.int x)) kz_0_8 kz_0_11 ex2
  have nf10 : fc_1 PRD (20, [10, 4, 4], [30, -2005, -1, 0, 0, -1, 1, 11, -1, 1, 8]) ws (vs ++ [Value.int x]) := by
    refine ⟨nf_inA hl rfl, sgq_2011 ?_⟩
    · show (-1) * v_iv (n_v (vs ++ [Value.int x]) 10) + ((-1) * w_fi ws (n_v (vs ++ [Value.int x]) 4) 11 + ((-1) * w_fi ws (n_v (vs ++ [Value.int x]) 4) 8 + 0)) ≤ (-2005)
      simp only [e_4, e_10, q4]
      exact vc_Mo_groupItem_at_k0_23_10 (w_fi ws (n_v vs 0) 11) (w_fi ws (n_v vs 0) 8) (w_fi ws (n_v vs 0) 5) (v_iv (Value.int x)) kz_0_8 kz_0_11 ex2
  obtain ⟨x0, e0, _, _⟩ := tv_int t9 rfl
  have e1 : v_iv (n_v vs 9) = x0.toInt := by rw [e0]; rfl
  have ho : sy_ofs (vs ++ [Value.int x]) (10, 9, -1000000000000, -1) := by
    refine ⟨x, x0, by rw [List.getElem?_append_right (by rw [hl]; decide), hl]; rfl, ?_, ?_, ?_⟩
    · rw [List.getElem?_append_left (by rw [hl]; decide)]; exact n_v_some (by rw [hl]; decide) e0
    · show x0.toInt + (-1000000000000) ≤ x.toInt; omega
    · show x.toInt ≤ x0.toInt + (-1); omega
  exact ⟨(fun _ h => (by cases h)), [Value.int x], ag_one hx, List.forall_mem_cons.mpr ⟨⟨show (20 : Nat) < 100 from by decide, nf0⟩, List.forall_mem_cons.mpr ⟨⟨show (20 : Nat) < 100 from by decide, nf1⟩, List.forall_mem_cons.mpr ⟨⟨show (20 : Nat) < 100 from by decide, nf2⟩, List.forall_mem_cons.mpr ⟨⟨show (20 : Nat) < 100 from by decide, nf3⟩, List.forall_mem_cons.mpr ⟨⟨show (20 : Nat) < 100 from by decide, nf4⟩, List.forall_mem_cons.mpr ⟨⟨show (23 : Nat) < 100 from by decide, nf5⟩, List.forall_mem_cons.mpr ⟨⟨show (20 : Nat) < 100 from by decide, nf6⟩, List.forall_mem_cons.mpr ⟨⟨show (24 : Nat) < 100 from by decide, nf7⟩, List.forall_mem_cons.mpr ⟨⟨show (24 : Nat) < 100 from by decide, nf8⟩, List.forall_mem_cons.mpr ⟨⟨show (20 : Nat) < 100 from by decide, nf9⟩, List.forall_mem_cons.mpr ⟨⟨show (20 : Nat) < 100 from by decide, nf10⟩, (fun _ h => (by cases h))⟩⟩⟩⟩⟩⟩⟩⟩⟩⟩⟩, List.forall_mem_cons.mpr ⟨ho, (fun _ h => (by cases h))⟩⟩
def n_Mo_groupItem_at_k0_an : List an_T := [(108, [(0, (2, 0, 0, [165])), (1, (0, 0, 0, [])), (2, (0, 0, 0, [])), (3, (0, 0, 7, [])), (4, (0, 0, 8, []))], [], (0, 0), [(0, 0, 99892), (1, 8, 8), (0, 0, 100000)], [], [], [(2, 0, 0, [165]), (0, 0, 0, []), (0, 0, 0, []), (0, 0, 2000, [])], 0, [], [(20, [4, 4], [30, 0, 1, 1, 15, (Int.negSucc 0), 1, 11]), (20, [4], [50, 3, 0, 12, 11, 15, 2, 21, 4, 7, 1, 3, 2, 0, 12, 0, 1, 0, 3, 2, 0, 11, 4, 3, 2, 0, 15, 0, 8, 3, 7, 1, 3, 2, 0, 12, 0, 0, 0, 7, 4, 3, 2, 0, 15, 0, 1, 2, 0, 11]), (20, [3, 4], [30, (Int.negSucc 0), 1, 0, 0, (Int.negSucc 0), 1, 11]), (20, [4], [50, 1, 0, 12, 1, 3, 2, 0, 12, 0, 1]), (20, [7, 4], [50, 1, 1, 1005, 1002, 0, 6, 4, 2, 1, 0, 0, 1, 3, 1, 2, 4, 3, 2, 1, 5, 0, 2]), (23, [5, 7], [(Int.negSucc 0), 1, (Int.negSucc 0)]), (20, [4], [60, 1, 3, 199, 5, 2, 3, 4]), (24, [0, 4], []), (24, [1, 5], [])]), (170, [(0, (2, 0, 0, [165])), (1, (0, 0, 0, [])), (2, (0, 0, 0, [])), (3, (0, 0, 7, [])), (4, (0, 0, 8, []))], [], (0, 0), [(0, 0, 99830), (2, 9, 0), (0, 0, 100000)], [], [], [(2, 0, 0, [165]), (0, 0, 0, []), (0, 0, 0, []), (0, 0, 2000, [])], 0, [(0, 0, 2005, [])], [(20, [4, 4], [30, 0, 1, 1, 15, (Int.negSucc 0), 1, 11]), (20, [4], [50, 3, 0, 12, 11, 15, 2, 21, 4, 7, 1, 3, 2, 0, 12, 0, 1, 0, 3, 2, 0, 11, 4, 3, 2, 0, 15, 0, 8, 3, 7, 1, 3, 2, 0, 12, 0, 0, 0, 7, 4, 3, 2, 0, 15, 0, 1, 2, 0, 11]), (20, [3, 4], [30, 0, 1, 0, 0, (Int.negSucc 0), 1, 11]), (20, [4, 3], [50, 2, 0, 8, 11, 3, 7, 0, 2, 0, 1, 2, 0, 8, 0, 6, 4, 2, 1, 1, 0, 1, 2, 0, 11]), (20, [7, 4], [50, 1, 1, 1005, 1002, 0, 6, 4, 2, 1, 0, 0, 1, 3, 1, 2, 4, 3, 2, 1, 5, 0, 2]), (23, [5, 7], [(Int.negSucc 0), 1, (Int.negSucc 0)]), (20, [4], [60, 1, 3, 199, 5, 2, 3, 4]), (24, [0, 4], []), (24, [1, 5], []), (20, [9, 4, 4], [30, 2005, 1, 0, 0, 1, 1, 11, 1, 1, 8]), (20, [9, 4, 4], [30, (Int.negSucc 2004), (Int.negSucc 0), 0, 0, (Int.negSucc 0), 1, 11, (Int.negSucc 0), 1, 8])]), (194, [(0, (2, 0, 0, [165])), (1, (0, 0, 0, [])), (2, (0, 0, 0, [])), (3, (0, 0, 7, [])), (4, (0, 0, 8, []))], [], (0, 0), [(0, 0, 99830), (2, 9, 0), (0, 0, 99806)], [], [], [(2, 0, 0, [165]), (0, 0, 0, []), (0, 0, 0, []), (0, 0, 2000, [])], 0, [(0, 0, 2005, [])], [(20, [4, 4], [30, 0, 1, 1, 15, (Int.negSucc 0), 1, 11]), (20, [4], [50, 3, 0, 12, 11, 15, 2, 21, 4, 7, 1, 3, 2, 0, 12, 0, 1, 0, 3, 2, 0, 11, 4, 3, 2, 0, 15, 0, 8, 3, 7, 1, 3, 2, 0, 12, 0, 0, 0, 7, 4, 3, 2, 0, 15, 0, 1, 2, 0, 11]), (20, [3, 4], [30, 0, 1, 0, 0, (Int.negSucc 0), 1, 11]), (20, [4, 3], [50, 2, 0, 8, 11, 3, 7, 0, 2, 0, 1, 2, 0, 8, 0, 6, 4, 2, 1, 1, 0, 1, 2, 0, 11]), (20, [7, 4], [50, 1, 1, 1005, 1002, 0, 6, 4, 2, 1, 0, 0, 1, 3, 1, 2, 4, 3, 2, 1, 5, 0, 2]), (23, [5, 7], [(Int.negSucc 0), 1, (Int.negSucc 0)]), (20, [4], [60, 1, 3, 199, 5, 2, 3, 4]), (20, [9, 4, 4], [30, (Int.negSucc 2005), (Int.negSucc 0), 0, 0, (Int.negSucc 0), 1, 11, (Int.negSucc 0), 1, 8]), (24, [0, 4], []), (24, [1, 5], [])])]
def t_Mo_groupItem_at_k0_ct : ct_L := [(1, 425, e_Mo_byteAt), (1, 457, e_Mo_sign), (1, 460, e_Mo_next), (1, 463, e_Mo_wrong), (1, 481, e_Mo_isName), (1, 491, e_Mo_need), (1, 509, e_Mo_groups), (577, 512, e_Mo_item_at_k1)]
set_option maxRecDepth 100000 in
theorem c_Mo_groupItem_at_k0 {l : Launch} {D : va_G} {kA : Nat → ClassId} (h_Mo_byteAt : ct_ok PRD l D kA GG y_Mo_byteAt z_Mo_byteAt e_Mo_byteAt) (h_Mo_groups : ct_ok PRD l D kA GG y_Mo_groups z_Mo_groups e_Mo_groups) (h_Mo_isName : ct_ok PRD l D kA GG y_Mo_isName z_Mo_isName e_Mo_isName) (h_Mo_item_at_k1 : ct_ok PRD l D kA GG y_Mo_item_at_k1 z_Mo_item_at_k1 e_Mo_item_at_k1) (h_Mo_need : ct_ok PRD l D kA GG y_Mo_need z_Mo_need e_Mo_need) (h_Mo_next : ct_ok PRD l D kA GG y_Mo_next z_Mo_next e_Mo_next) (h_Mo_sign : ct_ok PRD l D kA GG y_Mo_sign z_Mo_sign e_Mo_sign) (h_Mo_wrong : ct_ok PRD l D kA GG y_Mo_wrong z_Mo_wrong e_Mo_wrong) : ct_ok PRD l D kA GG y_Mo_groupItem_at_k0 z_Mo_groupItem_at_k0 e_Mo_groupItem_at_k0 := chk_all_ok (FT := [(16, 13, 2), (391, 13, 5), (413, 13, 8), (422, 13, 11), (428, 13, 13), (431, 13, 15)]) (PT := []) (CT := t_Mo_groupItem_at_k0_ct) (KT := []) (NT := []) (AN := n_Mo_groupItem_at_k0_an) (OT := [o_Mo_groupItem_at_k0_0, o_Mo_groupItem_at_k0_1, o_Mo_groupItem_at_k0_2, o_Mo_groupItem_at_k0_3, o_Mo_groupItem_at_k0_4, o_Mo_groupItem_at_k0_5, o_Mo_groupItem_at_k0_6, o_Mo_groupItem_at_k0_7, o_Mo_groupItem_at_k0_8, o_Mo_groupItem_at_k0_9, o_Mo_groupItem_at_k0_10, o_Mo_groupItem_at_k0_11, o_Mo_groupItem_at_k0_12, o_Mo_groupItem_at_k0_13, o_Mo_groupItem_at_k0_14, o_Mo_groupItem_at_k0_15, o_Mo_groupItem_at_k0_16, o_Mo_groupItem_at_k0_17, o_Mo_groupItem_at_k0_18, o_Mo_groupItem_at_k0_19, o_Mo_groupItem_at_k0_20, o_Mo_groupItem_at_k0_21, o_Mo_groupItem_at_k0_22, o_Mo_groupItem_at_k0_23]) 3 492 (List.forall_mem_cons.mpr ⟨oo_Mo_groupItem_at_k0_0, List.forall_mem_cons.mpr ⟨oo_Mo_groupItem_at_k0_1, List.forall_mem_cons.mpr ⟨oo_Mo_groupItem_at_k0_2, List.forall_mem_cons.mpr ⟨oo_Mo_groupItem_at_k0_3, List.forall_mem_cons.mpr ⟨oo_Mo_groupItem_at_k0_4, List.forall_mem_cons.mpr ⟨oo_Mo_groupItem_at_k0_5, List.forall_mem_cons.mpr ⟨oo_Mo_groupItem_at_k0_6, List.forall_mem_cons.mpr ⟨oo_Mo_groupItem_at_k0_7, List.forall_mem_cons.mpr ⟨oo_Mo_groupItem_at_k0_8, List.forall_mem_cons.mpr ⟨oo_Mo_groupItem_at_k0_9, List.forall_mem_cons.mpr ⟨oo_Mo_groupItem_at_k0_10, List.forall_mem_cons.mpr ⟨oo_Mo_groupItem_at_k0_11, List.forall_mem_cons.mpr ⟨oo_Mo_groupItem_at_k0_12, List.forall_mem_cons.mpr ⟨oo_Mo_groupItem_at_k0_13, List.forall_mem_cons.mpr ⟨oo_Mo_groupItem_at_k0_14, List.forall_mem_cons.mpr ⟨oo_Mo_groupItem_at_k0_15, List.forall_mem_cons.mpr ⟨oo_Mo_groupItem_at_k0_16, List.forall_mem_cons.mpr ⟨oo_Mo_groupItem_at_k0_17, List.forall_mem_cons.mpr ⟨oo_Mo_groupItem_at_k0_18, List.forall_mem_cons.mpr ⟨oo_Mo_groupItem_at_k0_19, List.forall_mem_cons.mpr ⟨oo_Mo_groupItem_at_k0_20, List.forall_mem_cons.mpr ⟨oo_Mo_groupItem_at_k0_21, List.forall_mem_cons.mpr ⟨oo_Mo_groupItem_at_k0_22, List.forall_mem_cons.mpr ⟨oo_Mo_groupItem_at_k0_23, List.forall_mem_nil _⟩⟩⟩⟩⟩⟩⟩⟩⟩⟩⟩⟩⟩⟩⟩⟩⟩⟩⟩⟩⟩⟩⟩⟩) (by decide +kernel) ⟨List.forall_mem_cons.mpr ⟨gf_Mo_16, List.forall_mem_cons.mpr ⟨gf_Mo_391, List.forall_mem_cons.mpr ⟨gf_Mo_413, List.forall_mem_cons.mpr ⟨gf_Mo_422, List.forall_mem_cons.mpr ⟨gf_Mo_428, List.forall_mem_cons.mpr ⟨gf_Mo_431, List.forall_mem_nil _⟩⟩⟩⟩⟩⟩, List.forall_mem_nil _, List.forall_mem_cons.mpr ⟨cl_virtual (y := y_Mo_byteAt) (ci := 13) rfl rfl ⟨_, _, rfl⟩ (by decide +kernel) h_Mo_byteAt wm_2986 wm_9 wm_2983 wm_2985 wv_12_12 ⟨by decide, by decide, by decide +kernel⟩ (by decide), List.forall_mem_cons.mpr ⟨cl_virtual (y := y_Mo_sign) (ci := 13) rfl rfl ⟨_, _, rfl⟩ (by decide +kernel) h_Mo_sign wm_3058 wm_9 wm_3055 wm_3057 wv_13_11 ⟨by decide, by decide, by decide +kernel⟩ (by decide), List.forall_mem_cons.mpr ⟨cl_virtual (y := y_Mo_next) (ci := 13) rfl rfl ⟨_, _, rfl⟩ (by decide +kernel) h_Mo_next wm_2982 wm_9 wm_2979 wm_2981 wv_12_11 ⟨by decide, by decide, by decide +kernel⟩ (by decide), List.forall_mem_cons.mpr ⟨cl_virtual (y := y_Mo_wrong) (ci := 13) rfl rfl ⟨_, _, rfl⟩ (by decide +kernel) h_Mo_wrong wm_3017 wm_9 wm_3014 wm_3016 wv_13_1 ⟨by decide, by decide, by decide +kernel⟩ (by decide), List.forall_mem_cons.mpr ⟨cl_virtual (y := y_Mo_isName) (ci := 13) rfl rfl ⟨_, _, rfl⟩ (by decide +kernel) h_Mo_isName wm_3012 wm_9 wm_3009 wm_3011 wv_13_0 ⟨by decide, by decide, by decide +kernel⟩ (by decide), List.forall_mem_cons.mpr ⟨cl_virtual (y := y_Mo_need) (ci := 13) rfl rfl ⟨_, _, rfl⟩ (by decide +kernel) h_Mo_need wm_3062 wm_9 wm_3059 wm_3061 wv_13_12 ⟨by decide, by decide, by decide +kernel⟩ (by decide), List.forall_mem_cons.mpr ⟨cl_virtual (y := y_Mo_groups) (ci := 13) rfl rfl ⟨_, _, rfl⟩ (by decide +kernel) h_Mo_groups wm_3070 wm_9 wm_3067 wm_3069 wv_13_14 ⟨by decide, by decide, by decide +kernel⟩ (by decide), List.forall_mem_cons.mpr ⟨cl_virtual (y := y_Mo_item_at_k1) (ci := 13) rfl rfl ⟨_, _, rfl⟩ (by decide +kernel) h_Mo_item_at_k1 wm_2997 wm_9 wm_2994 wm_2996 wv_12_13 ⟨by decide, by decide, by decide +kernel⟩ (by decide), List.forall_mem_nil _⟩⟩⟩⟩⟩⟩⟩⟩, List.forall_mem_nil _, List.forall_mem_nil _, GG_pl⟩ (by decide +kernel)

set_option maxHeartbeats 4000000 in
theorem vc_Mo_groupItem_at_k1_0_0 (x3 : Int) (r_0 : Int) (pos_0 : Int) (fault_0 : Int) (k3 : 0 ≤ x3 ∧ x3 ≤ 2000) (f7 : (-1) * fault_0 + 0 ≤ (-1)) (kz_0_8 : 0 ≤ fault_0 ∧ fault_0 ≤ 5) (kz_0_11 : 0 ≤ pos_0 ∧ pos_0 ≤ 2000) : (1 ≤ fault_0) ∨ ((x3 + 1) ≤ pos_0) := by
  first
    | omega
    | (have q1 := (hE_0_2_1 (r_0 + 2) (by omega)).2 (by omega)
       have q2 := (hE_0_2_2 (r_0 + 2) (by omega)).2 (by omega)
       omega)
    | (have q1 := (hE_0_2_1 (r_0 + 1) (by omega)).2 (by omega)
       have q2 := (hE_0_2_2 (r_0 + 1) (by omega)).2 (by omega)
       omega)
    | (have q1 := (hE_0_2_1 (r_0 + 2) (by omega)).2 (by omega)
       omega)
    | (have q1 := (hE_0_2_1 (r_0 + 1) (by omega)).2 (by omega)
       omega)
    | (have q1 := (hE_0_2_1 (r_0 + 2) (by omega)).2 (by omega)
       have q2 := (hE_0_2_2 (r_0 + 2) (by omega)).2 (by omega)
       have q3 := (hE_0_2_3 (r_0 + 2) (by omega)).1 (by omega)
       omega)
    | (have q1 := (hE_0_2_1 (r_0 + 2) (by omega)).2 (by omega)
       have q2 := (hE_0_2_2 (r_0 + 2) (by omega)).2 (by omega)
       have q3 := (hE_0_2_3 (r_0 + 2) (by omega)).2 (by omega)
       omega)
    | (have q1 := (hE_0_2_1 (r_0 + 2) (by omega)).2 (by omega)
       have q2 := (hE_0_2_2 (r_0 + 2) (by omega)).2 (by omega)
       have q3 := (hE_0_2_3 (r_0 + 2) (by omega)).1 (by omega)
       have q4 : x13 = r_0 + 2 := by omega
       rw [q4] at h34
       omega)
def o_Mo_groupItem_at_k1_0 : or_T := (23, 8, [(0, (2, 0, 0, [165])), (3, (0, 0, 2000, []))], [(20, [0], [30, -1, -1, 1, 8])], [], [], [(20, [0, 3], [50, 2, 0, 8, 11, 3, 7, 0, 2, 0, 1, 2, 0, 8, 0, 6, 4, 2, 1, 1, 0, 1, 2, 0, 11])], [], [])
theorem oo_Mo_groupItem_at_k1_0 {kA : Nat → ClassId} : or_ok PRD kA GG o_Mo_groupItem_at_k1_0 := by
  refine or_mk fun A ta ws vs hD hth hl => ?_
  intro t0 r0 t3 k3 f7
  have kz_0_8 := fdq_14 hD hth r0
  have kz_0_11 := fdq_273 hD hth r0
  have nf0 : fc_1 PRD (20, [0, 3], [50, 2, 0, 8, 11, 3, 7, 0, 2, 0, 1, 2, 0, 8, 0, 6, 4, 2, 1, 1, 0, 1, 2, 0, 11]) ws (vs) := ⟨nf_in hl rfl, sgq_1659 (vc_Mo_groupItem_at_k1_0_0 (v_iv (n_v vs 3)) (w_fi ws (n_v vs 0) 5) (w_fi ws (n_v vs 0) 11) (w_fi ws (n_v vs 0) 8) k3 (shm_144 f7) kz_0_8 kz_0_11)⟩
  refine ⟨(fun _ h => (by cases h)), [], trivial, ?_, (fun _ h => (by cases h))⟩
  rw [List.append_nil]
  exact List.forall_mem_cons.mpr ⟨⟨show (20 : Nat) < 100 from by decide, nf0⟩, (fun _ h => (by cases h))⟩
set_option maxHeartbeats 4000000 in
theorem vc_Mo_groupItem_at_k1_1_0 (x3 : Int) (r_0 : Int) (gx : Int) (k3 : 0 ≤ x3 ∧ x3 ≤ 2000) (ex2 : gx = x3) : 1 * gx + ((-1) * x3 + 0) ≤ 0 := by
  first
    | omega
    | (have q1 := (hE_0_2_1 (r_0 + 2) (by omega)).2 (by omega)
       have q2 := (hE_0_2_2 (r_0 + 2) (by omega)).2 (by omega)
       omega)
    | (have q1 := (hE_0_2_1 (r_0 + 1) (by omega)).2 (by omega)
       have q2 := (hE_0_2_2 (r_0 + 1) (by omega)).2 (by omega)
       omega)
    | (have q1 := (hE_0_2_1 (r_0 + 2) (by omega)).2 (by omega)
       omega)
    | (have q1 := (hE_0_2_1 (r_0 + 1) (by omega)).2 (by omega)
       omega)
    | (have q1 := (hE_0_2_1 (r_0 + 2) (by omega)).2 (by omega)
       have q2 := (hE_0_2_2 (r_0 + 2) (by omega)).2 (by omega)
       have q3 := (hE_0_2_3 (r_0 + 2) (by omega)).1 (by omega)
       omega)
    | (have q1 := (hE_0_2_1 (r_0 + 2) (by omega)).2 (by omega)
       have q2 := (hE_0_2_2 (r_0 + 2) (by omega)).2 (by omega)
       have q3 := (hE_0_2_3 (r_0 + 2) (by omega)).2 (by omega)
       omega)
    | (have q1 := (hE_0_2_1 (r_0 + 2) (by omega)).2 (by omega)
       have q2 := (hE_0_2_2 (r_0 + 2) (by omega)).2 (by omega)
       have q3 := (hE_0_2_3 (r_0 + 2) (by omega)).1 (by omega)
       have q4 : x13 = r_0 + 2 := by omega
       rw [q4] at h34
       omega)
set_option maxHeartbeats 4000000 in
theorem vc_Mo_groupItem_at_k1_1_1 (x3 : Int) (r_0 : Int) (gx : Int) (k3 : 0 ≤ x3 ∧ x3 ≤ 2000) (ex2 : gx = x3) : (-1) * gx + (1 * x3 + 0) ≤ 0 := by
  first
    | omega
    | (have q1 := (hE_0_2_1 (r_0 + 2) (by omega)).2 (by omega)
       have q2 := (hE_0_2_2 (r_0 + 2) (by omega)).2 (by omega)
       omega)
    | (have q1 := (hE_0_2_1 (r_0 + 1) (by omega)).2 (by omega)
       have q2 := (hE_0_2_2 (r_0 + 1) (by omega)).2 (by omega)
       omega)
    | (have q1 := (hE_0_2_1 (r_0 + 2) (by omega)).2 (by omega)
       omega)
    | (have q1 := (hE_0_2_1 (r_0 + 1) (by omega)).2 (by omega)
       omega)
    | (have q1 := (hE_0_2_1 (r_0 + 2) (by omega)).2 (by omega)
       have q2 := (hE_0_2_2 (r_0 + 2) (by omega)).2 (by omega)
       have q3 := (hE_0_2_3 (r_0 + 2) (by omega)).1 (by omega)
       omega)
    | (have q1 := (hE_0_2_1 (r_0 + 2) (by omega)).2 (by omega)
       have q2 := (hE_0_2_2 (r_0 + 2) (by omega)).2 (by omega)
       have q3 := (hE_0_2_3 (r_0 + 2) (by omega)).2 (by omega)
       omega)
    | (have q1 := (hE_0_2_1 (r_0 + 2) (by omega)).2 (by omega)
       have q2 := (hE_0_2_2 (r_0 + 2) (by omega)).2 (by omega)
       have q3 := (hE_0_2_3 (r_0 + 2) (by omega)).1 (by omega)
       have q4 : x13 = r_0 + 2 := by omega
       rw [q4] at h34
       omega)
set_option maxHeartbeats 4000000 in
theorem vc_Mo_groupItem_at_k1_1_2 (x3 : Int) (r_0 : Int) (pos_0 : Int) (gx : Int) (k3 : 0 ≤ x3 ∧ x3 ≤ 2000) (f5 : 1 * x3 + ((-1) * pos_0 + 0) ≤ 0) (kz_0_11 : 0 ≤ pos_0 ∧ pos_0 ≤ 2000) (ex2 : gx = x3) : 1 * gx + ((-1) * pos_0 + 0) ≤ 0 := by
  first
    | omega
    | (have q1 := (hE_0_2_1 (r_0 + 2) (by omega)).2 (by omega)
       have q2 := (hE_0_2_2 (r_0 + 2) (by omega)).2 (by omega)
       omega)
    | (have q1 := (hE_0_2_1 (r_0 + 1) (by omega)).2 (by omega)
       have q2 := (hE_0_2_2 (r_0 + 1) (by omega)).2 (by omega)
       omega)
    | (have q1 := (hE_0_2_1 (r_0 + 2) (by omega)).2 (by omega)
       omega)
    | (have q1 := (hE_0_2_1 (r_0 + 1) (by omega)).2 (by omega)
       omega)
    | (have q1 := (hE_0_2_1 (r_0 + 2) (by omega)).2 (by omega)
       have q2 := (hE_0_2_2 (r_0 + 2) (by omega)).2 (by omega)
       have q3 := (hE_0_2_3 (r_0 + 2) (by omega)).1 (by omega)
       omega)
    | (have q1 := (hE_0_2_1 (r_0 + 2) (by omega)).2 (by omega)
       have q2 := (hE_0_2_2 (r_0 + 2) (by omega)).2 (by omega)
       have q3 := (hE_0_2_3 (r_0 + 2) (by omega)).2 (by omega)
       omega)
    | (have q1 := (hE_0_2_1 (r_0 + 2) (by omega)).2 (by omega)
       have q2 := (hE_0_2_2 (r_0 + 2) (by omega)).2 (by omega)
       have q3 := (hE_0_2_3 (r_0 + 2) (by omega)).1 (by omega)
       have q4 : x13 = r_0 + 2 := by omega
       rw [q4] at h34
       omega)
def o_Mo_groupItem_at_k1_1 : or_T := (25, 7, [(0, (2, 0, 0, [165])), (3, (0, 0, 2000, []))], [(20, [3, 0], [30, 0, 1, 0, 0, -1, 1, 11])], [], [(0, 0, 2000, [])], [(23, [7, 3], [0, 1, -1]), (23, [7, 3], [0, -1, 1]), (20, [7, 0], [30, 0, 1, 0, 0, -1, 1, 11])], [], [])
theorem oo_Mo_groupItem_at_k1_1 {kA : Nat → ClassId} : or_ok PRD kA GG o_Mo_groupItem_at_k1_1 := by
  refine or_mk fun A ta ws vs hD hth hl => ?_
  intro t0 r0 t3 k3 f5
  replace f5 := shm_1395 f5
  have kz_0_11 := fdq_273 hD hth r0
  obtain ⟨x, ex, hx⟩ := iv_ex (ta := ta) (lo := 0) (hi := 2000) (z := v_iv (n_v vs 3)) (by omega) (by omega) (by omega) (by omega)
  have ex2 : v_iv (Value.int x) = v_iv (n_v vs 3) := ex
  have ex3 : 0 ≤ v_iv (Value.int x) ∧ v_iv (Value.int x) ≤ 2000 := tv_rng hx
  have e_0 : n_v (vs ++ [Value.int x]) 0 = n_v vs 0 := n_v_old (by rw [hl]; decide)
  have e_3 : n_v (vs ++ [Value.int x]) 3 = n_v vs 3 := n_v_old (by rw [hl]; decide)
  have e_7 : n_v (vs ++ [Value.int x]) 7 = Value.int x := n_v_new hl
  have nf0 : fc_1 PRD (23, [7, 3], [0, 1, -1]) ws (vs ++ [Value.int x]) := by
    refine ⟨nf_inA hl rfl, sgq_7 ?_⟩
    · show 1 * v_iv (n_v (vs ++ [Value.int x]) 7) + ((-1) * v_iv (n_v (vs ++ [Value.int x]) 3) + 0) ≤ 0
      simp only [e_3, e_7]
      exact vc_Mo_groupItem_at_k1_1_0 (v_iv (n_v vs 3)) (w_fi ws (n_v vs 0) 5) (v_iv (Value.int x)) k3 ex2
  have nf1 : fc_1 PRD (23, [7, 3], [0, -1, 1]) ws (vs ++ [Value.int x]) := by
    refine ⟨nf_inA hl rfl, sgq_22 ?_⟩
    · show (-1) * v_iv (n_v (vs ++ [Value.int x]) 7) + (1 * v_iv (n_v (vs ++ [Value.int x]) 3) + 0) ≤ 0
      simp only [e_3, e_7]
      exact vc_Mo_groupItem_at_k1_1_1 (v_iv (n_v vs 3)) (w_fi ws (n_v vs 0) 5) (v_iv (Value.int x)) k3 ex2
  have nf2 : fc_1 PRD (20, [7, 0], [30, 0, 1, 0, 0, -1, 1, 11]) ws (vs ++ [Value.int x]) := by
    refine ⟨nf_inA hl rfl, sgq_1395 ?_⟩
    · show 1 * v_iv (n_v (vs ++ [Value.int x]) 7) + ((-1) * w_fi ws (n_v (vs ++ [Value.int x]) 0) 11 + 0) ≤ 0
      simp only [e_0, e_7]
      exact vc_Mo_groupItem_at_k1_1_2 (v_iv (n_v vs 3)) (w_fi ws (n_v vs 0) 5) (w_fi ws (n_v vs 0) 11) (v_iv (Value.int x)) k3 f5 kz_0_11 ex2
  exact ⟨(fun _ h => (by cases h)), [Value.int x], ag_one hx, List.forall_mem_cons.mpr ⟨⟨show (23 : Nat) < 100 from by decide, nf0⟩, List.forall_mem_cons.mpr ⟨⟨show (23 : Nat) < 100 from by decide, nf1⟩, List.forall_mem_cons.mpr ⟨⟨show (20 : Nat) < 100 from by decide, nf2⟩, (fun _ h => (by cases h))⟩⟩⟩, (fun _ h => (by cases h))⟩
set_option maxHeartbeats 4000000 in
theorem vc_Mo_groupItem_at_k1_2_r0 (x4 : Int) (x9 : Int) (all_0 : Int → Int) (r_0 : Int) (k4 : 0 ≤ x4 ∧ x4 ≤ 7) (k9 : 0 ≤ x9 ∧ x9 ≤ 8) (f0 : 1 * x9 + ((-1) * all_0 (r_0 + 2) + 0) ≤ 0) (f1 : (-1) * x9 + (1 * all_0 (r_0 + 2) + 0) ≤ 0) (f5 : 1 * x4 + ((-1) * all_0 (r_0 + 2) + 0) ≤ 0) (f6 : (-1) * x4 + (1 * all_0 (r_0 + 2) + 0) ≤ 0) : 0 ≤ x9 ∧ x9 ≤ 7 := by
  first
    | omega
    | (have q1 := (hE_0_2_1 (r_0 + 2) (by omega)).2 (by omega)
       have q2 := (hE_0_2_2 (r_0 + 2) (by omega)).2 (by omega)
       omega)
    | (have q1 := (hE_0_2_1 (r_0 + 1) (by omega)).2 (by omega)
       have q2 := (hE_0_2_2 (r_0 + 1) (by omega)).2 (by omega)
       omega)
    | (have q1 := (hE_0_2_1 (r_0 + 2) (by omega)).2 (by omega)
       omega)
    | (have q1 := (hE_0_2_1 (r_0 + 1) (by omega)).2 (by omega)
       omega)
    | (have q1 := (hE_0_2_1 (r_0 + 2) (by omega)).2 (by omega)
       have q2 := (hE_0_2_2 (r_0 + 2) (by omega)).2 (by omega)
       have q3 := (hE_0_2_3 (r_0 + 2) (by omega)).1 (by omega)
       omega)
    | (have q1 := (hE_0_2_1 (r_0 + 2) (by omega)).2 (by omega)
       have q2 := (hE_0_2_2 (r_0 + 2) (by omega)).2 (by omega)
       have q3 := (hE_0_2_3 (r_0 + 2) (by omega)).2 (by omega)
       omega)
    | (have q1 := (hE_0_2_1 (r_0 + 2) (by omega)).2 (by omega)
       have q2 := (hE_0_2_2 (r_0 + 2) (by omega)).2 (by omega)
       have q3 := (hE_0_2_3 (r_0 + 2) (by omega)).1 (by omega)
       have q4 : x13 = r_0 + 2 := by omega
       rw [q4] at h34
       omega)
def o_Mo_groupItem_at_k1_2 : or_T := (49, 10, [(0, (2, 0, 0, [165])), (1, (0, 0, 7, [])), (3, (0, 0, 2000, [])), (4, (0, 0, 7, [])), (5, (0, 8, 8, [])), (7, (0, 0, 2000, [])), (8, (0, 1, 1, [])), (9, (0, 0, 8, []))], [(20, [9, 0], [30, 0, 1, 0, 0, -1, 3, 2005002]), (20, [9, 0], [30, 0, -1, 0, 0, 1, 3, 2005002]), (8, [8], [1]), (23, [7, 3], [0, 1, -1]), (23, [7, 3], [0, -1, 1]), (20, [4, 0], [30, 0, 1, 0, 0, -1, 3, 2005002]), (20, [4, 0], [30, 0, -1, 0, 0, 1, 3, 2005002]), (20, [1, 0], [50, 1, 1, 1005, 1002, 0, 6, 4, 2, 1, 0, 0, 1, 3, 1, 2, 4, 3, 2, 1, 5, 0, 2]), (20, [0], [60, 1, 3, 199, 5, 2, 3, 4]), (20, [0, 0], [30, 0, 1, 1, 15, -1, 1, 11]), (20, [0], [50, 3, 0, 12, 11, 15, 2, 21, 4, 7, 1, 3, 2, 0, 12, 0, 1, 0, 3, 2, 0, 11, 4, 3, 2, 0, 15, 0, 8, 3, 7, 1, 3, 2, 0, 12, 0, 0, 0, 7, 4, 3, 2, 0, 15, 0, 1, 2, 0, 11]), (20, [7, 0], [30, 0, 1, 0, 0, -1, 1, 15]), (20, [8, 0], [50, 1, 0, 1012, 4, 6, 1, 2, 1, 0, 0, 1, 1, 3, 2, 1, 12, 0, 1]), (102, [7], [0]), (23, [7, 3], [0, 1, -1]), (23, [7, 3], [0, -1, 1]), (102, [7], [0, 165011, 165012, 165013, 165014, 165015]), (23, [7, 3], [0, 1, -1]), (23, [7, 3], [0, -1, 1]), (7, [4, 5], [1])], [(9, (0, 0, 7, []))], [], [], [], [])
theorem oo_Mo_groupItem_at_k1_2 {kA : Nat → ClassId} : or_ok PRD kA GG o_Mo_groupItem_at_k1_2 := by
  refine or_mk fun A ta ws vs hD hth hl => ?_
  intro t0 r0 t1 k1 t3 k3 t4 k4 t5 k5 t7 k7 t8 k8 t9 k9 f0 f1 f2 f3 f4 f5 f6 f7 f8 f9 f10 f11 f12 ta1 w1 le1 s1 f14 f15 ta2 w2 le2 s2 f17 f18 f19
  have hrf0 : 0 ≤ v_iv (n_v vs 9) ∧ v_iv (n_v vs 9) ≤ 7 := vc_Mo_groupItem_at_k1_2_r0 (v_iv (n_v vs 4)) (v_iv (n_v vs 9)) (w_ei ws (w_ar ws (n_v vs 0) 2)) (w_fi ws (n_v vs 0) 5) k4 k9 (shm_132 f0) (shm_133 f1) (shm_132 f5) (shm_133 f6)
  have rf9 : tv_ok ta (0, 0, 7, []) (n_v vs 9) := tv_in t9 (by first | omega | grind) (by first | omega | grind)
  refine ⟨List.forall_mem_cons.mpr ⟨rf9, (fun _ h => (by cases h))⟩, [], trivial, ?_, (fun _ h => (by cases h))⟩
  rw [List.append_nil]
  exact (fun _ h => (by cases h))
set_option maxHeartbeats 4000000 in
theorem vc_Mo_groupItem_at_k1_3_r0 (x9 : Int) (x11 : Int) (x13 : Int) (x14 : Int) (x16 : Int) (all_0 : Int → Int) (r_0 : Int) (k9 : 0 ≤ x9 ∧ x9 ≤ 7) (k11 : 0 ≤ x11 ∧ x11 ≤ 66297) (k13 : 2 ≤ x13 ∧ x13 ≤ 66299) (k14 : 0 ≤ x14 ∧ x14 ≤ 8) (k16 : 1 ≤ x16 ∧ x16 ≤ 9) (d0 : x14 + 1 ≤ x16 ∧ x16 ≤ x14 + 1) (d1 : x11 + 2 ≤ x13 ∧ x13 ≤ x11 + 2) (h1 : x14 = all_0 (x13)) (g3 : x11 = r_0) (f5 : 1 * x9 + ((-1) * all_0 (r_0 + 2) + 0) ≤ 0) (f6 : (-1) * x9 + (1 * all_0 (r_0 + 2) + 0) ≤ 0) : 1 ≤ x16 ∧ x16 ≤ 8 := by
  first
    | omega
    | (have e : x13 = r_0 + 2 := by omega
       rw [e] at h1
       omega)
def o_Mo_groupItem_at_k1_3 : or_T := (64, 17, [(0, (2, 0, 0, [165])), (1, (0, 0, 7, [])), (3, (0, 0, 2000, [])), (4, (0, 0, 7, [])), (5, (0, 8, 8, [])), (7, (0, 0, 2000, [])), (8, (0, 1, 1, [])), (9, (0, 0, 7, [])), (10, (2, 0, 0, [167])), (11, (0, 0, 66297, [])), (12, (0, 2, 2, [])), (13, (0, 2, 66299, [])), (14, (0, 0, 8, [])), (15, (0, 1, 1, [])), (16, (0, 1, 9, []))], [(1, [16, 14, 15], []), (10, [14, 10, 13], []), (1, [13, 11, 12], []), (9, [11, 0], [5]), (9, [10, 0], [2]), (20, [9, 0], [30, 0, 1, 0, 0, -1, 3, 2005002]), (20, [9, 0], [30, 0, -1, 0, 0, 1, 3, 2005002]), (8, [8], [1]), (23, [7, 3], [0, 1, -1]), (23, [7, 3], [0, -1, 1]), (20, [4, 0], [30, 0, 1, 0, 0, -1, 3, 2005002]), (20, [4, 0], [30, 0, -1, 0, 0, 1, 3, 2005002]), (20, [1, 0], [50, 1, 1, 1005, 1002, 0, 6, 4, 2, 1, 0, 0, 1, 3, 1, 2, 4, 3, 2, 1, 5, 0, 2]), (20, [0], [60, 1, 3, 199, 5, 2, 3, 4]), (20, [0, 0], [30, 0, 1, 1, 15, -1, 1, 11]), (20, [0], [50, 3, 0, 12, 11, 15, 2, 21, 4, 7, 1, 3, 2, 0, 12, 0, 1, 0, 3, 2, 0, 11, 4, 3, 2, 0, 15, 0, 8, 3, 7, 1, 3, 2, 0, 12, 0, 0, 0, 7, 4, 3, 2, 0, 15, 0, 1, 2, 0, 11]), (20, [7, 0], [30, 0, 1, 0, 0, -1, 1, 15]), (20, [8, 0], [50, 1, 0, 1012, 4, 6, 1, 2, 1, 0, 0, 1, 1, 3, 2, 1, 12, 0, 1]), (102, [7], [0]), (23, [7, 3], [0, 1, -1]), (23, [7, 3], [0, -1, 1]), (102, [7], [0, 165011, 165012, 165013, 165014, 165015]), (23, [7, 3], [0, 1, -1]), (23, [7, 3], [0, -1, 1]), (7, [4, 5], [1])], [(16, (0, 1, 8, []))], [], [], [], [(16, 14, 1, 1), (13, 11, 2, 2)])
theorem oo_Mo_groupItem_at_k1_3 {kA : Nat → ClassId} : or_ok PRD kA GG o_Mo_groupItem_at_k1_3 := by
  refine or_mk fun A ta ws vs hD hth hl => ?_
  intro t0 r0 t1 k1 t3 k3 t4 k4 t5 k5 t7 k7 t8 k8 t9 k9 t10 r10 t11 k11 t12 k12 t13 k13 t14 k14 t15 k15 t16 k16 d0 d1 f0 f1 f2 f3 f4 f5 f6 f7 f8 f9 f10 f11 f12 f13 f14 f15 f16 f17 ta1 w1 le1 s1 f19 f20 ta2 w2 le2 s2 f22 f23 f24
  replace f1 := shm_106 f1
  replace f3 := shm_109 f3
  replace f4 := shm_129 f4
  have ad_10 : v_ad (n_v vs 10) = w_ar ws (n_v vs 0) 2 := congrArg v_ad f4
  simp only [ad_10] at f1
  have h1 : v_iv (n_v vs 14) = w_ei ws (w_ar ws (n_v vs 0) 2) (v_iv (n_v vs 13)) := f1
  have g3 : v_iv (n_v vs 11) = w_fi ws (n_v vs 0) 5 := congrArg v_iv f3
  have hrf0 : 1 ≤ v_iv (n_v vs 16) ∧ v_iv (n_v vs 16) ≤ 8 := vc_Mo_groupItem_at_k1_3_r0 (v_iv (n_v vs 9)) (v_iv (n_v vs 11)) (v_iv (n_v vs 13)) (v_iv (n_v vs 14)) (v_iv (n_v vs 16)) (w_ei ws (w_ar ws (n_v vs 0) 2)) (w_fi ws (n_v vs 0) 5) k9 k11 k13 k14 k16 d0 d1 h1 g3 (shm_132 f5) (shm_133 f6)
  have rf16 : tv_ok ta (0, 1, 8, []) (n_v vs 16) := tv_in t16 (by first | omega | grind) (by first | omega | grind)
  refine ⟨List.forall_mem_cons.mpr ⟨rf16, (fun _ h => (by cases h))⟩, [], trivial, ?_, (fun _ h => (by cases h))⟩
  rw [List.append_nil]
  exact (fun _ h => (by cases h))
set_option maxHeartbeats 4000000 in
theorem vc_Mo_groupItem_at_k1_4_0 (x1 : Int) (x9 : Int) (x13 : Int) (x16 : Int) (from_0 : Int) (pos_0 : Int) (kind_0 : Int) (all_1 : Int → Int) (r_1 : Int) (r_0 : Int) (now_1 : Int → Int) (latest_1 : Int → Int) (from_1 : Int) (pos_1 : Int) (kind_1 : Int) (all_0 : Int → Int) (now_0 : Int → Int) (latest_0 : Int → Int) (k1 : 0 ≤ x1 ∧ x1 ≤ 7) (k9 : 0 ≤ x9 ∧ x9 ≤ 7) (k13 : 2 ≤ x13 ∧ x13 ≤ 66299) (k16 : 1 ≤ x16 ∧ x16 ≤ 8) (f12 : 1 * x9 + ((-1) * all_1 (r_0 + 2) + 0) ≤ 0) (f13 : (-1) * x9 + (1 * all_1 (r_0 + 2) + 0) ≤ 0) (f19 : (x1 + 1) ≤ all_1 ((r_1 + 2))) (fe_0_5_1 : r_0 = r_1) (fe_0_11_1 : pos_0 = pos_1) (fe_0_12_1 : kind_0 = kind_1) (fe_0_15_1 : from_0 = from_1) (hE_0_2_1 : ∀ j : Int, 0 ≤ j → (j = x13 → all_0 j = x16) ∧ (j ≠ x13 → all_0 j = all_1 j)) (hE_0_3_1 : ∀ j : Int, now_0 j = now_1 j) (hE_0_4_1 : ∀ j : Int, latest_0 j = latest_1 j) (kz_0_11 : 0 ≤ pos_0 ∧ pos_0 ≤ 2000) (kz_0_12 : 0 ≤ kind_0 ∧ kind_0 ≤ 4) (kz_0_15 : 0 ≤ from_0 ∧ from_0 ≤ 2000) : 1 * x1 + ((-1) * x9 + 0) ≤ (-1) := by
  subst fe_0_5_1
  subst fe_0_11_1
  subst fe_0_12_1
  subst fe_0_15_1
  have e_hE_0_3_1 := funext hE_0_3_1; subst e_hE_0_3_1
  have e_hE_0_4_1 := funext hE_0_4_1; subst e_hE_0_4_1
  first
    | omega
    | (have q1 := (hE_0_2_1 (r_0 + 2) (by omega)).2 (by omega)
       have q2 := (hE_0_2_2 (r_0 + 2) (by omega)).2 (by omega)
       omega)
    | (have q1 := (hE_0_2_1 (r_0 + 1) (by omega)).2 (by omega)
       have q2 := (hE_0_2_2 (r_0 + 1) (by omega)).2 (by omega)
       omega)
    | (have q1 := (hE_0_2_1 (r_0 + 2) (by omega)).2 (by omega)
       omega)
    | (have q1 := (hE_0_2_1 (r_0 + 1) (by omega)).2 (by omega)
       omega)
    | (have q1 := (hE_0_2_1 (r_0 + 2) (by omega)).2 (by omega)
       have q2 := (hE_0_2_2 (r_0 + 2) (by omega)).2 (by omega)
       have q3 := (hE_0_2_3 (r_0 + 2) (by omega)).1 (by omega)
       omega)
    | (have q1 := (hE_0_2_1 (r_0 + 2) (by omega)).2 (by omega)
       have q2 := (hE_0_2_2 (r_0 + 2) (by omega)).2 (by omega)
       have q3 := (hE_0_2_3 (r_0 + 2) (by omega)).2 (by omega)
       omega)
    | (have q1 := (hE_0_2_1 (r_0 + 2) (by omega)).2 (by omega)
       have q2 := (hE_0_2_2 (r_0 + 2) (by omega)).2 (by omega)
       have q3 := (hE_0_2_3 (r_0 + 2) (by omega)).1 (by omega)
       have q4 : x13 = r_0 + 2 := by omega
       rw [q4] at h34
       omega)
def o_Mo_groupItem_at_k1_4 : or_T := (65, 17, [(0, (2, 0, 0, [165])), (1, (0, 0, 7, [])), (3, (0, 0, 2000, [])), (4, (0, 0, 7, [])), (5, (0, 8, 8, [])), (7, (0, 0, 2000, [])), (8, (0, 1, 1, [])), (9, (0, 0, 7, [])), (10, (2, 0, 0, [167])), (11, (0, 0, 66297, [])), (12, (0, 2, 2, [])), (13, (0, 2, 66299, [])), (14, (0, 0, 8, [])), (15, (0, 1, 1, [])), (16, (0, 1, 8, []))], [(23, [7, 3], [0, 1, -1]), (23, [7, 3], [0, -1, 1]), (20, [0, 0], [30, 0, 1, 1, 15, -1, 1, 11]), (20, [0], [50, 3, 0, 12, 11, 15, 2, 21, 4, 7, 1, 3, 2, 0, 12, 0, 1, 0, 3, 2, 0, 11, 4, 3, 2, 0, 15, 0, 8, 3, 7, 1, 3, 2, 0, 12, 0, 0, 0, 7, 4, 3, 2, 0, 15, 0, 1, 2, 0, 11]), (20, [7, 0], [30, 0, 1, 0, 0, -1, 1, 15]), (20, [8, 0], [50, 1, 0, 1012, 4, 6, 1, 2, 1, 0, 0, 1, 1, 3, 2, 1, 12, 0, 1]), (100, [10, 13, 16], []), (1, [16, 14, 15], []), (10, [14, 10, 13], []), (1, [13, 11, 12], []), (9, [11, 0], [5]), (9, [10, 0], [2]), (20, [9, 0], [30, 0, 1, 0, 0, -1, 3, 2005002]), (20, [9, 0], [30, 0, -1, 0, 0, 1, 3, 2005002]), (8, [8], [1]), (23, [7, 3], [0, 1, -1]), (23, [7, 3], [0, -1, 1]), (20, [4, 0], [30, 0, 1, 0, 0, -1, 3, 2005002]), (20, [4, 0], [30, 0, -1, 0, 0, 1, 3, 2005002]), (20, [1, 0], [50, 1, 1, 1005, 1002, 0, 6, 4, 2, 1, 0, 0, 1, 3, 1, 2, 4, 3, 2, 1, 5, 0, 2]), (20, [0], [60, 1, 3, 199, 5, 2, 3, 4]), (20, [0, 0], [30, 0, 1, 1, 15, -1, 1, 11]), (20, [0], [50, 3, 0, 12, 11, 15, 2, 21, 4, 7, 1, 3, 2, 0, 12, 0, 1, 0, 3, 2, 0, 11, 4, 3, 2, 0, 15, 0, 8, 3, 7, 1, 3, 2, 0, 12, 0, 0, 0, 7, 4, 3, 2, 0, 15, 0, 1, 2, 0, 11]), (20, [7, 0], [30, 0, 1, 0, 0, -1, 1, 15]), (20, [8, 0], [50, 1, 0, 1012, 4, 6, 1, 2, 1, 0, 0, 1, 1, 3, 2, 1, 12, 0, 1]), (102, [7], [0]), (23, [7, 3], [0, 1, -1]), (23, [7, 3], [0, -1, 1]), (102, [7], [0, 165011, 165012, 165013, 165014, 165015]), (23, [7, 3], [0, 1, -1]), (23, [7, 3], [0, -1, 1]), (7, [4, 5], [1])], [], [], [(23, [1, 9], [-1, 1, -1])], [], [(16, 14, 1, 1), (13, 11, 2, 2)])
theorem oo_Mo_groupItem_at_k1_4 {kA : Nat → ClassId} : or_ok PRD kA GG o_Mo_groupItem_at_k1_4 := by
  refine or_mk fun A ta ws vs hD hth hl => ?_
  intro t0 r0 t1 k1 t3 k3 t4 k4 t5 k5 t7 k7 t8 k8 t9 k9 t10 r10 t11 k11 t12 k12 t13 k13 t14 k14 t15 k15 t16 k16 d0 d1 f0 f1 f2 f3 f4 f5 ta1 w1 le1 s1 f7 f8 f9 f10 f11 f12 f13 f14 f15 f16 f17 f18 f19 f20 f21 f22 f23 f24 ta2 w2 le2 s2 f26 f27 ta3 w3 le3 s3 f29 f30 f31
  replace f0 := shm_7 f0
  replace f1 := shm_22 f1
  replace f2 := shm_1397 f2
  replace f3 := shm_1398 f3
  replace f4 := shm_1396 f4
  replace f5 := shm_1762 f5
  have s1 : (∀ b j, w_el ws b j = if b = v_ad (n_v vs 10) ∧ j = (v_iv (n_v vs 13)).toNat then v_iv (n_v vs 16) else w_el w1 b j) ∧ ∀ b k, w_fd ws b k = w_fd w1 b k := s1.2
  replace f7 := shm_12 f7
  replace f8 := shm_106 f8
  replace f9 := shm_12 f9
  replace f10 := shm_109 f10
  replace f11 := shm_129 f11
  replace f12 := shm_132 f12
  replace f13 := shm_133 f13
  replace f14 := shm_154 f14
  replace f15 := shm_7 f15
  replace f16 := shm_22 f16
  replace f17 := shm_132 f17
  replace f18 := shm_133 f18
  replace f19 := shm_981 f19
  replace f20 := shm_952 f20
  replace f21 := shm_1397 f21
  replace f22 := shm_1398 f22
  replace f23 := shm_1396 f23
  replace f24 := shm_1762 f24
  replace f26 := shm_7 f26
  replace f27 := shm_22 f27
  replace f29 := shm_7 f29
  replace f30 := shm_22 f30
  replace f31 := shm_40 f31
  have ar_0_2_1 : w_ar w1 (n_v vs 0) 2 = w_ar ws (n_v vs 0) 2 := congrArg v_ad (s1.2 _ _).symm
  have cr_0_2 := fdq_12 hD hth r0
  have ar_0_3_1 : w_ar w1 (n_v vs 0) 3 = w_ar ws (n_v vs 0) 3 := congrArg v_ad (s1.2 _ _).symm
  have cr_0_3 := fdq_141 hD hth r0
  have ar_0_4_1 : w_ar w1 (n_v vs 0) 4 = w_ar ws (n_v vs 0) 4 := congrArg v_ad (s1.2 _ _).symm
  have cr_0_4 := fdq_142 hD hth r0
  have fi_0_5_1 : w_fi w1 (n_v vs 0) 5 = w_fi ws (n_v vs 0) 5 := by show v_iv (w_fd w1 _ _) = v_iv (w_fd ws _ _); rw [s1.2]
  have ad_10 : v_ad (n_v vs 10) = w_ar ws (n_v vs 0) 2 := (congrArg v_ad f11).trans ar_0_2_1
  simp only [ad_10] at f8
  have h8 : v_iv (n_v vs 14) = w_ei w1 (w_ar ws (n_v vs 0) 2) (v_iv (n_v vs 13)) := f8
  have g10 : v_iv (n_v vs 11) = w_fi w1 (n_v vs 0) 5 := congrArg v_iv f10
  simp only [ar_0_2_1, ar_0_3_1, ar_0_4_1] at f12 f13 f17 f18 f19 f20
  simp only [fi_0_5_1] at f12 f13 f17 f18
  have fe_0_5_1 : w_fi ws (n_v vs 0) 5 = w_fi w1 (n_v vs 0) 5 := congrArg v_iv (s1.2 _ _)
  have fe_0_11_1 : w_fi ws (n_v vs 0) 11 = w_fi w1 (n_v vs 0) 11 := congrArg v_iv (s1.2 _ _)
  have fe_0_12_1 : w_fi ws (n_v vs 0) 12 = w_fi w1 (n_v vs 0) 12 := congrArg v_iv (s1.2 _ _)
  have fe_0_15_1 : w_fi ws (n_v vs 0) 15 = w_fi w1 (n_v vs 0) 15 := congrArg v_iv (s1.2 _ _)
  have hE_0_2_1 : ∀ j : Int, 0 ≤ j → (j = v_iv (n_v vs 13) → w_ei ws (w_ar ws (n_v vs 0) 2) j = v_iv (n_v vs 16)) ∧ (j ≠ v_iv (n_v vs 13) → w_ei ws (w_ar ws (n_v vs 0) 2) j = w_ei w1 (w_ar ws (n_v vs 0) 2) j) := fun j hj => ⟨fun h => by unfold w_ei; rw [s1.1, if_pos ⟨ad_10.symm, by rw [h]⟩], fun h => by unfold w_ei; rw [s1.1, if_neg (fun e => h (by have := e.2; omega))]⟩
  have hE_0_3_1 : ∀ j : Int, w_ei ws (w_ar ws (n_v vs 0) 3) j = w_ei w1 (w_ar ws (n_v vs 0) 3) j := el_kp s1.1 r10 cr_0_3 (by decide)
  have hK_0_3 := elq_77 hD hth cr_0_3
  have hE_0_4_1 : ∀ j : Int, w_ei ws (w_ar ws (n_v vs 0) 4) j = w_ei w1 (w_ar ws (n_v vs 0) 4) j := el_kp s1.1 r10 cr_0_4 (by decide)
  have hK_0_4 := elq_78 hD hth cr_0_4
  have kz_0_11 := fdq_273 hD hth r0
  have kz_0_12 := fdq_186 hD hth r0
  have kz_0_15 := fdq_274 hD hth r0
  first | have hJ0 : w_ei w1 (w_ar ws (n_v vs 0) 2) ((w_fi w1 (n_v vs 0) 5 + 2)) = w_ei w1 (w_ar ws (n_v vs 0) 2) ((w_fi ws (n_v vs 0) 5 + 2)) := congrArg _ (show ((w_fi w1 (n_v vs 0) 5 + 2) : Int) = (w_fi ws (n_v vs 0) 5 + 2) from by omega) | skip
  first | have hI1 := (hE_0_2_1 ((w_fi ws (n_v vs 0) 5 + 2)) (by omega)).2 (by omega) | have hI1 := (hE_0_2_1 ((w_fi ws (n_v vs 0) 5 + 2)) (by omega)).1 (by omega) | skip
  have nf0 : fc_1 PRD (23, [1, 9], [-1, 1, -1]) ws (vs) := ⟨nf_in hl rfl, sgq_211 (vc_Mo_groupItem_at_k1_4_0 (v_iv (n_v vs 1)) (v_iv (n_v vs 9)) (v_iv (n_v vs 13)) (v_iv (n_v vs 16)) (w_fi ws (n_v vs 0) 15) (w_fi ws (n_v vs 0) 11) (w_fi ws (n_v vs 0) 12) (w_ei w1 (w_ar ws (n_v vs 0) 2)) (w_fi w1 (n_v vs 0) 5) (w_fi ws (n_v vs 0) 5) (w_ei w1 (w_ar ws (n_v vs 0) 3)) (w_ei w1 (w_ar ws (n_v vs 0) 4)) (w_fi w1 (n_v vs 0) 15) (w_fi w1 (n_v vs 0) 11) (w_fi w1 (n_v vs 0) 12) (w_ei ws (w_ar ws (n_v vs 0) 2)) (w_ei ws (w_ar ws (n_v vs 0) 3)) (w_ei ws (w_ar ws (n_v vs 0) 4)) k1 k9 k13 k16 f12 f13 f19 fe_0_5_1 fe_0_11_1 fe_0_12_1 fe_0_15_1 hE_0_2_1 hE_0_3_1 hE_0_4_1 kz_0_11 kz_0_12 kz_0_15)⟩
  refine ⟨(fun _ h => (by cases h)), [], trivial, ?_, (fun _ h => (by cases h))⟩
  rw [List.append_nil]
  exact List.forall_mem_cons.mpr ⟨⟨show (23 : Nat) < 100 from by decide, nf0⟩, (fun _ h => (by cases h))⟩
def o_Mo_groupItem_at_k1_5 : or_T := (80, 20, [(1, (0, 0, 7, [])), (9, (0, 0, 7, [])), (11, (5, 0, 66297, [539])), (17, (0, 531, 531, [])), (18, (0, 531, 66828, [])), (19, (0, 531, 66835, []))], [(1, [19, 18, 9], []), (1, [18, 11, 17], []), (23, [1, 9], [-1, 1, -1])], [], [], [(18, [19, 1], [1])], [], [(19, 9, 531, 66828), (19, 18, 0, 7), (19, 11, 531, 538), (18, 11, 531, 531)])
theorem oo_Mo_groupItem_at_k1_5 {kA : Nat → ClassId} : or_ok PRD kA GG o_Mo_groupItem_at_k1_5 := by
  refine or_mk fun A ta ws vs hD hth hl => ?_
  intro t1 k1 t9 k9 t11 t17 k17 t18 k18 t19 k19 d0 d1 d2 d3 f0 f1 f2
  obtain ⟨k11, q11_⟩ : (0 ≤ v_iv (n_v vs 11) ∧ v_iv (n_v vs 11) ≤ 66297) ∧ ∃ q : Int, v_iv (n_v vs 11) = 539 * q := tv_dvk t11
  obtain ⟨q11, hq11⟩ := q11_
  replace f0 := shm_12 f0
  replace f1 := shm_12 f1
  replace f2 := shm_211 f2
  have nf0 : fc_1 PRD (18, [19, 1], [1]) ws (vs) := by
    refine ⟨nf_in hl rfl, sgq_1268 ?_⟩
    · show pl_ok 1 (v_iv (n_v vs 19)).toNat (v_iv (n_v vs 1))
      exact pl_ginS (k := v_iv (n_v vs 9)) (by omega) (by omega) (by omega) (by omega) (by omega)
  refine ⟨(fun _ h => (by cases h)), [], trivial, ?_, (fun _ h => (by cases h))⟩
  rw [List.append_nil]
  exact List.forall_mem_cons.mpr ⟨⟨show (18 : Nat) < 100 from by decide, nf0⟩, (fun _ h => (by cases h))⟩
set_option maxHeartbeats 4000000 in
theorem vc_Mo_groupItem_at_k1_6_r0 (x1 : Int) (x8 : Int) (x13 : Int) (x16 : Int) (x19 : Int) (x23 : Int) (x24 : Int) (x25 : Int) (from_0 : Int) (pos_0 : Int) (r_0 : Int) (kind_0 : Int) (from_1 : Int) (pos_1 : Int) (kind_1 : Int) (all_2 : Int → Int) (r_2 : Int) (now_2 : Int → Int) (latest_2 : Int → Int) (from_2 : Int) (pos_2 : Int) (kind_2 : Int) (r_1 : Int) (all_0 : Int → Int) (all_1 : Int → Int) (now_0 : Int → Int) (now_1 : Int → Int) (latest_0 : Int → Int) (latest_1 : Int → Int) (k1 : 0 ≤ x1 ∧ x1 ≤ 7) (k8 : 1 ≤ x8 ∧ x8 ≤ 1) (k13 : 2 ≤ x13 ∧ x13 ≤ 66299) (k16 : 1 ≤ x16 ∧ x16 ≤ 8) (k19 : 531 ≤ x19 ∧ x19 ≤ 66835) (k23 : 0 ≤ x23 ∧ x23 ≤ 2000) (k24 : 0 ≤ x24 ∧ x24 ≤ 2000) (k25 : (-2000) ≤ x25 ∧ x25 ≤ 2000) (f0 : x25 = x23 - x24) (g1 : x24 = from_0) (g2 : x23 = pos_0) (f10 : 1 * from_0 + ((-1) * pos_0 + 0) ≤ 0) (f38 : ((kind_2 = 1) → (pos_2 ≤ (from_2 + 8))) ∧ ((kind_2 = 0) ∨ ((from_2 + 1) ≤ pos_2))) (f40 : (x8 = 1) → (kind_2 = 1)) (fe_0_5_1 : r_0 = r_1) (fe_0_11_1 : pos_0 = pos_1) (fe_0_12_1 : kind_0 = kind_1) (fe_0_15_1 : from_0 = from_1) (fe_0_5_2 : r_1 = r_2) (fe_0_11_2 : pos_1 = pos_2) (fe_0_12_2 : kind_1 = kind_2) (fe_0_15_2 : from_1 = from_2) (hE_0_2_1 : ∀ j : Int, 0 ≤ j → (j = x19 → all_0 j = x1) ∧ (j ≠ x19 → all_0 j = all_1 j)) (hE_0_2_2 : ∀ j : Int, 0 ≤ j → (j = x13 → all_1 j = x16) ∧ (j ≠ x13 → all_1 j = all_2 j)) (hE_0_3_1 : ∀ j : Int, now_0 j = now_1 j) (hE_0_3_2 : ∀ j : Int, now_1 j = now_2 j) (hE_0_4_1 : ∀ j : Int, latest_0 j = latest_1 j) (hE_0_4_2 : ∀ j : Int, latest_1 j = latest_2 j) (kz_0_11 : 0 ≤ pos_0 ∧ pos_0 ≤ 2000) (kz_0_12 : 0 ≤ kind_0 ∧ kind_0 ≤ 4) (kz_0_15 : 0 ≤ from_0 ∧ from_0 ≤ 2000) : 0 ≤ x25 ∧ x25 ≤ 8 := by
  subst fe_0_5_1
  subst fe_0_11_1
  subst fe_0_12_1
  subst fe_0_15_1
  subst fe_0_5_2
  subst fe_0_11_2
  subst fe_0_12_2
  subst fe_0_15_2
  have e_hE_0_3_1 := funext hE_0_3_1; subst e_hE_0_3_1
  have e_hE_0_3_2 := funext hE_0_3_2; subst e_hE_0_3_2
  have e_hE_0_4_1 := funext hE_0_4_1; subst e_hE_0_4_1
  have e_hE_0_4_2 := funext hE_0_4_2; subst e_hE_0_4_2
  first
    | omega
    | (have q1 := (hE_0_2_1 (r_0 + 2) (by omega)).2 (by omega)
       have q2 := (hE_0_2_2 (r_0 + 2) (by omega)).2 (by omega)
       omega)
    | (have q1 := (hE_0_2_1 (r_0 + 1) (by omega)).2 (by omega)
       have q2 := (hE_0_2_2 (r_0 + 1) (by omega)).2 (by omega)
       omega)
    | (have q1 := (hE_0_2_1 (r_0 + 2) (by omega)).2 (by omega)
       omega)
    | (have q1 := (hE_0_2_1 (r_0 + 1) (by omega)).2 (by omega)
       omega)
    | (have q1 := (hE_0_2_1 (r_0 + 2) (by omega)).2 (by omega)
       have q2 := (hE_0_2_2 (r_0 + 2) (by omega)).2 (by omega)
       have q3 := (hE_0_2_3 (r_0 + 2) (by omega)).1 (by omega)
       omega)
    | (have q1 := (hE_0_2_1 (r_0 + 2) (by omega)).2 (by omega)
       have q2 := (hE_0_2_2 (r_0 + 2) (by omega)).2 (by omega)
       have q3 := (hE_0_2_3 (r_0 + 2) (by omega)).2 (by omega)
       omega)
    | (have q1 := (hE_0_2_1 (r_0 + 2) (by omega)).2 (by omega)
       have q2 := (hE_0_2_2 (r_0 + 2) (by omega)).2 (by omega)
       have q3 := (hE_0_2_3 (r_0 + 2) (by omega)).1 (by omega)
       have q4 : x13 = r_0 + 2 := by omega
       rw [q4] at h34
       omega)
def o_Mo_groupItem_at_k1_6 : or_T := (104, 26, [(0, (2, 0, 0, [165])), (1, (0, 0, 7, [])), (3, (0, 0, 2000, [])), (4, (0, 0, 7, [])), (5, (0, 8, 8, [])), (7, (0, 0, 2000, [])), (8, (0, 1, 1, [])), (9, (0, 0, 7, [])), (10, (2, 0, 0, [167])), (11, (0, 0, 66297, [])), (12, (0, 2, 2, [])), (13, (0, 2, 66299, [])), (14, (0, 0, 8, [])), (15, (0, 1, 1, [])), (16, (0, 1, 8, [])), (17, (0, 531, 531, [])), (18, (0, 531, 66828, [])), (19, (0, 531, 66835, [])), (20, (0, 523, 523, [])), (21, (0, 523, 66820, [])), (22, (0, 523, 66827, [])), (23, (0, 0, 2000, [])), (24, (0, 0, 2000, [])), (25, (0, -2000, 2000, []))], [(2, [25, 23, 24], []), (9, [24, 0], [15]), (9, [23, 0], [11]), (1, [22, 21, 9], []), (1, [21, 11, 20], []), (9, [11, 0], [5]), (9, [10, 0], [2]), (23, [1, 9], [-1, 1, -1]), (23, [7, 3], [0, 1, -1]), (23, [7, 3], [0, -1, 1]), (20, [0, 0], [30, 0, 1, 1, 15, -1, 1, 11]), (20, [0], [50, 3, 0, 12, 11, 15, 2, 21, 4, 7, 1, 3, 2, 0, 12, 0, 1, 0, 3, 2, 0, 11, 4, 3, 2, 0, 15, 0, 8, 3, 7, 1, 3, 2, 0, 12, 0, 0, 0, 7, 4, 3, 2, 0, 15, 0, 1, 2, 0, 11]), (20, [7, 0], [30, 0, 1, 0, 0, -1, 1, 15]), (20, [8, 0], [50, 1, 0, 1012, 4, 6, 1, 2, 1, 0, 0, 1, 1, 3, 2, 1, 12, 0, 1]), (100, [10, 19, 1], []), (1, [19, 18, 9], []), (1, [18, 11, 17], []), (23, [1, 9], [-1, 1, -1]), (23, [7, 3], [0, 1, -1]), (23, [7, 3], [0, -1, 1]), (20, [0, 0], [30, 0, 1, 1, 15, -1, 1, 11]), (20, [0], [50, 3, 0, 12, 11, 15, 2, 21, 4, 7, 1, 3, 2, 0, 12, 0, 1, 0, 3, 2, 0, 11, 4, 3, 2, 0, 15, 0, 8, 3, 7, 1, 3, 2, 0, 12, 0, 0, 0, 7, 4, 3, 2, 0, 15, 0, 1, 2, 0, 11]), (20, [7, 0], [30, 0, 1, 0, 0, -1, 1, 15]), (20, [8, 0], [50, 1, 0, 1012, 4, 6, 1, 2, 1, 0, 0, 1, 1, 3, 2, 1, 12, 0, 1]), (100, [10, 13, 16], []), (1, [16, 14, 15], []), (10, [14, 10, 13], []), (1, [13, 11, 12], []), (20, [9, 0], [30, 0, 1, 0, 0, -1, 3, 2005002]), (20, [9, 0], [30, 0, -1, 0, 0, 1, 3, 2005002]), (8, [8], [1]), (23, [7, 3], [0, 1, -1]), (23, [7, 3], [0, -1, 1]), (20, [4, 0], [30, 0, 1, 0, 0, -1, 3, 2005002]), (20, [4, 0], [30, 0, -1, 0, 0, 1, 3, 2005002]), (20, [1, 0], [50, 1, 1, 1005, 1002, 0, 6, 4, 2, 1, 0, 0, 1, 3, 1, 2, 4, 3, 2, 1, 5, 0, 2]), (20, [0], [60, 1, 3, 199, 5, 2, 3, 4]), (20, [0, 0], [30, 0, 1, 1, 15, -1, 1, 11]), (20, [0], [50, 3, 0, 12, 11, 15, 2, 21, 4, 7, 1, 3, 2, 0, 12, 0, 1, 0, 3, 2, 0, 11, 4, 3, 2, 0, 15, 0, 8, 3, 7, 1, 3, 2, 0, 12, 0, 0, 0, 7, 4, 3, 2, 0, 15, 0, 1, 2, 0, 11]), (20, [7, 0], [30, 0, 1, 0, 0, -1, 1, 15]), (20, [8, 0], [50, 1, 0, 1012, 4, 6, 1, 2, 1, 0, 0, 1, 1, 3, 2, 1, 12, 0, 1]), (102, [7], [0]), (23, [7, 3], [0, 1, -1]), (23, [7, 3], [0, -1, 1]), (102, [7], [0, 165011, 165012, 165013, 165014, 165015]), (23, [7, 3], [0, 1, -1]), (23, [7, 3], [0, -1, 1]), (7, [4, 5], [1])], [(25, (0, 0, 8, []))], [], [], [], [(25, 23, -2000, 0), (22, 9, 523, 66820), (22, 21, 0, 7), (22, 11, 523, 530), (21, 11, 523, 523), (19, 9, 531, 66828), (19, 18, 0, 7), (19, 11, 531, 538), (18, 11, 531, 531), (16, 14, 1, 1), (13, 11, 2, 2)])
theorem oo_Mo_groupItem_at_k1_6 {kA : Nat → ClassId} : or_ok PRD kA GG o_Mo_groupItem_at_k1_6 := by
  refine or_mk fun A ta ws vs hD hth hl => ?_
  intro t0 r0 t1 k1 t3 k3 t4 k4 t5 k5 t7 k7 t8 k8 t9 k9 t10 r10 t11 k11 t12 k12 t13 k13 t14 k14 t15 k15 t16 k16 t17 k17 t18 k18 t19 k19 t20 k20 t21 k21 t22 k22 t23 k23 t24 k24 t25 k25 d0 d1 d2 d3 d4 d5 d6 d7 d8 d9 d10 f0 f1 f2 f3 f4 f5 f6 f7 f8 f9 f10 f11 f12 f13 ta1 w1 le1 s1 f15 f16 f17 f18 f19 f20 f21 f22 f23 ta2 w2 le2 s2 f25 f26 f27 f28 f29 f30 f31 f32 f33 f34 f35 f36 f37 f38 f39 f40 ta3 w3 le3 s3 f42 f43 ta4 w4 le4 s4 f45 f46 f47
  replace f0 := shm_14 f0
  replace f1 := shm_189 f1
  replace f2 := shm_117 f2
  replace f3 := shm_12 f3
  replace f4 := shm_12 f4
  replace f5 := shm_109 f5
  replace f6 := shm_129 f6
  replace f7 := shm_211 f7
  replace f8 := shm_7 f8
  replace f9 := shm_22 f9
  replace f10 := shm_1397 f10
  replace f11 := shm_1398 f11
  replace f12 := shm_1396 f12
  replace f13 := shm_1762 f13
  have s1 : (∀ b j, w_el ws b j = if b = v_ad (n_v vs 10) ∧ j = (v_iv (n_v vs 19)).toNat then v_iv (n_v vs 1) else w_el w1 b j) ∧ ∀ b k, w_fd ws b k = w_fd w1 b k := s1.2
  replace f15 := shm_12 f15
  replace f16 := shm_12 f16
  replace f17 := shm_211 f17
  replace f18 := shm_7 f18
  replace f19 := shm_22 f19
  replace f20 := shm_1397 f20
  replace f21 := shm_1398 f21
  replace f22 := shm_1396 f22
  replace f23 := shm_1762 f23
  have s2 : (∀ b j, w_el w1 b j = if b = v_ad (n_v vs 10) ∧ j = (v_iv (n_v vs 13)).toNat then v_iv (n_v vs 16) else w_el w2 b j) ∧ ∀ b k, w_fd w1 b k = w_fd w2 b k := s2.2
  replace f25 := shm_12 f25
  replace f26 := shm_106 f26
  replace f27 := shm_12 f27
  replace f28 := shm_132 f28
  replace f29 := shm_133 f29
  replace f30 := shm_154 f30
  replace f31 := shm_7 f31
  replace f32 := shm_22 f32
  replace f33 := shm_132 f33
  replace f34 := shm_133 f34
  replace f35 := shm_981 f35
  replace f36 := shm_952 f36
  replace f37 := shm_1397 f37
  replace f38 := shm_1398 f38
  replace f39 := shm_1396 f39
  replace f40 := shm_1762 f40
  replace f42 := shm_7 f42
  replace f43 := shm_22 f43
  replace f45 := shm_7 f45
  replace f46 := shm_22 f46
  replace f47 := shm_40 f47
  have ar_0_2_1 : w_ar w1 (n_v vs 0) 2 = w_ar ws (n_v vs 0) 2 := congrArg v_ad (s1.2 _ _).symm
  have ar_0_2_2 : w_ar w2 (n_v vs 0) 2 = w_ar ws (n_v vs 0) 2 := by rw [← ar_0_2_1]; show v_ad (w_fd w2 _ _) = v_ad (w_fd w1 _ _); rw [s2.2]
  have cr_0_2 := fdq_12 hD hth r0
  have ar_0_3_1 : w_ar w1 (n_v vs 0) 3 = w_ar ws (n_v vs 0) 3 := congrArg v_ad (s1.2 _ _).symm
  have ar_0_3_2 : w_ar w2 (n_v vs 0) 3 = w_ar ws (n_v vs 0) 3 := by rw [← ar_0_3_1]; show v_ad (w_fd w2 _ _) = v_ad (w_fd w1 _ _); rw [s2.2]
  have cr_0_3 := fdq_141 hD hth r0
  have ar_0_4_1 : w_ar w1 (n_v vs 0) 4 = w_ar ws (n_v vs 0) 4 := congrArg v_ad (s1.2 _ _).symm
  have ar_0_4_2 : w_ar w2 (n_v vs 0) 4 = w_ar ws (n_v vs 0) 4 := by rw [← ar_0_4_1]; show v_ad (w_fd w2 _ _) = v_ad (w_fd w1 _ _); rw [s2.2]
  have cr_0_4 := fdq_142 hD hth r0
  have fi_0_5_1 : w_fi w1 (n_v vs 0) 5 = w_fi ws (n_v vs 0) 5 := by show v_iv (w_fd w1 _ _) = v_iv (w_fd ws _ _); rw [s1.2]
  have fi_0_5_2 : w_fi w2 (n_v vs 0) 5 = w_fi ws (n_v vs 0) 5 := by rw [← fi_0_5_1]; show v_iv (w_fd w2 _ _) = v_iv (w_fd w1 _ _); rw [s2.2]
  have ad_10 : v_ad (n_v vs 10) = w_ar ws (n_v vs 0) 2 := congrArg v_ad f6
  have g1 : v_iv (n_v vs 24) = w_fi ws (n_v vs 0) 15 := congrArg v_iv f1
  have g2 : v_iv (n_v vs 23) = w_fi ws (n_v vs 0) 11 := congrArg v_iv f2
  have g5 : v_iv (n_v vs 11) = w_fi ws (n_v vs 0) 5 := congrArg v_iv f5
  simp only [ad_10] at f26
  have h26 : v_iv (n_v vs 14) = w_ei w2 (w_ar ws (n_v vs 0) 2) (v_iv (n_v vs 13)) := f26
  simp only [ar_0_2_2, ar_0_3_2, ar_0_4_2] at f28 f29 f33 f34 f35 f36
  simp only [fi_0_5_2] at f28 f29 f33 f34
  have fe_0_5_1 : w_fi ws (n_v vs 0) 5 = w_fi w1 (n_v vs 0) 5 := congrArg v_iv (s1.2 _ _)
  have fe_0_11_1 : w_fi ws (n_v vs 0) 11 = w_fi w1 (n_v vs 0) 11 := congrArg v_iv (s1.2 _ _)
  have fe_0_12_1 : w_fi ws (n_v vs 0) 12 = w_fi w1 (n_v vs 0) 12 := congrArg v_iv (s1.2 _ _)
  have fe_0_15_1 : w_fi ws (n_v vs 0) 15 = w_fi w1 (n_v vs 0) 15 := congrArg v_iv (s1.2 _ _)
  have fe_0_5_2 : w_fi w1 (n_v vs 0) 5 = w_fi w2 (n_v vs 0) 5 := congrArg v_iv (s2.2 _ _)
  have fe_0_11_2 : w_fi w1 (n_v vs 0) 11 = w_fi w2 (n_v vs 0) 11 := congrArg v_iv (s2.2 _ _)
  have fe_0_12_2 : w_fi w1 (n_v vs 0) 12 = w_fi w2 (n_v vs 0) 12 := congrArg v_iv (s2.2 _ _)
  have fe_0_15_2 : w_fi w1 (n_v vs 0) 15 = w_fi w2 (n_v vs 0) 15 := congrArg v_iv (s2.2 _ _)
  have hE_0_2_1 : ∀ j : Int, 0 ≤ j → (j = v_iv (n_v vs 19) → w_ei ws (w_ar ws (n_v vs 0) 2) j = v_iv (n_v vs 1)) ∧ (j ≠ v_iv (n_v vs 19) → w_ei ws (w_ar ws (n_v vs 0) 2) j = w_ei w1 (w_ar ws (n_v vs 0) 2) j) := fun j hj => ⟨fun h => by unfold w_ei; rw [s1.1, if_pos ⟨ad_10.symm, by rw [h]⟩], fun h => by unfold w_ei; rw [s1.1, if_neg (fun e => h (by have := e.2; omega))]⟩
  have hE_0_2_2 : ∀ j : Int, 0 ≤ j → (j = v_iv (n_v vs 13) → w_ei w1 (w_ar ws (n_v vs 0) 2) j = v_iv (n_v vs 16)) ∧ (j ≠ v_iv (n_v vs 13) → w_ei w1 (w_ar ws (n_v vs 0) 2) j = w_ei w2 (w_ar ws (n_v vs 0) 2) j) := fun j hj => ⟨fun h => by unfold w_ei; rw [s2.1, if_pos ⟨ad_10.symm, by rw [h]⟩], fun h => by unfold w_ei; rw [s2.1, if_neg (fun e => h (by have := e.2; omega))]⟩
  have hE_0_3_1 : ∀ j : Int, w_ei ws (w_ar ws (n_v vs 0) 3) j = w_ei w1 (w_ar ws (n_v vs 0) 3) j := el_kp s1.1 r10 cr_0_3 (by decide)
  have hE_0_3_2 : ∀ j : Int, w_ei w1 (w_ar ws (n_v vs 0) 3) j = w_ei w2 (w_ar ws (n_v vs 0) 3) j := el_kp s2.1 r10 cr_0_3 (by decide)
  have hK_0_3 := elq_77 hD hth cr_0_3
  have hE_0_4_1 : ∀ j : Int, w_ei ws (w_ar ws (n_v vs 0) 4) j = w_ei w1 (w_ar ws (n_v vs 0) 4) j := el_kp s1.1 r10 cr_0_4 (by decide)
  have hE_0_4_2 : ∀ j : Int, w_ei w1 (w_ar ws (n_v vs 0) 4) j = w_ei w2 (w_ar ws (n_v vs 0) 4) j := el_kp s2.1 r10 cr_0_4 (by decide)
  have hK_0_4 := elq_78 hD hth cr_0_4
  have kz_0_11 := fdq_273 hD hth r0
  have kz_0_12 := fdq_186 hD hth r0
  have kz_0_15 := fdq_274 hD hth r0
  first | have hJ0 : w_ei w2 (w_ar ws (n_v vs 0) 2) ((w_fi w2 (n_v vs 0) 5 + 2)) = w_ei w2 (w_ar ws (n_v vs 0) 2) ((w_fi ws (n_v vs 0) 5 + 2)) := congrArg _ (show ((w_fi w2 (n_v vs 0) 5 + 2) : Int) = (w_fi ws (n_v vs 0) 5 + 2) from by omega) | skip
  first | have hI1 := (hE_0_2_1 ((w_fi ws (n_v vs 0) 5 + 2)) (by omega)).2 (by omega) | have hI1 := (hE_0_2_1 ((w_fi ws (n_v vs 0) 5 + 2)) (by omega)).1 (by omega) | skip
  first | have hI2 := (hE_0_2_2 ((w_fi ws (n_v vs 0) 5 + 2)) (by omega)).2 (by omega) | have hI2 := (hE_0_2_2 ((w_fi ws (n_v vs 0) 5 + 2)) (by omega)).1 (by omega) | skip
  have hrf0 : 0 ≤ v_iv (n_v vs 25) ∧ v_iv (n_v vs 25) ≤ 8 := vc_Mo_groupItem_at_k1_6_r0 (v_iv (n_v vs 1)) (v_iv (n_v vs 8)) (v_iv (n_v vs 13)) (v_iv (n_v vs 16)) (v_iv (n_v vs 19)) (v_iv (n_v vs 23)) (v_iv (n_v vs 24)) (v_iv (n_v vs 25)) (w_fi ws (n_v vs 0) 15) (w_fi ws (n_v vs 0) 11) (w_fi ws (n_v vs 0) 5) (w_fi ws (n_v vs 0) 12) (w_fi w1 (n_v vs 0) 15) (w_fi w1 (n_v vs 0) 11) (w_fi w1 (n_v vs 0) 12) (w_ei w2 (w_ar ws (n_v vs 0) 2)) (w_fi w2 (n_v vs 0) 5) (w_ei w2 (w_ar ws (n_v vs 0) 3)) (w_ei w2 (w_ar ws (n_v vs 0) 4)) (w_fi w2 (n_v vs 0) 15) (w_fi w2 (n_v vs 0) 11) (w_fi w2 (n_v vs 0) 12) (w_fi w1 (n_v vs 0) 5) (w_ei ws (w_ar ws (n_v vs 0) 2)) (w_ei w1 (w_ar ws (n_v vs 0) 2)) (w_ei ws (w_ar ws (n_v vs 0) 3)) (w_ei w1 (w_ar ws (n_v vs 0) 3)) (w_ei ws (w_ar ws (n_v vs 0) 4)) (w_ei w1 (w_ar ws (n_v vs 0) 4)) k1 k8 k13 k16 k19 k23 k24 k25 f0 g1 g2 f10 f38 f40 fe_0_5_1 fe_0_11_1 fe_0_12_1 fe_0_15_1 fe_0_5_2 fe_0_11_2 fe_0_12_2 fe_0_15_2 hE_0_2_1 hE_0_2_2 hE_0_3_1 hE_0_3_2 hE_0_4_1 hE_0_4_2 kz_0_11 kz_0_12 kz_0_15
  have rf25 : tv_ok ta (0, 0, 8, []) (n_v vs 25) := tv_in t25 (by first | omega | grind) (by first | omega | grind)
  refine ⟨List.forall_mem_cons.mpr ⟨rf25, (fun _ h => (by cases h))⟩, [], trivial, ?_, (fun _ h => (by cases h))⟩
  rw [List.append_nil]
  exact (fun _ h => (by cases h))
set_option maxHeartbeats 4000000 in
theorem vc_Mo_groupItem_at_k1_7_0 (x1 : Int) (x3 : Int) (x7 : Int) (x8 : Int) (x13 : Int) (x14 : Int) (x16 : Int) (x19 : Int) (x22 : Int) (x23 : Int) (x24 : Int) (x25 : Int) (from_0 : Int) (pos_0 : Int) (kind_0 : Int) (from_1 : Int) (pos_1 : Int) (r_1 : Int) (kind_1 : Int) (from_2 : Int) (pos_2 : Int) (kind_2 : Int) (all_3 : Int → Int) (r_0 : Int) (r_3 : Int) (now_3 : Int → Int) (latest_3 : Int → Int) (from_3 : Int) (pos_3 : Int) (kind_3 : Int) (r_2 : Int) (all_0 : Int → Int) (all_1 : Int → Int) (all_2 : Int → Int) (now_0 : Int → Int) (now_1 : Int → Int) (now_2 : Int → Int) (latest_0 : Int → Int) (latest_1 : Int → Int) (latest_2 : Int → Int) (k1 : 0 ≤ x1 ∧ x1 ≤ 7) (k3 : 0 ≤ x3 ∧ x3 ≤ 2000) (k7 : 0 ≤ x7 ∧ x7 ≤ 2000) (k8 : 1 ≤ x8 ∧ x8 ≤ 1) (k13 : 2 ≤ x13 ∧ x13 ≤ 66299) (k14 : 0 ≤ x14 ∧ x14 ≤ 8) (k16 : 1 ≤ x16 ∧ x16 ≤ 8) (k19 : 531 ≤ x19 ∧ x19 ≤ 66835) (k22 : 523 ≤ x22 ∧ x22 ≤ 66827) (k23 : 0 ≤ x23 ∧ x23 ≤ 2000) (k24 : 0 ≤ x24 ∧ x24 ≤ 2000) (k25 : 0 ≤ x25 ∧ x25 ≤ 8) (f1 : 1 * x7 + ((-1) * x3 + 0) ≤ 0) (f2 : (-1) * x7 + (1 * x3 + 0) ≤ 0) (f5 : 1 * x7 + ((-1) * from_0 + 0) ≤ 0) (f8 : x25 = x23 - x24) (g9 : x24 = from_1) (g10 : x23 = pos_1) (h34 : x14 = all_3 (x13)) (f46 : ((kind_3 = 1) → (pos_3 ≤ (from_3 + 8))) ∧ ((kind_3 = 0) ∨ ((from_3 + 1) ≤ pos_3))) (f48 : (x8 = 1) → (kind_3 = 1)) (fe_0_5_1 : r_0 = r_1) (fe_0_11_1 : pos_0 = pos_1) (fe_0_12_1 : kind_0 = kind_1) (fe_0_15_1 : from_0 = from_1) (fe_0_5_2 : r_1 = r_2) (fe_0_11_2 : pos_1 = pos_2) (fe_0_12_2 : kind_1 = kind_2) (fe_0_15_2 : from_1 = from_2) (fe_0_5_3 : r_2 = r_3) (fe_0_11_3 : pos_2 = pos_3) (fe_0_12_3 : kind_2 = kind_3) (fe_0_15_3 : from_2 = from_3) (hE_0_2_1 : ∀ j : Int, 0 ≤ j → (j = x22 → all_0 j = x25) ∧ (j ≠ x22 → all_0 j = all_1 j)) (hE_0_2_2 : ∀ j : Int, 0 ≤ j → (j = x19 → all_1 j = x1) ∧ (j ≠ x19 → all_1 j = all_2 j)) (hE_0_2_3 : ∀ j : Int, 0 ≤ j → (j = x13 → all_2 j = x16) ∧ (j ≠ x13 → all_2 j = all_3 j)) (hE_0_3_1 : ∀ j : Int, now_0 j = now_1 j) (hE_0_3_2 : ∀ j : Int, now_1 j = now_2 j) (hE_0_3_3 : ∀ j : Int, now_2 j = now_3 j) (hE_0_4_1 : ∀ j : Int, latest_0 j = latest_1 j) (hE_0_4_2 : ∀ j : Int, latest_1 j = latest_2 j) (hE_0_4_3 : ∀ j : Int, latest_2 j = latest_3 j) (kz_0_11 : 0 ≤ pos_0 ∧ pos_0 ≤ 2000) (kz_0_12 : 0 ≤ kind_0 ∧ kind_0 ≤ 4) (kz_0_15 : 0 ≤ from_0 ∧ from_0 ≤ 2000) : 1 * x3 + ((-1) * pos_0 + 0) ≤ (-1) := by
  subst fe_0_5_1
  subst fe_0_11_1
  subst fe_0_12_1
  subst fe_0_15_1
  subst fe_0_5_2
  subst fe_0_11_2
  subst fe_0_12_2
  subst fe_0_15_2
  subst fe_0_5_3
  subst fe_0_11_3
  subst fe_0_12_3
  subst fe_0_15_3
  have e_hE_0_3_1 := funext hE_0_3_1; subst e_hE_0_3_1
  have e_hE_0_3_2 := funext hE_0_3_2; subst e_hE_0_3_2
  have e_hE_0_3_3 := funext hE_0_3_3; subst e_hE_0_3_3
  have e_hE_0_4_1 := funext hE_0_4_1; subst e_hE_0_4_1
  have e_hE_0_4_2 := funext hE_0_4_2; subst e_hE_0_4_2
  have e_hE_0_4_3 := funext hE_0_4_3; subst e_hE_0_4_3
  first
    | omega
    | (have q1 := (hE_0_2_1 (r_0 + 2) (by omega)).2 (by omega)
       have q2 := (hE_0_2_2 (r_0 + 2) (by omega)).2 (by omega)
       omega)
    | (have q1 := (hE_0_2_1 (r_0 + 1) (by omega)).2 (by omega)
       have q2 := (hE_0_2_2 (r_0 + 1) (by omega)).2 (by omega)
       omega)
    | (have q1 := (hE_0_2_1 (r_0 + 2) (by omega)).2 (by omega)
       omega)
    | (have q1 := (hE_0_2_1 (r_0 + 1) (by omega)).2 (by omega)
       omega)
    | (have q1 := (hE_0_2_1 (r_0 + 2) (by omega)).2 (by omega)
       have q2 := (hE_0_2_2 (r_0 + 2) (by omega)).2 (by omega)
       have q3 := (hE_0_2_3 (r_0 + 2) (by omega)).1 (by omega)
       omega)
    | (have q1 := (hE_0_2_1 (r_0 + 2) (by omega)).2 (by omega)
       have q2 := (hE_0_2_2 (r_0 + 2) (by omega)).2 (by omega)
       have q3 := (hE_0_2_3 (r_0 + 2) (by omega)).2 (by omega)
       omega)
    | (have q1 := (hE_0_2_1 (r_0 + 2) (by omega)).2 (by omega)
       have q2 := (hE_0_2_2 (r_0 + 2) (by omega)).2 (by omega)
       have q3 := (hE_0_2_3 (r_0 + 2) (by omega)).1 (by omega)
       have q4 : x13 = r_0 + 2 := by omega
       rw [q4] at h34
       omega)
set_option maxHeartbeats 4000000 in
theorem vc_Mo_groupItem_at_k1_7_1 (x1 : Int) (x8 : Int) (x13 : Int) (x14 : Int) (x16 : Int) (x19 : Int) (x22 : Int) (x25 : Int) (from_0 : Int) (pos_0 : Int) (kind_0 : Int) (from_1 : Int) (pos_1 : Int) (r_1 : Int) (kind_1 : Int) (from_2 : Int) (pos_2 : Int) (kind_2 : Int) (all_3 : Int → Int) (r_0 : Int) (r_3 : Int) (now_3 : Int → Int) (latest_3 : Int → Int) (from_3 : Int) (pos_3 : Int) (kind_3 : Int) (r_2 : Int) (all_0 : Int → Int) (all_1 : Int → Int) (all_2 : Int → Int) (now_0 : Int → Int) (now_1 : Int → Int) (now_2 : Int → Int) (latest_0 : Int → Int) (latest_1 : Int → Int) (latest_2 : Int → Int) (k1 : 0 ≤ x1 ∧ x1 ≤ 7) (k8 : 1 ≤ x8 ∧ x8 ≤ 1) (k13 : 2 ≤ x13 ∧ x13 ≤ 66299) (k14 : 0 ≤ x14 ∧ x14 ≤ 8) (k16 : 1 ≤ x16 ∧ x16 ≤ 8) (k19 : 531 ≤ x19 ∧ x19 ≤ 66835) (k22 : 523 ≤ x22 ∧ x22 ≤ 66827) (k25 : 0 ≤ x25 ∧ x25 ≤ 8) (h34 : x14 = all_3 (x13)) (f46 : ((kind_3 = 1) → (pos_3 ≤ (from_3 + 8))) ∧ ((kind_3 = 0) ∨ ((from_3 + 1) ≤ pos_3))) (f48 : (x8 = 1) → (kind_3 = 1)) (fe_0_5_1 : r_0 = r_1) (fe_0_11_1 : pos_0 = pos_1) (fe_0_12_1 : kind_0 = kind_1) (fe_0_15_1 : from_0 = from_1) (fe_0_5_2 : r_1 = r_2) (fe_0_11_2 : pos_1 = pos_2) (fe_0_12_2 : kind_1 = kind_2) (fe_0_15_2 : from_1 = from_2) (fe_0_5_3 : r_2 = r_3) (fe_0_11_3 : pos_2 = pos_3) (fe_0_12_3 : kind_2 = kind_3) (fe_0_15_3 : from_2 = from_3) (hE_0_2_1 : ∀ j : Int, 0 ≤ j → (j = x22 → all_0 j = x25) ∧ (j ≠ x22 → all_0 j = all_1 j)) (hE_0_2_2 : ∀ j : Int, 0 ≤ j → (j = x19 → all_1 j = x1) ∧ (j ≠ x19 → all_1 j = all_2 j)) (hE_0_2_3 : ∀ j : Int, 0 ≤ j → (j = x13 → all_2 j = x16) ∧ (j ≠ x13 → all_2 j = all_3 j)) (hE_0_3_1 : ∀ j : Int, now_0 j = now_1 j) (hE_0_3_2 : ∀ j : Int, now_1 j = now_2 j) (hE_0_3_3 : ∀ j : Int, now_2 j = now_3 j) (hE_0_4_1 : ∀ j : Int, latest_0 j = latest_1 j) (hE_0_4_2 : ∀ j : Int, latest_1 j = latest_2 j) (hE_0_4_3 : ∀ j : Int, latest_2 j = latest_3 j) (kz_0_11 : 0 ≤ pos_0 ∧ pos_0 ≤ 2000) (kz_0_12 : 0 ≤ kind_0 ∧ kind_0 ≤ 4) (kz_0_15 : 0 ≤ from_0 ∧ from_0 ≤ 2000) : kind_0 = 1 := by
  subst fe_0_5_1
  subst fe_0_11_1
  subst fe_0_12_1
  subst fe_0_15_1
  subst fe_0_5_2
  subst fe_0_11_2
  subst fe_0_12_2
  subst fe_0_15_2
  subst fe_0_5_3
  subst fe_0_11_3
  subst fe_0_12_3
  subst fe_0_15_3
  have e_hE_0_3_1 := funext hE_0_3_1; subst e_hE_0_3_1
  have e_hE_0_3_2 := funext hE_0_3_2; subst e_hE_0_3_2
  have e_hE_0_3_3 := funext hE_0_3_3; subst e_hE_0_3_3
  have e_hE_0_4_1 := funext hE_0_4_1; subst e_hE_0_4_1
  have e_hE_0_4_2 := funext hE_0_4_2; subst e_hE_0_4_2
  have e_hE_0_4_3 := funext hE_0_4_3; subst e_hE_0_4_3
  first
    | omega
    | (have q1 := (hE_0_2_1 (r_0 + 2) (by omega)).2 (by omega)
       have q2 := (hE_0_2_2 (r_0 + 2) (by omega)).2 (by omega)
       omega)
    | (have q1 := (hE_0_2_1 (r_0 + 1) (by omega)).2 (by omega)
       have q2 := (hE_0_2_2 (r_0 + 1) (by omega)).2 (by omega)
       omega)
    | (have q1 := (hE_0_2_1 (r_0 + 2) (by omega)).2 (by omega)
       omega)
    | (have q1 := (hE_0_2_1 (r_0 + 1) (by omega)).2 (by omega)
       omega)
    | (have q1 := (hE_0_2_1 (r_0 + 2) (by omega)).2 (by omega)
       have q2 := (hE_0_2_2 (r_0 + 2) (by omega)).2 (by omega)
       have q3 := (hE_0_2_3 (r_0 + 2) (by omega)).1 (by omega)
       omega)
    | (have q1 := (hE_0_2_1 (r_0 + 2) (by omega)).2 (by omega)
       have q2 := (hE_0_2_2 (r_0 + 2) (by omega)).2 (by omega)
       have q3 := (hE_0_2_3 (r_0 + 2) (by omega)).2 (by omega)
       omega)
    | (have q1 := (hE_0_2_1 (r_0 + 2) (by omega)).2 (by omega)
       have q2 := (hE_0_2_2 (r_0 + 2) (by omega)).2 (by omega)
       have q3 := (hE_0_2_3 (r_0 + 2) (by omega)).1 (by omega)
       have q4 : x13 = r_0 + 2 := by omega
       rw [q4] at h34
       omega)
set_option maxHeartbeats 4000000 in
theorem vc_Mo_groupItem_at_k1_7_2 (x1 : Int) (x4 : Int) (x9 : Int) (x11 : Int) (x13 : Int) (x14 : Int) (x16 : Int) (x18 : Int) (x19 : Int) (x21 : Int) (x22 : Int) (x25 : Int) (from_0 : Int) (pos_0 : Int) (kind_0 : Int) (from_1 : Int) (pos_1 : Int) (r_1 : Int) (kind_1 : Int) (from_2 : Int) (pos_2 : Int) (kind_2 : Int) (all_3 : Int → Int) (r_0 : Int) (r_3 : Int) (now_3 : Int → Int) (latest_3 : Int → Int) (from_3 : Int) (pos_3 : Int) (kind_3 : Int) (r_2 : Int) (all_0 : Int → Int) (all_1 : Int → Int) (all_2 : Int → Int) (now_0 : Int → Int) (now_1 : Int → Int) (now_2 : Int → Int) (latest_0 : Int → Int) (latest_1 : Int → Int) (latest_2 : Int → Int) (k1 : 0 ≤ x1 ∧ x1 ≤ 7) (k4 : 0 ≤ x4 ∧ x4 ≤ 7) (k9 : 0 ≤ x9 ∧ x9 ≤ 7) (k11 : 0 ≤ x11 ∧ x11 ≤ 66297) (k13 : 2 ≤ x13 ∧ x13 ≤ 66299) (k14 : 0 ≤ x14 ∧ x14 ≤ 8) (k16 : 1 ≤ x16 ∧ x16 ≤ 8) (k18 : 531 ≤ x18 ∧ x18 ≤ 66828) (k19 : 531 ≤ x19 ∧ x19 ≤ 66835) (k21 : 523 ≤ x21 ∧ x21 ≤ 66820) (k22 : 523 ≤ x22 ∧ x22 ≤ 66827) (k25 : 0 ≤ x25 ∧ x25 ≤ 8) (d4 : x11 + 523 ≤ x21 ∧ x21 ≤ x11 + 523) (d8 : x11 + 531 ≤ x18 ∧ x18 ≤ x11 + 531) (d9 : x14 + 1 ≤ x16 ∧ x16 ≤ x14 + 1) (d10 : x11 + 2 ≤ x13 ∧ x13 ≤ x11 + 2) (f11 : x22 = x21 + x9) (g13 : x11 = r_1) (f23 : x19 = x18 + x9) (h34 : x14 = all_3 (x13)) (f36 : 1 * x9 + ((-1) * all_3 (r_0 + 2) + 0) ≤ 0) (f37 : (-1) * x9 + (1 * all_3 (r_0 + 2) + 0) ≤ 0) (f41 : 1 * x4 + ((-1) * all_3 (r_0 + 2) + 0) ≤ 0) (f42 : (-1) * x4 + (1 * all_3 (r_0 + 2) + 0) ≤ 0) (fe_0_5_1 : r_0 = r_1) (fe_0_11_1 : pos_0 = pos_1) (fe_0_12_1 : kind_0 = kind_1) (fe_0_15_1 : from_0 = from_1) (fe_0_5_2 : r_1 = r_2) (fe_0_11_2 : pos_1 = pos_2) (fe_0_12_2 : kind_1 = kind_2) (fe_0_15_2 : from_1 = from_2) (fe_0_5_3 : r_2 = r_3) (fe_0_11_3 : pos_2 = pos_3) (fe_0_12_3 : kind_2 = kind_3) (fe_0_15_3 : from_2 = from_3) (hE_0_2_1 : ∀ j : Int, 0 ≤ j → (j = x22 → all_0 j = x25) ∧ (j ≠ x22 → all_0 j = all_1 j)) (hE_0_2_2 : ∀ j : Int, 0 ≤ j → (j = x19 → all_1 j = x1) ∧ (j ≠ x19 → all_1 j = all_2 j)) (hE_0_2_3 : ∀ j : Int, 0 ≤ j → (j = x13 → all_2 j = x16) ∧ (j ≠ x13 → all_2 j = all_3 j)) (hE_0_3_1 : ∀ j : Int, now_0 j = now_1 j) (hE_0_3_2 : ∀ j : Int, now_1 j = now_2 j) (hE_0_3_3 : ∀ j : Int, now_2 j = now_3 j) (hE_0_4_1 : ∀ j : Int, latest_0 j = latest_1 j) (hE_0_4_2 : ∀ j : Int, latest_1 j = latest_2 j) (hE_0_4_3 : ∀ j : Int, latest_2 j = latest_3 j) (kz_0_11 : 0 ≤ pos_0 ∧ pos_0 ≤ 2000) (kz_0_12 : 0 ≤ kind_0 ∧ kind_0 ≤ 4) (kz_0_15 : 0 ≤ from_0 ∧ from_0 ≤ 2000) : (x9 + 1) ≤ all_0 ((r_0 + 2)) := by
  subst fe_0_5_1
  subst fe_0_11_1
  subst fe_0_12_1
  subst fe_0_15_1
  subst fe_0_5_2
  subst fe_0_11_2
  subst fe_0_12_2
  subst fe_0_15_2
  subst fe_0_5_3
  subst fe_0_11_3
  subst fe_0_12_3
  subst fe_0_15_3
  have e_hE_0_3_1 := funext hE_0_3_1; subst e_hE_0_3_1
  have e_hE_0_3_2 := funext hE_0_3_2; subst e_hE_0_3_2
  have e_hE_0_3_3 := funext hE_0_3_3; subst e_hE_0_3_3
  have e_hE_0_4_1 := funext hE_0_4_1; subst e_hE_0_4_1
  have e_hE_0_4_2 := funext hE_0_4_2; subst e_hE_0_4_2
  have e_hE_0_4_3 := funext hE_0_4_3; subst e_hE_0_4_3
  first
    | omega
    | (have q1 := (hE_0_2_1 (r_0 + 2) (by omega)).2 (by omega)
       have q2 := (hE_0_2_2 (r_0 + 2) (by omega)).2 (by omega)
       omega)
    | (have q1 := (hE_0_2_1 (r_0 + 1) (by omega)).2 (by omega)
       have q2 := (hE_0_2_2 (r_0 + 1) (by omega)).2 (by omega)
       omega)
    | (have q1 := (hE_0_2_1 (r_0 + 2) (by omega)).2 (by omega)
       omega)
    | (have q1 := (hE_0_2_1 (r_0 + 1) (by omega)).2 (by omega)
       omega)
    | (have q1 := (hE_0_2_1 (r_0 + 2) (by omega)).2 (by omega)
       have q2 := (hE_0_2_2 (r_0 + 2) (by omega)).2 (by omega)
       have q3 := (hE_0_2_3 (r_0 + 2) (by omega)).1 (by omega)
       omega)
    | (have q1 := (hE_0_2_1 (r_0 + 2) (by omega)).2 (by omega)
       have q2 := (hE_0_2_2 (r_0 + 2) (by omega)).2 (by omega)
       have q3 := (hE_0_2_3 (r_0 + 2) (by omega)).2 (by omega)
       omega)
    | (have q1 := (hE_0_2_1 (r_0 + 2) (by omega)).2 (by omega)
       have q2 := (hE_0_2_2 (r_0 + 2) (by omega)).2 (by omega)
       have q3 := (hE_0_2_3 (r_0 + 2) (by omega)).1 (by omega)
       have q4 : x13 = r_0 + 2 := by omega
       rw [q4] at h34
       omega)
set_option maxHeartbeats 4000000 in
theorem vc_Mo_groupItem_at_k1_7_3 (x1 : Int) (x4 : Int) (x9 : Int) (x11 : Int) (x13 : Int) (x16 : Int) (x18 : Int) (x19 : Int) (x21 : Int) (x22 : Int) (x25 : Int) (from_0 : Int) (pos_0 : Int) (kind_0 : Int) (from_1 : Int) (pos_1 : Int) (r_1 : Int) (kind_1 : Int) (from_2 : Int) (pos_2 : Int) (kind_2 : Int) (all_3 : Int → Int) (r_0 : Int) (r_3 : Int) (now_3 : Int → Int) (latest_3 : Int → Int) (from_3 : Int) (pos_3 : Int) (kind_3 : Int) (r_2 : Int) (all_0 : Int → Int) (all_1 : Int → Int) (all_2 : Int → Int) (now_0 : Int → Int) (now_1 : Int → Int) (now_2 : Int → Int) (latest_0 : Int → Int) (latest_1 : Int → Int) (latest_2 : Int → Int) (k1 : 0 ≤ x1 ∧ x1 ≤ 7) (k4 : 0 ≤ x4 ∧ x4 ≤ 7) (k9 : 0 ≤ x9 ∧ x9 ≤ 7) (k11 : 0 ≤ x11 ∧ x11 ≤ 66297) (k13 : 2 ≤ x13 ∧ x13 ≤ 66299) (k16 : 1 ≤ x16 ∧ x16 ≤ 8) (k18 : 531 ≤ x18 ∧ x18 ≤ 66828) (k19 : 531 ≤ x19 ∧ x19 ≤ 66835) (k21 : 523 ≤ x21 ∧ x21 ≤ 66820) (k22 : 523 ≤ x22 ∧ x22 ≤ 66827) (k25 : 0 ≤ x25 ∧ x25 ≤ 8) (d4 : x11 + 523 ≤ x21 ∧ x21 ≤ x11 + 523) (d8 : x11 + 531 ≤ x18 ∧ x18 ≤ x11 + 531) (d10 : x11 + 2 ≤ x13 ∧ x13 ≤ x11 + 2) (f0 : 1 * x1 + ((-1) * x9 + 0) ≤ (-1)) (f11 : x22 = x21 + x9) (g13 : x11 = r_1) (f23 : x19 = x18 + x9) (f36 : 1 * x9 + ((-1) * all_3 (r_0 + 2) + 0) ≤ 0) (f37 : (-1) * x9 + (1 * all_3 (r_0 + 2) + 0) ≤ 0) (f41 : 1 * x4 + ((-1) * all_3 (r_0 + 2) + 0) ≤ 0) (f42 : (-1) * x4 + (1 * all_3 (r_0 + 2) + 0) ≤ 0) (f44 : RWS (r_3) (all_3) (now_3) (latest_3)) (fe_0_5_1 : r_0 = r_1) (fe_0_11_1 : pos_0 = pos_1) (fe_0_12_1 : kind_0 = kind_1) (fe_0_15_1 : from_0 = from_1) (fe_0_5_2 : r_1 = r_2) (fe_0_11_2 : pos_1 = pos_2) (fe_0_12_2 : kind_1 = kind_2) (fe_0_15_2 : from_1 = from_2) (fe_0_5_3 : r_2 = r_3) (fe_0_11_3 : pos_2 = pos_3) (fe_0_12_3 : kind_2 = kind_3) (fe_0_15_3 : from_2 = from_3) (hE_0_2_1 : ∀ j : Int, 0 ≤ j → (j = x22 → all_0 j = x25) ∧ (j ≠ x22 → all_0 j = all_1 j)) (hE_0_2_2 : ∀ j : Int, 0 ≤ j → (j = x19 → all_1 j = x1) ∧ (j ≠ x19 → all_1 j = all_2 j)) (hE_0_2_3 : ∀ j : Int, 0 ≤ j → (j = x13 → all_2 j = x16) ∧ (j ≠ x13 → all_2 j = all_3 j)) (hE_0_3_1 : ∀ j : Int, now_0 j = now_1 j) (hE_0_3_2 : ∀ j : Int, now_1 j = now_2 j) (hE_0_3_3 : ∀ j : Int, now_2 j = now_3 j) (hE_0_4_1 : ∀ j : Int, latest_0 j = latest_1 j) (hE_0_4_2 : ∀ j : Int, latest_1 j = latest_2 j) (hE_0_4_3 : ∀ j : Int, latest_2 j = latest_3 j) (kz_0_11 : 0 ≤ pos_0 ∧ pos_0 ≤ 2000) (kz_0_12 : 0 ≤ kind_0 ∧ kind_0 ≤ 4) (kz_0_15 : 0 ≤ from_0 ∧ from_0 ≤ 2000) : RWS (r_0) (all_0) (now_0) (latest_0) := by
  subst fe_0_5_1
  subst fe_0_11_1
  subst fe_0_12_1
  subst fe_0_15_1
  subst fe_0_5_2
  subst fe_0_11_2
  subst fe_0_12_2
  subst fe_0_15_2
  subst fe_0_5_3
  subst fe_0_11_3
  subst fe_0_12_3
  subst fe_0_15_3
  have e_hE_0_3_1 := funext hE_0_3_1; subst e_hE_0_3_1
  have e_hE_0_3_2 := funext hE_0_3_2; subst e_hE_0_3_2
  have e_hE_0_3_3 := funext hE_0_3_3; subst e_hE_0_3_3
  have e_hE_0_4_1 := funext hE_0_4_1; subst e_hE_0_4_1
  have e_hE_0_4_2 := funext hE_0_4_2; subst e_hE_0_4_2
  have e_hE_0_4_3 := funext hE_0_4_3; subst e_hE_0_4_3
  first
    | assumption
    | (have hr := rws_r ‹RWS _ _ _ _›
       exact rws_off (rws_off (rws_off ‹RWS _ _ _ _› (by assumption) (by omega)) (by assumption) (by omega)) (by assumption) (by omega))
    | (have hr := rws_r ‹RWS _ _ _ _›
       exact rws_off ‹RWS _ _ _ _› (by assumption) (by omega))
def o_Mo_groupItem_at_k1_7 : or_T := (108, 27, [(0, (2, 0, 0, [165])), (1, (0, 0, 7, [])), (3, (0, 0, 2000, [])), (4, (0, 0, 7, [])), (5, (0, 8, 8, [])), (7, (0, 0, 2000, [])), (8, (0, 1, 1, [])), (9, (0, 0, 7, [])), (10, (2, 0, 0, [167])), (11, (0, 0, 66297, [])), (12, (0, 2, 2, [])), (13, (0, 2, 66299, [])), (14, (0, 0, 8, [])), (15, (0, 1, 1, [])), (16, (0, 1, 8, [])), (17, (0, 531, 531, [])), (18, (0, 531, 66828, [])), (19, (0, 531, 66835, [])), (20, (0, 523, 523, [])), (21, (0, 523, 66820, [])), (22, (0, 523, 66827, [])), (23, (0, 0, 2000, [])), (24, (0, 0, 2000, [])), (25, (0, 0, 8, []))], [(23, [1, 9], [-1, 1, -1]), (23, [7, 3], [0, 1, -1]), (23, [7, 3], [0, -1, 1]), (20, [0, 0], [30, 0, 1, 1, 15, -1, 1, 11]), (20, [0], [50, 3, 0, 12, 11, 15, 2, 21, 4, 7, 1, 3, 2, 0, 12, 0, 1, 0, 3, 2, 0, 11, 4, 3, 2, 0, 15, 0, 8, 3, 7, 1, 3, 2, 0, 12, 0, 0, 0, 7, 4, 3, 2, 0, 15, 0, 1, 2, 0, 11]), (20, [7, 0], [30, 0, 1, 0, 0, -1, 1, 15]), (20, [8, 0], [50, 1, 0, 1012, 4, 6, 1, 2, 1, 0, 0, 1, 1, 3, 2, 1, 12, 0, 1]), (100, [10, 22, 25], []), (2, [25, 23, 24], []), (9, [24, 0], [15]), (9, [23, 0], [11]), (1, [22, 21, 9], []), (1, [21, 11, 20], []), (9, [11, 0], [5]), (9, [10, 0], [2]), (23, [1, 9], [-1, 1, -1]), (23, [7, 3], [0, 1, -1]), (23, [7, 3], [0, -1, 1]), (20, [0, 0], [30, 0, 1, 1, 15, -1, 1, 11]), (20, [0], [50, 3, 0, 12, 11, 15, 2, 21, 4, 7, 1, 3, 2, 0, 12, 0, 1, 0, 3, 2, 0, 11, 4, 3, 2, 0, 15, 0, 8, 3, 7, 1, 3, 2, 0, 12, 0, 0, 0, 7, 4, 3, 2, 0, 15, 0, 1, 2, 0, 11]), (20, [7, 0], [30, 0, 1, 0, 0, -1, 1, 15]), (20, [8, 0], [50, 1, 0, 1012, 4, 6, 1, 2, 1, 0, 0, 1, 1, 3, 2, 1, 12, 0, 1]), (100, [10, 19, 1], []), (1, [19, 18, 9], []), (1, [18, 11, 17], []), (23, [1, 9], [-1, 1, -1]), (23, [7, 3], [0, 1, -1]), (23, [7, 3], [0, -1, 1]), (20, [0, 0], [30, 0, 1, 1, 15, -1, 1, 11]), (20, [0], [50, 3, 0, 12, 11, 15, 2, 21, 4, 7, 1, 3, 2, 0, 12, 0, 1, 0, 3, 2, 0, 11, 4, 3, 2, 0, 15, 0, 8, 3, 7, 1, 3, 2, 0, 12, 0, 0, 0, 7, 4, 3, 2, 0, 15, 0, 1, 2, 0, 11]), (20, [7, 0], [30, 0, 1, 0, 0, -1, 1, 15]), (20, [8, 0], [50, 1, 0, 1012, 4, 6, 1, 2, 1, 0, 0, 1, 1, 3, 2, 1, 12, 0, 1]), (100, [10, 13, 16], []), (1, [16, 14, 15], []), (10, [14, 10, 13], []), (1, [13, 11, 12], []), (20, [9, 0], [30, 0, 1, 0, 0, -1, 3, 2005002]), (20, [9, 0], [30, 0, -1, 0, 0, 1, 3, 2005002]), (8, [8], [1]), (23, [7, 3], [0, 1, -1]), (23, [7, 3], [0, -1, 1]), (20, [4, 0], [30, 0, 1, 0, 0, -1, 3, 2005002]), (20, [4, 0], [30, 0, -1, 0, 0, 1, 3, 2005002]), (20, [1, 0], [50, 1, 1, 1005, 1002, 0, 6, 4, 2, 1, 0, 0, 1, 3, 1, 2, 4, 3, 2, 1, 5, 0, 2]), (20, [0], [60, 1, 3, 199, 5, 2, 3, 4]), (20, [0, 0], [30, 0, 1, 1, 15, -1, 1, 11]), (20, [0], [50, 3, 0, 12, 11, 15, 2, 21, 4, 7, 1, 3, 2, 0, 12, 0, 1, 0, 3, 2, 0, 11, 4, 3, 2, 0, 15, 0, 8, 3, 7, 1, 3, 2, 0, 12, 0, 0, 0, 7, 4, 3, 2, 0, 15, 0, 1, 2, 0, 11]), (20, [7, 0], [30, 0, 1, 0, 0, -1, 1, 15]), (20, [8, 0], [50, 1, 0, 1012, 4, 6, 1, 2, 1, 0, 0, 1, 1, 3, 2, 1, 12, 0, 1]), (102, [7], [0]), (23, [7, 3], [0, 1, -1]), (23, [7, 3], [0, -1, 1]), (102, [7], [0, 165011, 165012, 165013, 165014, 165015]), (23, [7, 3], [0, 1, -1]), (23, [7, 3], [0, -1, 1]), (7, [4, 5], [1])], [], [], [(20, [3, 0], [30, -1, 1, 0, 0, -1, 1, 11]), (20, [0], [50, 1, 0, 12, 1, 3, 2, 0, 12, 0, 1]), (20, [9, 0], [50, 1, 1, 1005, 1002, 0, 6, 4, 2, 1, 0, 0, 1, 3, 1, 2, 4, 3, 2, 1, 5, 0, 2]), (20, [0], [60, 1, 3, 199, 5, 2, 3, 4]), (24, [0, 0], []), (24, [1, 1], [])], [], [(25, 23, -2000, 0), (22, 9, 523, 66820), (22, 21, 0, 7), (22, 11, 523, 530), (21, 11, 523, 523), (19, 9, 531, 66828), (19, 18, 0, 7), (19, 11, 531, 538), (18, 11, 531, 531), (16, 14, 1, 1), (13, 11, 2, 2)])
theorem oo_Mo_groupItem_at_k1_7 {kA : Nat → ClassId} : or_ok PRD kA GG o_Mo_groupItem_at_k1_7 := by
  refine or_mk fun A ta ws vs hD hth hl => ?_
  intro t0 r0 t1 k1 t3 k3 t4 k4 t5 k5 t7 k7 t8 k8 t9 k9 t10 r10 t11 k11 t12 k12 t13 k13 t14 k14 t15 k15 t16 k16 t17 k17 t18 k18 t19 k19 t20 k20 t21 k21 t22 k22 t23 k23 t24 k24 t25 k25 d0 d1 d2 d3 d4 d5 d6 d7 d8 d9 d10 f0 f1 f2 f3 f4 f5 f6 ta1 w1 le1 s1 f8 f9 f10 f11 f12 f13 f14 f15 f16 f17 f18 f19 f20 f21 ta2 w2 le2 s2 f23 f24 f25 f26 f27 f28 f29 f30 f31 ta3 w3 le3 s3 f33 f34 f35 f36 f37 f38 f39 f40 f41 f42 f43 f44 f45 f46 f47 f48 ta4 w4 le4 s4 f50 f51 ta5 w5 le5 s5 f53 f54 f55
  replace f0 := shm_211 f0
  replace f1 := shm_7 f1
  replace f2 := shm_22 f2
  replace f3 := shm_1397 f3
  replace f4 := shm_1398 f4
  replace f5 := shm_1396 f5
  replace f6 := shm_1762 f6
  have s1 : (∀ b j, w_el ws b j = if b = v_ad (n_v vs 10) ∧ j = (v_iv (n_v vs 22)).toNat then v_iv (n_v vs 25) else w_el w1 b j) ∧ ∀ b k, w_fd ws b k = w_fd w1 b k := s1.2
  replace f8 := shm_14 f8
  replace f9 := shm_189 f9
  replace f10 := shm_117 f10
  replace f11 := shm_12 f11
  replace f12 := shm_12 f12
  replace f13 := shm_109 f13
  replace f14 := shm_129 f14
  replace f15 := shm_211 f15
  replace f16 := shm_7 f16
  replace f17 := shm_22 f17
  replace f18 := shm_1397 f18
  replace f19 := shm_1398 f19
  replace f20 := shm_1396 f20
  replace f21 := shm_1762 f21
  have s2 : (∀ b j, w_el w1 b j = if b = v_ad (n_v vs 10) ∧ j = (v_iv (n_v vs 19)).toNat then v_iv (n_v vs 1) else w_el w2 b j) ∧ ∀ b k, w_fd w1 b k = w_fd w2 b k := s2.2
  replace f23 := shm_12 f23
  replace f24 := shm_12 f24
  replace f25 := shm_211 f25
  replace f26 := shm_7 f26
  replace f27 := shm_22 f27
  replace f28 := shm_1397 f28
  replace f29 := shm_1398 f29
  replace f30 := shm_1396 f30
  replace f31 := shm_1762 f31
  have s3 : (∀ b j, w_el w2 b j = if b = v_ad (n_v vs 10) ∧ j = (v_iv (n_v vs 13)).toNat then v_iv (n_v vs 16) else w_el w3 b j) ∧ ∀ b k, w_fd w2 b k = w_fd w3 b k := s3.2
  replace f33 := shm_12 f33
  replace f34 := shm_106 f34
  replace f35 := shm_12 f35
  replace f36 := shm_132 f36
  replace f37 := shm_133 f37
  replace f38 := shm_154 f38
  replace f39 := shm_7 f39
  replace f40 := shm_22 f40
  replace f41 := shm_132 f41
  replace f42 := shm_133 f42
  replace f43 := shm_981 f43
  replace f44 := shm_952 f44
  replace f45 := shm_1397 f45
  replace f46 := shm_1398 f46
  replace f47 := shm_1396 f47
  replace f48 := shm_1762 f48
  replace f50 := shm_7 f50
  replace f51 := shm_22 f51
  replace f53 := shm_7 f53
  replace f54 := shm_22 f54
  replace f55 := shm_40 f55
  have ar_0_2_1 : w_ar w1 (n_v vs 0) 2 = w_ar ws (n_v vs 0) 2 := congrArg v_ad (s1.2 _ _).symm
  have ar_0_2_2 : w_ar w2 (n_v vs 0) 2 = w_ar ws (n_v vs 0) 2 := by rw [← ar_0_2_1]; show v_ad (w_fd w2 _ _) = v_ad (w_fd w1 _ _); rw [s2.2]
  have ar_0_2_3 : w_ar w3 (n_v vs 0) 2 = w_ar ws (n_v vs 0) 2 := by rw [← ar_0_2_2]; show v_ad (w_fd w3 _ _) = v_ad (w_fd w2 _ _); rw [s3.2]
  have cr_0_2 := fdq_12 hD hth r0
  have ar_0_3_1 : w_ar w1 (n_v vs 0) 3 = w_ar ws (n_v vs 0) 3 := congrArg v_ad (s1.2 _ _).symm
  have ar_0_3_2 : w_ar w2 (n_v vs 0) 3 = w_ar ws (n_v vs 0) 3 := by rw [← ar_0_3_1]; show v_ad (w_fd w2 _ _) = v_ad (w_fd w1 _ _); rw [s2.2]
  have ar_0_3_3 : w_ar w3 (n_v vs 0) 3 = w_ar ws (n_v vs 0) 3 := by rw [← ar_0_3_2]; show v_ad (w_fd w3 _ _) = v_ad (w_fd w2 _ _); rw [s3.2]
  have cr_0_3 := fdq_141 hD hth r0
  have ar_0_4_1 : w_ar w1 (n_v vs 0) 4 = w_ar ws (n_v vs 0) 4 := congrArg v_ad (s1.2 _ _).symm
  have ar_0_4_2 : w_ar w2 (n_v vs 0) 4 = w_ar ws (n_v vs 0) 4 := by rw [← ar_0_4_1]; show v_ad (w_fd w2 _ _) = v_ad (w_fd w1 _ _); rw [s2.2]
  have ar_0_4_3 : w_ar w3 (n_v vs 0) 4 = w_ar ws (n_v vs 0) 4 := by rw [← ar_0_4_2]; show v_ad (w_fd w3 _ _) = v_ad (w_fd w2 _ _); rw [s3.2]
  have cr_0_4 := fdq_142 hD hth r0
  have fi_0_5_1 : w_fi w1 (n_v vs 0) 5 = w_fi ws (n_v vs 0) 5 := by show v_iv (w_fd w1 _ _) = v_iv (w_fd ws _ _); rw [s1.2]
  have fi_0_5_2 : w_fi w2 (n_v vs 0) 5 = w_fi ws (n_v vs 0) 5 := by rw [← fi_0_5_1]; show v_iv (w_fd w2 _ _) = v_iv (w_fd w1 _ _); rw [s2.2]
  have fi_0_5_3 : w_fi w3 (n_v vs 0) 5 = w_fi ws (n_v vs 0) 5 := by rw [← fi_0_5_2]; show v_iv (w_fd w3 _ _) = v_iv (w_fd w2 _ _); rw [s3.2]
  have ad_10 : v_ad (n_v vs 10) = w_ar ws (n_v vs 0) 2 := (congrArg v_ad f14).trans ar_0_2_1
  have g9 : v_iv (n_v vs 24) = w_fi w1 (n_v vs 0) 15 := congrArg v_iv f9
  have g10 : v_iv (n_v vs 23) = w_fi w1 (n_v vs 0) 11 := congrArg v_iv f10
  have g13 : v_iv (n_v vs 11) = w_fi w1 (n_v vs 0) 5 := congrArg v_iv f13
  simp only [ad_10] at f34
  have h34 : v_iv (n_v vs 14) = w_ei w3 (w_ar ws (n_v vs 0) 2) (v_iv (n_v vs 13)) := f34
  simp only [ar_0_2_3, ar_0_3_3, ar_0_4_3] at f36 f37 f41 f42 f43 f44
  simp only [fi_0_5_3] at f36 f37 f41 f42
  have fe_0_5_1 : w_fi ws (n_v vs 0) 5 = w_fi w1 (n_v vs 0) 5 := congrArg v_iv (s1.2 _ _)
  have fe_0_11_1 : w_fi ws (n_v vs 0) 11 = w_fi w1 (n_v vs 0) 11 := congrArg v_iv (s1.2 _ _)
  have fe_0_12_1 : w_fi ws (n_v vs 0) 12 = w_fi w1 (n_v vs 0) 12 := congrArg v_iv (s1.2 _ _)
  have fe_0_15_1 : w_fi ws (n_v vs 0) 15 = w_fi w1 (n_v vs 0) 15 := congrArg v_iv (s1.2 _ _)
  have fe_0_5_2 : w_fi w1 (n_v vs 0) 5 = w_fi w2 (n_v vs 0) 5 := congrArg v_iv (s2.2 _ _)
  have fe_0_11_2 : w_fi w1 (n_v vs 0) 11 = w_fi w2 (n_v vs 0) 11 := congrArg v_iv (s2.2 _ _)
  have fe_0_12_2 : w_fi w1 (n_v vs 0) 12 = w_fi w2 (n_v vs 0) 12 := congrArg v_iv (s2.2 _ _)
  have fe_0_15_2 : w_fi w1 (n_v vs 0) 15 = w_fi w2 (n_v vs 0) 15 := congrArg v_iv (s2.2 _ _)
  have fe_0_5_3 : w_fi w2 (n_v vs 0) 5 = w_fi w3 (n_v vs 0) 5 := congrArg v_iv (s3.2 _ _)
  have fe_0_11_3 : w_fi w2 (n_v vs 0) 11 = w_fi w3 (n_v vs 0) 11 := congrArg v_iv (s3.2 _ _)
  have fe_0_12_3 : w_fi w2 (n_v vs 0) 12 = w_fi w3 (n_v vs 0) 12 := congrArg v_iv (s3.2 _ _)
  have fe_0_15_3 : w_fi w2 (n_v vs 0) 15 = w_fi w3 (n_v vs 0) 15 := congrArg v_iv (s3.2 _ _)
  have hE_0_2_1 : ∀ j : Int, 0 ≤ j → (j = v_iv (n_v vs 22) → w_ei ws (w_ar ws (n_v vs 0) 2) j = v_iv (n_v vs 25)) ∧ (j ≠ v_iv (n_v vs 22) → w_ei ws (w_ar ws (n_v vs 0) 2) j = w_ei w1 (w_ar ws (n_v vs 0) 2) j) := fun j hj => ⟨fun h => by unfold w_ei; rw [s1.1, if_pos ⟨ad_10.symm, by rw [h]⟩], fun h => by unfold w_ei; rw [s1.1, if_neg (fun e => h (by have := e.2; omega))]⟩
  have hE_0_2_2 : ∀ j : Int, 0 ≤ j → (j = v_iv (n_v vs 19) → w_ei w1 (w_ar ws (n_v vs 0) 2) j = v_iv (n_v vs 1)) ∧ (j ≠ v_iv (n_v vs 19) → w_ei w1 (w_ar ws (n_v vs 0) 2) j = w_ei w2 (w_ar ws (n_v vs 0) 2) j) := fun j hj => ⟨fun h => by unfold w_ei; rw [s2.1, if_pos ⟨ad_10.symm, by rw [h]⟩], fun h => by unfold w_ei; rw [s2.1, if_neg (fun e => h (by have := e.2; omega))]⟩
  have hE_0_2_3 : ∀ j : Int, 0 ≤ j → (j = v_iv (n_v vs 13) → w_ei w2 (w_ar ws (n_v vs 0) 2) j = v_iv (n_v vs 16)) ∧ (j ≠ v_iv (n_v vs 13) → w_ei w2 (w_ar ws (n_v vs 0) 2) j = w_ei w3 (w_ar ws (n_v vs 0) 2) j) := fun j hj => ⟨fun h => by unfold w_ei; rw [s3.1, if_pos ⟨ad_10.symm, by rw [h]⟩], fun h => by unfold w_ei; rw [s3.1, if_neg (fun e => h (by have := e.2; omega))]⟩
  have hE_0_3_1 : ∀ j : Int, w_ei ws (w_ar ws (n_v vs 0) 3) j = w_ei w1 (w_ar ws (n_v vs 0) 3) j := el_kp s1.1 r10 cr_0_3 (by decide)
  have hE_0_3_2 : ∀ j : Int, w_ei w1 (w_ar ws (n_v vs 0) 3) j = w_ei w2 (w_ar ws (n_v vs 0) 3) j := el_kp s2.1 r10 cr_0_3 (by decide)
  have hE_0_3_3 : ∀ j : Int, w_ei w2 (w_ar ws (n_v vs 0) 3) j = w_ei w3 (w_ar ws (n_v vs 0) 3) j := el_kp s3.1 r10 cr_0_3 (by decide)
  have hK_0_3 := elq_77 hD hth cr_0_3
  have hE_0_4_1 : ∀ j : Int, w_ei ws (w_ar ws (n_v vs 0) 4) j = w_ei w1 (w_ar ws (n_v vs 0) 4) j := el_kp s1.1 r10 cr_0_4 (by decide)
  have hE_0_4_2 : ∀ j : Int, w_ei w1 (w_ar ws (n_v vs 0) 4) j = w_ei w2 (w_ar ws (n_v vs 0) 4) j := el_kp s2.1 r10 cr_0_4 (by decide)
  have hE_0_4_3 : ∀ j : Int, w_ei w2 (w_ar ws (n_v vs 0) 4) j = w_ei w3 (w_ar ws (n_v vs 0) 4) j := el_kp s3.1 r10 cr_0_4 (by decide)
  have hK_0_4 := elq_78 hD hth cr_0_4
  have kz_0_11 := fdq_273 hD hth r0
  have kz_0_12 := fdq_186 hD hth r0
  have kz_0_15 := fdq_274 hD hth r0
  first | have hJ0 : w_ei w3 (w_ar ws (n_v vs 0) 2) ((w_fi w3 (n_v vs 0) 5 + 2)) = w_ei w3 (w_ar ws (n_v vs 0) 2) ((w_fi ws (n_v vs 0) 5 + 2)) := congrArg _ (show ((w_fi w3 (n_v vs 0) 5 + 2) : Int) = (w_fi ws (n_v vs 0) 5 + 2) from by omega) | skip
  first | have hI1 := (hE_0_2_1 ((w_fi ws (n_v vs 0) 5 + 2)) (by omega)).2 (by omega) | have hI1 := (hE_0_2_1 ((w_fi ws (n_v vs 0) 5 + 2)) (by omega)).1 (by omega) | skip
  first | have hI2 := (hE_0_2_2 ((w_fi ws (n_v vs 0) 5 + 2)) (by omega)).2 (by omega) | have hI2 := (hE_0_2_2 ((w_fi ws (n_v vs 0) 5 + 2)) (by omega)).1 (by omega) | skip
  first | have hI3 := (hE_0_2_3 ((w_fi ws (n_v vs 0) 5 + 2)) (by omega)).2 (by omega) | have hI3 := (hE_0_2_3 ((w_fi ws (n_v vs 0) 5 + 2)) (by omega)).1 (by omega) | skip
  have nf0 : fc_1 PRD (20, [3, 0], [30, -1, 1, 0, 0, -1, 1, 11]) ws (vs) := ⟨nf_in hl rfl, sgq_1891 (vc_Mo_groupItem_at_k1_7_0 (v_iv (n_v vs 1)) (v_iv (n_v vs 3)) (v_iv (n_v vs 7)) (v_iv (n_v vs 8)) (v_iv (n_v vs 13)) (v_iv (n_v vs 14)) (v_iv (n_v vs 16)) (v_iv (n_v vs 19)) (v_iv (n_v vs 22)) (v_iv (n_v vs 23)) (v_iv (n_v vs 24)) (v_iv (n_v vs 25)) (w_fi ws (n_v vs 0) 15) (w_fi ws (n_v vs 0) 11) (w_fi ws (n_v vs 0) 12) (w_fi w1 (n_v vs 0) 15) (w_fi w1 (n_v vs 0) 11) (w_fi w1 (n_v vs 0) 5) (w_fi w1 (n_v vs 0) 12) (w_fi w2 (n_v vs 0) 15) (w_fi w2 (n_v vs 0) 11) (w_fi w2 (n_v vs 0) 12) (w_ei w3 (w_ar ws (n_v vs 0) 2)) (w_fi ws (n_v vs 0) 5) (w_fi w3 (n_v vs 0) 5) (w_ei w3 (w_ar ws (n_v vs 0) 3)) (w_ei w3 (w_ar ws (n_v vs 0) 4)) (w_fi w3 (n_v vs 0) 15) (w_fi w3 (n_v vs 0) 11) (w_fi w3 (n_v vs 0) 12) (w_fi w2 (n_v vs 0) 5) (w_ei ws (w_ar ws (n_v vs 0) 2)) (w_ei w1 (w_ar ws (n_v vs 0) 2)) (w_ei w2 (w_ar ws (n_v vs 0) 2)) (w_ei ws (w_ar ws (n_v vs 0) 3)) (w_ei w1 (w_ar ws (n_v vs 0) 3)) (w_ei w2 (w_ar ws (n_v vs 0) 3)) (w_ei ws (w_ar ws (n_v vs 0) 4)) (w_ei w1 (w_ar ws (n_v vs 0) 4)) (w_ei w2 (w_ar ws (n_v vs 0) 4)) k1 k3 k7 k8 k13 k14 k16 k19 k22 k23 k24 k25 f1 f2 f5 f8 g9 g10 h34 f46 f48 fe_0_5_1 fe_0_11_1 fe_0_12_1 fe_0_15_1 fe_0_5_2 fe_0_11_2 fe_0_12_2 fe_0_15_2 fe_0_5_3 fe_0_11_3 fe_0_12_3 fe_0_15_3 hE_0_2_1 hE_0_2_2 hE_0_2_3 hE_0_3_1 hE_0_3_2 hE_0_3_3 hE_0_4_1 hE_0_4_2 hE_0_4_3 kz_0_11 kz_0_12 kz_0_15)⟩
  have nf1 : fc_1 PRD (20, [0], [50, 1, 0, 12, 1, 3, 2, 0, 12, 0, 1]) ws (vs) := ⟨nf_in hl rfl, sgq_1791 (vc_Mo_groupItem_at_k1_7_1 (v_iv (n_v vs 1)) (v_iv (n_v vs 8)) (v_iv (n_v vs 13)) (v_iv (n_v vs 14)) (v_iv (n_v vs 16)) (v_iv (n_v vs 19)) (v_iv (n_v vs 22)) (v_iv (n_v vs 25)) (w_fi ws (n_v vs 0) 15) (w_fi ws (n_v vs 0) 11) (w_fi ws (n_v vs 0) 12) (w_fi w1 (n_v vs 0) 15) (w_fi w1 (n_v vs 0) 11) (w_fi w1 (n_v vs 0) 5) (w_fi w1 (n_v vs 0) 12) (w_fi w2 (n_v vs 0) 15) (w_fi w2 (n_v vs 0) 11) (w_fi w2 (n_v vs 0) 12) (w_ei w3 (w_ar ws (n_v vs 0) 2)) (w_fi ws (n_v vs 0) 5) (w_fi w3 (n_v vs 0) 5) (w_ei w3 (w_ar ws (n_v vs 0) 3)) (w_ei w3 (w_ar ws (n_v vs 0) 4)) (w_fi w3 (n_v vs 0) 15) (w_fi w3 (n_v vs 0) 11) (w_fi w3 (n_v vs 0) 12) (w_fi w2 (n_v vs 0) 5) (w_ei ws (w_ar ws (n_v vs 0) 2)) (w_ei w1 (w_ar ws (n_v vs 0) 2)) (w_ei w2 (w_ar ws (n_v vs 0) 2)) (w_ei ws (w_ar ws (n_v vs 0) 3)) (w_ei w1 (w_ar ws (n_v vs 0) 3)) (w_ei w2 (w_ar ws (n_v vs 0) 3)) (w_ei ws (w_ar ws (n_v vs 0) 4)) (w_ei w1 (w_ar ws (n_v vs 0) 4)) (w_ei w2 (w_ar ws (n_v vs 0) 4)) k1 k8 k13 k14 k16 k19 k22 k25 h34 f46 f48 fe_0_5_1 fe_0_11_1 fe_0_12_1 fe_0_15_1 fe_0_5_2 fe_0_11_2 fe_0_12_2 fe_0_15_2 fe_0_5_3 fe_0_11_3 fe_0_12_3 fe_0_15_3 hE_0_2_1 hE_0_2_2 hE_0_2_3 hE_0_3_1 hE_0_3_2 hE_0_3_3 hE_0_4_1 hE_0_4_2 hE_0_4_3 kz_0_11 kz_0_12 kz_0_15)⟩
  have nf2 : fc_1 PRD (20, [9, 0], [50, 1, 1, 1005, 1002, 0, 6, 4, 2, 1, 0, 0, 1, 3, 1, 2, 4, 3, 2, 1, 5, 0, 2]) ws (vs) := ⟨nf_in hl rfl, sgq_981 (vc_Mo_groupItem_at_k1_7_2 (v_iv (n_v vs 1)) (v_iv (n_v vs 4)) (v_iv (n_v vs 9)) (v_iv (n_v vs 11)) (v_iv (n_v vs 13)) (v_iv (n_v vs 14)) (v_iv (n_v vs 16)) (v_iv (n_v vs 18)) (v_iv (n_v vs 19)) (v_iv (n_v vs 21)) (v_iv (n_v vs 22)) (v_iv (n_v vs 25)) (w_fi ws (n_v vs 0) 15) (w_fi ws (n_v vs 0) 11) (w_fi ws (n_v vs 0) 12) (w_fi w1 (n_v vs 0) 15) (w_fi w1 (n_v vs 0) 11) (w_fi w1 (n_v vs 0) 5) (w_fi w1 (n_v vs 0) 12) (w_fi w2 (n_v vs 0) 15) (w_fi w2 (n_v vs 0) 11) (w_fi w2 (n_v vs 0) 12) (w_ei w3 (w_ar ws (n_v vs 0) 2)) (w_fi ws (n_v vs 0) 5) (w_fi w3 (n_v vs 0) 5) (w_ei w3 (w_ar ws (n_v vs 0) 3)) (w_ei w3 (w_ar ws (n_v vs 0) 4)) (w_fi w3 (n_v vs 0) 15) (w_fi w3 (n_v vs 0) 11) (w_fi w3 (n_v vs 0) 12) (w_fi w2 (n_v vs 0) 5) (w_ei ws (w_ar ws (n_v vs 0) 2)) (w_ei w1 (w_ar ws (n_v vs 0) 2)) (w_ei w2 (w_ar ws (n_v vs 0) 2)) (w_ei ws (w_ar ws (n_v vs 0) 3)) (w_ei w1 (w_ar ws (n_v vs 0) 3)) (w_ei w2 (w_ar ws (n_v vs 0) 3)) (w_ei ws (w_ar ws (n_v vs 0) 4)) (w_ei w1 (w_ar ws (n_v vs 0) 4)) (w_ei w2 (w_ar ws (n_v vs 0) 4)) k1 k4 k9 k11 k13 k14 k16 k18 k19 k21 k22 k25 d4 d8 d9 d10 f11 g13 f23 h34 f36 f37 f41 f42 fe_0_5_1 fe_0_11_1 fe_0_12_1 fe_0_15_1 fe_0_5_2 fe_0_11_2 fe_0_12_2 fe_0_15_2 fe_0_5_3 fe_0_11_3 fe_0_12_3 fe_0_15_3 hE_0_2_1 hE_0_2_2 hE_0_2_3 hE_0_3_1 hE_0_3_2 hE_0_3_3 hE_0_4_1 hE_0_4_2 hE_0_4_3 kz_0_11 kz_0_12 kz_0_15)⟩
  have nf3 : fc_1 PRD (20, [0], [60, 1, 3, 199, 5, 2, 3, 4]) ws (vs) := ⟨nf_in hl rfl, sgq_952 (vc_Mo_groupItem_at_k1_7_3 (v_iv (n_v vs 1)) (v_iv (n_v vs 4)) (v_iv (n_v vs 9)) (v_iv (n_v vs 11)) (v_iv (n_v vs 13)) (v_iv (n_v vs 16)) (v_iv (n_v vs 18)) (v_iv (n_v vs 19)) (v_iv (n_v vs 21)) (v_iv (n_v vs 22)) (v_iv (n_v vs 25)) (w_fi ws (n_v vs 0) 15) (w_fi ws (n_v vs 0) 11) (w_fi ws (n_v vs 0) 12) (w_fi w1 (n_v vs 0) 15) (w_fi w1 (n_v vs 0) 11) (w_fi w1 (n_v vs 0) 5) (w_fi w1 (n_v vs 0) 12) (w_fi w2 (n_v vs 0) 15) (w_fi w2 (n_v vs 0) 11) (w_fi w2 (n_v vs 0) 12) (w_ei w3 (w_ar ws (n_v vs 0) 2)) (w_fi ws (n_v vs 0) 5) (w_fi w3 (n_v vs 0) 5) (w_ei w3 (w_ar ws (n_v vs 0) 3)) (w_ei w3 (w_ar ws (n_v vs 0) 4)) (w_fi w3 (n_v vs 0) 15) (w_fi w3 (n_v vs 0) 11) (w_fi w3 (n_v vs 0) 12) (w_fi w2 (n_v vs 0) 5) (w_ei ws (w_ar ws (n_v vs 0) 2)) (w_ei w1 (w_ar ws (n_v vs 0) 2)) (w_ei w2 (w_ar ws (n_v vs 0) 2)) (w_ei ws (w_ar ws (n_v vs 0) 3)) (w_ei w1 (w_ar ws (n_v vs 0) 3)) (w_ei w2 (w_ar ws (n_v vs 0) 3)) (w_ei ws (w_ar ws (n_v vs 0) 4)) (w_ei w1 (w_ar ws (n_v vs 0) 4)) (w_ei w2 (w_ar ws (n_v vs 0) 4)) k1 k4 k9 k11 k13 k16 k18 k19 k21 k22 k25 d4 d8 d10 f0 f11 g13 f23 f36 f37 f41 f42 f44 fe_0_5_1 fe_0_11_1 fe_0_12_1 fe_0_15_1 fe_0_5_2 fe_0_11_2 fe_0_12_2 fe_0_15_2 fe_0_5_3 fe_0_11_3 fe_0_12_3 fe_0_15_3 hE_0_2_1 hE_0_2_2 hE_0_2_3 hE_0_3_1 hE_0_3_2 hE_0_3_3 hE_0_4_1 hE_0_4_2 hE_0_4_3 kz_0_11 kz_0_12 kz_0_15)⟩
  have nf4 : fc_1 PRD (24, [0, 0], []) ws (vs) := by
    refine ⟨nf_in hl rfl, sgq_1 ?_⟩
    · show n_v vs 0 = n_v vs 0
      first | rfl | simp only [true_and]
  have nf5 : fc_1 PRD (24, [1, 1], []) ws (vs) := by
    refine ⟨nf_in hl rfl, sgq_1 ?_⟩
    · show n_v vs 1 = n_v vs 1
      first | rfl | simp only [true_and]
  refine ⟨(fun _ h => (by cases h)), [], trivial, ?_, (fun _ h => (by cases h))⟩
  rw [List.append_nil]
  exact List.forall_mem_cons.mpr ⟨⟨show (20 : Nat) < 100 from by decide, nf0⟩, List.forall_mem_cons.mpr ⟨⟨show (20 : Nat) < 100 from by decide, nf1⟩, List.forall_mem_cons.mpr ⟨⟨show (20 : Nat) < 100 from by decide, nf2⟩, List.forall_mem_cons.mpr ⟨⟨show (20 : Nat) < 100 from by decide, nf3⟩, List.forall_mem_cons.mpr ⟨⟨show (24 : Nat) < 100 from by decide, nf4⟩, List.forall_mem_cons.mpr ⟨⟨show (24 : Nat) < 100 from by decide, nf5⟩, (fun _ h => (by cases h))⟩⟩⟩⟩⟩⟩
set_option maxHeartbeats 4000000 in
theorem vc_Mo_groupItem_at_k1_8_0 (x3 : Int) (x7 : Int) (r_0 : Int) (from_0 : Int) (pos_0 : Int) (k3 : 0 ≤ x3 ∧ x3 ≤ 2000) (k7 : 0 ≤ x7 ∧ x7 ≤ 2000) (f0 : 1 * x7 + ((-1) * x3 + 0) ≤ 0) (f1 : (-1) * x7 + (1 * x3 + 0) ≤ 0) (f6 : 1 * from_0 + ((-1) * pos_0 + 0) ≤ 0) (f8 : 1 * x7 + ((-1) * from_0 + 0) ≤ 0) (kz_0_11 : 0 ≤ pos_0 ∧ pos_0 ≤ 2000) (kz_0_15 : 0 ≤ from_0 ∧ from_0 ≤ 2000) : 1 * x3 + ((-1) * pos_0 + 0) ≤ 0 := by
  first
    | omega
    | (have q1 := (hE_0_2_1 (r_0 + 2) (by omega)).2 (by omega)
       have q2 := (hE_0_2_2 (r_0 + 2) (by omega)).2 (by omega)
       omega)
    | (have q1 := (hE_0_2_1 (r_0 + 1) (by omega)).2 (by omega)
       have q2 := (hE_0_2_2 (r_0 + 1) (by omega)).2 (by omega)
       omega)
    | (have q1 := (hE_0_2_1 (r_0 + 2) (by omega)).2 (by omega)
       omega)
    | (have q1 := (hE_0_2_1 (r_0 + 1) (by omega)).2 (by omega)
       omega)
    | (have q1 := (hE_0_2_1 (r_0 + 2) (by omega)).2 (by omega)
       have q2 := (hE_0_2_2 (r_0 + 2) (by omega)).2 (by omega)
       have q3 := (hE_0_2_3 (r_0 + 2) (by omega)).1 (by omega)
       omega)
    | (have q1 := (hE_0_2_1 (r_0 + 2) (by omega)).2 (by omega)
       have q2 := (hE_0_2_2 (r_0 + 2) (by omega)).2 (by omega)
       have q3 := (hE_0_2_3 (r_0 + 2) (by omega)).2 (by omega)
       omega)
    | (have q1 := (hE_0_2_1 (r_0 + 2) (by omega)).2 (by omega)
       have q2 := (hE_0_2_2 (r_0 + 2) (by omega)).2 (by omega)
       have q3 := (hE_0_2_3 (r_0 + 2) (by omega)).1 (by omega)
       have q4 : x13 = r_0 + 2 := by omega
       rw [q4] at h34
       omega)
set_option maxHeartbeats 4000000 in
theorem vc_Mo_groupItem_at_k1_8_1 (x3 : Int) (r_0 : Int) (pos_0 : Int) (fault_0 : Int) (k3 : 0 ≤ x3 ∧ x3 ≤ 2000) (f10 : (-1) * fault_0 + 0 ≤ (-1)) (kz_0_8 : 0 ≤ fault_0 ∧ fault_0 ≤ 5) (kz_0_11 : 0 ≤ pos_0 ∧ pos_0 ≤ 2000) : (1 ≤ fault_0) ∨ ((x3 + 1) ≤ pos_0) := by
  first
    | omega
    | (have q1 := (hE_0_2_1 (r_0 + 2) (by omega)).2 (by omega)
       have q2 := (hE_0_2_2 (r_0 + 2) (by omega)).2 (by omega)
       omega)
    | (have q1 := (hE_0_2_1 (r_0 + 1) (by omega)).2 (by omega)
       have q2 := (hE_0_2_2 (r_0 + 1) (by omega)).2 (by omega)
       omega)
    | (have q1 := (hE_0_2_1 (r_0 + 2) (by omega)).2 (by omega)
       omega)
    | (have q1 := (hE_0_2_1 (r_0 + 1) (by omega)).2 (by omega)
       omega)
    | (have q1 := (hE_0_2_1 (r_0 + 2) (by omega)).2 (by omega)
       have q2 := (hE_0_2_2 (r_0 + 2) (by omega)).2 (by omega)
       have q3 := (hE_0_2_3 (r_0 + 2) (by omega)).1 (by omega)
       omega)
    | (have q1 := (hE_0_2_1 (r_0 + 2) (by omega)).2 (by omega)
       have q2 := (hE_0_2_2 (r_0 + 2) (by omega)).2 (by omega)
       have q3 := (hE_0_2_3 (r_0 + 2) (by omega)).2 (by omega)
       omega)
    | (have q1 := (hE_0_2_1 (r_0 + 2) (by omega)).2 (by omega)
       have q2 := (hE_0_2_2 (r_0 + 2) (by omega)).2 (by omega)
       have q3 := (hE_0_2_3 (r_0 + 2) (by omega)).1 (by omega)
       have q4 : x13 = r_0 + 2 := by omega
       rw [q4] at h34
       omega)
def o_Mo_groupItem_at_k1_8 : or_T := (44, 11, [(0, (2, 0, 0, [165])), (3, (0, 0, 2000, [])), (7, (0, 0, 2000, []))], [(23, [7, 3], [0, 1, -1]), (23, [7, 3], [0, -1, 1]), (20, [0, 0], [30, 0, 1, 1, 15, -1, 1, 11]), (20, [7, 0], [30, 0, 1, 0, 0, -1, 1, 15]), (20, [0], [30, -1, -1, 1, 8])], [], [], [(20, [3, 0], [30, 0, 1, 0, 0, -1, 1, 11]), (20, [0, 3], [50, 2, 0, 8, 11, 3, 7, 0, 2, 0, 1, 2, 0, 8, 0, 6, 4, 2, 1, 1, 0, 1, 2, 0, 11])], [], [])
theorem oo_Mo_groupItem_at_k1_8 {kA : Nat → ClassId} : or_ok PRD kA GG o_Mo_groupItem_at_k1_8 := by
  refine or_mk fun A ta ws vs hD hth hl => ?_
  intro t0 r0 t3 k3 t7 k7 f0 f1 f6 f8 f10
  have kz_0_8 := fdq_14 hD hth r0
  have kz_0_11 := fdq_273 hD hth r0
  have kz_0_15 := fdq_274 hD hth r0
  have nf0 : fc_1 PRD (20, [3, 0], [30, 0, 1, 0, 0, -1, 1, 11]) ws (vs) := ⟨nf_in hl rfl, sgq_1395 (vc_Mo_groupItem_at_k1_8_0 (v_iv (n_v vs 3)) (v_iv (n_v vs 7)) (w_fi ws (n_v vs 0) 5) (w_fi ws (n_v vs 0) 15) (w_fi ws (n_v vs 0) 11) k3 k7 (shm_7 f0) (shm_22 f1) (shm_1397 f6) (shm_1396 f8) kz_0_11 kz_0_15)⟩
  have nf1 : fc_1 PRD (20, [0, 3], [50, 2, 0, 8, 11, 3, 7, 0, 2, 0, 1, 2, 0, 8, 0, 6, 4, 2, 1, 1, 0, 1, 2, 0, 11]) ws (vs) := ⟨nf_in hl rfl, sgq_1659 (vc_Mo_groupItem_at_k1_8_1 (v_iv (n_v vs 3)) (w_fi ws (n_v vs 0) 5) (w_fi ws (n_v vs 0) 11) (w_fi ws (n_v vs 0) 8) k3 (shm_144 f10) kz_0_8 kz_0_11)⟩
  refine ⟨(fun _ h => (by cases h)), [], trivial, ?_, (fun _ h => (by cases h))⟩
  rw [List.append_nil]
  exact List.forall_mem_cons.mpr ⟨⟨show (20 : Nat) < 100 from by decide, nf0⟩, List.forall_mem_cons.mpr ⟨⟨show (20 : Nat) < 100 from by decide, nf1⟩, (fun _ h => (by cases h))⟩⟩
set_option maxHeartbeats 4000000 in
theorem vc_Mo_groupItem_at_k1_9_0 (pos_0 : Int) (r_0 : Int) (gx : Int) (kz_0_11 : 0 ≤ pos_0 ∧ pos_0 ≤ 2000) (ex2 : gx = pos_0) : 1 * gx + ((-1) * pos_0 + 0) ≤ 0 := by
  first
    | omega
    | (have q1 := (hE_0_2_1 (r_0 + 2) (by omega)).2 (by omega)
       have q2 := (hE_0_2_2 (r_0 + 2) (by omega)).2 (by omega)
       omega)
    | (have q1 := (hE_0_2_1 (r_0 + 1) (by omega)).2 (by omega)
       have q2 := (hE_0_2_2 (r_0 + 1) (by omega)).2 (by omega)
       omega)
    | (have q1 := (hE_0_2_1 (r_0 + 2) (by omega)).2 (by omega)
       omega)
    | (have q1 := (hE_0_2_1 (r_0 + 1) (by omega)).2 (by omega)
       omega)
    | (have q1 := (hE_0_2_1 (r_0 + 2) (by omega)).2 (by omega)
       have q2 := (hE_0_2_2 (r_0 + 2) (by omega)).2 (by omega)
       have q3 := (hE_0_2_3 (r_0 + 2) (by omega)).1 (by omega)
       omega)
    | (have q1 := (hE_0_2_1 (r_0 + 2) (by omega)).2 (by omega)
       have q2 := (hE_0_2_2 (r_0 + 2) (by omega)).2 (by omega)
       have q3 := (hE_0_2_3 (r_0 + 2) (by omega)).2 (by omega)
       omega)
    | (have q1 := (hE_0_2_1 (r_0 + 2) (by omega)).2 (by omega)
       have q2 := (hE_0_2_2 (r_0 + 2) (by omega)).2 (by omega)
       have q3 := (hE_0_2_3 (r_0 + 2) (by omega)).1 (by omega)
       have q4 : x13 = r_0 + 2 := by omega
       rw [q4] at h34
       omega)
set_option maxHeartbeats 4000000 in
theorem vc_Mo_groupItem_at_k1_9_1 (x3 : Int) (pos_0 : Int) (r_0 : Int) (gx : Int) (k3 : 0 ≤ x3 ∧ x3 ≤ 2000) (f6 : 1 * x3 + ((-1) * pos_0 + 0) ≤ (-1)) (kz_0_11 : 0 ≤ pos_0 ∧ pos_0 ≤ 2000) (ex2 : gx = pos_0) : 1 * x3 + ((-1) * gx + 0) ≤ (-1) := by
  first
    | omega
    | (have q1 := (hE_0_2_1 (r_0 + 2) (by omega)).2 (by omega)
       have q2 := (hE_0_2_2 (r_0 + 2) (by omega)).2 (by omega)
       omega)
    | (have q1 := (hE_0_2_1 (r_0 + 1) (by omega)).2 (by omega)
       have q2 := (hE_0_2_2 (r_0 + 1) (by omega)).2 (by omega)
       omega)
    | (have q1 := (hE_0_2_1 (r_0 + 2) (by omega)).2 (by omega)
       omega)
    | (have q1 := (hE_0_2_1 (r_0 + 1) (by omega)).2 (by omega)
       omega)
    | (have q1 := (hE_0_2_1 (r_0 + 2) (by omega)).2 (by omega)
       have q2 := (hE_0_2_2 (r_0 + 2) (by omega)).2 (by omega)
       have q3 := (hE_0_2_3 (r_0 + 2) (by omega)).1 (by omega)
       omega)
    | (have q1 := (hE_0_2_1 (r_0 + 2) (by omega)).2 (by omega)
       have q2 := (hE_0_2_2 (r_0 + 2) (by omega)).2 (by omega)
       have q3 := (hE_0_2_3 (r_0 + 2) (by omega)).2 (by omega)
       omega)
    | (have q1 := (hE_0_2_1 (r_0 + 2) (by omega)).2 (by omega)
       have q2 := (hE_0_2_2 (r_0 + 2) (by omega)).2 (by omega)
       have q3 := (hE_0_2_3 (r_0 + 2) (by omega)).1 (by omega)
       have q4 : x13 = r_0 + 2 := by omega
       rw [q4] at h34
       omega)
def o_Mo_groupItem_at_k1_9 : or_T := (161, 12, [(0, (2, 0, 0, [165])), (3, (0, 0, 2000, []))], [(20, [3, 4], [30, -1, 1, 0, 0, -1, 1, 11]), (24, [0, 4], [])], [], [(0, 0, 2000, [])], [(20, [12, 4], [30, 0, 1, 0, 0, -1, 1, 11]), (23, [3, 12], [-1, 1, -1])], [], [])
theorem oo_Mo_groupItem_at_k1_9 {kA : Nat → ClassId} : or_ok PRD kA GG o_Mo_groupItem_at_k1_9 := by
  refine or_mk fun A ta ws vs hD hth hl => ?_
  intro t0 r0 t3 k3 f6 f11
  replace f6 := shm_1891 f6
  replace f11 := shm_5 f11
  have q4 : n_v vs 4 = n_v vs 0 := f11.symm
  simp only [q4] at f6
  have kz_0_11 := fdq_273 hD hth r0
  obtain ⟨x, ex, hx⟩ := iv_ex (ta := ta) (lo := 0) (hi := 2000) (z := w_fi ws (n_v vs 0) 11) (by omega) (by omega) (by omega) (by omega)
  have ex2 : v_iv (Value.int x) = w_fi ws (n_v vs 0) 11 := ex
  have ex3 : 0 ≤ v_iv (Value.int x) ∧ v_iv (Value.int x) ≤ 2000 := tv_rng hx
  have e_3 : n_v (vs ++ [Value.int x]) 3 = n_v vs 3 := n_v_old (by rw [hl]; decide)
  have e_4 : n_v (vs ++ [Value.int x]) 4 = n_v vs 4 := n_v_old (by rw [hl]; decide)
  have e_12 : n_v (vs ++ [Value.int x]) 12 = Value.int x := n_v_new hl
  have nf0 : fc_1 PRD (20, [12, 4], [30, 0, 1, 0, 0, -1, 1, 11]) ws (vs ++ [Value.int x]) := by
    refine ⟨nf_inA hl rfl, sgq_1395 ?_⟩
    · show 1 * v_iv (n_v (vs ++ [Value.int x]) 12) + ((-1) * w_fi ws (n_v (vs ++ [Value.int x]) 4) 11 + 0) ≤ 0
      simp only [e_4, e_12, q4]
      exact vc_Mo_groupItem_at_k1_9_0 (w_fi ws (n_v vs 0) 11) (w_fi ws (n_v vs 0) 5) (v_iv (Value.int x)) kz_0_11 ex2
  have nf1 : fc_1 PRD (23, [3, 12], [-1, 1, -1]) ws (vs ++ [Value.int x]) := by
    refine ⟨nf_inA hl rfl, sgq_211 ?_⟩
    · show 1 * v_iv (n_v (vs ++ [Value.int x]) 3) + ((-1) * v_iv (n_v (vs ++ [Value.int x]) 12) + 0) ≤ (-1)
      simp only [e_3, e_12]
      exact vc_Mo_groupItem_at_k1_9_1 (v_iv (n_v vs 3)) (w_fi ws (n_v vs 0) 11) (w_fi ws (n_v vs 0) 5) (v_iv (Value.int x)) k3 f6 kz_0_11 ex2
  exact ⟨(fun _ h => (by cases h)), [Value.int x], ag_one hx, List.forall_mem_cons.mpr ⟨⟨show (20 : Nat) < 100 from by decide, nf0⟩, List.forall_mem_cons.mpr ⟨⟨show (23 : Nat) < 100 from by decide, nf1⟩, (fun _ h => (by cases h))⟩⟩, (fun _ h => (by cases h))⟩
set_option maxHeartbeats 4000000 in
theorem vc_Mo_groupItem_at_k1_10_0 (x3 : Int) (r_0 : Int) (gx : Int) (k3 : 0 ≤ x3 ∧ x3 ≤ 2000) (ex2 : gx = x3) : 1 * gx + ((-1) * x3 + 0) ≤ 0 := by
  first
    | omega
    | (have q1 := (hE_0_2_1 (r_0 + 2) (by omega)).2 (by omega)
       have q2 := (hE_0_2_2 (r_0 + 2) (by omega)).2 (by omega)
       omega)
    | (have q1 := (hE_0_2_1 (r_0 + 1) (by omega)).2 (by omega)
       have q2 := (hE_0_2_2 (r_0 + 1) (by omega)).2 (by omega)
       omega)
    | (have q1 := (hE_0_2_1 (r_0 + 2) (by omega)).2 (by omega)
       omega)
    | (have q1 := (hE_0_2_1 (r_0 + 1) (by omega)).2 (by omega)
       omega)
    | (have q1 := (hE_0_2_1 (r_0 + 2) (by omega)).2 (by omega)
       have q2 := (hE_0_2_2 (r_0 + 2) (by omega)).2 (by omega)
       have q3 := (hE_0_2_3 (r_0 + 2) (by omega)).1 (by omega)
       omega)
    | (have q1 := (hE_0_2_1 (r_0 + 2) (by omega)).2 (by omega)
       have q2 := (hE_0_2_2 (r_0 + 2) (by omega)).2 (by omega)
       have q3 := (hE_0_2_3 (r_0 + 2) (by omega)).2 (by omega)
       omega)
    | (have q1 := (hE_0_2_1 (r_0 + 2) (by omega)).2 (by omega)
       have q2 := (hE_0_2_2 (r_0 + 2) (by omega)).2 (by omega)
       have q3 := (hE_0_2_3 (r_0 + 2) (by omega)).1 (by omega)
       have q4 : x13 = r_0 + 2 := by omega
       rw [q4] at h34
       omega)
set_option maxHeartbeats 4000000 in
theorem vc_Mo_groupItem_at_k1_10_1 (x3 : Int) (r_0 : Int) (gx : Int) (k3 : 0 ≤ x3 ∧ x3 ≤ 2000) (ex2 : gx = x3) : (-1) * gx + (1 * x3 + 0) ≤ 0 := by
  first
    | omega
    | (have q1 := (hE_0_2_1 (r_0 + 2) (by omega)).2 (by omega)
       have q2 := (hE_0_2_2 (r_0 + 2) (by omega)).2 (by omega)
       omega)
    | (have q1 := (hE_0_2_1 (r_0 + 1) (by omega)).2 (by omega)
       have q2 := (hE_0_2_2 (r_0 + 1) (by omega)).2 (by omega)
       omega)
    | (have q1 := (hE_0_2_1 (r_0 + 2) (by omega)).2 (by omega)
       omega)
    | (have q1 := (hE_0_2_1 (r_0 + 1) (by omega)).2 (by omega)
       omega)
    | (have q1 := (hE_0_2_1 (r_0 + 2) (by omega)).2 (by omega)
       have q2 := (hE_0_2_2 (r_0 + 2) (by omega)).2 (by omega)
       have q3 := (hE_0_2_3 (r_0 + 2) (by omega)).1 (by omega)
       omega)
    | (have q1 := (hE_0_2_1 (r_0 + 2) (by omega)).2 (by omega)
       have q2 := (hE_0_2_2 (r_0 + 2) (by omega)).2 (by omega)
       have q3 := (hE_0_2_3 (r_0 + 2) (by omega)).2 (by omega)
       omega)
    | (have q1 := (hE_0_2_1 (r_0 + 2) (by omega)).2 (by omega)
       have q2 := (hE_0_2_2 (r_0 + 2) (by omega)).2 (by omega)
       have q3 := (hE_0_2_3 (r_0 + 2) (by omega)).1 (by omega)
       have q4 : x13 = r_0 + 2 := by omega
       rw [q4] at h34
       omega)
set_option maxHeartbeats 4000000 in
theorem vc_Mo_groupItem_at_k1_10_2 (r_0 : Int) (from_0 : Int) (pos_0 : Int) (f6 : 1 * from_0 + ((-1) * pos_0 + 0) ≤ 0) (kz_0_11 : 0 ≤ pos_0 ∧ pos_0 ≤ 2000) (kz_0_15 : 0 ≤ from_0 ∧ from_0 ≤ 2000) : 1 * from_0 + ((-1) * pos_0 + 0) ≤ 0 := by
  first
    | omega
    | (have q1 := (hE_0_2_1 (r_0 + 2) (by omega)).2 (by omega)
       have q2 := (hE_0_2_2 (r_0 + 2) (by omega)).2 (by omega)
       omega)
    | (have q1 := (hE_0_2_1 (r_0 + 1) (by omega)).2 (by omega)
       have q2 := (hE_0_2_2 (r_0 + 1) (by omega)).2 (by omega)
       omega)
    | (have q1 := (hE_0_2_1 (r_0 + 2) (by omega)).2 (by omega)
       omega)
    | (have q1 := (hE_0_2_1 (r_0 + 1) (by omega)).2 (by omega)
       omega)
    | (have q1 := (hE_0_2_1 (r_0 + 2) (by omega)).2 (by omega)
       have q2 := (hE_0_2_2 (r_0 + 2) (by omega)).2 (by omega)
       have q3 := (hE_0_2_3 (r_0 + 2) (by omega)).1 (by omega)
       omega)
    | (have q1 := (hE_0_2_1 (r_0 + 2) (by omega)).2 (by omega)
       have q2 := (hE_0_2_2 (r_0 + 2) (by omega)).2 (by omega)
       have q3 := (hE_0_2_3 (r_0 + 2) (by omega)).2 (by omega)
       omega)
    | (have q1 := (hE_0_2_1 (r_0 + 2) (by omega)).2 (by omega)
       have q2 := (hE_0_2_2 (r_0 + 2) (by omega)).2 (by omega)
       have q3 := (hE_0_2_3 (r_0 + 2) (by omega)).1 (by omega)
       have q4 : x13 = r_0 + 2 := by omega
       rw [q4] at h34
       omega)
set_option maxHeartbeats 4000000 in
theorem vc_Mo_groupItem_at_k1_10_3 (r_0 : Int) (from_0 : Int) (pos_0 : Int) (kind_0 : Int) (f7 : ((kind_0 = 1) → (pos_0 ≤ (from_0 + 8))) ∧ ((kind_0 = 0) ∨ ((from_0 + 1) ≤ pos_0))) (kz_0_11 : 0 ≤ pos_0 ∧ pos_0 ≤ 2000) (kz_0_12 : 0 ≤ kind_0 ∧ kind_0 ≤ 4) (kz_0_15 : 0 ≤ from_0 ∧ from_0 ≤ 2000) : ((kind_0 = 1) → (pos_0 ≤ (from_0 + 8))) ∧ ((kind_0 = 0) ∨ ((from_0 + 1) ≤ pos_0)) := by
  first
    | omega
    | (have q1 := (hE_0_2_1 (r_0 + 2) (by omega)).2 (by omega)
       have q2 := (hE_0_2_2 (r_0 + 2) (by omega)).2 (by omega)
       omega)
    | (have q1 := (hE_0_2_1 (r_0 + 1) (by omega)).2 (by omega)
       have q2 := (hE_0_2_2 (r_0 + 1) (by omega)).2 (by omega)
       omega)
    | (have q1 := (hE_0_2_1 (r_0 + 2) (by omega)).2 (by omega)
       omega)
    | (have q1 := (hE_0_2_1 (r_0 + 1) (by omega)).2 (by omega)
       omega)
    | (have q1 := (hE_0_2_1 (r_0 + 2) (by omega)).2 (by omega)
       have q2 := (hE_0_2_2 (r_0 + 2) (by omega)).2 (by omega)
       have q3 := (hE_0_2_3 (r_0 + 2) (by omega)).1 (by omega)
       omega)
    | (have q1 := (hE_0_2_1 (r_0 + 2) (by omega)).2 (by omega)
       have q2 := (hE_0_2_2 (r_0 + 2) (by omega)).2 (by omega)
       have q3 := (hE_0_2_3 (r_0 + 2) (by omega)).2 (by omega)
       omega)
    | (have q1 := (hE_0_2_1 (r_0 + 2) (by omega)).2 (by omega)
       have q2 := (hE_0_2_2 (r_0 + 2) (by omega)).2 (by omega)
       have q3 := (hE_0_2_3 (r_0 + 2) (by omega)).1 (by omega)
       have q4 : x13 = r_0 + 2 := by omega
       rw [q4] at h34
       omega)
set_option maxHeartbeats 4000000 in
theorem vc_Mo_groupItem_at_k1_10_4 (x3 : Int) (x12 : Int) (r_0 : Int) (from_0 : Int) (pos_0 : Int) (gx : Int) (k3 : 0 ≤ x3 ∧ x3 ≤ 2000) (k12 : 0 ≤ x12 ∧ x12 ≤ 2000) (f0 : 1 * x3 + ((-1) * x12 + 0) ≤ (-1)) (f6 : 1 * from_0 + ((-1) * pos_0 + 0) ≤ 0) (f8 : 1 * x12 + ((-1) * from_0 + 0) ≤ 0) (kz_0_11 : 0 ≤ pos_0 ∧ pos_0 ≤ 2000) (kz_0_15 : 0 ≤ from_0 ∧ from_0 ≤ 2000) (ex2 : gx = x3) : 1 * gx + ((-1) * pos_0 + 0) ≤ 0 := by
  first
    | omega
    | (have q1 := (hE_0_2_1 (r_0 + 2) (by omega)).2 (by omega)
       have q2 := (hE_0_2_2 (r_0 + 2) (by omega)).2 (by omega)
       omega)
    | (have q1 := (hE_0_2_1 (r_0 + 1) (by omega)).2 (by omega)
       have q2 := (hE_0_2_2 (r_0 + 1) (by omega)).2 (by omega)
       omega)
    | (have q1 := (hE_0_2_1 (r_0 + 2) (by omega)).2 (by omega)
       omega)
    | (have q1 := (hE_0_2_1 (r_0 + 1) (by omega)).2 (by omega)
       omega)
    | (have q1 := (hE_0_2_1 (r_0 + 2) (by omega)).2 (by omega)
       have q2 := (hE_0_2_2 (r_0 + 2) (by omega)).2 (by omega)
       have q3 := (hE_0_2_3 (r_0 + 2) (by omega)).1 (by omega)
       omega)
    | (have q1 := (hE_0_2_1 (r_0 + 2) (by omega)).2 (by omega)
       have q2 := (hE_0_2_2 (r_0 + 2) (by omega)).2 (by omega)
       have q3 := (hE_0_2_3 (r_0 + 2) (by omega)).2 (by omega)
       omega)
    | (have q1 := (hE_0_2_1 (r_0 + 2) (by omega)).2 (by omega)
       have q2 := (hE_0_2_2 (r_0 + 2) (by omega)).2 (by omega)
       have q3 := (hE_0_2_3 (r_0 + 2) (by omega)).1 (by omega)
       have q4 : x13 = r_0 + 2 := by omega
       rw [q4] at h34
       omega)
set_option maxHeartbeats 4000000 in
theorem vc_Mo_groupItem_at_k1_10_5 (x3 : Int) (x12 : Int) (r_0 : Int) (from_0 : Int) (pos_0 : Int) (kind_0 : Int) (fault_0 : Int) (gx : Int) (k3 : 0 ≤ x3 ∧ x3 ≤ 2000) (k12 : 0 ≤ x12 ∧ x12 ≤ 2000) (f0 : 1 * x3 + ((-1) * x12 + 0) ≤ (-1)) (f6 : 1 * from_0 + ((-1) * pos_0 + 0) ≤ 0) (f8 : 1 * x12 + ((-1) * from_0 + 0) ≤ 0) (kz_0_8 : 0 ≤ fault_0 ∧ fault_0 ≤ 5) (kz_0_11 : 0 ≤ pos_0 ∧ pos_0 ≤ 2000) (kz_0_12 : 0 ≤ kind_0 ∧ kind_0 ≤ 4) (kz_0_15 : 0 ≤ from_0 ∧ from_0 ≤ 2000) (ex2 : gx = x3) : (1 ≤ fault_0) ∨ ((kind_0 = 0) ∨ ((gx + 1) ≤ pos_0)) := by
  first
    | omega
    | (have q1 := (hE_0_2_1 (r_0 + 2) (by omega)).2 (by omega)
       have q2 := (hE_0_2_2 (r_0 + 2) (by omega)).2 (by omega)
       omega)
    | (have q1 := (hE_0_2_1 (r_0 + 1) (by omega)).2 (by omega)
       have q2 := (hE_0_2_2 (r_0 + 1) (by omega)).2 (by omega)
       omega)
    | (have q1 := (hE_0_2_1 (r_0 + 2) (by omega)).2 (by omega)
       omega)
    | (have q1 := (hE_0_2_1 (r_0 + 1) (by omega)).2 (by omega)
       omega)
    | (have q1 := (hE_0_2_1 (r_0 + 2) (by omega)).2 (by omega)
       have q2 := (hE_0_2_2 (r_0 + 2) (by omega)).2 (by omega)
       have q3 := (hE_0_2_3 (r_0 + 2) (by omega)).1 (by omega)
       omega)
    | (have q1 := (hE_0_2_1 (r_0 + 2) (by omega)).2 (by omega)
       have q2 := (hE_0_2_2 (r_0 + 2) (by omega)).2 (by omega)
       have q3 := (hE_0_2_3 (r_0 + 2) (by omega)).2 (by omega)
       omega)
    | (have q1 := (hE_0_2_1 (r_0 + 2) (by omega)).2 (by omega)
       have q2 := (hE_0_2_2 (r_0 + 2) (by omega)).2 (by omega)
       have q3 := (hE_0_2_3 (r_0 + 2) (by omega)).1 (by omega)
       have q4 : x13 = r_0 + 2 := by omega
       rw [q4] at h34
       omega)
def o_Mo_groupItem_at_k1_10 : or_T := (167, 14, [(0, (2, 0, 0, [165])), (3, (0, 0, 2000, [])), (12, (0, 0, 2000, []))], [(23, [3, 12], [-1, 1, -1]), (24, [0, 4], []), (20, [4, 4], [30, 0, 1, 1, 15, -1, 1, 11]), (20, [4], [50, 3, 0, 12, 11, 15, 2, 21, 4, 7, 1, 3, 2, 0, 12, 0, 1, 0, 3, 2, 0, 11, 4, 3, 2, 0, 15, 0, 8, 3, 7, 1, 3, 2, 0, 12, 0, 0, 0, 7, 4, 3, 2, 0, 15, 0, 1, 2, 0, 11]), (20, [12, 4], [30, 0, 1, 0, 0, -1, 1, 15])], [], [(0, 0, 2000, [])], [(23, [14, 3], [0, 1, -1]), (23, [14, 3], [0, -1, 1]), (20, [4, 4], [30, 0, 1, 1, 15, -1, 1, 11]), (20, [4], [50, 3, 0, 12, 11, 15, 2, 21, 4, 7, 1, 3, 2, 0, 12, 0, 1, 0, 3, 2, 0, 11, 4, 3, 2, 0, 15, 0, 8, 3, 7, 1, 3, 2, 0, 12, 0, 0, 0, 7, 4, 3, 2, 0, 15, 0, 1, 2, 0, 11]), (20, [14, 4], [30, 0, 1, 0, 0, -1, 1, 11]), (20, [4, 14], [50, 3, 0, 8, 12, 11, 3, 7, 0, 2, 0, 1, 2, 0, 8, 3, 7, 1, 3, 2, 0, 12, 0, 0, 0, 6, 4, 2, 1, 1, 0, 1, 2, 0, 11])], [], [])
theorem oo_Mo_groupItem_at_k1_10 {kA : Nat → ClassId} : or_ok PRD kA GG o_Mo_groupItem_at_k1_10 := by
  refine or_mk fun A ta ws vs hD hth hl => ?_
  intro t0 r0 t3 k3 t12 k12 f0 f4 f6 f7 f8
  replace f0 := shm_211 f0
  replace f4 := shm_5 f4
  replace f6 := shm_1397 f6
  replace f7 := shm_1398 f7
  replace f8 := shm_1396 f8
  have q4 : n_v vs 4 = n_v vs 0 := f4.symm
  simp only [q4] at f6 f7 f8
  have kz_0_8 := fdq_14 hD hth r0
  have kz_0_11 := fdq_273 hD hth r0
  have kz_0_12 := fdq_186 hD hth r0
  have kz_0_15 := fdq_274 hD hth r0
  obtain ⟨x, ex, hx⟩ := iv_ex (ta := ta) (lo := 0) (hi := 2000) (z := v_iv (n_v vs 3)) (by omega) (by omega) (by omega) (by omega)
  have ex2 : v_iv (Value.int x) = v_iv (n_v vs 3) := ex
  have ex3 : 0 ≤ v_iv (Value.int x) ∧ v_iv (Value.int x) ≤ 2000 := tv_rng hx
  have e_3 : n_v (vs ++ [Value.int x]) 3 = n_v vs 3 := n_v_old (by rw [hl]; decide)
  have e_4 : n_v (vs ++ [Value.int x]) 4 = n_v vs 4 := n_v_old (by rw [hl]; decide)
  have e_14 : n_v (vs ++ [Value.int x]) 14 = Value.int x := n_v_new hl
  have nf0 : fc_1 PRD (23, [14, 3], [0, 1, -1]) ws (vs ++ [Value.int x]) := by
    refine ⟨nf_inA hl rfl, sgq_7 ?_⟩
    · show 1 * v_iv (n_v (vs ++ [Value.int x]) 14) + ((-1) * v_iv (n_v (vs ++ [Value.int x]) 3) + 0) ≤ 0
      simp only [e_3, e_14]
      exact vc_Mo_groupItem_at_k1_10_0 (v_iv (n_v vs 3)) (w_fi ws (n_v vs 0) 5) (v_iv (Value.int x)) k3 ex2
  have nf1 : fc_1 PRD (23, [14, 3], [0, -1, 1]) ws (vs ++ [Value.int x]) := by
    refine ⟨nf_inA hl rfl, sgq_22 ?_⟩
    · show (-1) * v_iv (n_v (vs ++ [Value.int x]) 14) + (1 * v_iv (n_v (vs ++ [Value.int x]) 3) + 0) ≤ 0
      simp only [e_3, e_14]
      exact vc_Mo_groupItem_at_k1_10_1 (v_iv (n_v vs 3)) (w_fi ws (n_v vs 0) 5) (v_iv (Value.int x)) k3 ex2
  have nf2 : fc_1 PRD (20, [4, 4], [30, 0, 1, 1, 15, -1, 1, 11]) ws (vs ++ [Value.int x]) := by
    refine ⟨nf_inA hl rfl, sgq_1397 ?_⟩
    · show 1 * w_fi ws (n_v (vs ++ [Value.int x]) 4) 15 + ((-1) * w_fi ws (n_v (vs ++ [Value.int x]) 4) 11 + 0) ≤ 0
      simp only [e_4, q4]
      exact vc_Mo_groupItem_at_k1_10_2 (w_fi ws (n_v vs 0) 5) (w_fi ws (n_v vs 0) 15) (w_fi ws (n_v vs 0) 11) f6 kz_0_11 kz_0_15
  have nf3 : fc_1 PRD (20, [4], [50, 3, 0, 12, 11, 15, 2, 21, 4, 7, 1, 3, 2, 0, 12, 0, 1, 0, 3, 2, 0, 11, 4, 3, 2, 0, 15, 0, 8, 3, 7, 1, 3, 2, 0, 12, 0, 0, 0, 7, 4, 3, 2, 0, 15, 0, 1, 2, 0, 11]) ws (vs ++ [Value.int x]) := by
    refine ⟨nf_inA hl rfl, sgq_1398 ?_⟩
    · show ((w_fi ws (n_v (vs ++ [Value.int x]) 4) 12 = 1) → (w_fi ws (n_v (vs ++ [Value.int x]) 4) 11 ≤ (w_fi ws (n_v (vs ++ [Value.int x]) 4) 15 + 8))) ∧ ((w_fi ws (n_v (vs ++ [Value.int x]) 4) 12 = 0) ∨ ((w_fi ws (n_v (vs ++ [Value.int x]) 4) 15 + 1) ≤ w_fi ws (n_v (vs ++ [Value.int x]) 4) 11))
      simp only [e_4, q4]
      exact vc_Mo_groupItem_at_k1_10_3 (w_fi ws (n_v vs 0) 5) (w_fi ws (n_v vs 0) 15) (w_fi ws (n_v vs 0) 11) (w_fi ws (n_v vs 0) 12) f7 kz_0_11 kz_0_12 kz_0_15
  have nf4 : fc_1 PRD (20, [14, 4], [30, 0, 1, 0, 0, -1, 1, 11]) ws (vs ++ [Value.int x]) := by
    refine ⟨nf_inA hl rfl, sgq_1395 ?_⟩
    · show 1 * v_iv (n_v (vs ++ [Value.int x]) 14) + ((-1) * w_fi ws (n_v (vs ++ [Value.int x]) 4) 11 + 0) ≤ 0
      simp only [e_4, e_14, q4]
      exact vc_Mo_groupItem_at_k1_10_4 (v_iv (n_v vs 3)) (v_iv (n_v vs 12)) (w_fi ws (n_v vs 0) 5) (w_fi ws (n_v vs 0) 15) (w_fi ws (n_v vs 0) 11) (v_iv (Value.int x)) k3 k12 f0 f6 f8 kz_0_11 kz_0_15 ex2
  have nf5 : fc_1 PRD (20, [4, 14], [50, 3, 0, 8, 12, 11, 3, 7, 0, 2, 0, 1, 2, 0, 8, 3, 7, 1, 3, 2, 0, 12, 0, 0, 0, 6, 4, 2, 1, 1, 0, 1, 2, 0, 11]) ws (vs ++ [Value.int x]) := by
    refine ⟨nf_inA hl rfl, sgq_1660 ?_⟩
    · show (1 ≤ w_fi ws (n_v (vs ++ [Value.int x]) 4) 8) ∨ ((w_fi ws (n_v (vs ++ [Value.int x]) 4) 12 = 0) ∨ ((v_iv (n_v (vs ++ [Value.int x]) 14) + 1) ≤ w_fi ws (n_v (vs ++ [Value.int x]) 4) 11))
      simp only [e_4, e_14, q4]
      exact vc_Mo_groupItem_at_k1_10_5 (v_iv (n_v vs 3)) (v_iv (n_v vs 12)) (w_fi ws (n_v vs 0) 5) (w_fi ws (n_v vs 0) 15) (w_fi ws (n_v vs 0) 11) (w_fi ws (n_v vs 0) 12) (w_fi ws (n_v vs 0) 8) (v_iv (Value.int x)) k3 k12 f0 f6 f8 kz_0_8 kz_0_11 kz_0_12 kz_0_15 ex2
  exact ⟨(fun _ h => (by cases h)), [Value.int x], ag_one hx, List.forall_mem_cons.mpr ⟨⟨show (23 : Nat) < 100 from by decide, nf0⟩, List.forall_mem_cons.mpr ⟨⟨show (23 : Nat) < 100 from by decide, nf1⟩, List.forall_mem_cons.mpr ⟨⟨show (20 : Nat) < 100 from by decide, nf2⟩, List.forall_mem_cons.mpr ⟨⟨show (20 : Nat) < 100 from by decide, nf3⟩, List.forall_mem_cons.mpr ⟨⟨show (20 : Nat) < 100 from by decide, nf4⟩, List.forall_mem_cons.mpr ⟨⟨show (20 : Nat) < 100 from by decide, nf5⟩, (fun _ h => (by cases h))⟩⟩⟩⟩⟩⟩, (fun _ h => (by cases h))⟩
set_option maxHeartbeats 4000000 in
theorem vc_Mo_groupItem_at_k1_11_0 (r_0 : Int) (from_0 : Int) (pos_0 : Int) (f8 : 1 * from_0 + ((-1) * pos_0 + 0) ≤ 0) (kz_0_11 : 0 ≤ pos_0 ∧ pos_0 ≤ 2000) (kz_0_15 : 0 ≤ from_0 ∧ from_0 ≤ 2000) : 1 * from_0 + ((-1) * pos_0 + 0) ≤ 0 := by
  first
    | omega
    | (have q1 := (hE_0_2_1 (r_0 + 2) (by omega)).2 (by omega)
       have q2 := (hE_0_2_2 (r_0 + 2) (by omega)).2 (by omega)
       omega)
    | (have q1 := (hE_0_2_1 (r_0 + 1) (by omega)).2 (by omega)
       have q2 := (hE_0_2_2 (r_0 + 1) (by omega)).2 (by omega)
       omega)
    | (have q1 := (hE_0_2_1 (r_0 + 2) (by omega)).2 (by omega)
       omega)
    | (have q1 := (hE_0_2_1 (r_0 + 1) (by omega)).2 (by omega)
       omega)
    | (have q1 := (hE_0_2_1 (r_0 + 2) (by omega)).2 (by omega)
       have q2 := (hE_0_2_2 (r_0 + 2) (by omega)).2 (by omega)
       have q3 := (hE_0_2_3 (r_0 + 2) (by omega)).1 (by omega)
       omega)
    | (have q1 := (hE_0_2_1 (r_0 + 2) (by omega)).2 (by omega)
       have q2 := (hE_0_2_2 (r_0 + 2) (by omega)).2 (by omega)
       have q3 := (hE_0_2_3 (r_0 + 2) (by omega)).2 (by omega)
       omega)
    | (have q1 := (hE_0_2_1 (r_0 + 2) (by omega)).2 (by omega)
       have q2 := (hE_0_2_2 (r_0 + 2) (by omega)).2 (by omega)
       have q3 := (hE_0_2_3 (r_0 + 2) (by omega)).1 (by omega)
       have q4 : x13 = r_0 + 2 := by omega
       rw [q4] at h34
       omega)
set_option maxHeartbeats 4000000 in
theorem vc_Mo_groupItem_at_k1_11_1 (r_0 : Int) (from_0 : Int) (pos_0 : Int) (kind_0 : Int) (f9 : ((kind_0 = 1) → (pos_0 ≤ (from_0 + 8))) ∧ ((kind_0 = 0) ∨ ((from_0 + 1) ≤ pos_0))) (kz_0_11 : 0 ≤ pos_0 ∧ pos_0 ≤ 2000) (kz_0_12 : 0 ≤ kind_0 ∧ kind_0 ≤ 4) (kz_0_15 : 0 ≤ from_0 ∧ from_0 ≤ 2000) : ((kind_0 = 1) → (pos_0 ≤ (from_0 + 8))) ∧ ((kind_0 = 0) ∨ ((from_0 + 1) ≤ pos_0)) := by
  first
    | omega
    | (have q1 := (hE_0_2_1 (r_0 + 2) (by omega)).2 (by omega)
       have q2 := (hE_0_2_2 (r_0 + 2) (by omega)).2 (by omega)
       omega)
    | (have q1 := (hE_0_2_1 (r_0 + 1) (by omega)).2 (by omega)
       have q2 := (hE_0_2_2 (r_0 + 1) (by omega)).2 (by omega)
       omega)
    | (have q1 := (hE_0_2_1 (r_0 + 2) (by omega)).2 (by omega)
       omega)
    | (have q1 := (hE_0_2_1 (r_0 + 1) (by omega)).2 (by omega)
       omega)
    | (have q1 := (hE_0_2_1 (r_0 + 2) (by omega)).2 (by omega)
       have q2 := (hE_0_2_2 (r_0 + 2) (by omega)).2 (by omega)
       have q3 := (hE_0_2_3 (r_0 + 2) (by omega)).1 (by omega)
       omega)
    | (have q1 := (hE_0_2_1 (r_0 + 2) (by omega)).2 (by omega)
       have q2 := (hE_0_2_2 (r_0 + 2) (by omega)).2 (by omega)
       have q3 := (hE_0_2_3 (r_0 + 2) (by omega)).2 (by omega)
       omega)
    | (have q1 := (hE_0_2_1 (r_0 + 2) (by omega)).2 (by omega)
       have q2 := (hE_0_2_2 (r_0 + 2) (by omega)).2 (by omega)
       have q3 := (hE_0_2_3 (r_0 + 2) (by omega)).1 (by omega)
       have q4 : x13 = r_0 + 2 := by omega
       rw [q4] at h34
       omega)
set_option maxHeartbeats 4000000 in
theorem vc_Mo_groupItem_at_k1_11_2 (x3 : Int) (x14 : Int) (r_0 : Int) (pos_0 : Int) (fault_0 : Int) (gx : Int) (k3 : 0 ≤ x3 ∧ x3 ≤ 2000) (k14 : 0 ≤ x14 ∧ x14 ≤ 2000) (f0 : 1 * x14 + ((-1) * x3 + 0) ≤ 0) (f1 : (-1) * x14 + (1 * x3 + 0) ≤ 0) (f10 : 1 * x14 + ((-1) * pos_0 + 0) ≤ 0) (kz_0_8 : 0 ≤ fault_0 ∧ fault_0 ≤ 5) (kz_0_11 : 0 ≤ pos_0 ∧ pos_0 ≤ 2000) (ex2 : gx = 2005 + ((-1) * pos_0 + ((-1) * fault_0 + 0))) : 1 * x3 + ((-1) * pos_0 + 0) ≤ 0 := by
  first
    | omega
    | (have q1 := (hE_0_2_1 (r_0 + 2) (by omega)).2 (by omega)
       have q2 := (hE_0_2_2 (r_0 + 2) (by omega)).2 (by omega)
       omega)
    | (have q1 := (hE_0_2_1 (r_0 + 1) (by omega)).2 (by omega)
       have q2 := (hE_0_2_2 (r_0 + 1) (by omega)).2 (by omega)
       omega)
    | (have q1 := (hE_0_2_1 (r_0 + 2) (by omega)).2 (by omega)
       omega)
    | (have q1 := (hE_0_2_1 (r_0 + 1) (by omega)).2 (by omega)
       omega)
    | (have q1 := (hE_0_2_1 (r_0 + 2) (by omega)).2 (by omega)
       have q2 := (hE_0_2_2 (r_0 + 2) (by omega)).2 (by omega)
       have q3 := (hE_0_2_3 (r_0 + 2) (by omega)).1 (by omega)
       omega)
    | (have q1 := (hE_0_2_1 (r_0 + 2) (by omega)).2 (by omega)
       have q2 := (hE_0_2_2 (r_0 + 2) (by omega)).2 (by omega)
       have q3 := (hE_0_2_3 (r_0 + 2) (by omega)).2 (by omega)
       omega)
    | (have q1 := (hE_0_2_1 (r_0 + 2) (by omega)).2 (by omega)
       have q2 := (hE_0_2_2 (r_0 + 2) (by omega)).2 (by omega)
       have q3 := (hE_0_2_3 (r_0 + 2) (by omega)).1 (by omega)
       have q4 : x13 = r_0 + 2 := by omega
       rw [q4] at h34
       omega)
set_option maxHeartbeats 4000000 in
theorem vc_Mo_groupItem_at_k1_11_3 (x3 : Int) (x14 : Int) (r_0 : Int) (pos_0 : Int) (fault_0 : Int) (gx : Int) (k3 : 0 ≤ x3 ∧ x3 ≤ 2000) (k14 : 0 ≤ x14 ∧ x14 ≤ 2000) (f0 : 1 * x14 + ((-1) * x3 + 0) ≤ 0) (f1 : (-1) * x14 + (1 * x3 + 0) ≤ 0) (f10 : 1 * x14 + ((-1) * pos_0 + 0) ≤ 0) (f11 : (1 ≤ fault_0) ∨ ((x14 + 1) ≤ pos_0)) (kz_0_8 : 0 ≤ fault_0 ∧ fault_0 ≤ 5) (kz_0_11 : 0 ≤ pos_0 ∧ pos_0 ≤ 2000) (ex2 : gx = 2005 + ((-1) * pos_0 + ((-1) * fault_0 + 0))) : (1 ≤ fault_0) ∨ ((x3 + 1) ≤ pos_0) := by
  first
    | omega
    | (have q1 := (hE_0_2_1 (r_0 + 2) (by omega)).2 (by omega)
       have q2 := (hE_0_2_2 (r_0 + 2) (by omega)).2 (by omega)
       omega)
    | (have q1 := (hE_0_2_1 (r_0 + 1) (by omega)).2 (by omega)
       have q2 := (hE_0_2_2 (r_0 + 1) (by omega)).2 (by omega)
       omega)
    | (have q1 := (hE_0_2_1 (r_0 + 2) (by omega)).2 (by omega)
       omega)
    | (have q1 := (hE_0_2_1 (r_0 + 1) (by omega)).2 (by omega)
       omega)
    | (have q1 := (hE_0_2_1 (r_0 + 2) (by omega)).2 (by omega)
       have q2 := (hE_0_2_2 (r_0 + 2) (by omega)).2 (by omega)
       have q3 := (hE_0_2_3 (r_0 + 2) (by omega)).1 (by omega)
       omega)
    | (have q1 := (hE_0_2_1 (r_0 + 2) (by omega)).2 (by omega)
       have q2 := (hE_0_2_2 (r_0 + 2) (by omega)).2 (by omega)
       have q3 := (hE_0_2_3 (r_0 + 2) (by omega)).2 (by omega)
       omega)
    | (have q1 := (hE_0_2_1 (r_0 + 2) (by omega)).2 (by omega)
       have q2 := (hE_0_2_2 (r_0 + 2) (by omega)).2 (by omega)
       have q3 := (hE_0_2_3 (r_0 + 2) (by omega)).1 (by omega)
       have q4 : x13 = r_0 + 2 := by omega
       rw [q4] at h34
       omega)
set_option maxHeartbeats 4000000 in
theorem vc_Mo_groupItem_at_k1_11_4 (x7 : Int) (all_0 : Int → Int) (r_0 : Int) (k7 : 0 ≤ x7 ∧ x7 ≤ 7) (f3 : (x7 + 1) ≤ all_0 ((r_0 + 2))) : (x7 + 1) ≤ all_0 ((r_0 + 2)) := by
  first
    | omega
    | (have q1 := (hE_0_2_1 (r_0 + 2) (by omega)).2 (by omega)
       have q2 := (hE_0_2_2 (r_0 + 2) (by omega)).2 (by omega)
       omega)
    | (have q1 := (hE_0_2_1 (r_0 + 1) (by omega)).2 (by omega)
       have q2 := (hE_0_2_2 (r_0 + 1) (by omega)).2 (by omega)
       omega)
    | (have q1 := (hE_0_2_1 (r_0 + 2) (by omega)).2 (by omega)
       omega)
    | (have q1 := (hE_0_2_1 (r_0 + 1) (by omega)).2 (by omega)
       omega)
    | (have q1 := (hE_0_2_1 (r_0 + 2) (by omega)).2 (by omega)
       have q2 := (hE_0_2_2 (r_0 + 2) (by omega)).2 (by omega)
       have q3 := (hE_0_2_3 (r_0 + 2) (by omega)).1 (by omega)
       omega)
    | (have q1 := (hE_0_2_1 (r_0 + 2) (by omega)).2 (by omega)
       have q2 := (hE_0_2_2 (r_0 + 2) (by omega)).2 (by omega)
       have q3 := (hE_0_2_3 (r_0 + 2) (by omega)).2 (by omega)
       omega)
    | (have q1 := (hE_0_2_1 (r_0 + 2) (by omega)).2 (by omega)
       have q2 := (hE_0_2_2 (r_0 + 2) (by omega)).2 (by omega)
       have q3 := (hE_0_2_3 (r_0 + 2) (by omega)).1 (by omega)
       have q4 : x13 = r_0 + 2 := by omega
       rw [q4] at h34
       omega)
set_option maxHeartbeats 4000000 in
theorem vc_Mo_groupItem_at_k1_11_5 (x1 : Int) (x7 : Int) (r_0 : Int) (k1 : 0 ≤ x1 ∧ x1 ≤ 7) (k7 : 0 ≤ x7 ∧ x7 ≤ 7) (f19 : 1 * x1 + ((-1) * x7 + 0) ≤ (-1)) : 1 * x1 + ((-1) * x7 + 0) ≤ (-1) := by
  first
    | omega
    | (have q1 := (hE_0_2_1 (r_0 + 2) (by omega)).2 (by omega)
       have q2 := (hE_0_2_2 (r_0 + 2) (by omega)).2 (by omega)
       omega)
    | (have q1 := (hE_0_2_1 (r_0 + 1) (by omega)).2 (by omega)
       have q2 := (hE_0_2_2 (r_0 + 1) (by omega)).2 (by omega)
       omega)
    | (have q1 := (hE_0_2_1 (r_0 + 2) (by omega)).2 (by omega)
       omega)
    | (have q1 := (hE_0_2_1 (r_0 + 1) (by omega)).2 (by omega)
       omega)
    | (have q1 := (hE_0_2_1 (r_0 + 2) (by omega)).2 (by omega)
       have q2 := (hE_0_2_2 (r_0 + 2) (by omega)).2 (by omega)
       have q3 := (hE_0_2_3 (r_0 + 2) (by omega)).1 (by omega)
       omega)
    | (have q1 := (hE_0_2_1 (r_0 + 2) (by omega)).2 (by omega)
       have q2 := (hE_0_2_2 (r_0 + 2) (by omega)).2 (by omega)
       have q3 := (hE_0_2_3 (r_0 + 2) (by omega)).2 (by omega)
       omega)
    | (have q1 := (hE_0_2_1 (r_0 + 2) (by omega)).2 (by omega)
       have q2 := (hE_0_2_2 (r_0 + 2) (by omega)).2 (by omega)
       have q3 := (hE_0_2_3 (r_0 + 2) (by omega)).1 (by omega)
       have q4 : x13 = r_0 + 2 := by omega
       rw [q4] at h34
       omega)
set_option maxHeartbeats 4000000 in
theorem vc_Mo_groupItem_at_k1_11_6 (all_0 : Int → Int) (r_0 : Int) (now_0 : Int → Int) (latest_0 : Int → Int) (f5 : RWS (r_0) (all_0) (now_0) (latest_0)) : RWS (r_0) (all_0) (now_0) (latest_0) := by
  first
    | assumption
set_option maxHeartbeats 4000000 in
theorem vc_Mo_groupItem_at_k1_11_9 (r_0 : Int) (pos_0 : Int) (fault_0 : Int) (gx : Int) (kz_0_8 : 0 ≤ fault_0 ∧ fault_0 ≤ 5) (kz_0_11 : 0 ≤ pos_0 ∧ pos_0 ≤ 2000) (ex2 : gx = 2005 + ((-1) * pos_0 + ((-1) * fault_0 + 0))) : 1 * gx + (1 * pos_0 + (1 * fault_0 + 0)) ≤ 2005 := by
  first
    | omega
    | (have q1 := (hE_0_2_1 (r_0 + 2) (by omega)).2 (by omega)
       have q2 := (hE_0_2_2 (r_0 + 2) (by omega)).2 (by omega)
       omega)
    | (have q1 := (hE_0_2_1 (r_0 + 1) (by omega)).2 (by omega)
       have q2 := (hE_0_2_2 (r_0 + 1) (by omega)).2 (by omega)
       omega)
    | (have q1 := (hE_0_2_1 (r_0 + 2) (by omega)).2 (by omega)
       omega)
    | (have q1 := (hE_0_2_1 (r_0 + 1) (by omega)).2 (by omega)
       omega)
    | (have q1 := (hE_0_2_1 (r_0 + 2) (by omega)).2 (by omega)
       have q2 := (hE_0_2_2 (r_0 + 2) (by omega)).2 (by omega)
       have q3 := (hE_0_2_3 (r_0 + 2) (by omega)).1 (by omega)
       omega)
    | (have q1 := (hE_0_2_1 (r_0 + 2) (by omega)).2 (by omega)
       have q2 := (hE_0_2_2 (r_0 + 2) (by omega)).2 (by omega)
       have q3 := (hE_0_2_3 (r_0 + 2) (by omega)).2 (by omega)
       omega)
    | (have q1 := (hE_0_2_1 (r_0 + 2) (by omega)).2 (by omega)
       have q2 := (hE_0_2_2 (r_0 + 2) (by omega)).2 (by omega)
       have q3 := (hE_0_2_3 (r_0 + 2) (by omega)).1 (by omega)
       have q4 : x13 = r_0 + 2 := by omega
       rw [q4] at h34
       omega)
set_option maxHeartbeats 4000000 in
theorem vc_Mo_groupItem_at_k1_11_10 (r_0 : Int) (pos_0 : Int) (fault_0 : Int) (gx : Int) (kz_0_8 : 0 ≤ fault_0 ∧ fault_0 ≤ 5) (kz_0_11 : 0 ≤ pos_0 ∧ pos_0 ≤ 2000) (ex2 : gx = 2005 + ((-1) * pos_0 + ((-1) * fault_0 + 0))) : (-1) * gx + ((-1) * pos_0 + ((-1) * fault_0 + 0)) ≤ (-2005) := by
  first
    | omega
    | (have q1 := (hE_0_2_1 (r_0 + 2) (by omega)).2 (by omega)
       have q2 := (hE_0_2_2 (r_0 + 2) (by omega)).2 (by omega)
       omega)
    | (have q1 := (hE_0_2_1 (r_0 + 1) (by omega)).2 (by omega)
       have q2 := (hE_0_2_2 (r_0 + 1) (by omega)).2 (by omega)
       omega)
    | (have q1 := (hE_0_2_1 (r_0 + 2) (by omega)).2 (by omega)
       omega)
    | (have q1 := (hE_0_2_1 (r_0 + 1) (by omega)).2 (by omega)
       omega)
    | (have q1 := (hE_0_2_1 (r_0 + 2) (by omega)).2 (by omega)
       have q2 := (hE_0_2_2 (r_0 + 2) (by omega)).2 (by omega)
       have q3 := (hE_0_2_3 (r_0 + 2) (by omega)).1 (by omega)
       omega)
    | (have q1 := (hE_0_2_1 (r_0 + 2) (by omega)).2 (by omega)
       have q2 := (hE_0_2_2 (r_0 + 2) (by omega)).2 (by omega)
       have q3 := (hE_0_2_3 (r_0 + 2) (by omega)).2 (by omega)
       omega)
    | (have q1 := (hE_0_2_1 (r_0 + 2) (by omega)).2 (by omega)
       have q2 := (hE_0_2_2 (r_0 + 2) (by omega)).2 (by omega)
       have q3 := (hE_0_2_3 (r_0 + 2) (by omega)).1 (by omega)
       have q4 : x13 = r_0 + 2 := by omega
       rw [q4] at h34
       omega)
def o_Mo_groupItem_at_k1_11 : or_T := (170, 15, [(0, (2, 0, 0, [165])), (1, (0, 0, 7, [])), (3, (0, 0, 2000, [])), (7, (0, 0, 7, [])), (14, (0, 0, 2000, []))], [(23, [14, 3], [0, 1, -1]), (23, [14, 3], [0, -1, 1]), (20, [7, 4], [50, 1, 1, 1005, 1002, 0, 6, 4, 2, 1, 0, 0, 1, 3, 1, 2, 4, 3, 2, 1, 5, 0, 2]), (20, [4], [60, 1, 3, 199, 5, 2, 3, 4]), (24, [0, 4], []), (24, [1, 5], []), (20, [4, 4], [30, 0, 1, 1, 15, -1, 1, 11]), (20, [4], [50, 3, 0, 12, 11, 15, 2, 21, 4, 7, 1, 3, 2, 0, 12, 0, 1, 0, 3, 2, 0, 11, 4, 3, 2, 0, 15, 0, 8, 3, 7, 1, 3, 2, 0, 12, 0, 0, 0, 7, 4, 3, 2, 0, 15, 0, 1, 2, 0, 11]), (20, [14, 4], [30, 0, 1, 0, 0, -1, 1, 11]), (20, [4, 14], [50, 2, 0, 8, 11, 3, 7, 0, 2, 0, 1, 2, 0, 8, 0, 6, 4, 2, 1, 1, 0, 1, 2, 0, 11]), (102, [14], [0, 165008, 165009, 165011, 165012, 165013, 165014, 165015]), (102, [12], [0, 165011, 165012, 165013, 165014, 165015]), (23, [5, 7], [-1, 1, -1])], [], [(0, 0, 2005, [])], [(20, [4, 4], [30, 0, 1, 1, 15, -1, 1, 11]), (20, [4], [50, 3, 0, 12, 11, 15, 2, 21, 4, 7, 1, 3, 2, 0, 12, 0, 1, 0, 3, 2, 0, 11, 4, 3, 2, 0, 15, 0, 8, 3, 7, 1, 3, 2, 0, 12, 0, 0, 0, 7, 4, 3, 2, 0, 15, 0, 1, 2, 0, 11]), (20, [3, 4], [30, 0, 1, 0, 0, -1, 1, 11]), (20, [4, 3], [50, 2, 0, 8, 11, 3, 7, 0, 2, 0, 1, 2, 0, 8, 0, 6, 4, 2, 1, 1, 0, 1, 2, 0, 11]), (20, [7, 4], [50, 1, 1, 1005, 1002, 0, 6, 4, 2, 1, 0, 0, 1, 3, 1, 2, 4, 3, 2, 1, 5, 0, 2]), (23, [5, 7], [-1, 1, -1]), (20, [4], [60, 1, 3, 199, 5, 2, 3, 4]), (24, [0, 4], []), (24, [1, 5], []), (20, [15, 4, 4], [30, 2005, 1, 0, 0, 1, 1, 11, 1, 1, 8]), (20, [15, 4, 4], [30, -2005, -1, 0, 0, -1, 1, 11, -1, 1, 8])], [], [])
theorem oo_Mo_groupItem_at_k1_11 {kA : Nat → ClassId} : or_ok PRD kA GG o_Mo_groupItem_at_k1_11 := by
  refine or_mk fun A ta ws vs hD hth hl => ?_
  intro t0 r0 t1 k1 t3 k3 t7 k7 t14 k14 f0 f1 f3 f5 f6 f7 f8 f9 f10 f11 ta1 w1 le1 s1 ta2 w2 le2 s2 f19
  replace f0 := shm_7 f0
  replace f1 := shm_22 f1
  replace f3 := shm_981 f3
  replace f5 := shm_952 f5
  replace f6 := shm_5 f6
  replace f7 := shm_5 f7
  replace f8 := shm_1397 f8
  replace f9 := shm_1398 f9
  replace f10 := shm_1395 f10
  replace f11 := shm_1659 f11
  replace f19 := shm_211 f19
  have q4 : n_v vs 4 = n_v vs 0 := f6.symm
  have q5 : n_v vs 5 = n_v vs 1 := f7.symm
  simp only [q4, q5] at f3 f5 f8 f9 f10 f11 f19
  have kz_0_8 := fdq_14 hD hth r0
  have kz_0_11 := fdq_273 hD hth r0
  have kz_0_12 := fdq_186 hD hth r0
  have kz_0_15 := fdq_274 hD hth r0
  obtain ⟨x, ex, hx⟩ := iv_ex (ta := ta) (lo := 0) (hi := 2005) (z := 2005 + ((-1) * w_fi ws (n_v vs 0) 11 + ((-1) * w_fi ws (n_v vs 0) 8 + 0))) (by omega) (by omega) (by omega) (by omega)
  have ex2 : v_iv (Value.int x) = 2005 + ((-1) * w_fi ws (n_v vs 0) 11 + ((-1) * w_fi ws (n_v vs 0) 8 + 0)) := ex
  have ex3 : 0 ≤ v_iv (Value.int x) ∧ v_iv (Value.int x) ≤ 2005 := tv_rng hx
  have e_0 : n_v (vs ++ [Value.int x]) 0 = n_v vs 0 := n_v_old (by rw [hl]; decide)
  have e_1 : n_v (vs ++ [Value.int x]) 1 = n_v vs 1 := n_v_old (by rw [hl]; decide)
  have e_3 : n_v (vs ++ [Value.int x]) 3 = n_v vs 3 := n_v_old (by rw [hl]; decide)
  have e_4 : n_v (vs ++ [Value.int x]) 4 = n_v vs 4 := n_v_old (by rw [hl]; decide)
  have e_5 : n_v (vs ++ [Value.int x]) 5 = n_v vs 5 := n_v_old (by rw [hl]; decide)
  have e_7 : n_v (vs ++ [Value.int x]) 7 = n_v vs 7 := n_v_old (by rw [hl]; decide)
  have e_15 : n_v (vs ++ [Value.int x]) 15 = Value.int x := n_v_new hl
  have nf0 : fc_1 PRD (20, [4, 4], [30, 0, 1, 1, 15, -1, 1, 11]) ws (vs ++ [Value.int x]) := by
    refine ⟨nf_inA hl rfl, sgq_1397 ?_⟩
    · show 1 * w_fi ws (n_v (vs ++ [Value.int x]) 4) 15 + ((-1) * w_fi ws (n_v (vs ++ [Value.int x]) 4) 11 + 0) ≤ 0
      simp only [e_4, q4]
      exact vc_Mo_groupItem_at_k1_11_0 (w_fi ws (n_v vs 0) 5) (w_fi ws (n_v vs 0) 15) (w_fi ws (n_v vs 0) 11) f8 kz_0_11 kz_0_15
  have nf1 : fc_1 PRD (20, [4], [50, 3, 0, 12, 11, 15, 2, 21, 4, 7, 1, 3, 2, 0, 12, 0, 1, 0, 3, 2, 0, 11, 4, 3, 2, 0, 15, 0, 8, 3, 7, 1, 3, 2, 0, 12, 0, 0, 0, 7, 4, 3, 2, 0, 15, 0, 1, 2, 0, 11]) ws (vs ++ [Value.int x]) := by
    refine ⟨nf_inA hl rfl, sgq_1398 ?_⟩
    · show ((w_fi ws (n_v (vs ++ [Value.int x]) 4) 12 = 1) → (w_fi ws (n_v (vs ++ [Value.int x]) 4) 11 ≤ (w_fi ws (n_v (vs ++ [Value.int x]) 4) 15 + 8))) ∧ ((w_fi ws (n_v (vs ++ [Value.int x]) 4) 12 = 0) ∨ ((w_fi ws (n_v (vs ++ [Value.int x]) 4) 15 + 1) ≤ w_fi ws (n_v (vs ++ [Value.int x]) 4) 11))
      simp only [e_4, q4]
      exact vc_Mo_groupItem_at_k1_11_1 (w_fi ws (n_v vs 0) 5) (w_fi ws (n_v vs 0) 15) (w_fi ws (n_v vs 0) 11) (w_fi ws (n_v vs 0) 12) f9 kz_0_11 kz_0_12 kz_0_15
  have nf2 : fc_1 PRD (20, [3, 4], [30, 0, 1, 0, 0, -1, 1, 11]) ws (vs ++ [Value.int x]) := by
    refine ⟨nf_inA hl rfl, sgq_1395 ?_⟩
    · show 1 * v_iv (n_v (vs ++ [Value.int x]) 3) + ((-1) * w_fi ws (n_v (vs ++ [Value.int x]) 4) 11 + 0) ≤ 0
      simp only [e_3, e_4, q4]
      exact vc_Mo_groupItem_at_k1_11_2 (v_iv (n_v vs 3)) (v_iv (n_v vs 14)) (w_fi ws (n_v vs 0) 5) (w_fi ws (n_v vs 0) 11) (w_fi ws (n_v vs 0) 8) (v_iv (Value.int x)) k3 k14 f0 f1 f10 kz_0_8 kz_0_11 ex2
  have nf3 : fc_1 PRD (20, [4, 3], [50, 2, 0, 8, 11, 3, 7, 0, 2, 0, 1, 2, 0, 8, 0, 6, 4, 2, 1, 1, 0, 1, 2, 0, 11]) ws (vs ++ [Value.int x]) := by
    refine ⟨nf_inA hl rfl, sgq_1659 ?_⟩
    · show (1 ≤ w_fi ws (n_v (vs ++ [Value.int x]) 4) 8) ∨ ((v_iv (n_v (vs ++ [Value.int x]) 3) + 1) ≤ w_fi ws (n_v (vs ++ [Value.int x]) 4) 11)
      simp only [e_3, e_4, q4]
      exact vc_Mo_groupItem_at_k1_11_3 (v_iv (n_v vs 3)) (v_iv (n_v vs 14)) (w_fi ws (n_v vs 0) 5) (w_fi ws (n_v vs 0) 11) (w_fi ws (n_v vs 0) 8) (v_iv (Value.int x)) k3 k14 f0 f1 f10 f11 kz_0_8 kz_0_11 ex2
  have nf4 : fc_1 PRD (20, [7, 4], [50, 1, 1, 1005, 1002, 0, 6, 4, 2, 1, 0, 0, 1, 3, 1, 2, 4, 3, 2, 1, 5, 0, 2]) ws (vs ++ [Value.int x]) := by
    refine ⟨nf_inA hl rfl, sgq_981 ?_⟩
    · show (v_iv (n_v (vs ++ [Value.int x]) 7) + 1) ≤ w_ei ws (w_ar ws (n_v (vs ++ [Value.int x]) 4) 2) ((w_fi ws (n_v (vs ++ [Value.int x]) 4) 5 + 2))
      simp only [e_4, e_7, q4]
      exact vc_Mo_groupItem_at_k1_11_4 (v_iv (n_v vs 7)) (w_ei ws (w_ar ws (n_v vs 0) 2)) (w_fi ws (n_v vs 0) 5) k7 f3
  have nf5 : fc_1 PRD (23, [5, 7], [-1, 1, -1]) ws (vs ++ [Value.int x]) := by
    refine ⟨nf_inA hl rfl, sgq_211 ?_⟩
    · show 1 * v_iv (n_v (vs ++ [Value.int x]) 5) + ((-1) * v_iv (n_v (vs ++ [Value.int x]) 7) + 0) ≤ (-1)
      simp only [e_5, e_7, q5]
      exact vc_Mo_groupItem_at_k1_11_5 (v_iv (n_v vs 1)) (v_iv (n_v vs 7)) (w_fi ws (n_v vs 0) 5) k1 k7 f19
  have nf6 : fc_1 PRD (20, [4], [60, 1, 3, 199, 5, 2, 3, 4]) ws (vs ++ [Value.int x]) := by
    refine ⟨nf_inA hl rfl, sgq_952 ?_⟩
    · show RWS (w_fi ws (n_v (vs ++ [Value.int x]) 4) 5) (w_ei ws (w_ar ws (n_v (vs ++ [Value.int x]) 4) 2)) (w_ei ws (w_ar ws (n_v (vs ++ [Value.int x]) 4) 3)) (w_ei ws (w_ar ws (n_v (vs ++ [Value.int x]) 4) 4))
      simp only [e_4, q4]
      exact vc_Mo_groupItem_at_k1_11_6 (w_ei ws (w_ar ws (n_v vs 0) 2)) (w_fi ws (n_v vs 0) 5) (w_ei ws (w_ar ws (n_v vs 0) 3)) (w_ei ws (w_ar ws (n_v vs 0) 4)) f5
  have nf7 : fc_1 PRD (24, [0, 4], []) ws (vs ++ [Value.int x]) := by
    refine ⟨nf_inA hl rfl, sgq_5 ?_⟩
    · show n_v (vs ++ [Value.int x]) 0 = n_v (vs ++ [Value.int x]) 4
      first | rfl | simp only [e_0, e_4, q4, q5]
  have nf8 : fc_1 PRD (24, [1, 5], []) ws (vs ++ [Value.int x]) := by
    refine ⟨nf_inA hl rfl, sgq_5 ?_⟩
    · show n_v (vs ++ [Value.int x]) 1 = n_v (vs ++ [Value.int x]) 5
      first | rfl | simp only [e_1, e_5, q4, q5]
  have nf9 : fc_1 PRD (20, [15, 4, 4], [30, 2005, 1, 0, 0, 1, 1, 11, 1, 1, 8]) ws (vs ++ [Value.int x]) := by
    refine ⟨nf_inA hl rfl, sgq_2010 ?_⟩
    · show 1 * v_iv (n_v (vs ++ [Value.int x]) 15) + (1 * w_fi ws (n_v (vs ++ [Value.int x]) 4) 11 + (1 * w_fi ws (n_v (vs ++ [Value.int x]) 4) 8 + 0)) ≤ 2005
      simp only [e_4, e_15, q4]
      exact vc_Mo_groupItem_at_k1_11_9 (w_fi ws (n_v vs 0) 5) (w_fi ws (n_v vs 0) 11) (w_fi ws (n_v vs 0) 8) (v_iv (Value.int x)) kz_0_8 kz_0_11 ex2
  have nf10 : fc_1 PRD (20, [15, 4, 4], [30, -2005, -1, 0, 0, -1, 1, 11, -1, 1, 8]) ws (vs ++ [Value.int x]) := by
    refine ⟨nf_inA hl rfl, sgq_2011 ?_⟩
    · show (-1) * v_iv (n_v (vs ++ [Value.int x]) 15) + ((-1) * w_fi ws (n_v (vs ++ [Value.int x]) 4) 11 + ((-1) * w_fi ws (n_v (vs ++ [Value.int x]) 4) 8 + 0)) ≤ (-2005)
      simp only [e_4, e_15, q4]
      exact vc_Mo_groupItem_at_k1_11_10 (w_fi ws (n_v vs 0) 5) (w_fi ws (n_v vs 0) 11) (w_fi ws (n_v vs 0) 8) (v_iv (Value.int x)) kz_0_8 kz_0_11 ex2
  exact ⟨(fun _ h => (by cases h)), [Value.int x], ag_one hx, List.forall_mem_cons.mpr ⟨⟨show (20 : Nat) < 100 from by decide, nf0⟩, List.forall_mem_cons.mpr ⟨⟨show (20 : Nat) < 100 from by decide, nf1⟩, List.forall_mem_cons.mpr ⟨⟨show (20 : Nat) < 100 from by decide, nf2⟩, List.forall_mem_cons.mpr ⟨⟨show (20 : Nat) < 100 from by decide, nf3⟩, List.forall_mem_cons.mpr ⟨⟨show (20 : Nat) < 100 from by decide, nf4⟩, List.forall_mem_cons.mpr ⟨⟨show (23 : Nat) < 100 from by decide, nf5⟩, List.forall_mem_cons.mpr ⟨⟨show (20 : Nat) < 100 from by decide, nf6⟩, List.forall_mem_cons.mpr ⟨⟨show (24 : Nat) < 100 from by decide, nf7⟩, List.forall_mem_cons.mpr ⟨⟨show (24 : Nat) < 100 from by decide, nf8⟩, List.forall_mem_cons.mpr ⟨⟨show (20 : Nat) < 100 from by decide, nf9⟩, List.forall_mem_cons.mpr ⟨⟨show (20 : Nat) < 100 from by decide, nf10⟩, (fun _ h => (by cases h))⟩⟩⟩⟩⟩⟩⟩⟩⟩⟩⟩, (fun _ h => (by cases h))⟩
set_option maxHeartbeats 4000000 in
theorem vc_Mo_groupItem_at_k1_12_r0 (x8 : Int) (x9 : Int) (x10 : Int) (x11 : Int) (x13 : Int) (r_0 : Int) (from_0 : Int) (pos_0 : Int) (kind_0 : Int) (k8 : 0 ≤ x8 ∧ x8 ≤ 8) (k9 : 1 ≤ x9 ∧ x9 ≤ 2000) (k10 : 0 ≤ x10 ∧ x10 ≤ 2000) (k11 : 1 ≤ x11 ∧ x11 ≤ 2000) (d1 : x11 + (-4294967296) ≤ x8 ∧ x8 ≤ x11 + (-1)) (f4 : x11 = x9 - x10) (g5 : x10 = from_0) (g6 : x9 = pos_0) (f8 : ((kind_0 = 1) → (pos_0 ≤ (from_0 + 8))) ∧ ((kind_0 = 0) ∨ ((from_0 + 1) ≤ pos_0))) (f10 : kind_0 = 1) (kz_0_11 : 0 ≤ pos_0 ∧ pos_0 ≤ 2000) (kz_0_12 : 0 ≤ kind_0 ∧ kind_0 ≤ 4) (kz_0_15 : 0 ≤ from_0 ∧ from_0 ≤ 2000) : 0 ≤ x8 ∧ x8 ≤ 7 := by
  first
    | omega
    | (have q1 := (hE_0_2_1 (r_0 + 2) (by omega)).2 (by omega)
       have q2 := (hE_0_2_2 (r_0 + 2) (by omega)).2 (by omega)
       omega)
    | (have q1 := (hE_0_2_1 (r_0 + 1) (by omega)).2 (by omega)
       have q2 := (hE_0_2_2 (r_0 + 1) (by omega)).2 (by omega)
       omega)
    | (have q1 := (hE_0_2_1 (r_0 + 2) (by omega)).2 (by omega)
       omega)
    | (have q1 := (hE_0_2_1 (r_0 + 1) (by omega)).2 (by omega)
       omega)
    | (have q1 := (hE_0_2_1 (r_0 + 2) (by omega)).2 (by omega)
       have q2 := (hE_0_2_2 (r_0 + 2) (by omega)).2 (by omega)
       have q3 := (hE_0_2_3 (r_0 + 2) (by omega)).1 (by omega)
       omega)
    | (have q1 := (hE_0_2_1 (r_0 + 2) (by omega)).2 (by omega)
       have q2 := (hE_0_2_2 (r_0 + 2) (by omega)).2 (by omega)
       have q3 := (hE_0_2_3 (r_0 + 2) (by omega)).2 (by omega)
       omega)
    | (have q1 := (hE_0_2_1 (r_0 + 2) (by omega)).2 (by omega)
       have q2 := (hE_0_2_2 (r_0 + 2) (by omega)).2 (by omega)
       have q3 := (hE_0_2_3 (r_0 + 2) (by omega)).1 (by omega)
       have q4 : x13 = r_0 + 2 := by omega
       rw [q4] at h34
       omega)
def o_Mo_groupItem_at_k1_12 : or_T := (141, 19, [(0, (2, 0, 0, [165])), (1, (0, 0, 7, [])), (3, (0, 0, 2000, [])), (4, (2, 0, 0, [165])), (5, (0, 0, 7, [])), (7, (0, 0, 7, [])), (8, (0, 0, 8, [])), (9, (0, 1, 2000, [])), (10, (0, 0, 2000, [])), (11, (0, 1, 2000, [])), (12, (2, 0, 0, [167])), (13, (0, 0, 66297, [])), (14, (0, 459, 459, [])), (15, (0, 459, 66756, []))], [(1, [15, 13, 14], []), (9, [13, 4], [5]), (9, [12, 4], [2]), (7, [8, 11], [2]), (2, [11, 9, 10], []), (9, [10, 4], [15]), (9, [9, 4], [11]), (20, [4, 4], [30, 0, 1, 1, 15, -1, 1, 11]), (20, [4], [50, 3, 0, 12, 11, 15, 2, 21, 4, 7, 1, 3, 2, 0, 12, 0, 1, 0, 3, 2, 0, 11, 4, 3, 2, 0, 15, 0, 8, 3, 7, 1, 3, 2, 0, 12, 0, 0, 0, 7, 4, 3, 2, 0, 15, 0, 1, 2, 0, 11]), (20, [3, 4], [30, -1, 1, 0, 0, -1, 1, 11]), (20, [4], [50, 1, 0, 12, 1, 3, 2, 0, 12, 0, 1]), (20, [7, 4], [50, 1, 1, 1005, 1002, 0, 6, 4, 2, 1, 0, 0, 1, 3, 1, 2, 4, 3, 2, 1, 5, 0, 2]), (23, [5, 7], [-1, 1, -1]), (20, [4], [60, 1, 3, 199, 5, 2, 3, 4]), (24, [0, 4], []), (24, [1, 5], [])], [(8, (0, 0, 7, []))], [], [], [], [(15, 13, 459, 459), (8, 11, -4294967296, -1), (11, 9, -2000, 0), (1, 5, -4294967296, 0), (5, 1, -4294967296, 0)])
theorem oo_Mo_groupItem_at_k1_12 {kA : Nat → ClassId} : or_ok PRD kA GG o_Mo_groupItem_at_k1_12 := by
  refine or_mk fun A ta ws vs hD hth hl => ?_
  intro t0 r0 t1 k1 t3 k3 t4 r4 t5 k5 t7 k7 t8 k8 t9 k9 t10 k10 t11 k11 t12 r12 t13 k13 t14 k14 t15 k15 d0 d1 d2 d3 d4 f0 f1 f2 f3 f4 f5 f6 f7 f8 f9 f10 f11 f12 f13 f14 f15
  replace f5 := shm_189 f5
  replace f6 := shm_117 f6
  replace f8 := shm_1398 f8
  replace f10 := shm_1791 f10
  replace f14 := shm_5 f14
  have q4 : n_v vs 4 = n_v vs 0 := f14.symm
  simp only [q4] at f5 f6 f8 f10
  have g5 : v_iv (n_v vs 10) = w_fi ws (n_v vs 0) 15 := congrArg v_iv f5
  have g6 : v_iv (n_v vs 9) = w_fi ws (n_v vs 0) 11 := congrArg v_iv f6
  have kz_0_11 := fdq_273 hD hth r0
  have kz_0_12 := fdq_186 hD hth r0
  have kz_0_15 := fdq_274 hD hth r0
  have hrf0 : 0 ≤ v_iv (n_v vs 8) ∧ v_iv (n_v vs 8) ≤ 7 := vc_Mo_groupItem_at_k1_12_r0 (v_iv (n_v vs 8)) (v_iv (n_v vs 9)) (v_iv (n_v vs 10)) (v_iv (n_v vs 11)) (v_iv (n_v vs 13)) (w_fi ws (n_v vs 0) 5) (w_fi ws (n_v vs 0) 15) (w_fi ws (n_v vs 0) 11) (w_fi ws (n_v vs 0) 12) k8 k9 k10 k11 d1 (shm_14 f4) g5 g6 f8 f10 kz_0_11 kz_0_12 kz_0_15
  have rf8 : tv_ok ta (0, 0, 7, []) (n_v vs 8) := tv_in t8 (by first | omega | grind) (by first | omega | grind)
  refine ⟨List.forall_mem_cons.mpr ⟨rf8, (fun _ h => (by cases h))⟩, [], trivial, ?_, (fun _ h => (by cases h))⟩
  rw [List.append_nil]
  exact (fun _ h => (by cases h))
def o_Mo_groupItem_at_k1_13 : or_T := (153, 22, [(7, (0, 0, 7, [])), (8, (0, 0, 7, [])), (13, (5, 0, 66297, [539])), (14, (0, 459, 459, [])), (15, (0, 459, 66756, [])), (16, (0, 8, 8, [])), (17, (0, 0, 56, [])), (18, (0, 459, 66812, [])), (19, (0, 459, 66819, [])), (21, (0, -1, -1, []))], [(1, [19, 18, 8], []), (1, [18, 15, 17], []), (3, [17, 16, 7], []), (1, [15, 13, 14], [])], [], [], [(18, [19, 21], [1])], [], [(19, 8, 459, 66812), (19, 18, 0, 7), (19, 17, 459, 66763), (19, 15, 0, 63), (19, 13, 459, 522), (18, 17, 459, 66756), (18, 15, 0, 56), (18, 13, 459, 515), (15, 13, 459, 459)])
theorem oo_Mo_groupItem_at_k1_13 {kA : Nat → ClassId} : or_ok PRD kA GG o_Mo_groupItem_at_k1_13 := by
  refine or_mk fun A ta ws vs hD hth hl => ?_
  intro t7 k7 t8 k8 t13 t14 k14 t15 k15 t16 k16 t17 k17 t18 k18 t19 k19 t21 k21 d0 d1 d2 d3 d4 d5 d6 d7 d8 f0 f1 f2 f3
  obtain ⟨k13, q13_⟩ : (0 ≤ v_iv (n_v vs 13) ∧ v_iv (n_v vs 13) ≤ 66297) ∧ ∃ q : Int, v_iv (n_v vs 13) = 539 * q := tv_dvk t13
  obtain ⟨q13, hq13⟩ := q13_
  replace f0 := shm_12 f0
  replace f1 := shm_12 f1
  replace f2 := shm_38 f2
  rw [show v_iv (n_v vs 16) = 8 from by omega] at f2
  replace f3 := shm_12 f3
  have nf0 : fc_1 PRD (18, [19, 21], [1]) ws (vs) := by
    refine ⟨nf_in hl rfl, sgq_1268 ?_⟩
    · show pl_ok 1 (v_iv (n_v vs 19)).toNat (v_iv (n_v vs 21))
      exact pl_in pl_M1 (lo := 459) (hi := 522) (a := (-1)) (b := (-1)) (by decide +kernel) (by omega) (by omega) (by omega) (by omega)
  refine ⟨(fun _ h => (by cases h)), [], trivial, ?_, (fun _ h => (by cases h))⟩
  rw [List.append_nil]
  exact List.forall_mem_cons.mpr ⟨⟨show (18 : Nat) < 100 from by decide, nf0⟩, (fun _ h => (by cases h))⟩
set_option maxHeartbeats 4000000 in
theorem vc_Mo_groupItem_at_k1_14_0 (x7 : Int) (x8 : Int) (x13 : Int) (x15 : Int) (x17 : Int) (x18 : Int) (x19 : Int) (x21 : Int) (x22 : Int) (tape_0 : Int → Int) (limit_0 : Int) (from_0 : Int) (pos_0 : Int) (kind_0 : Int) (tape_1 : Int → Int) (limit_1 : Int) (from_1 : Int) (r_1 : Int) (pos_1 : Int) (kind_1 : Int) (all_1 : Int → Int) (now_1 : Int → Int) (latest_1 : Int → Int) (r_0 : Int) (all_0 : Int → Int) (now_0 : Int → Int) (latest_0 : Int → Int) (k7 : 0 ≤ x7 ∧ x7 ≤ 7) (k8 : 0 ≤ x8 ∧ x8 ≤ 7) (k13 : 0 ≤ x13 ∧ x13 ≤ 66297) (k15 : 459 ≤ x15 ∧ x15 ≤ 66756) (k17 : 0 ≤ x17 ∧ x17 ≤ 56) (k18 : 459 ≤ x18 ∧ x18 ≤ 66812) (k19 : 459 ≤ x19 ∧ x19 ≤ 66819) (k21 : (-1) ≤ x21 ∧ x21 ≤ (-1)) (k22 : 1 ≤ x22 ∧ x22 ≤ 8) (d0 : x8 + 1 ≤ x22 ∧ x22 ≤ x8 + 1) (d9 : x15 + 0 ≤ x19 ∧ x19 ≤ x15 + 63) (d14 : x13 + 459 ≤ x15 ∧ x15 ≤ x13 + 459) (f15 : x19 = x18 + x8) (f16 : x18 = x15 + x17) (f17 : x17 = 8 * x7) (g19 : x13 = r_1) (f28 : (x7 + 1) ≤ all_1 ((r_1 + 2))) (fe_0_5_1 : r_0 = r_1) (fe_0_10_1 : limit_0 = limit_1) (fe_0_11_1 : pos_0 = pos_1) (fe_0_12_1 : kind_0 = kind_1) (fe_0_15_1 : from_0 = from_1) (hE_0_1_1 : ∀ j : Int, tape_0 j = tape_1 j) (hE_0_2_1 : ∀ j : Int, 0 ≤ j → (j = x19 → all_0 j = x21) ∧ (j ≠ x19 → all_0 j = all_1 j)) (hE_0_3_1 : ∀ j : Int, now_0 j = now_1 j) (hE_0_4_1 : ∀ j : Int, latest_0 j = latest_1 j) (kz_0_10 : 0 ≤ limit_0 ∧ limit_0 ≤ 2000) (kz_0_11 : 0 ≤ pos_0 ∧ pos_0 ≤ 2000) (kz_0_12 : 0 ≤ kind_0 ∧ kind_0 ≤ 4) (kz_0_15 : 0 ≤ from_0 ∧ from_0 ≤ 2000) : (x7 + 1) ≤ all_0 ((r_0 + 2)) := by
  subst fe_0_5_1
  subst fe_0_10_1
  subst fe_0_11_1
  subst fe_0_12_1
  subst fe_0_15_1
  have e_hE_0_1_1 := funext hE_0_1_1; subst e_hE_0_1_1
  have e_hE_0_3_1 := funext hE_0_3_1; subst e_hE_0_3_1
  have e_hE_0_4_1 := funext hE_0_4_1; subst e_hE_0_4_1
  first
    | omega
    | (have q1 := (hE_0_2_1 (r_0 + 2) (by omega)).2 (by omega)
       have q2 := (hE_0_2_2 (r_0 + 2) (by omega)).2 (by omega)
       omega)
    | (have q1 := (hE_0_2_1 (r_0 + 1) (by omega)).2 (by omega)
       have q2 := (hE_0_2_2 (r_0 + 1) (by omega)).2 (by omega)
       omega)
    | (have q1 := (hE_0_2_1 (r_0 + 2) (by omega)).2 (by omega)
       omega)
    | (have q1 := (hE_0_2_1 (r_0 + 1) (by omega)).2 (by omega)
       omega)
    | (have q1 := (hE_0_2_1 (r_0 + 2) (by omega)).2 (by omega)
       have q2 := (hE_0_2_2 (r_0 + 2) (by omega)).2 (by omega)
       have q3 := (hE_0_2_3 (r_0 + 2) (by omega)).1 (by omega)
       omega)
    | (have q1 := (hE_0_2_1 (r_0 + 2) (by omega)).2 (by omega)
       have q2 := (hE_0_2_2 (r_0 + 2) (by omega)).2 (by omega)
       have q3 := (hE_0_2_3 (r_0 + 2) (by omega)).2 (by omega)
       omega)
    | (have q1 := (hE_0_2_1 (r_0 + 2) (by omega)).2 (by omega)
       have q2 := (hE_0_2_2 (r_0 + 2) (by omega)).2 (by omega)
       have q3 := (hE_0_2_3 (r_0 + 2) (by omega)).1 (by omega)
       have q4 : x13 = r_0 + 2 := by omega
       rw [q4] at h34
       omega)
set_option maxHeartbeats 4000000 in
theorem vc_Mo_groupItem_at_k1_14_1 (x7 : Int) (x8 : Int) (x13 : Int) (x15 : Int) (x17 : Int) (x18 : Int) (x19 : Int) (x21 : Int) (x22 : Int) (tape_0 : Int → Int) (limit_0 : Int) (from_0 : Int) (pos_0 : Int) (kind_0 : Int) (tape_1 : Int → Int) (limit_1 : Int) (from_1 : Int) (r_1 : Int) (pos_1 : Int) (kind_1 : Int) (all_1 : Int → Int) (now_1 : Int → Int) (latest_1 : Int → Int) (r_0 : Int) (all_0 : Int → Int) (now_0 : Int → Int) (latest_0 : Int → Int) (k7 : 0 ≤ x7 ∧ x7 ≤ 7) (k8 : 0 ≤ x8 ∧ x8 ≤ 7) (k13 : 0 ≤ x13 ∧ x13 ≤ 66297) (k15 : 459 ≤ x15 ∧ x15 ≤ 66756) (k17 : 0 ≤ x17 ∧ x17 ≤ 56) (k18 : 459 ≤ x18 ∧ x18 ≤ 66812) (k19 : 459 ≤ x19 ∧ x19 ≤ 66819) (k21 : (-1) ≤ x21 ∧ x21 ≤ (-1)) (k22 : 1 ≤ x22 ∧ x22 ≤ 8) (d0 : x8 + 1 ≤ x22 ∧ x22 ≤ x8 + 1) (d9 : x15 + 0 ≤ x19 ∧ x19 ≤ x15 + 63) (d14 : x13 + 459 ≤ x15 ∧ x15 ≤ x13 + 459) (f15 : x19 = x18 + x8) (f16 : x18 = x15 + x17) (f17 : x17 = 8 * x7) (g19 : x13 = r_1) (f30 : RWS (r_1) (all_1) (now_1) (latest_1)) (fe_0_5_1 : r_0 = r_1) (fe_0_10_1 : limit_0 = limit_1) (fe_0_11_1 : pos_0 = pos_1) (fe_0_12_1 : kind_0 = kind_1) (fe_0_15_1 : from_0 = from_1) (hE_0_1_1 : ∀ j : Int, tape_0 j = tape_1 j) (hE_0_2_1 : ∀ j : Int, 0 ≤ j → (j = x19 → all_0 j = x21) ∧ (j ≠ x19 → all_0 j = all_1 j)) (hE_0_3_1 : ∀ j : Int, now_0 j = now_1 j) (hE_0_4_1 : ∀ j : Int, latest_0 j = latest_1 j) (kz_0_10 : 0 ≤ limit_0 ∧ limit_0 ≤ 2000) (kz_0_11 : 0 ≤ pos_0 ∧ pos_0 ≤ 2000) (kz_0_12 : 0 ≤ kind_0 ∧ kind_0 ≤ 4) (kz_0_15 : 0 ≤ from_0 ∧ from_0 ≤ 2000) : RWS (r_0) (all_0) (now_0) (latest_0) := by
  subst fe_0_5_1
  subst fe_0_10_1
  subst fe_0_11_1
  subst fe_0_12_1
  subst fe_0_15_1
  have e_hE_0_1_1 := funext hE_0_1_1; subst e_hE_0_1_1
  have e_hE_0_3_1 := funext hE_0_3_1; subst e_hE_0_3_1
  have e_hE_0_4_1 := funext hE_0_4_1; subst e_hE_0_4_1
  first
    | assumption
    | (have hr := rws_r ‹RWS _ _ _ _›
       exact rws_off (rws_off (rws_off ‹RWS _ _ _ _› (by assumption) (by omega)) (by assumption) (by omega)) (by assumption) (by omega))
    | (have hr := rws_r ‹RWS _ _ _ _›
       exact rws_off ‹RWS _ _ _ _› (by assumption) (by omega))
def o_Mo_groupItem_at_k1_14 : or_T := (108, 23, [(0, (2, 0, 0, [165])), (1, (0, 0, 7, [])), (3, (0, 0, 2000, [])), (4, (2, 0, 0, [165])), (5, (0, 0, 7, [])), (7, (0, 0, 7, [])), (8, (0, 0, 7, [])), (9, (0, 1, 2000, [])), (10, (0, 0, 2000, [])), (11, (0, 1, 2000, [])), (12, (2, 0, 0, [167])), (13, (0, 0, 66297, [])), (14, (0, 459, 459, [])), (15, (0, 459, 66756, [])), (16, (0, 8, 8, [])), (17, (0, 0, 56, [])), (18, (0, 459, 66812, [])), (19, (0, 459, 66819, [])), (20, (0, 0, 2007, [])), (21, (0, -1, -1, [])), (22, (0, 1, 8, []))], [(6, [22, 8], [1]), (20, [20, 4, 21], [50, 1, 1, 1010, 1001, 4, 11, 0, 6, 4, 2, 1, 0, 0, 1, 2, 1, 10, 1, 2, 1, 2, 9, 5, 3, 1, 1, 1, 0, 0, 256]), (20, [4, 20, 21], [50, 1, 0, 10, 4, 7, 0, 3, 2, 0, 10, 1, 1, 1, 2, 1, 2, 0, -1]), (20, [4, 4], [30, 0, 1, 1, 15, -1, 1, 11]), (20, [4], [50, 3, 0, 12, 11, 15, 2, 21, 4, 7, 1, 3, 2, 0, 12, 0, 1, 0, 3, 2, 0, 11, 4, 3, 2, 0, 15, 0, 8, 3, 7, 1, 3, 2, 0, 12, 0, 0, 0, 7, 4, 3, 2, 0, 15, 0, 1, 2, 0, 11]), (20, [3, 4], [30, -1, 1, 0, 0, -1, 1, 11]), (20, [4], [50, 1, 0, 12, 1, 3, 2, 0, 12, 0, 1]), (23, [5, 7], [-1, 1, -1]), (24, [0, 4], []), (24, [1, 5], []), (100, [12, 19, 21], []), (20, [20, 4, 21], [50, 1, 1, 1010, 1001, 4, 11, 0, 6, 4, 2, 1, 0, 0, 1, 2, 1, 10, 1, 2, 1, 2, 9, 5, 3, 1, 1, 1, 0, 0, 256]), (20, [4, 20, 21], [50, 1, 0, 10, 4, 7, 0, 3, 2, 0, 10, 1, 1, 1, 2, 1, 2, 0, -1]), (1, [20, 10, 8], []), (9, [10, 4], [15]), (1, [19, 18, 8], []), (1, [18, 15, 17], []), (3, [17, 16, 7], []), (1, [15, 13, 14], []), (9, [13, 4], [5]), (9, [12, 4], [2]), (7, [8, 11], [2]), (2, [11, 9, 10], []), (9, [9, 4], [11]), (20, [4, 4], [30, 0, 1, 1, 15, -1, 1, 11]), (20, [4], [50, 3, 0, 12, 11, 15, 2, 21, 4, 7, 1, 3, 2, 0, 12, 0, 1, 0, 3, 2, 0, 11, 4, 3, 2, 0, 15, 0, 8, 3, 7, 1, 3, 2, 0, 12, 0, 0, 0, 7, 4, 3, 2, 0, 15, 0, 1, 2, 0, 11]), (20, [3, 4], [30, -1, 1, 0, 0, -1, 1, 11]), (20, [4], [50, 1, 0, 12, 1, 3, 2, 0, 12, 0, 1]), (20, [7, 4], [50, 1, 1, 1005, 1002, 0, 6, 4, 2, 1, 0, 0, 1, 3, 1, 2, 4, 3, 2, 1, 5, 0, 2]), (23, [5, 7], [-1, 1, -1]), (20, [4], [60, 1, 3, 199, 5, 2, 3, 4])], [], [], [(20, [7, 4], [50, 1, 1, 1005, 1002, 0, 6, 4, 2, 1, 0, 0, 1, 3, 1, 2, 4, 3, 2, 1, 5, 0, 2]), (20, [4], [60, 1, 3, 199, 5, 2, 3, 4])], [], [(22, 8, 1, 1), (22, 11, -4294967296, 0), (20, 8, 0, 2000), (20, 11, -4294967296, 1999), (20, 10, 0, 7), (19, 8, 459, 66812), (19, 11, -4294967296, 66811), (19, 18, 0, 7), (19, 17, 459, 66763), (19, 15, 0, 63), (19, 13, 459, 522), (18, 17, 459, 66756), (18, 15, 0, 56), (18, 13, 459, 515), (15, 13, 459, 459), (8, 11, -4294967296, -1), (11, 9, -2000, 0), (1, 5, -4294967296, 0), (5, 1, -4294967296, 0)])
theorem oo_Mo_groupItem_at_k1_14 {kA : Nat → ClassId} : or_ok PRD kA GG o_Mo_groupItem_at_k1_14 := by
  refine or_mk fun A ta ws vs hD hth hl => ?_
  intro t0 r0 t1 k1 t3 k3 t4 r4 t5 k5 t7 k7 t8 k8 t9 k9 t10 k10 t11 k11 t12 r12 t13 k13 t14 k14 t15 k15 t16 k16 t17 k17 t18 k18 t19 k19 t20 k20 t21 k21 t22 k22 d0 d1 d2 d3 d4 d5 d6 d7 d8 d9 d10 d11 d12 d13 d14 d15 d16 d17 d18 f0 f1 f2 f3 f4 f5 f6 f7 f8 f9 ta1 w1 le1 s1 f11 f12 f13 f14 f15 f16 f17 f18 f19 f20 f21 f22 f23 f24 f25 f26 f27 f28 f29 f30
  replace f0 := shm_4 f0
  replace f1 := shm_535 f1
  replace f2 := shm_536 f2
  replace f3 := shm_1397 f3
  replace f4 := shm_1398 f4
  replace f5 := shm_1891 f5
  replace f6 := shm_1791 f6
  replace f7 := shm_211 f7
  replace f8 := shm_5 f8
  replace f9 := shm_5 f9
  have s1 : (∀ b j, w_el ws b j = if b = v_ad (n_v vs 12) ∧ j = (v_iv (n_v vs 19)).toNat then v_iv (n_v vs 21) else w_el w1 b j) ∧ ∀ b k, w_fd ws b k = w_fd w1 b k := s1.2
  replace f11 := shm_535 f11
  replace f12 := shm_536 f12
  replace f13 := shm_12 f13
  replace f14 := shm_189 f14
  replace f15 := shm_12 f15
  replace f16 := shm_12 f16
  replace f17 := shm_38 f17
  rw [show v_iv (n_v vs 16) = 8 from by omega] at f17
  replace f18 := shm_12 f18
  replace f19 := shm_109 f19
  replace f20 := shm_129 f20
  replace f21 := shm_6 f21
  replace f22 := shm_14 f22
  replace f23 := shm_117 f23
  replace f24 := shm_1397 f24
  replace f25 := shm_1398 f25
  replace f26 := shm_1891 f26
  replace f27 := shm_1791 f27
  replace f28 := shm_981 f28
  replace f29 := shm_211 f29
  replace f30 := shm_952 f30
  have q4 : n_v vs 4 = n_v vs 0 := f8.symm
  have q5 : n_v vs 5 = n_v vs 1 := f9.symm
  simp only [q4, q5] at f1 f2 f3 f4 f5 f6 f7 f11 f12 f14 f19 f20 f23 f24 f25 f26 f27 f28 f29 f30
  have ar_0_1_1 : w_ar w1 (n_v vs 0) 1 = w_ar ws (n_v vs 0) 1 := congrArg v_ad (s1.2 _ _).symm
  have cr_0_1 := fdq_46 hD hth r0
  have ar_0_2_1 : w_ar w1 (n_v vs 0) 2 = w_ar ws (n_v vs 0) 2 := congrArg v_ad (s1.2 _ _).symm
  have cr_0_2 := fdq_12 hD hth r0
  have ar_0_3_1 : w_ar w1 (n_v vs 0) 3 = w_ar ws (n_v vs 0) 3 := congrArg v_ad (s1.2 _ _).symm
  have cr_0_3 := fdq_141 hD hth r0
  have ar_0_4_1 : w_ar w1 (n_v vs 0) 4 = w_ar ws (n_v vs 0) 4 := congrArg v_ad (s1.2 _ _).symm
  have cr_0_4 := fdq_142 hD hth r0
  have ad_12 : v_ad (n_v vs 12) = w_ar ws (n_v vs 0) 2 := (congrArg v_ad f20).trans ar_0_2_1
  simp only [ar_0_1_1] at f11
  have g14 : v_iv (n_v vs 10) = w_fi w1 (n_v vs 0) 15 := congrArg v_iv f14
  have g19 : v_iv (n_v vs 13) = w_fi w1 (n_v vs 0) 5 := congrArg v_iv f19
  have g23 : v_iv (n_v vs 9) = w_fi w1 (n_v vs 0) 11 := congrArg v_iv f23
  simp only [ar_0_2_1, ar_0_3_1, ar_0_4_1] at f28 f30
  have fe_0_5_1 : w_fi ws (n_v vs 0) 5 = w_fi w1 (n_v vs 0) 5 := congrArg v_iv (s1.2 _ _)
  have fe_0_10_1 : w_fi ws (n_v vs 0) 10 = w_fi w1 (n_v vs 0) 10 := congrArg v_iv (s1.2 _ _)
  have fe_0_11_1 : w_fi ws (n_v vs 0) 11 = w_fi w1 (n_v vs 0) 11 := congrArg v_iv (s1.2 _ _)
  have fe_0_12_1 : w_fi ws (n_v vs 0) 12 = w_fi w1 (n_v vs 0) 12 := congrArg v_iv (s1.2 _ _)
  have fe_0_15_1 : w_fi ws (n_v vs 0) 15 = w_fi w1 (n_v vs 0) 15 := congrArg v_iv (s1.2 _ _)
  have hE_0_1_1 : ∀ j : Int, w_ei ws (w_ar ws (n_v vs 0) 1) j = w_ei w1 (w_ar ws (n_v vs 0) 1) j := el_kp s1.1 r12 cr_0_1 (by decide)
  have hK_0_1 := elq_6 hD hth cr_0_1
  have hE_0_2_1 : ∀ j : Int, 0 ≤ j → (j = v_iv (n_v vs 19) → w_ei ws (w_ar ws (n_v vs 0) 2) j = v_iv (n_v vs 21)) ∧ (j ≠ v_iv (n_v vs 19) → w_ei ws (w_ar ws (n_v vs 0) 2) j = w_ei w1 (w_ar ws (n_v vs 0) 2) j) := fun j hj => ⟨fun h => by unfold w_ei; rw [s1.1, if_pos ⟨ad_12.symm, by rw [h]⟩], fun h => by unfold w_ei; rw [s1.1, if_neg (fun e => h (by have := e.2; omega))]⟩
  have hE_0_3_1 : ∀ j : Int, w_ei ws (w_ar ws (n_v vs 0) 3) j = w_ei w1 (w_ar ws (n_v vs 0) 3) j := el_kp s1.1 r12 cr_0_3 (by decide)
  have hK_0_3 := elq_77 hD hth cr_0_3
  have hE_0_4_1 : ∀ j : Int, w_ei ws (w_ar ws (n_v vs 0) 4) j = w_ei w1 (w_ar ws (n_v vs 0) 4) j := el_kp s1.1 r12 cr_0_4 (by decide)
  have hK_0_4 := elq_78 hD hth cr_0_4
  have kz_0_10 := fdq_50 hD hth r0
  have kz_0_11 := fdq_273 hD hth r0
  have kz_0_12 := fdq_186 hD hth r0
  have kz_0_15 := fdq_274 hD hth r0
  first | have hJ0 : w_ei w1 (w_ar ws (n_v vs 0) 2) ((w_fi w1 (n_v vs 0) 5 + 2)) = w_ei w1 (w_ar ws (n_v vs 0) 2) ((w_fi ws (n_v vs 0) 5 + 2)) := congrArg _ (show ((w_fi w1 (n_v vs 0) 5 + 2) : Int) = (w_fi ws (n_v vs 0) 5 + 2) from by omega) | skip
  have hI1 := hE_0_1_1 (v_iv (n_v vs 20))
  first | have hI2 := (hE_0_2_1 ((w_fi ws (n_v vs 0) 5 + 2)) (by omega)).2 (by omega) | have hI2 := (hE_0_2_1 ((w_fi ws (n_v vs 0) 5 + 2)) (by omega)).1 (by omega) | skip
  have nf0 : fc_1 PRD (20, [7, 4], [50, 1, 1, 1005, 1002, 0, 6, 4, 2, 1, 0, 0, 1, 3, 1, 2, 4, 3, 2, 1, 5, 0, 2]) ws (vs) := by
    refine ⟨nf_in hl rfl, sgq_981 ?_⟩
    · show (v_iv (n_v vs 7) + 1) ≤ w_ei ws (w_ar ws (n_v vs 4) 2) ((w_fi ws (n_v vs 4) 5 + 2))
      rw [q4]
      exact vc_Mo_groupItem_at_k1_14_0 (v_iv (n_v vs 7)) (v_iv (n_v vs 8)) (v_iv (n_v vs 13)) (v_iv (n_v vs 15)) (v_iv (n_v vs 17)) (v_iv (n_v vs 18)) (v_iv (n_v vs 19)) (v_iv (n_v vs 21)) (v_iv (n_v vs 22)) (w_ei ws (w_ar ws (n_v vs 0) 1)) (w_fi ws (n_v vs 0) 10) (w_fi ws (n_v vs 0) 15) (w_fi ws (n_v vs 0) 11) (w_fi ws (n_v vs 0) 12) (w_ei w1 (w_ar ws (n_v vs 0) 1)) (w_fi w1 (n_v vs 0) 10) (w_fi w1 (n_v vs 0) 15) (w_fi w1 (n_v vs 0) 5) (w_fi w1 (n_v vs 0) 11) (w_fi w1 (n_v vs 0) 12) (w_ei w1 (w_ar ws (n_v vs 0) 2)) (w_ei w1 (w_ar ws (n_v vs 0) 3)) (w_ei w1 (w_ar ws (n_v vs 0) 4)) (w_fi ws (n_v vs 0) 5) (w_ei ws (w_ar ws (n_v vs 0) 2)) (w_ei ws (w_ar ws (n_v vs 0) 3)) (w_ei ws (w_ar ws (n_v vs 0) 4)) k7 k8 k13 k15 k17 k18 k19 k21 k22 d0 d9 d14 f15 f16 f17 g19 f28 fe_0_5_1 fe_0_10_1 fe_0_11_1 fe_0_12_1 fe_0_15_1 hE_0_1_1 hE_0_2_1 hE_0_3_1 hE_0_4_1 kz_0_10 kz_0_11 kz_0_12 kz_0_15
  have nf1 : fc_1 PRD (20, [4], [60, 1, 3, 199, 5, 2, 3, 4]) ws (vs) := by
    refine ⟨nf_in hl rfl, sgq_952 ?_⟩
    · show RWS (w_fi ws (n_v vs 4) 5) (w_ei ws (w_ar ws (n_v vs 4) 2)) (w_ei ws (w_ar ws (n_v vs 4) 3)) (w_ei ws (w_ar ws (n_v vs 4) 4))
      rw [q4]
      exact vc_Mo_groupItem_at_k1_14_1 (v_iv (n_v vs 7)) (v_iv (n_v vs 8)) (v_iv (n_v vs 13)) (v_iv (n_v vs 15)) (v_iv (n_v vs 17)) (v_iv (n_v vs 18)) (v_iv (n_v vs 19)) (v_iv (n_v vs 21)) (v_iv (n_v vs 22)) (w_ei ws (w_ar ws (n_v vs 0) 1)) (w_fi ws (n_v vs 0) 10) (w_fi ws (n_v vs 0) 15) (w_fi ws (n_v vs 0) 11) (w_fi ws (n_v vs 0) 12) (w_ei w1 (w_ar ws (n_v vs 0) 1)) (w_fi w1 (n_v vs 0) 10) (w_fi w1 (n_v vs 0) 15) (w_fi w1 (n_v vs 0) 5) (w_fi w1 (n_v vs 0) 11) (w_fi w1 (n_v vs 0) 12) (w_ei w1 (w_ar ws (n_v vs 0) 2)) (w_ei w1 (w_ar ws (n_v vs 0) 3)) (w_ei w1 (w_ar ws (n_v vs 0) 4)) (w_fi ws (n_v vs 0) 5) (w_ei ws (w_ar ws (n_v vs 0) 2)) (w_ei ws (w_ar ws (n_v vs 0) 3)) (w_ei ws (w_ar ws (n_v vs 0) 4)) k7 k8 k13 k15 k17 k18 k19 k21 k22 d0 d9 d14 f15 f16 f17 g19 f30 fe_0_5_1 fe_0_10_1 fe_0_11_1 fe_0_12_1 fe_0_15_1 hE_0_1_1 hE_0_2_1 hE_0_3_1 hE_0_4_1 kz_0_10 kz_0_11 kz_0_12 kz_0_15
  refine ⟨(fun _ h => (by cases h)), [], trivial, ?_, (fun _ h => (by cases h))⟩
  rw [List.append_nil]
  exact List.forall_mem_cons.mpr ⟨⟨show (20 : Nat) < 100 from by decide, nf0⟩, List.forall_mem_cons.mpr ⟨⟨show (20 : Nat) < 100 from by decide, nf1⟩, (fun _ h => (by cases h))⟩⟩
def o_Mo_groupItem_at_k1_15 : or_T := (153, 22, [(7, (0, 0, 7, [])), (8, (0, 0, 7, [])), (13, (5, 0, 66297, [539])), (14, (0, 459, 459, [])), (15, (0, 459, 66756, [])), (16, (0, 8, 8, [])), (17, (0, 0, 56, [])), (18, (0, 459, 66812, [])), (19, (0, 459, 66819, [])), (21, (0, 0, 255, []))], [(1, [19, 18, 8], []), (1, [18, 15, 17], []), (3, [17, 16, 7], []), (1, [15, 13, 14], [])], [], [], [(18, [19, 21], [1])], [], [(19, 8, 459, 66812), (19, 18, 0, 7), (19, 17, 459, 66763), (19, 15, 0, 63), (19, 13, 459, 522), (18, 17, 459, 66756), (18, 15, 0, 56), (18, 13, 459, 515), (15, 13, 459, 459)])
theorem oo_Mo_groupItem_at_k1_15 {kA : Nat → ClassId} : or_ok PRD kA GG o_Mo_groupItem_at_k1_15 := by
  refine or_mk fun A ta ws vs hD hth hl => ?_
  intro t7 k7 t8 k8 t13 t14 k14 t15 k15 t16 k16 t17 k17 t18 k18 t19 k19 t21 k21 d0 d1 d2 d3 d4 d5 d6 d7 d8 f0 f1 f2 f3
  obtain ⟨k13, q13_⟩ : (0 ≤ v_iv (n_v vs 13) ∧ v_iv (n_v vs 13) ≤ 66297) ∧ ∃ q : Int, v_iv (n_v vs 13) = 539 * q := tv_dvk t13
  obtain ⟨q13, hq13⟩ := q13_
  replace f0 := shm_12 f0
  replace f1 := shm_12 f1
  replace f2 := shm_38 f2
  rw [show v_iv (n_v vs 16) = 8 from by omega] at f2
  replace f3 := shm_12 f3
  have nf0 : fc_1 PRD (18, [19, 21], [1]) ws (vs) := by
    refine ⟨nf_in hl rfl, sgq_1268 ?_⟩
    · show pl_ok 1 (v_iv (n_v vs 19)).toNat (v_iv (n_v vs 21))
      exact pl_in pl_M1 (lo := 459) (hi := 522) (a := 0) (b := 255) (by decide +kernel) (by omega) (by omega) (by omega) (by omega)
  refine ⟨(fun _ h => (by cases h)), [], trivial, ?_, (fun _ h => (by cases h))⟩
  rw [List.append_nil]
  exact List.forall_mem_cons.mpr ⟨⟨show (18 : Nat) < 100 from by decide, nf0⟩, (fun _ h => (by cases h))⟩
set_option maxHeartbeats 4000000 in
theorem vc_Mo_groupItem_at_k1_16_0 (x7 : Int) (x8 : Int) (x13 : Int) (x15 : Int) (x17 : Int) (x18 : Int) (x19 : Int) (x21 : Int) (x22 : Int) (tape_0 : Int → Int) (limit_0 : Int) (from_0 : Int) (pos_0 : Int) (kind_0 : Int) (tape_1 : Int → Int) (limit_1 : Int) (from_1 : Int) (r_1 : Int) (pos_1 : Int) (kind_1 : Int) (all_1 : Int → Int) (now_1 : Int → Int) (latest_1 : Int → Int) (r_0 : Int) (all_0 : Int → Int) (now_0 : Int → Int) (latest_0 : Int → Int) (k7 : 0 ≤ x7 ∧ x7 ≤ 7) (k8 : 0 ≤ x8 ∧ x8 ≤ 7) (k13 : 0 ≤ x13 ∧ x13 ≤ 66297) (k15 : 459 ≤ x15 ∧ x15 ≤ 66756) (k17 : 0 ≤ x17 ∧ x17 ≤ 56) (k18 : 459 ≤ x18 ∧ x18 ≤ 66812) (k19 : 459 ≤ x19 ∧ x19 ≤ 66819) (k21 : 0 ≤ x21 ∧ x21 ≤ 255) (k22 : 1 ≤ x22 ∧ x22 ≤ 8) (d0 : x8 + 1 ≤ x22 ∧ x22 ≤ x8 + 1) (d8 : x15 + 0 ≤ x19 ∧ x19 ≤ x15 + 63) (d13 : x13 + 459 ≤ x15 ∧ x15 ≤ x13 + 459) (f15 : x19 = x18 + x8) (f16 : x18 = x15 + x17) (f17 : x17 = 8 * x7) (g19 : x13 = r_1) (f28 : (x7 + 1) ≤ all_1 ((r_1 + 2))) (fe_0_5_1 : r_0 = r_1) (fe_0_10_1 : limit_0 = limit_1) (fe_0_11_1 : pos_0 = pos_1) (fe_0_12_1 : kind_0 = kind_1) (fe_0_15_1 : from_0 = from_1) (hE_0_1_1 : ∀ j : Int, tape_0 j = tape_1 j) (hE_0_2_1 : ∀ j : Int, 0 ≤ j → (j = x19 → all_0 j = x21) ∧ (j ≠ x19 → all_0 j = all_1 j)) (hE_0_3_1 : ∀ j : Int, now_0 j = now_1 j) (hE_0_4_1 : ∀ j : Int, latest_0 j = latest_1 j) (kz_0_10 : 0 ≤ limit_0 ∧ limit_0 ≤ 2000) (kz_0_11 : 0 ≤ pos_0 ∧ pos_0 ≤ 2000) (kz_0_12 : 0 ≤ kind_0 ∧ kind_0 ≤ 4) (kz_0_15 : 0 ≤ from_0 ∧ from_0 ≤ 2000) : (x7 + 1) ≤ all_0 ((r_0 + 2)) := by
  subst fe_0_5_1
  subst fe_0_10_1
  subst fe_0_11_1
  subst fe_0_12_1
  subst fe_0_15_1
  have e_hE_0_1_1 := funext hE_0_1_1; subst e_hE_0_1_1
  have e_hE_0_3_1 := funext hE_0_3_1; subst e_hE_0_3_1
  have e_hE_0_4_1 := funext hE_0_4_1; subst e_hE_0_4_1
  first
    | omega
    | (have q1 := (hE_0_2_1 (r_0 + 2) (by omega)).2 (by omega)
       have q2 := (hE_0_2_2 (r_0 + 2) (by omega)).2 (by omega)
       omega)
    | (have q1 := (hE_0_2_1 (r_0 + 1) (by omega)).2 (by omega)
       have q2 := (hE_0_2_2 (r_0 + 1) (by omega)).2 (by omega)
       omega)
    | (have q1 := (hE_0_2_1 (r_0 + 2) (by omega)).2 (by omega)
       omega)
    | (have q1 := (hE_0_2_1 (r_0 + 1) (by omega)).2 (by omega)
       omega)
    | (have q1 := (hE_0_2_1 (r_0 + 2) (by omega)).2 (by omega)
       have q2 := (hE_0_2_2 (r_0 + 2) (by omega)).2 (by omega)
       have q3 := (hE_0_2_3 (r_0 + 2) (by omega)).1 (by omega)
       omega)
    | (have q1 := (hE_0_2_1 (r_0 + 2) (by omega)).2 (by omega)
       have q2 := (hE_0_2_2 (r_0 + 2) (by omega)).2 (by omega)
       have q3 := (hE_0_2_3 (r_0 + 2) (by omega)).2 (by omega)
       omega)
    | (have q1 := (hE_0_2_1 (r_0 + 2) (by omega)).2 (by omega)
       have q2 := (hE_0_2_2 (r_0 + 2) (by omega)).2 (by omega)
       have q3 := (hE_0_2_3 (r_0 + 2) (by omega)).1 (by omega)
       have q4 : x13 = r_0 + 2 := by omega
       rw [q4] at h34
       omega)
set_option maxHeartbeats 4000000 in
theorem vc_Mo_groupItem_at_k1_16_1 (x7 : Int) (x8 : Int) (x13 : Int) (x15 : Int) (x17 : Int) (x18 : Int) (x19 : Int) (x21 : Int) (x22 : Int) (tape_0 : Int → Int) (limit_0 : Int) (from_0 : Int) (pos_0 : Int) (kind_0 : Int) (tape_1 : Int → Int) (limit_1 : Int) (from_1 : Int) (r_1 : Int) (pos_1 : Int) (kind_1 : Int) (all_1 : Int → Int) (now_1 : Int → Int) (latest_1 : Int → Int) (r_0 : Int) (all_0 : Int → Int) (now_0 : Int → Int) (latest_0 : Int → Int) (k7 : 0 ≤ x7 ∧ x7 ≤ 7) (k8 : 0 ≤ x8 ∧ x8 ≤ 7) (k13 : 0 ≤ x13 ∧ x13 ≤ 66297) (k15 : 459 ≤ x15 ∧ x15 ≤ 66756) (k17 : 0 ≤ x17 ∧ x17 ≤ 56) (k18 : 459 ≤ x18 ∧ x18 ≤ 66812) (k19 : 459 ≤ x19 ∧ x19 ≤ 66819) (k21 : 0 ≤ x21 ∧ x21 ≤ 255) (k22 : 1 ≤ x22 ∧ x22 ≤ 8) (d0 : x8 + 1 ≤ x22 ∧ x22 ≤ x8 + 1) (d8 : x15 + 0 ≤ x19 ∧ x19 ≤ x15 + 63) (d13 : x13 + 459 ≤ x15 ∧ x15 ≤ x13 + 459) (f15 : x19 = x18 + x8) (f16 : x18 = x15 + x17) (f17 : x17 = 8 * x7) (g19 : x13 = r_1) (f30 : RWS (r_1) (all_1) (now_1) (latest_1)) (fe_0_5_1 : r_0 = r_1) (fe_0_10_1 : limit_0 = limit_1) (fe_0_11_1 : pos_0 = pos_1) (fe_0_12_1 : kind_0 = kind_1) (fe_0_15_1 : from_0 = from_1) (hE_0_1_1 : ∀ j : Int, tape_0 j = tape_1 j) (hE_0_2_1 : ∀ j : Int, 0 ≤ j → (j = x19 → all_0 j = x21) ∧ (j ≠ x19 → all_0 j = all_1 j)) (hE_0_3_1 : ∀ j : Int, now_0 j = now_1 j) (hE_0_4_1 : ∀ j : Int, latest_0 j = latest_1 j) (kz_0_10 : 0 ≤ limit_0 ∧ limit_0 ≤ 2000) (kz_0_11 : 0 ≤ pos_0 ∧ pos_0 ≤ 2000) (kz_0_12 : 0 ≤ kind_0 ∧ kind_0 ≤ 4) (kz_0_15 : 0 ≤ from_0 ∧ from_0 ≤ 2000) : RWS (r_0) (all_0) (now_0) (latest_0) := by
  subst fe_0_5_1
  subst fe_0_10_1
  subst fe_0_11_1
  subst fe_0_12_1
  subst fe_0_15_1
  have e_hE_0_1_1 := funext hE_0_1_1; subst e_hE_0_1_1
  have e_hE_0_3_1 := funext hE_0_3_1; subst e_hE_0_3_1
  have e_hE_0_4_1 := funext hE_0_4_1; subst e_hE_0_4_1
  first
    | assumption
    | (have hr := rws_r ‹RWS _ _ _ _›
       exact rws_off (rws_off (rws_off ‹RWS _ _ _ _› (by assumption) (by omega)) (by assumption) (by omega)) (by assumption) (by omega))
    | (have hr := rws_r ‹RWS _ _ _ _›
       exact rws_off ‹RWS _ _ _ _› (by assumption) (by omega))
def o_Mo_groupItem_at_k1_16 : or_T := (108, 23, [(0, (2, 0, 0, [165])), (1, (0, 0, 7, [])), (3, (0, 0, 2000, [])), (4, (2, 0, 0, [165])), (5, (0, 0, 7, [])), (7, (0, 0, 7, [])), (8, (0, 0, 7, [])), (9, (0, 1, 2000, [])), (10, (0, 0, 1999, [])), (11, (0, 1, 2000, [])), (12, (2, 0, 0, [167])), (13, (0, 0, 66297, [])), (14, (0, 459, 459, [])), (15, (0, 459, 66756, [])), (16, (0, 8, 8, [])), (17, (0, 0, 56, [])), (18, (0, 459, 66812, [])), (19, (0, 459, 66819, [])), (20, (0, 0, 1999, [])), (21, (0, 0, 255, [])), (22, (0, 1, 8, []))], [(6, [22, 8], [1]), (20, [20, 4, 21], [50, 1, 1, 1010, 1001, 4, 11, 0, 6, 4, 2, 1, 0, 0, 1, 2, 1, 10, 1, 2, 1, 2, 9, 5, 3, 1, 1, 1, 0, 0, 256]), (20, [4, 20, 21], [50, 1, 0, 10, 4, 7, 0, 3, 2, 0, 10, 1, 1, 1, 2, 1, 2, 0, -1]), (20, [4, 4], [30, 0, 1, 1, 15, -1, 1, 11]), (20, [4], [50, 3, 0, 12, 11, 15, 2, 21, 4, 7, 1, 3, 2, 0, 12, 0, 1, 0, 3, 2, 0, 11, 4, 3, 2, 0, 15, 0, 8, 3, 7, 1, 3, 2, 0, 12, 0, 0, 0, 7, 4, 3, 2, 0, 15, 0, 1, 2, 0, 11]), (20, [3, 4], [30, -1, 1, 0, 0, -1, 1, 11]), (20, [4], [50, 1, 0, 12, 1, 3, 2, 0, 12, 0, 1]), (23, [5, 7], [-1, 1, -1]), (24, [0, 4], []), (24, [1, 5], []), (100, [12, 19, 21], []), (20, [20, 4, 21], [50, 1, 1, 1010, 1001, 4, 11, 0, 6, 4, 2, 1, 0, 0, 1, 2, 1, 10, 1, 2, 1, 2, 9, 5, 3, 1, 1, 1, 0, 0, 256]), (20, [4, 20, 21], [50, 1, 0, 10, 4, 7, 0, 3, 2, 0, 10, 1, 1, 1, 2, 1, 2, 0, -1]), (1, [20, 10, 8], []), (9, [10, 4], [15]), (1, [19, 18, 8], []), (1, [18, 15, 17], []), (3, [17, 16, 7], []), (1, [15, 13, 14], []), (9, [13, 4], [5]), (9, [12, 4], [2]), (7, [8, 11], [2]), (2, [11, 9, 10], []), (9, [9, 4], [11]), (20, [4, 4], [30, 0, 1, 1, 15, -1, 1, 11]), (20, [4], [50, 3, 0, 12, 11, 15, 2, 21, 4, 7, 1, 3, 2, 0, 12, 0, 1, 0, 3, 2, 0, 11, 4, 3, 2, 0, 15, 0, 8, 3, 7, 1, 3, 2, 0, 12, 0, 0, 0, 7, 4, 3, 2, 0, 15, 0, 1, 2, 0, 11]), (20, [3, 4], [30, -1, 1, 0, 0, -1, 1, 11]), (20, [4], [50, 1, 0, 12, 1, 3, 2, 0, 12, 0, 1]), (20, [7, 4], [50, 1, 1, 1005, 1002, 0, 6, 4, 2, 1, 0, 0, 1, 3, 1, 2, 4, 3, 2, 1, 5, 0, 2]), (23, [5, 7], [-1, 1, -1]), (20, [4], [60, 1, 3, 199, 5, 2, 3, 4])], [], [], [(20, [7, 4], [50, 1, 1, 1005, 1002, 0, 6, 4, 2, 1, 0, 0, 1, 3, 1, 2, 4, 3, 2, 1, 5, 0, 2]), (20, [4], [60, 1, 3, 199, 5, 2, 3, 4])], [], [(22, 8, 1, 1), (22, 11, -4294967296, 0), (20, 8, 0, 2000), (20, 10, 0, 7), (19, 8, 459, 66812), (19, 11, -4294967296, 66811), (19, 18, 0, 7), (19, 17, 459, 66763), (19, 15, 0, 63), (19, 13, 459, 522), (18, 17, 459, 66756), (18, 15, 0, 56), (18, 13, 459, 515), (15, 13, 459, 459), (8, 11, -4294967296, -1), (11, 9, -2000, 0), (1, 5, -4294967296, 0), (5, 1, -4294967296, 0)])
theorem oo_Mo_groupItem_at_k1_16 {kA : Nat → ClassId} : or_ok PRD kA GG o_Mo_groupItem_at_k1_16 := by
  refine or_mk fun A ta ws vs hD hth hl => ?_
  intro t0 r0 t1 k1 t3 k3 t4 r4 t5 k5 t7 k7 t8 k8 t9 k9 t10 k10 t11 k11 t12 r12 t13 k13 t14 k14 t15 k15 t16 k16 t17 k17 t18 k18 t19 k19 t20 k20 t21 k21 t22 k22 d0 d1 d2 d3 d4 d5 d6 d7 d8 d9 d10 d11 d12 d13 d14 d15 d16 d17 f0 f1 f2 f3 f4 f5 f6 f7 f8 f9 ta1 w1 le1 s1 f11 f12 f13 f14 f15 f16 f17 f18 f19 f20 f21 f22 f23 f24 f25 f26 f27 f28 f29 f30
  replace f0 := shm_4 f0
  replace f1 := shm_535 f1
  replace f2 := shm_536 f2
  replace f3 := shm_1397 f3
  replace f4 := shm_1398 f4
  replace f5 := shm_1891 f5
  replace f6 := shm_1791 f6
  replace f7 := shm_211 f7
  replace f8 := shm_5 f8
  replace f9 := shm_5 f9
  have s1 : (∀ b j, w_el ws b j = if b = v_ad (n_v vs 12) ∧ j = (v_iv (n_v vs 19)).toNat then v_iv (n_v vs 21) else w_el w1 b j) ∧ ∀ b k, w_fd ws b k = w_fd w1 b k := s1.2
  replace f11 := shm_535 f11
  replace f12 := shm_536 f12
  replace f13 := shm_12 f13
  replace f14 := shm_189 f14
  replace f15 := shm_12 f15
  replace f16 := shm_12 f16
  replace f17 := shm_38 f17
  rw [show v_iv (n_v vs 16) = 8 from by omega] at f17
  replace f18 := shm_12 f18
  replace f19 := shm_109 f19
  replace f20 := shm_129 f20
  replace f21 := shm_6 f21
  replace f22 := shm_14 f22
  replace f23 := shm_117 f23
  replace f24 := shm_1397 f24
  replace f25 := shm_1398 f25
  replace f26 := shm_1891 f26
  replace f27 := shm_1791 f27
  replace f28 := shm_981 f28
  replace f29 := shm_211 f29
  replace f30 := shm_952 f30
  have q4 : n_v vs 4 = n_v vs 0 := f8.symm
  have q5 : n_v vs 5 = n_v vs 1 := f9.symm
  simp only [q4, q5] at f1 f2 f3 f4 f5 f6 f7 f11 f12 f14 f19 f20 f23 f24 f25 f26 f27 f28 f29 f30
  have ar_0_1_1 : w_ar w1 (n_v vs 0) 1 = w_ar ws (n_v vs 0) 1 := congrArg v_ad (s1.2 _ _).symm
  have cr_0_1 := fdq_46 hD hth r0
  have ar_0_2_1 : w_ar w1 (n_v vs 0) 2 = w_ar ws (n_v vs 0) 2 := congrArg v_ad (s1.2 _ _).symm
  have cr_0_2 := fdq_12 hD hth r0
  have ar_0_3_1 : w_ar w1 (n_v vs 0) 3 = w_ar ws (n_v vs 0) 3 := congrArg v_ad (s1.2 _ _).symm
  have cr_0_3 := fdq_141 hD hth r0
  have ar_0_4_1 : w_ar w1 (n_v vs 0) 4 = w_ar ws (n_v vs 0) 4 := congrArg v_ad (s1.2 _ _).symm
  have cr_0_4 := fdq_142 hD hth r0
  have ad_12 : v_ad (n_v vs 12) = w_ar ws (n_v vs 0) 2 := (congrArg v_ad f20).trans ar_0_2_1
  simp only [ar_0_1_1] at f11
  have g14 : v_iv (n_v vs 10) = w_fi w1 (n_v vs 0) 15 := congrArg v_iv f14
  have g19 : v_iv (n_v vs 13) = w_fi w1 (n_v vs 0) 5 := congrArg v_iv f19
  have g23 : v_iv (n_v vs 9) = w_fi w1 (n_v vs 0) 11 := congrArg v_iv f23
  simp only [ar_0_2_1, ar_0_3_1, ar_0_4_1] at f28 f30
  have fe_0_5_1 : w_fi ws (n_v vs 0) 5 = w_fi w1 (n_v vs 0) 5 := congrArg v_iv (s1.2 _ _)
  have fe_0_10_1 : w_fi ws (n_v vs 0) 10 = w_fi w1 (n_v vs 0) 10 := congrArg v_iv (s1.2 _ _)
  have fe_0_11_1 : w_fi ws (n_v vs 0) 11 = w_fi w1 (n_v vs 0) 11 := congrArg v_iv (s1.2 _ _)
  have fe_0_12_1 : w_fi ws (n_v vs 0) 12 = w_fi w1 (n_v vs 0) 12 := congrArg v_iv (s1.2 _ _)
  have fe_0_15_1 : w_fi ws (n_v vs 0) 15 = w_fi w1 (n_v vs 0) 15 := congrArg v_iv (s1.2 _ _)
  have hE_0_1_1 : ∀ j : Int, w_ei ws (w_ar ws (n_v vs 0) 1) j = w_ei w1 (w_ar ws (n_v vs 0) 1) j := el_kp s1.1 r12 cr_0_1 (by decide)
  have hK_0_1 := elq_6 hD hth cr_0_1
  have hE_0_2_1 : ∀ j : Int, 0 ≤ j → (j = v_iv (n_v vs 19) → w_ei ws (w_ar ws (n_v vs 0) 2) j = v_iv (n_v vs 21)) ∧ (j ≠ v_iv (n_v vs 19) → w_ei ws (w_ar ws (n_v vs 0) 2) j = w_ei w1 (w_ar ws (n_v vs 0) 2) j) := fun j hj => ⟨fun h => by unfold w_ei; rw [s1.1, if_pos ⟨ad_12.symm, by rw [h]⟩], fun h => by unfold w_ei; rw [s1.1, if_neg (fun e => h (by have := e.2; omega))]⟩
  have hE_0_3_1 : ∀ j : Int, w_ei ws (w_ar ws (n_v vs 0) 3) j = w_ei w1 (w_ar ws (n_v vs 0) 3) j := el_kp s1.1 r12 cr_0_3 (by decide)
  have hK_0_3 := elq_77 hD hth cr_0_3
  have hE_0_4_1 : ∀ j : Int, w_ei ws (w_ar ws (n_v vs 0) 4) j = w_ei w1 (w_ar ws (n_v vs 0) 4) j := el_kp s1.1 r12 cr_0_4 (by decide)
  have hK_0_4 := elq_78 hD hth cr_0_4
  have kz_0_10 := fdq_50 hD hth r0
  have kz_0_11 := fdq_273 hD hth r0
  have kz_0_12 := fdq_186 hD hth r0
  have kz_0_15 := fdq_274 hD hth r0
  first | have hJ0 : w_ei w1 (w_ar ws (n_v vs 0) 2) ((w_fi w1 (n_v vs 0) 5 + 2)) = w_ei w1 (w_ar ws (n_v vs 0) 2) ((w_fi ws (n_v vs 0) 5 + 2)) := congrArg _ (show ((w_fi w1 (n_v vs 0) 5 + 2) : Int) = (w_fi ws (n_v vs 0) 5 + 2) from by omega) | skip
  have hI1 := hE_0_1_1 (v_iv (n_v vs 20))
  first | have hI2 := (hE_0_2_1 ((w_fi ws (n_v vs 0) 5 + 2)) (by omega)).2 (by omega) | have hI2 := (hE_0_2_1 ((w_fi ws (n_v vs 0) 5 + 2)) (by omega)).1 (by omega) | skip
  have nf0 : fc_1 PRD (20, [7, 4], [50, 1, 1, 1005, 1002, 0, 6, 4, 2, 1, 0, 0, 1, 3, 1, 2, 4, 3, 2, 1, 5, 0, 2]) ws (vs) := by
    refine ⟨nf_in hl rfl, sgq_981 ?_⟩
    · show (v_iv (n_v vs 7) + 1) ≤ w_ei ws (w_ar ws (n_v vs 4) 2) ((w_fi ws (n_v vs 4) 5 + 2))
      rw [q4]
      exact vc_Mo_groupItem_at_k1_16_0 (v_iv (n_v vs 7)) (v_iv (n_v vs 8)) (v_iv (n_v vs 13)) (v_iv (n_v vs 15)) (v_iv (n_v vs 17)) (v_iv (n_v vs 18)) (v_iv (n_v vs 19)) (v_iv (n_v vs 21)) (v_iv (n_v vs 22)) (w_ei ws (w_ar ws (n_v vs 0) 1)) (w_fi ws (n_v vs 0) 10) (w_fi ws (n_v vs 0) 15) (w_fi ws (n_v vs 0) 11) (w_fi ws (n_v vs 0) 12) (w_ei w1 (w_ar ws (n_v vs 0) 1)) (w_fi w1 (n_v vs 0) 10) (w_fi w1 (n_v vs 0) 15) (w_fi w1 (n_v vs 0) 5) (w_fi w1 (n_v vs 0) 11) (w_fi w1 (n_v vs 0) 12) (w_ei w1 (w_ar ws (n_v vs 0) 2)) (w_ei w1 (w_ar ws (n_v vs 0) 3)) (w_ei w1 (w_ar ws (n_v vs 0) 4)) (w_fi ws (n_v vs 0) 5) (w_ei ws (w_ar ws (n_v vs 0) 2)) (w_ei ws (w_ar ws (n_v vs 0) 3)) (w_ei ws (w_ar ws (n_v vs 0) 4)) k7 k8 k13 k15 k17 k18 k19 k21 k22 d0 d8 d13 f15 f16 f17 g19 f28 fe_0_5_1 fe_0_10_1 fe_0_11_1 fe_0_12_1 fe_0_15_1 hE_0_1_1 hE_0_2_1 hE_0_3_1 hE_0_4_1 kz_0_10 kz_0_11 kz_0_12 kz_0_15
  have nf1 : fc_1 PRD (20, [4], [60, 1, 3, 199, 5, 2, 3, 4]) ws (vs) := by
    refine ⟨nf_in hl rfl, sgq_952 ?_⟩
    · show RWS (w_fi ws (n_v vs 4) 5) (w_ei ws (w_ar ws (n_v vs 4) 2)) (w_ei ws (w_ar ws (n_v vs 4) 3)) (w_ei ws (w_ar ws (n_v vs 4) 4))
      rw [q4]
      exact vc_Mo_groupItem_at_k1_16_1 (v_iv (n_v vs 7)) (v_iv (n_v vs 8)) (v_iv (n_v vs 13)) (v_iv (n_v vs 15)) (v_iv (n_v vs 17)) (v_iv (n_v vs 18)) (v_iv (n_v vs 19)) (v_iv (n_v vs 21)) (v_iv (n_v vs 22)) (w_ei ws (w_ar ws (n_v vs 0) 1)) (w_fi ws (n_v vs 0) 10) (w_fi ws (n_v vs 0) 15) (w_fi ws (n_v vs 0) 11) (w_fi ws (n_v vs 0) 12) (w_ei w1 (w_ar ws (n_v vs 0) 1)) (w_fi w1 (n_v vs 0) 10) (w_fi w1 (n_v vs 0) 15) (w_fi w1 (n_v vs 0) 5) (w_fi w1 (n_v vs 0) 11) (w_fi w1 (n_v vs 0) 12) (w_ei w1 (w_ar ws (n_v vs 0) 2)) (w_ei w1 (w_ar ws (n_v vs 0) 3)) (w_ei w1 (w_ar ws (n_v vs 0) 4)) (w_fi ws (n_v vs 0) 5) (w_ei ws (w_ar ws (n_v vs 0) 2)) (w_ei ws (w_ar ws (n_v vs 0) 3)) (w_ei ws (w_ar ws (n_v vs 0) 4)) k7 k8 k13 k15 k17 k18 k19 k21 k22 d0 d8 d13 f15 f16 f17 g19 f30 fe_0_5_1 fe_0_10_1 fe_0_11_1 fe_0_12_1 fe_0_15_1 hE_0_1_1 hE_0_2_1 hE_0_3_1 hE_0_4_1 kz_0_10 kz_0_11 kz_0_12 kz_0_15
  refine ⟨(fun _ h => (by cases h)), [], trivial, ?_, (fun _ h => (by cases h))⟩
  rw [List.append_nil]
  exact List.forall_mem_cons.mpr ⟨⟨show (20 : Nat) < 100 from by decide, nf0⟩, List.forall_mem_cons.mpr ⟨⟨show (20 : Nat) < 100 from by decide, nf1⟩, (fun _ h => (by cases h))⟩⟩
set_option maxHeartbeats 4000000 in
theorem vc_Mo_groupItem_at_k1_17_0 (x3 : Int) (r_0 : Int) (gx : Int) (k3 : 0 ≤ x3 ∧ x3 ≤ 2000) (ex2 : gx = x3) : 1 * gx + ((-1) * x3 + 0) ≤ 0 := by
  first
    | omega
    | (have q1 := (hE_0_2_1 (r_0 + 2) (by omega)).2 (by omega)
       have q2 := (hE_0_2_2 (r_0 + 2) (by omega)).2 (by omega)
       omega)
    | (have q1 := (hE_0_2_1 (r_0 + 1) (by omega)).2 (by omega)
       have q2 := (hE_0_2_2 (r_0 + 1) (by omega)).2 (by omega)
       omega)
    | (have q1 := (hE_0_2_1 (r_0 + 2) (by omega)).2 (by omega)
       omega)
    | (have q1 := (hE_0_2_1 (r_0 + 1) (by omega)).2 (by omega)
       omega)
    | (have q1 := (hE_0_2_1 (r_0 + 2) (by omega)).2 (by omega)
       have q2 := (hE_0_2_2 (r_0 + 2) (by omega)).2 (by omega)
       have q3 := (hE_0_2_3 (r_0 + 2) (by omega)).1 (by omega)
       omega)
    | (have q1 := (hE_0_2_1 (r_0 + 2) (by omega)).2 (by omega)
       have q2 := (hE_0_2_2 (r_0 + 2) (by omega)).2 (by omega)
       have q3 := (hE_0_2_3 (r_0 + 2) (by omega)).2 (by omega)
       omega)
    | (have q1 := (hE_0_2_1 (r_0 + 2) (by omega)).2 (by omega)
       have q2 := (hE_0_2_2 (r_0 + 2) (by omega)).2 (by omega)
       have q3 := (hE_0_2_3 (r_0 + 2) (by omega)).1 (by omega)
       have q4 : x13 = r_0 + 2 := by omega
       rw [q4] at h34
       omega)
set_option maxHeartbeats 4000000 in
theorem vc_Mo_groupItem_at_k1_17_1 (x3 : Int) (r_0 : Int) (gx : Int) (k3 : 0 ≤ x3 ∧ x3 ≤ 2000) (ex2 : gx = x3) : (-1) * gx + (1 * x3 + 0) ≤ 0 := by
  first
    | omega
    | (have q1 := (hE_0_2_1 (r_0 + 2) (by omega)).2 (by omega)
       have q2 := (hE_0_2_2 (r_0 + 2) (by omega)).2 (by omega)
       omega)
    | (have q1 := (hE_0_2_1 (r_0 + 1) (by omega)).2 (by omega)
       have q2 := (hE_0_2_2 (r_0 + 1) (by omega)).2 (by omega)
       omega)
    | (have q1 := (hE_0_2_1 (r_0 + 2) (by omega)).2 (by omega)
       omega)
    | (have q1 := (hE_0_2_1 (r_0 + 1) (by omega)).2 (by omega)
       omega)
    | (have q1 := (hE_0_2_1 (r_0 + 2) (by omega)).2 (by omega)
       have q2 := (hE_0_2_2 (r_0 + 2) (by omega)).2 (by omega)
       have q3 := (hE_0_2_3 (r_0 + 2) (by omega)).1 (by omega)
       omega)
    | (have q1 := (hE_0_2_1 (r_0 + 2) (by omega)).2 (by omega)
       have q2 := (hE_0_2_2 (r_0 + 2) (by omega)).2 (by omega)
       have q3 := (hE_0_2_3 (r_0 + 2) (by omega)).2 (by omega)
       omega)
    | (have q1 := (hE_0_2_1 (r_0 + 2) (by omega)).2 (by omega)
       have q2 := (hE_0_2_2 (r_0 + 2) (by omega)).2 (by omega)
       have q3 := (hE_0_2_3 (r_0 + 2) (by omega)).1 (by omega)
       have q4 : x13 = r_0 + 2 := by omega
       rw [q4] at h34
       omega)
set_option maxHeartbeats 4000000 in
theorem vc_Mo_groupItem_at_k1_17_2 (from_0 : Int) (pos_0 : Int) (r_0 : Int) (f2 : 1 * from_0 + ((-1) * pos_0 + 0) ≤ 0) (kz_0_11 : 0 ≤ pos_0 ∧ pos_0 ≤ 2000) (kz_0_15 : 0 ≤ from_0 ∧ from_0 ≤ 2000) : 1 * from_0 + ((-1) * pos_0 + 0) ≤ 0 := by
  first
    | omega
    | (have q1 := (hE_0_2_1 (r_0 + 2) (by omega)).2 (by omega)
       have q2 := (hE_0_2_2 (r_0 + 2) (by omega)).2 (by omega)
       omega)
    | (have q1 := (hE_0_2_1 (r_0 + 1) (by omega)).2 (by omega)
       have q2 := (hE_0_2_2 (r_0 + 1) (by omega)).2 (by omega)
       omega)
    | (have q1 := (hE_0_2_1 (r_0 + 2) (by omega)).2 (by omega)
       omega)
    | (have q1 := (hE_0_2_1 (r_0 + 1) (by omega)).2 (by omega)
       omega)
    | (have q1 := (hE_0_2_1 (r_0 + 2) (by omega)).2 (by omega)
       have q2 := (hE_0_2_2 (r_0 + 2) (by omega)).2 (by omega)
       have q3 := (hE_0_2_3 (r_0 + 2) (by omega)).1 (by omega)
       omega)
    | (have q1 := (hE_0_2_1 (r_0 + 2) (by omega)).2 (by omega)
       have q2 := (hE_0_2_2 (r_0 + 2) (by omega)).2 (by omega)
       have q3 := (hE_0_2_3 (r_0 + 2) (by omega)).2 (by omega)
       omega)
    | (have q1 := (hE_0_2_1 (r_0 + 2) (by omega)).2 (by omega)
       have q2 := (hE_0_2_2 (r_0 + 2) (by omega)).2 (by omega)
       have q3 := (hE_0_2_3 (r_0 + 2) (by omega)).1 (by omega)
       have q4 : x13 = r_0 + 2 := by omega
       rw [q4] at h34
       omega)
set_option maxHeartbeats 4000000 in
theorem vc_Mo_groupItem_at_k1_17_3 (from_0 : Int) (pos_0 : Int) (kind_0 : Int) (r_0 : Int) (f3 : ((kind_0 = 1) → (pos_0 ≤ (from_0 + 8))) ∧ ((kind_0 = 0) ∨ ((from_0 + 1) ≤ pos_0))) (kz_0_11 : 0 ≤ pos_0 ∧ pos_0 ≤ 2000) (kz_0_12 : 0 ≤ kind_0 ∧ kind_0 ≤ 4) (kz_0_15 : 0 ≤ from_0 ∧ from_0 ≤ 2000) : ((kind_0 = 1) → (pos_0 ≤ (from_0 + 8))) ∧ ((kind_0 = 0) ∨ ((from_0 + 1) ≤ pos_0)) := by
  first
    | omega
    | (have q1 := (hE_0_2_1 (r_0 + 2) (by omega)).2 (by omega)
       have q2 := (hE_0_2_2 (r_0 + 2) (by omega)).2 (by omega)
       omega)
    | (have q1 := (hE_0_2_1 (r_0 + 1) (by omega)).2 (by omega)
       have q2 := (hE_0_2_2 (r_0 + 1) (by omega)).2 (by omega)
       omega)
    | (have q1 := (hE_0_2_1 (r_0 + 2) (by omega)).2 (by omega)
       omega)
    | (have q1 := (hE_0_2_1 (r_0 + 1) (by omega)).2 (by omega)
       omega)
    | (have q1 := (hE_0_2_1 (r_0 + 2) (by omega)).2 (by omega)
       have q2 := (hE_0_2_2 (r_0 + 2) (by omega)).2 (by omega)
       have q3 := (hE_0_2_3 (r_0 + 2) (by omega)).1 (by omega)
       omega)
    | (have q1 := (hE_0_2_1 (r_0 + 2) (by omega)).2 (by omega)
       have q2 := (hE_0_2_2 (r_0 + 2) (by omega)).2 (by omega)
       have q3 := (hE_0_2_3 (r_0 + 2) (by omega)).2 (by omega)
       omega)
    | (have q1 := (hE_0_2_1 (r_0 + 2) (by omega)).2 (by omega)
       have q2 := (hE_0_2_2 (r_0 + 2) (by omega)).2 (by omega)
       have q3 := (hE_0_2_3 (r_0 + 2) (by omega)).1 (by omega)
       have q4 : x13 = r_0 + 2 := by omega
       rw [q4] at h34
       omega)
set_option maxHeartbeats 4000000 in
theorem vc_Mo_groupItem_at_k1_17_4 (x3 : Int) (pos_0 : Int) (r_0 : Int) (gx : Int) (k3 : 0 ≤ x3 ∧ x3 ≤ 2000) (f4 : 1 * x3 + ((-1) * pos_0 + 0) ≤ 0) (kz_0_11 : 0 ≤ pos_0 ∧ pos_0 ≤ 2000) (ex2 : gx = x3) : 1 * gx + ((-1) * pos_0 + 0) ≤ 0 := by
  first
    | omega
    | (have q1 := (hE_0_2_1 (r_0 + 2) (by omega)).2 (by omega)
       have q2 := (hE_0_2_2 (r_0 + 2) (by omega)).2 (by omega)
       omega)
    | (have q1 := (hE_0_2_1 (r_0 + 1) (by omega)).2 (by omega)
       have q2 := (hE_0_2_2 (r_0 + 1) (by omega)).2 (by omega)
       omega)
    | (have q1 := (hE_0_2_1 (r_0 + 2) (by omega)).2 (by omega)
       omega)
    | (have q1 := (hE_0_2_1 (r_0 + 1) (by omega)).2 (by omega)
       omega)
    | (have q1 := (hE_0_2_1 (r_0 + 2) (by omega)).2 (by omega)
       have q2 := (hE_0_2_2 (r_0 + 2) (by omega)).2 (by omega)
       have q3 := (hE_0_2_3 (r_0 + 2) (by omega)).1 (by omega)
       omega)
    | (have q1 := (hE_0_2_1 (r_0 + 2) (by omega)).2 (by omega)
       have q2 := (hE_0_2_2 (r_0 + 2) (by omega)).2 (by omega)
       have q3 := (hE_0_2_3 (r_0 + 2) (by omega)).2 (by omega)
       omega)
    | (have q1 := (hE_0_2_1 (r_0 + 2) (by omega)).2 (by omega)
       have q2 := (hE_0_2_2 (r_0 + 2) (by omega)).2 (by omega)
       have q3 := (hE_0_2_3 (r_0 + 2) (by omega)).1 (by omega)
       have q4 : x13 = r_0 + 2 := by omega
       rw [q4] at h34
       omega)
set_option maxHeartbeats 4000000 in
theorem vc_Mo_groupItem_at_k1_17_5 (x10 : Int) (fault_0 : Int) (pos_0 : Int) (kind_0 : Int) (r_0 : Int) (gx : Int) (k10 : 1 ≤ x10 ∧ x10 ≤ 5) (g1 : x10 = fault_0) (kz_0_8 : 0 ≤ fault_0 ∧ fault_0 ≤ 5) (kz_0_11 : 0 ≤ pos_0 ∧ pos_0 ≤ 2000) (kz_0_12 : 0 ≤ kind_0 ∧ kind_0 ≤ 4) : (1 ≤ fault_0) ∨ ((kind_0 = 0) ∨ ((gx + 1) ≤ pos_0)) := by
  first
    | omega
    | (have q1 := (hE_0_2_1 (r_0 + 2) (by omega)).2 (by omega)
       have q2 := (hE_0_2_2 (r_0 + 2) (by omega)).2 (by omega)
       omega)
    | (have q1 := (hE_0_2_1 (r_0 + 1) (by omega)).2 (by omega)
       have q2 := (hE_0_2_2 (r_0 + 1) (by omega)).2 (by omega)
       omega)
    | (have q1 := (hE_0_2_1 (r_0 + 2) (by omega)).2 (by omega)
       omega)
    | (have q1 := (hE_0_2_1 (r_0 + 1) (by omega)).2 (by omega)
       omega)
    | (have q1 := (hE_0_2_1 (r_0 + 2) (by omega)).2 (by omega)
       have q2 := (hE_0_2_2 (r_0 + 2) (by omega)).2 (by omega)
       have q3 := (hE_0_2_3 (r_0 + 2) (by omega)).1 (by omega)
       omega)
    | (have q1 := (hE_0_2_1 (r_0 + 2) (by omega)).2 (by omega)
       have q2 := (hE_0_2_2 (r_0 + 2) (by omega)).2 (by omega)
       have q3 := (hE_0_2_3 (r_0 + 2) (by omega)).2 (by omega)
       omega)
    | (have q1 := (hE_0_2_1 (r_0 + 2) (by omega)).2 (by omega)
       have q2 := (hE_0_2_2 (r_0 + 2) (by omega)).2 (by omega)
       have q3 := (hE_0_2_3 (r_0 + 2) (by omega)).1 (by omega)
       have q4 : x13 = r_0 + 2 := by omega
       rw [q4] at h34
       omega)
def o_Mo_groupItem_at_k1_17 : or_T := (200, 12, [(0, (2, 0, 0, [165])), (3, (0, 0, 2000, [])), (10, (0, 1, 5, []))], [(9, [10, 4], [8]), (20, [4, 4], [30, 0, 1, 1, 15, -1, 1, 11]), (20, [4], [50, 3, 0, 12, 11, 15, 2, 21, 4, 7, 1, 3, 2, 0, 12, 0, 1, 0, 3, 2, 0, 11, 4, 3, 2, 0, 15, 0, 8, 3, 7, 1, 3, 2, 0, 12, 0, 0, 0, 7, 4, 3, 2, 0, 15, 0, 1, 2, 0, 11]), (20, [3, 4], [30, 0, 1, 0, 0, -1, 1, 11]), (24, [0, 4], [])], [], [(0, 0, 2000, [])], [(23, [12, 3], [0, 1, -1]), (23, [12, 3], [0, -1, 1]), (20, [4, 4], [30, 0, 1, 1, 15, -1, 1, 11]), (20, [4], [50, 3, 0, 12, 11, 15, 2, 21, 4, 7, 1, 3, 2, 0, 12, 0, 1, 0, 3, 2, 0, 11, 4, 3, 2, 0, 15, 0, 8, 3, 7, 1, 3, 2, 0, 12, 0, 0, 0, 7, 4, 3, 2, 0, 15, 0, 1, 2, 0, 11]), (20, [12, 4], [30, 0, 1, 0, 0, -1, 1, 11]), (20, [4, 12], [50, 3, 0, 8, 12, 11, 3, 7, 0, 2, 0, 1, 2, 0, 8, 3, 7, 1, 3, 2, 0, 12, 0, 0, 0, 6, 4, 2, 1, 1, 0, 1, 2, 0, 11])], [], [])
theorem oo_Mo_groupItem_at_k1_17 {kA : Nat → ClassId} : or_ok PRD kA GG o_Mo_groupItem_at_k1_17 := by
  refine or_mk fun A ta ws vs hD hth hl => ?_
  intro t0 r0 t3 k3 t10 k10 f1 f2 f3 f4 f9
  replace f1 := shm_143 f1
  replace f2 := shm_1397 f2
  replace f3 := shm_1398 f3
  replace f4 := shm_1395 f4
  replace f9 := shm_5 f9
  have q4 : n_v vs 4 = n_v vs 0 := f9.symm
  simp only [q4] at f1 f2 f3 f4
  have g1 : v_iv (n_v vs 10) = w_fi ws (n_v vs 0) 8 := congrArg v_iv f1
  have kz_0_8 := fdq_14 hD hth r0
  have kz_0_11 := fdq_273 hD hth r0
  have kz_0_12 := fdq_186 hD hth r0
  have kz_0_15 := fdq_274 hD hth r0
  obtain ⟨x, ex, hx⟩ := iv_ex (ta := ta) (lo := 0) (hi := 2000) (z := v_iv (n_v vs 3)) (by omega) (by omega) (by omega) (by omega)
  have ex2 : v_iv (Value.int x) = v_iv (n_v vs 3) := ex
  have ex3 : 0 ≤ v_iv (Value.int x) ∧ v_iv (Value.int x) ≤ 2000 := tv_rng hx
  have e_3 : n_v (vs ++ [Value.int x]) 3 = n_v vs 3 := n_v_old (by rw [hl]; decide)
  have e_4 : n_v (vs ++ [Value.int x]) 4 = n_v vs 4 := n_v_old (by rw [hl]; decide)
  have e_12 : n_v (vs ++ [Value.int x]) 12 = Value.int x := n_v_new hl
  have nf0 : fc_1 PRD (23, [12, 3], [0, 1, -1]) ws (vs ++ [Value.int x]) := by
    refine ⟨nf_inA hl rfl, sgq_7 ?_⟩
    · show 1 * v_iv (n_v (vs ++ [Value.int x]) 12) + ((-1) * v_iv (n_v (vs ++ [Value.int x]) 3) + 0) ≤ 0
      simp only [e_3, e_12]
      exact vc_Mo_groupItem_at_k1_17_0 (v_iv (n_v vs 3)) (w_fi ws (n_v vs 0) 5) (v_iv (Value.int x)) k3 ex2
  have nf1 : fc_1 PRD (23, [12, 3], [0, -1, 1]) ws (vs ++ [Value.int x]) := by
    refine ⟨nf_inA hl rfl, sgq_22 ?_⟩
    · show (-1) * v_iv (n_v (vs ++ [Value.int x]) 12) + (1 * v_iv (n_v (vs ++ [Value.int x]) 3) + 0) ≤ 0
      simp only [e_3, e_12]
      exact vc_Mo_groupItem_at_k1_17_1 (v_iv (n_v vs 3)) (w_fi ws (n_v vs 0) 5) (v_iv (Value.int x)) k3 ex2
  have nf2 : fc_1 PRD (20, [4, 4], [30, 0, 1, 1, 15, -1, 1, 11]) ws (vs ++ [Value.int x]) := by
    refine ⟨nf_inA hl rfl, sgq_1397 ?_⟩
    · show 1 * w_fi ws (n_v (vs ++ [Value.int x]) 4) 15 + ((-1) * w_fi ws (n_v (vs ++ [Value.int x]) 4) 11 + 0) ≤ 0
      simp only [e_4, q4]
      exact vc_Mo_groupItem_at_k1_17_2 (w_fi ws (n_v vs 0) 15) (w_fi ws (n_v vs 0) 11) (w_fi ws (n_v vs 0) 5) f2 kz_0_11 kz_0_15
  have nf3 : fc_1 PRD (20, [4], [50, 3, 0, 12, 11, 15, 2, 21, 4, 7, 1, 3, 2, 0, 12, 0, 1, 0, 3, 2, 0, 11, 4, 3, 2, 0, 15, 0, 8, 3, 7, 1, 3, 2, 0, 12, 0, 0, 0, 7, 4, 3, 2, 0, 15, 0, 1, 2, 0, 11]) ws (vs ++ [Value.int x]) := by
    refine ⟨nf_inA hl rfl, sgq_1398 ?_⟩
    · show ((w_fi ws (n_v (vs ++ [Value.int x]) 4) 12 = 1) → (w_fi ws (n_v (vs ++ [Value.int x]) 4) 11 ≤ (w_fi ws (n_v (vs ++ [Value.int x]) 4) 15 + 8))) ∧ ((w_fi ws (n_v (vs ++ [Value.int x]) 4) 12 = 0) ∨ ((w_fi ws (n_v (vs ++ [Value.int x]) 4) 15 + 1) ≤ w_fi ws (n_v (vs ++ [Value.int x]) 4) 11))
      simp only [e_4, q4]
      exact vc_Mo_groupItem_at_k1_17_3 (w_fi ws (n_v vs 0) 15) (w_fi ws (n_v vs 0) 11) (w_fi ws (n_v vs 0) 12) (w_fi ws (n_v vs 0) 5) f3 kz_0_11 kz_0_12 kz_0_15
  have nf4 : fc_1 PRD (20, [12, 4], [30, 0, 1, 0, 0, -1, 1, 11]) ws (vs ++ [Value.int x]) := by
    refine ⟨nf_inA hl rfl, sgq_1395 ?_⟩
    · show 1 * v_iv (n_v (vs ++ [Value.int x]) 12) + ((-1) * w_fi ws (n_v (vs ++ [Value.int x]) 4) 11 + 0) ≤ 0
      simp only [e_4, e_12, q4]
      exact vc_Mo_groupItem_at_k1_17_4 (v_iv (n_v vs 3)) (w_fi ws (n_v vs 0) 11) (w_fi ws (n_v vs 0) 5) (v_iv (Value.int x)) k3 f4 kz_0_11 ex2
  have nf5 : fc_1 PRD (20, [4, 12], [50, 3, 0, 8, 12, 11, 3, 7, 0, 2, 0, 1, 2, 0, 8, 3, 7, 1, 3, 2, 0, 12, 0, 0, 0, 6, 4, 2, 1, 1, 0, 1, 2, 0, 11]) ws (vs ++ [Value.int x]) := by
    refine ⟨nf_inA hl rfl, sgq_1660 ?_⟩
    · show (1 ≤ w_fi ws (n_v (vs ++ [Value.int x]) 4) 8) ∨ ((w_fi ws (n_v (vs ++ [Value.int x]) 4) 12 = 0) ∨ ((v_iv (n_v (vs ++ [Value.int x]) 12) + 1) ≤ w_fi ws (n_v (vs ++ [Value.int x]) 4) 11))
      simp only [e_4, e_12, q4]
      exact vc_Mo_groupItem_at_k1_17_5 (v_iv (n_v vs 10)) (w_fi ws (n_v vs 0) 8) (w_fi ws (n_v vs 0) 11) (w_fi ws (n_v vs 0) 12) (w_fi ws (n_v vs 0) 5) (v_iv (Value.int x)) k10 g1 kz_0_8 kz_0_11 kz_0_12
  exact ⟨(fun _ h => (by cases h)), [Value.int x], ag_one hx, List.forall_mem_cons.mpr ⟨⟨show (23 : Nat) < 100 from by decide, nf0⟩, List.forall_mem_cons.mpr ⟨⟨show (23 : Nat) < 100 from by decide, nf1⟩, List.forall_mem_cons.mpr ⟨⟨show (20 : Nat) < 100 from by decide, nf2⟩, List.forall_mem_cons.mpr ⟨⟨show (20 : Nat) < 100 from by decide, nf3⟩, List.forall_mem_cons.mpr ⟨⟨show (20 : Nat) < 100 from by decide, nf4⟩, List.forall_mem_cons.mpr ⟨⟨show (20 : Nat) < 100 from by decide, nf5⟩, (fun _ h => (by cases h))⟩⟩⟩⟩⟩⟩, (fun _ h => (by cases h))⟩
set_option maxHeartbeats 4000000 in
theorem vc_Mo_groupItem_at_k1_18_0 (r_0 : Int) (from_0 : Int) (pos_0 : Int) (f7 : 1 * from_0 + ((-1) * pos_0 + 0) ≤ 0) (kz_0_11 : 0 ≤ pos_0 ∧ pos_0 ≤ 2000) (kz_0_15 : 0 ≤ from_0 ∧ from_0 ≤ 2000) : 1 * from_0 + ((-1) * pos_0 + 0) ≤ 0 := by
  first
    | omega
    | (have q1 := (hE_0_2_1 (r_0 + 2) (by omega)).2 (by omega)
       have q2 := (hE_0_2_2 (r_0 + 2) (by omega)).2 (by omega)
       omega)
    | (have q1 := (hE_0_2_1 (r_0 + 1) (by omega)).2 (by omega)
       have q2 := (hE_0_2_2 (r_0 + 1) (by omega)).2 (by omega)
       omega)
    | (have q1 := (hE_0_2_1 (r_0 + 2) (by omega)).2 (by omega)
       omega)
    | (have q1 := (hE_0_2_1 (r_0 + 1) (by omega)).2 (by omega)
       omega)
    | (have q1 := (hE_0_2_1 (r_0 + 2) (by omega)).2 (by omega)
       have q2 := (hE_0_2_2 (r_0 + 2) (by omega)).2 (by omega)
       have q3 := (hE_0_2_3 (r_0 + 2) (by omega)).1 (by omega)
       omega)
    | (have q1 := (hE_0_2_1 (r_0 + 2) (by omega)).2 (by omega)
       have q2 := (hE_0_2_2 (r_0 + 2) (by omega)).2 (by omega)
       have q3 := (hE_0_2_3 (r_0 + 2) (by omega)).2 (by omega)
       omega)
    | (have q1 := (hE_0_2_1 (r_0 + 2) (by omega)).2 (by omega)
       have q2 := (hE_0_2_2 (r_0 + 2) (by omega)).2 (by omega)
       have q3 := (hE_0_2_3 (r_0 + 2) (by omega)).1 (by omega)
       have q4 : x13 = r_0 + 2 := by omega
       rw [q4] at h34
       omega)
set_option maxHeartbeats 4000000 in
theorem vc_Mo_groupItem_at_k1_18_1 (r_0 : Int) (from_0 : Int) (pos_0 : Int) (kind_0 : Int) (f8 : ((kind_0 = 1) → (pos_0 ≤ (from_0 + 8))) ∧ ((kind_0 = 0) ∨ ((from_0 + 1) ≤ pos_0))) (kz_0_11 : 0 ≤ pos_0 ∧ pos_0 ≤ 2000) (kz_0_12 : 0 ≤ kind_0 ∧ kind_0 ≤ 4) (kz_0_15 : 0 ≤ from_0 ∧ from_0 ≤ 2000) : ((kind_0 = 1) → (pos_0 ≤ (from_0 + 8))) ∧ ((kind_0 = 0) ∨ ((from_0 + 1) ≤ pos_0)) := by
  first
    | omega
    | (have q1 := (hE_0_2_1 (r_0 + 2) (by omega)).2 (by omega)
       have q2 := (hE_0_2_2 (r_0 + 2) (by omega)).2 (by omega)
       omega)
    | (have q1 := (hE_0_2_1 (r_0 + 1) (by omega)).2 (by omega)
       have q2 := (hE_0_2_2 (r_0 + 1) (by omega)).2 (by omega)
       omega)
    | (have q1 := (hE_0_2_1 (r_0 + 2) (by omega)).2 (by omega)
       omega)
    | (have q1 := (hE_0_2_1 (r_0 + 1) (by omega)).2 (by omega)
       omega)
    | (have q1 := (hE_0_2_1 (r_0 + 2) (by omega)).2 (by omega)
       have q2 := (hE_0_2_2 (r_0 + 2) (by omega)).2 (by omega)
       have q3 := (hE_0_2_3 (r_0 + 2) (by omega)).1 (by omega)
       omega)
    | (have q1 := (hE_0_2_1 (r_0 + 2) (by omega)).2 (by omega)
       have q2 := (hE_0_2_2 (r_0 + 2) (by omega)).2 (by omega)
       have q3 := (hE_0_2_3 (r_0 + 2) (by omega)).2 (by omega)
       omega)
    | (have q1 := (hE_0_2_1 (r_0 + 2) (by omega)).2 (by omega)
       have q2 := (hE_0_2_2 (r_0 + 2) (by omega)).2 (by omega)
       have q3 := (hE_0_2_3 (r_0 + 2) (by omega)).1 (by omega)
       have q4 : x13 = r_0 + 2 := by omega
       rw [q4] at h34
       omega)
set_option maxHeartbeats 4000000 in
theorem vc_Mo_groupItem_at_k1_18_2 (x3 : Int) (x12 : Int) (r_0 : Int) (pos_0 : Int) (k3 : 0 ≤ x3 ∧ x3 ≤ 2000) (k12 : 0 ≤ x12 ∧ x12 ≤ 2000) (f0 : 1 * x12 + ((-1) * x3 + 0) ≤ 0) (f1 : (-1) * x12 + (1 * x3 + 0) ≤ 0) (f9 : 1 * x12 + ((-1) * pos_0 + 0) ≤ 0) (kz_0_11 : 0 ≤ pos_0 ∧ pos_0 ≤ 2000) : 1 * x3 + ((-1) * pos_0 + 0) ≤ 0 := by
  first
    | omega
    | (have q1 := (hE_0_2_1 (r_0 + 2) (by omega)).2 (by omega)
       have q2 := (hE_0_2_2 (r_0 + 2) (by omega)).2 (by omega)
       omega)
    | (have q1 := (hE_0_2_1 (r_0 + 1) (by omega)).2 (by omega)
       have q2 := (hE_0_2_2 (r_0 + 1) (by omega)).2 (by omega)
       omega)
    | (have q1 := (hE_0_2_1 (r_0 + 2) (by omega)).2 (by omega)
       omega)
    | (have q1 := (hE_0_2_1 (r_0 + 1) (by omega)).2 (by omega)
       omega)
    | (have q1 := (hE_0_2_1 (r_0 + 2) (by omega)).2 (by omega)
       have q2 := (hE_0_2_2 (r_0 + 2) (by omega)).2 (by omega)
       have q3 := (hE_0_2_3 (r_0 + 2) (by omega)).1 (by omega)
       omega)
    | (have q1 := (hE_0_2_1 (r_0 + 2) (by omega)).2 (by omega)
       have q2 := (hE_0_2_2 (r_0 + 2) (by omega)).2 (by omega)
       have q3 := (hE_0_2_3 (r_0 + 2) (by omega)).2 (by omega)
       omega)
    | (have q1 := (hE_0_2_1 (r_0 + 2) (by omega)).2 (by omega)
       have q2 := (hE_0_2_2 (r_0 + 2) (by omega)).2 (by omega)
       have q3 := (hE_0_2_3 (r_0 + 2) (by omega)).1 (by omega)
       have q4 : x13 = r_0 + 2 := by omega
       rw [q4] at h34
       omega)
set_option maxHeartbeats 4000000 in
theorem vc_Mo_groupItem_at_k1_18_3 (x3 : Int) (x12 : Int) (r_0 : Int) (pos_0 : Int) (fault_0 : Int) (k3 : 0 ≤ x3 ∧ x3 ≤ 2000) (k12 : 0 ≤ x12 ∧ x12 ≤ 2000) (f0 : 1 * x12 + ((-1) * x3 + 0) ≤ 0) (f1 : (-1) * x12 + (1 * x3 + 0) ≤ 0) (f9 : 1 * x12 + ((-1) * pos_0 + 0) ≤ 0) (f10 : (1 ≤ fault_0) ∨ ((x12 + 1) ≤ pos_0)) (kz_0_8 : 0 ≤ fault_0 ∧ fault_0 ≤ 5) (kz_0_11 : 0 ≤ pos_0 ∧ pos_0 ≤ 2000) : (1 ≤ fault_0) ∨ ((x3 + 1) ≤ pos_0) := by
  first
    | omega
    | (have q1 := (hE_0_2_1 (r_0 + 2) (by omega)).2 (by omega)
       have q2 := (hE_0_2_2 (r_0 + 2) (by omega)).2 (by omega)
       omega)
    | (have q1 := (hE_0_2_1 (r_0 + 1) (by omega)).2 (by omega)
       have q2 := (hE_0_2_2 (r_0 + 1) (by omega)).2 (by omega)
       omega)
    | (have q1 := (hE_0_2_1 (r_0 + 2) (by omega)).2 (by omega)
       omega)
    | (have q1 := (hE_0_2_1 (r_0 + 1) (by omega)).2 (by omega)
       omega)
    | (have q1 := (hE_0_2_1 (r_0 + 2) (by omega)).2 (by omega)
       have q2 := (hE_0_2_2 (r_0 + 2) (by omega)).2 (by omega)
       have q3 := (hE_0_2_3 (r_0 + 2) (by omega)).1 (by omega)
       omega)
    | (have q1 := (hE_0_2_1 (r_0 + 2) (by omega)).2 (by omega)
       have q2 := (hE_0_2_2 (r_0 + 2) (by omega)).2 (by omega)
       have q3 := (hE_0_2_3 (r_0 + 2) (by omega)).2 (by omega)
       omega)
    | (have q1 := (hE_0_2_1 (r_0 + 2) (by omega)).2 (by omega)
       have q2 := (hE_0_2_2 (r_0 + 2) (by omega)).2 (by omega)
       have q3 := (hE_0_2_3 (r_0 + 2) (by omega)).1 (by omega)
       have q4 : x13 = r_0 + 2 := by omega
       rw [q4] at h34
       omega)
set_option maxHeartbeats 4000000 in
theorem vc_Mo_groupItem_at_k1_18_4 (x1 : Int) (x5 : Int) (x7 : Int) (all_0 : Int → Int) (r_0 : Int) (k1 : 0 ≤ x1 ∧ x1 ≤ 7) (k5 : 0 ≤ x5 ∧ x5 ≤ 7) (k7 : 0 ≤ x7 ∧ x7 ≤ 7) (d0 : x5 + (-4294967296) ≤ x1 ∧ x1 ≤ x5 + 0) (d1 : x1 + (-4294967296) ≤ x5 ∧ x5 ≤ x1 + 0) (f2 : (x7 + 1) ≤ all_0 ((r_0 + 2))) (f3 : 1 * x1 + ((-1) * x7 + 0) ≤ (-1)) : (x1 + 1) ≤ all_0 ((r_0 + 2)) := by
  first
    | omega
    | (have q1 := (hE_0_2_1 (r_0 + 2) (by omega)).2 (by omega)
       have q2 := (hE_0_2_2 (r_0 + 2) (by omega)).2 (by omega)
       omega)
    | (have q1 := (hE_0_2_1 (r_0 + 1) (by omega)).2 (by omega)
       have q2 := (hE_0_2_2 (r_0 + 1) (by omega)).2 (by omega)
       omega)
    | (have q1 := (hE_0_2_1 (r_0 + 2) (by omega)).2 (by omega)
       omega)
    | (have q1 := (hE_0_2_1 (r_0 + 1) (by omega)).2 (by omega)
       omega)
    | (have q1 := (hE_0_2_1 (r_0 + 2) (by omega)).2 (by omega)
       have q2 := (hE_0_2_2 (r_0 + 2) (by omega)).2 (by omega)
       have q3 := (hE_0_2_3 (r_0 + 2) (by omega)).1 (by omega)
       omega)
    | (have q1 := (hE_0_2_1 (r_0 + 2) (by omega)).2 (by omega)
       have q2 := (hE_0_2_2 (r_0 + 2) (by omega)).2 (by omega)
       have q3 := (hE_0_2_3 (r_0 + 2) (by omega)).2 (by omega)
       omega)
    | (have q1 := (hE_0_2_1 (r_0 + 2) (by omega)).2 (by omega)
       have q2 := (hE_0_2_2 (r_0 + 2) (by omega)).2 (by omega)
       have q3 := (hE_0_2_3 (r_0 + 2) (by omega)).1 (by omega)
       have q4 : x13 = r_0 + 2 := by omega
       rw [q4] at h34
       omega)
set_option maxHeartbeats 4000000 in
theorem vc_Mo_groupItem_at_k1_18_5 (all_0 : Int → Int) (r_0 : Int) (now_0 : Int → Int) (latest_0 : Int → Int) (f4 : RWS (r_0) (all_0) (now_0) (latest_0)) : RWS (r_0) (all_0) (now_0) (latest_0) := by
  first
    | assumption
def o_Mo_groupItem_at_k1_18 : or_T := (203, 13, [(0, (2, 0, 0, [165])), (1, (0, 0, 7, [])), (3, (0, 0, 2000, [])), (5, (0, 0, 7, [])), (7, (0, 0, 7, [])), (12, (0, 0, 2000, []))], [(23, [12, 3], [0, 1, -1]), (23, [12, 3], [0, -1, 1]), (20, [7, 4], [50, 1, 1, 1005, 1002, 0, 6, 4, 2, 1, 0, 0, 1, 3, 1, 2, 4, 3, 2, 1, 5, 0, 2]), (23, [5, 7], [-1, 1, -1]), (20, [4], [60, 1, 3, 199, 5, 2, 3, 4]), (24, [0, 4], []), (24, [1, 5], []), (20, [4, 4], [30, 0, 1, 1, 15, -1, 1, 11]), (20, [4], [50, 3, 0, 12, 11, 15, 2, 21, 4, 7, 1, 3, 2, 0, 12, 0, 1, 0, 3, 2, 0, 11, 4, 3, 2, 0, 15, 0, 8, 3, 7, 1, 3, 2, 0, 12, 0, 0, 0, 7, 4, 3, 2, 0, 15, 0, 1, 2, 0, 11]), (20, [12, 4], [30, 0, 1, 0, 0, -1, 1, 11]), (20, [4, 12], [50, 2, 0, 8, 11, 3, 7, 0, 2, 0, 1, 2, 0, 8, 0, 6, 4, 2, 1, 1, 0, 1, 2, 0, 11])], [], [], [(20, [0, 0], [30, 0, 1, 1, 15, -1, 1, 11]), (20, [0], [50, 3, 0, 12, 11, 15, 2, 21, 4, 7, 1, 3, 2, 0, 12, 0, 1, 0, 3, 2, 0, 11, 4, 3, 2, 0, 15, 0, 8, 3, 7, 1, 3, 2, 0, 12, 0, 0, 0, 7, 4, 3, 2, 0, 15, 0, 1, 2, 0, 11]), (20, [3, 0], [30, 0, 1, 0, 0, -1, 1, 11]), (20, [0, 3], [50, 2, 0, 8, 11, 3, 7, 0, 2, 0, 1, 2, 0, 8, 0, 6, 4, 2, 1, 1, 0, 1, 2, 0, 11]), (20, [1, 0], [50, 1, 1, 1005, 1002, 0, 6, 4, 2, 1, 0, 0, 1, 3, 1, 2, 4, 3, 2, 1, 5, 0, 2]), (20, [0], [60, 1, 3, 199, 5, 2, 3, 4])], [], [(1, 5, -4294967296, 0), (5, 1, -4294967296, 0)])
theorem oo_Mo_groupItem_at_k1_18 {kA : Nat → ClassId} : or_ok PRD kA GG o_Mo_groupItem_at_k1_18 := by
  refine or_mk fun A ta ws vs hD hth hl => ?_
  intro t0 r0 t1 k1 t3 k3 t5 k5 t7 k7 t12 k12 d0 d1 f0 f1 f2 f3 f4 f5 f6 f7 f8 f9 f10
  replace f2 := shm_981 f2
  replace f3 := shm_211 f3
  replace f4 := shm_952 f4
  replace f5 := shm_5 f5
  replace f6 := shm_5 f6
  replace f7 := shm_1397 f7
  replace f8 := shm_1398 f8
  replace f9 := shm_1395 f9
  replace f10 := shm_1659 f10
  have q4 : n_v vs 4 = n_v vs 0 := f5.symm
  have q5 : n_v vs 5 = n_v vs 1 := f6.symm
  simp only [q4, q5] at f2 f3 f4 f7 f8 f9 f10
  have kz_0_8 := fdq_14 hD hth r0
  have kz_0_11 := fdq_273 hD hth r0
  have kz_0_12 := fdq_186 hD hth r0
  have kz_0_15 := fdq_274 hD hth r0
  have nf0 : fc_1 PRD (20, [0, 0], [30, 0, 1, 1, 15, -1, 1, 11]) ws (vs) := ⟨nf_in hl rfl, sgq_1397 (vc_Mo_groupItem_at_k1_18_0 (w_fi ws (n_v vs 0) 5) (w_fi ws (n_v vs 0) 15) (w_fi ws (n_v vs 0) 11) f7 kz_0_11 kz_0_15)⟩
  have nf1 : fc_1 PRD (20, [0], [50, 3, 0, 12, 11, 15, 2, 21, 4, 7, 1, 3, 2, 0, 12, 0, 1, 0, 3, 2, 0, 11, 4, 3, 2, 0, 15, 0, 8, 3, 7, 1, 3, 2, 0, 12, 0, 0, 0, 7, 4, 3, 2, 0, 15, 0, 1, 2, 0, 11]) ws (vs) := ⟨nf_in hl rfl, sgq_1398 (vc_Mo_groupItem_at_k1_18_1 (w_fi ws (n_v vs 0) 5) (w_fi ws (n_v vs 0) 15) (w_fi ws (n_v vs 0) 11) (w_fi ws (n_v vs 0) 12) f8 kz_0_11 kz_0_12 kz_0_15)⟩
  have nf2 : fc_1 PRD (20, [3, 0], [30, 0, 1, 0, 0, -1, 1, 11]) ws (vs) := ⟨nf_in hl rfl, sgq_1395 (vc_Mo_groupItem_at_k1_18_2 (v_iv (n_v vs 3)) (v_iv (n_v vs 12)) (w_fi ws (n_v vs 0) 5) (w_fi ws (n_v vs 0) 11) k3 k12 (shm_7 f0) (shm_22 f1) f9 kz_0_11)⟩
  have nf3 : fc_1 PRD (20, [0, 3], [50, 2, 0, 8, 11, 3, 7, 0, 2, 0, 1, 2, 0, 8, 0, 6, 4, 2, 1, 1, 0, 1, 2, 0, 11]) ws (vs) := ⟨nf_in hl rfl, sgq_1659 (vc_Mo_groupItem_at_k1_18_3 (v_iv (n_v vs 3)) (v_iv (n_v vs 12)) (w_fi ws (n_v vs 0) 5) (w_fi ws (n_v vs 0) 11) (w_fi ws (n_v vs 0) 8) k3 k12 (shm_7 f0) (shm_22 f1) f9 f10 kz_0_8 kz_0_11)⟩
  have nf4 : fc_1 PRD (20, [1, 0], [50, 1, 1, 1005, 1002, 0, 6, 4, 2, 1, 0, 0, 1, 3, 1, 2, 4, 3, 2, 1, 5, 0, 2]) ws (vs) := ⟨nf_in hl rfl, sgq_981 (vc_Mo_groupItem_at_k1_18_4 (v_iv (n_v vs 1)) (v_iv (n_v vs 5)) (v_iv (n_v vs 7)) (w_ei ws (w_ar ws (n_v vs 0) 2)) (w_fi ws (n_v vs 0) 5) k1 k5 k7 d0 d1 f2 f3)⟩
  have nf5 : fc_1 PRD (20, [0], [60, 1, 3, 199, 5, 2, 3, 4]) ws (vs) := ⟨nf_in hl rfl, sgq_952 (vc_Mo_groupItem_at_k1_18_5 (w_ei ws (w_ar ws (n_v vs 0) 2)) (w_fi ws (n_v vs 0) 5) (w_ei ws (w_ar ws (n_v vs 0) 3)) (w_ei ws (w_ar ws (n_v vs 0) 4)) f4)⟩
  refine ⟨(fun _ h => (by cases h)), [], trivial, ?_, (fun _ h => (by cases h))⟩
  rw [List.append_nil]
  exact List.forall_mem_cons.mpr ⟨⟨show (20 : Nat) < 100 from by decide, nf0⟩, List.forall_mem_cons.mpr ⟨⟨show (20 : Nat) < 100 from by decide, nf1⟩, List.forall_mem_cons.mpr ⟨⟨show (20 : Nat) < 100 from by decide, nf2⟩, List.forall_mem_cons.mpr ⟨⟨show (20 : Nat) < 100 from by decide, nf3⟩, List.forall_mem_cons.mpr ⟨⟨show (20 : Nat) < 100 from by decide, nf4⟩, List.forall_mem_cons.mpr ⟨⟨show (20 : Nat) < 100 from by decide, nf5⟩, (fun _ h => (by cases h))⟩⟩⟩⟩⟩⟩

set_option maxHeartbeats 4000000 in
theorem vc_Mo_groupItem_at_k1_19_0 (x13 : Int) (from_0 : Int) (pos_0 : Int) (r_0 : Int) (f5 : 1 * from_0 + ((-1) * pos_0 + 0) ≤ 0) (kz_0_11 : 0 ≤ pos_0 ∧ pos_0 ≤ 2000) (kz_0_15 : 0 ≤ from_0 ∧ from_0 ≤ 2000) : 1 * from_0 + ((-1) * pos_0 + 0) ≤ 0 := by
  first
    | omega
    | (have q1 := (hE_0_2_1 (r_0 + 2) (by omega)).2 (by omega)
       have q2 := (hE_0_2_2 (r_0 + 2) (by omega)).2 (by omega)
       omega)
    | (have q1 := (hE_0_2_1 (r_0 + 1) (by omega)).2 (by omega)
       have q2 := (hE_0_2_2 (r_0 + 1) (by omega)).2 (by omega)
       omega)
    | (have q1 := (hE_0_2_1 (r_0 + 2) (by omega)).2 (by omega)
       omega)
    | (have q1 := (hE_0_2_1 (r_0 + 1) (by omega)).2 (by omega)
       omega)
    | (have q1 := (hE_0_2_1 (r_0 + 2) (by omega)).2 (by omega)
       have q2 := (hE_0_2_2 (r_0 + 2) (by omega)).2 (by omega)
       have q3 := (hE_0_2_3 (r_0 + 2) (by omega)).1 (by omega)
       omega)
    | (have q1 := (hE_0_2_1 (r_0 + 2) (by omega)).2 (by omega)
       have q2 := (hE_0_2_2 (r_0 + 2) (by omega)).2 (by omega)
       have q3 := (hE_0_2_3 (r_0 + 2) (by omega)).2 (by omega)
       omega)
    | (have q1 := (hE_0_2_1 (r_0 + 2) (by omega)).2 (by omega)
       have q2 := (hE_0_2_2 (r_0 + 2) (by omega)).2 (by omega)
       have q3 := (hE_0_2_3 (r_0 + 2) (by omega)).1 (by omega)
       have q4 : x13 = r_0 + 2 := by omega
       rw [q4] at h34
       omega)
set_option maxHeartbeats 4000000 in
theorem vc_Mo_groupItem_at_k1_19_1 (x13 : Int) (kind_0 : Int) (from_0 : Int) (pos_0 : Int) (r_0 : Int) (f6 : ((kind_0 = 1) → (pos_0 ≤ (from_0 + 8))) ∧ ((kind_0 = 0) ∨ ((from_0 + 1) ≤ pos_0))) (kz_0_11 : 0 ≤ pos_0 ∧ pos_0 ≤ 2000) (kz_0_12 : 0 ≤ kind_0 ∧ kind_0 ≤ 4) (kz_0_15 : 0 ≤ from_0 ∧ from_0 ≤ 2000) : ((kind_0 = 1) → (pos_0 ≤ (from_0 + 8))) ∧ ((kind_0 = 0) ∨ ((from_0 + 1) ≤ pos_0)) := by
  first
    | omega
    | (have q1 := (hE_0_2_1 (r_0 + 2) (by omega)).2 (by omega)
       have q2 := (hE_0_2_2 (r_0 + 2) (by omega)).2 (by omega)
       omega)
    | (have q1 := (hE_0_2_1 (r_0 + 1) (by omega)).2 (by omega)
       have q2 := (hE_0_2_2 (r_0 + 1) (by omega)).2 (by omega)
       omega)
    | (have q1 := (hE_0_2_1 (r_0 + 2) (by omega)).2 (by omega)
       omega)
    | (have q1 := (hE_0_2_1 (r_0 + 1) (by omega)).2 (by omega)
       omega)
    | (have q1 := (hE_0_2_1 (r_0 + 2) (by omega)).2 (by omega)
       have q2 := (hE_0_2_2 (r_0 + 2) (by omega)).2 (by omega)
       have q3 := (hE_0_2_3 (r_0 + 2) (by omega)).1 (by omega)
       omega)
    | (have q1 := (hE_0_2_1 (r_0 + 2) (by omega)).2 (by omega)
       have q2 := (hE_0_2_2 (r_0 + 2) (by omega)).2 (by omega)
       have q3 := (hE_0_2_3 (r_0 + 2) (by omega)).2 (by omega)
       omega)
    | (have q1 := (hE_0_2_1 (r_0 + 2) (by omega)).2 (by omega)
       have q2 := (hE_0_2_2 (r_0 + 2) (by omega)).2 (by omega)
       have q3 := (hE_0_2_3 (r_0 + 2) (by omega)).1 (by omega)
       have q4 : x13 = r_0 + 2 := by omega
       rw [q4] at h34
       omega)
set_option maxHeartbeats 4000000 in
theorem vc_Mo_groupItem_at_k1_19_2 (x13 : Int) (pos_0 : Int) (r_0 : Int) (gx : Int) (kz_0_11 : 0 ≤ pos_0 ∧ pos_0 ≤ 2000) (ex2 : gx = pos_0) : 1 * gx + ((-1) * pos_0 + 0) ≤ 0 := by
  first
    | omega
    | (have q1 := (hE_0_2_1 (r_0 + 2) (by omega)).2 (by omega)
       have q2 := (hE_0_2_2 (r_0 + 2) (by omega)).2 (by omega)
       omega)
    | (have q1 := (hE_0_2_1 (r_0 + 1) (by omega)).2 (by omega)
       have q2 := (hE_0_2_2 (r_0 + 1) (by omega)).2 (by omega)
       omega)
    | (have q1 := (hE_0_2_1 (r_0 + 2) (by omega)).2 (by omega)
       omega)
    | (have q1 := (hE_0_2_1 (r_0 + 1) (by omega)).2 (by omega)
       omega)
    | (have q1 := (hE_0_2_1 (r_0 + 2) (by omega)).2 (by omega)
       have q2 := (hE_0_2_2 (r_0 + 2) (by omega)).2 (by omega)
       have q3 := (hE_0_2_3 (r_0 + 2) (by omega)).1 (by omega)
       omega)
    | (have q1 := (hE_0_2_1 (r_0 + 2) (by omega)).2 (by omega)
       have q2 := (hE_0_2_2 (r_0 + 2) (by omega)).2 (by omega)
       have q3 := (hE_0_2_3 (r_0 + 2) (by omega)).2 (by omega)
       omega)
    | (have q1 := (hE_0_2_1 (r_0 + 2) (by omega)).2 (by omega)
       have q2 := (hE_0_2_2 (r_0 + 2) (by omega)).2 (by omega)
       have q3 := (hE_0_2_3 (r_0 + 2) (by omega)).1 (by omega)
       have q4 : x13 = r_0 + 2 := by omega
       rw [q4] at h34
       omega)
set_option maxHeartbeats 4000000 in
theorem vc_Mo_groupItem_at_k1_19_3 (x7 : Int) (x13 : Int) (all_0 : Int → Int) (r_0 : Int) (k7 : 0 ≤ x7 ∧ x7 ≤ 7) (f9 : (x7 + 1) ≤ all_0 ((r_0 + 2))) : (x7 + 1) ≤ all_0 ((r_0 + 2)) := by
  first
    | omega
    | (have q1 := (hE_0_2_1 (r_0 + 2) (by omega)).2 (by omega)
       have q2 := (hE_0_2_2 (r_0 + 2) (by omega)).2 (by omega)
       omega)
    | (have q1 := (hE_0_2_1 (r_0 + 1) (by omega)).2 (by omega)
       have q2 := (hE_0_2_2 (r_0 + 1) (by omega)).2 (by omega)
       omega)
    | (have q1 := (hE_0_2_1 (r_0 + 2) (by omega)).2 (by omega)
       omega)
    | (have q1 := (hE_0_2_1 (r_0 + 1) (by omega)).2 (by omega)
       omega)
    | (have q1 := (hE_0_2_1 (r_0 + 2) (by omega)).2 (by omega)
       have q2 := (hE_0_2_2 (r_0 + 2) (by omega)).2 (by omega)
       have q3 := (hE_0_2_3 (r_0 + 2) (by omega)).1 (by omega)
       omega)
    | (have q1 := (hE_0_2_1 (r_0 + 2) (by omega)).2 (by omega)
       have q2 := (hE_0_2_2 (r_0 + 2) (by omega)).2 (by omega)
       have q3 := (hE_0_2_3 (r_0 + 2) (by omega)).2 (by omega)
       omega)
    | (have q1 := (hE_0_2_1 (r_0 + 2) (by omega)).2 (by omega)
       have q2 := (hE_0_2_2 (r_0 + 2) (by omega)).2 (by omega)
       have q3 := (hE_0_2_3 (r_0 + 2) (by omega)).1 (by omega)
       have q4 : x13 = r_0 + 2 := by omega
       rw [q4] at h34
       omega)
set_option maxHeartbeats 4000000 in
theorem vc_Mo_groupItem_at_k1_19_4 (all_0 : Int → Int) (r_0 : Int) (now_0 : Int → Int) (latest_0 : Int → Int) (f11 : RWS (r_0) (all_0) (now_0) (latest_0)) : RWS (r_0) (all_0) (now_0) (latest_0) := by
  first
    | assumption
set_option maxHeartbeats 4000000 in
theorem vc_Mo_groupItem_at_k1_19_5 (x3 : Int) (x10 : Int) (x13 : Int) (fault_0 : Int) (pos_0 : Int) (r_0 : Int) (gx : Int) (k3 : 0 ≤ x3 ∧ x3 ≤ 2000) (k10 : 0 ≤ x10 ∧ x10 ≤ 0) (g4 : x10 = fault_0) (f7 : 1 * x3 + ((-1) * pos_0 + 0) ≤ 0) (f8 : (1 ≤ fault_0) ∨ ((x3 + 1) ≤ pos_0)) (kz_0_8 : 0 ≤ fault_0 ∧ fault_0 ≤ 5) (kz_0_11 : 0 ≤ pos_0 ∧ pos_0 ≤ 2000) (ex2 : gx = pos_0) : 1 * x3 + ((-1) * gx + 0) ≤ (-1) := by
  first
    | omega
    | (have q1 := (hE_0_2_1 (r_0 + 2) (by omega)).2 (by omega)
       have q2 := (hE_0_2_2 (r_0 + 2) (by omega)).2 (by omega)
       omega)
    | (have q1 := (hE_0_2_1 (r_0 + 1) (by omega)).2 (by omega)
       have q2 := (hE_0_2_2 (r_0 + 1) (by omega)).2 (by omega)
       omega)
    | (have q1 := (hE_0_2_1 (r_0 + 2) (by omega)).2 (by omega)
       omega)
    | (have q1 := (hE_0_2_1 (r_0 + 1) (by omega)).2 (by omega)
       omega)
    | (have q1 := (hE_0_2_1 (r_0 + 2) (by omega)).2 (by omega)
       have q2 := (hE_0_2_2 (r_0 + 2) (by omega)).2 (by omega)
       have q3 := (hE_0_2_3 (r_0 + 2) (by omega)).1 (by omega)
       omega)
    | (have q1 := (hE_0_2_1 (r_0 + 2) (by omega)).2 (by omega)
       have q2 := (hE_0_2_2 (r_0 + 2) (by omega)).2 (by omega)
       have q3 := (hE_0_2_3 (r_0 + 2) (by omega)).2 (by omega)
       omega)
    | (have q1 := (hE_0_2_1 (r_0 + 2) (by omega)).2 (by omega)
       have q2 := (hE_0_2_2 (r_0 + 2) (by omega)).2 (by omega)
       have q3 := (hE_0_2_3 (r_0 + 2) (by omega)).1 (by omega)
       have q4 : x13 = r_0 + 2 := by omega
       rw [q4] at h34
       omega)
set_option maxHeartbeats 4000000 in
theorem vc_Mo_groupItem_at_k1_19_6 (x9 : Int) (x10 : Int) (x13 : Int) (fault_0 : Int) (pos_0 : Int) (r_0 : Int) (gx : Int) (k9 : 0 ≤ x9 ∧ x9 ≤ 2005) (k10 : 0 ≤ x10 ∧ x10 ≤ 0) (g4 : x10 = fault_0) (f14 : 1 * x9 + (1 * pos_0 + (1 * fault_0 + 0)) ≤ 2005) (f15 : (-1) * x9 + ((-1) * pos_0 + ((-1) * fault_0 + 0)) ≤ (-2005)) (kz_0_8 : 0 ≤ fault_0 ∧ fault_0 ≤ 5) (kz_0_11 : 0 ≤ pos_0 ∧ pos_0 ≤ 2000) (ex2 : gx = pos_0) : (-1) * x9 + ((-1) * gx + 0) ≤ (-2005) := by
  first
    | omega
    | (have q1 := (hE_0_2_1 (r_0 + 2) (by omega)).2 (by omega)
       have q2 := (hE_0_2_2 (r_0 + 2) (by omega)).2 (by omega)
       omega)
    | (have q1 := (hE_0_2_1 (r_0 + 1) (by omega)).2 (by omega)
       have q2 := (hE_0_2_2 (r_0 + 1) (by omega)).2 (by omega)
       omega)
    | (have q1 := (hE_0_2_1 (r_0 + 2) (by omega)).2 (by omega)
       omega)
    | (have q1 := (hE_0_2_1 (r_0 + 1) (by omega)).2 (by omega)
       omega)
    | (have q1 := (hE_0_2_1 (r_0 + 2) (by omega)).2 (by omega)
       have q2 := (hE_0_2_2 (r_0 + 2) (by omega)).2 (by omega)
       have q3 := (hE_0_2_3 (r_0 + 2) (by omega)).1 (by omega)
       omega)
    | (have q1 := (hE_0_2_1 (r_0 + 2) (by omega)).2 (by omega)
       have q2 := (hE_0_2_2 (r_0 + 2) (by omega)).2 (by omega)
       have q3 := (hE_0_2_3 (r_0 + 2) (by omega)).2 (by omega)
       omega)
    | (have q1 := (hE_0_2_1 (r_0 + 2) (by omega)).2 (by omega)
       have q2 := (hE_0_2_2 (r_0 + 2) (by omega)).2 (by omega)
       have q3 := (hE_0_2_3 (r_0 + 2) (by omega)).1 (by omega)
       have q4 : x13 = r_0 + 2 := by omega
       rw [q4] at h34
       omega)
def o_Mo_groupItem_at_k1_19 : or_T := (191, 15, [(0, (2, 0, 0, [165])), (3, (0, 0, 2000, [])), (7, (0, 0, 7, [])), (9, (0, 0, 2005, [])), (10, (0, 0, 0, []))], [(9, [10, 4], [8]), (20, [4, 4], [30, 0, 1, 1, 15, -1, 1, 11]), (20, [4], [50, 3, 0, 12, 11, 15, 2, 21, 4, 7, 1, 3, 2, 0, 12, 0, 1, 0, 3, 2, 0, 11, 4, 3, 2, 0, 15, 0, 8, 3, 7, 1, 3, 2, 0, 12, 0, 0, 0, 7, 4, 3, 2, 0, 15, 0, 1, 2, 0, 11]), (20, [3, 4], [30, 0, 1, 0, 0, -1, 1, 11]), (20, [4, 3], [50, 2, 0, 8, 11, 3, 7, 0, 2, 0, 1, 2, 0, 8, 0, 6, 4, 2, 1, 1, 0, 1, 2, 0, 11]), (20, [7, 4], [50, 1, 1, 1005, 1002, 0, 6, 4, 2, 1, 0, 0, 1, 3, 1, 2, 4, 3, 2, 1, 5, 0, 2]), (20, [4], [60, 1, 3, 199, 5, 2, 3, 4]), (24, [0, 4], []), (20, [9, 4, 4], [30, 2005, 1, 0, 0, 1, 1, 11, 1, 1, 8]), (20, [9, 4, 4], [30, -2005, -1, 0, 0, -1, 1, 11, -1, 1, 8])], [], [(0, 0, 2000, [])], [(20, [4, 4], [30, 0, 1, 1, 15, -1, 1, 11]), (20, [4], [50, 3, 0, 12, 11, 15, 2, 21, 4, 7, 1, 3, 2, 0, 12, 0, 1, 0, 3, 2, 0, 11, 4, 3, 2, 0, 15, 0, 8, 3, 7, 1, 3, 2, 0, 12, 0, 0, 0, 7, 4, 3, 2, 0, 15, 0, 1, 2, 0, 11]), (20, [15, 4], [30, 0, 1, 0, 0, -1, 1, 11]), (20, [7, 4], [50, 1, 1, 1005, 1002, 0, 6, 4, 2, 1, 0, 0, 1, 3, 1, 2, 4, 3, 2, 1, 5, 0, 2]), (20, [4], [60, 1, 3, 199, 5, 2, 3, 4]), (23, [3, 15], [-1, 1, -1]), (23, [9, 15], [-2005, -1, -1])], [], [])
theorem oo_Mo_groupItem_at_k1_19 {kA : Nat → ClassId} : or_ok PRD kA GG o_Mo_groupItem_at_k1_19 := by
  refine or_mk fun A ta ws vs hD hth hl => ?_
  intro t0 r0 t3 k3 t7 k7 t9 k9 t10 k10 f4 f5 f6 f7 f8 f9 f11 f12 f14 f15
  replace f4 := shm_143 f4
  replace f5 := shm_1397 f5
  replace f6 := shm_1398 f6
  replace f7 := shm_1395 f7
  replace f8 := shm_1659 f8
  replace f9 := shm_981 f9
  replace f11 := shm_952 f11
  replace f12 := shm_5 f12
  replace f14 := shm_2010 f14
  replace f15 := shm_2011 f15
  have q4 : n_v vs 4 = n_v vs 0 := f12.symm
  simp only [q4] at f4 f5 f6 f7 f8 f9 f11 f14 f15
  have g4 : v_iv (n_v vs 10) = w_fi ws (n_v vs 0) 8 := congrArg v_iv f4
  have kz_0_8 := fdq_14 hD hth r0
  have kz_0_11 := fdq_273 hD hth r0
  have kz_0_12 := fdq_186 hD hth r0
  have kz_0_15 := fdq_274 hD hth r0
  obtain ⟨x, ex, hx⟩ := iv_ex (ta := ta) (lo := 0) (hi := 2000) (z := w_fi ws (n_v vs 0) 11) (by omega) (by omega) (by omega) (by omega)
  have ex2 : v_iv (Value.int x) = w_fi ws (n_v vs 0) 11 := ex
  have ex3 : 0 ≤ v_iv (Value.int x) ∧ v_iv (Value.int x) ≤ 2000 := tv_rng hx
  have e_3 : n_v (vs ++ [Value.int x]) 3 = n_v vs 3 := n_v_old (by rw [hl]; decide)
  have e_4 : n_v (vs ++ [Value.int x]) 4 = n_v vs 4 := n_v_old (by rw [hl]; decide)
  have e_7 : n_v (vs ++ [Value.int x]) 7 = n_v vs 7 := n_v_old (by rw [hl]; decide)
  have e_9 : n_v (vs ++ [Value.int x]) 9 = n_v vs 9 := n_v_old (by rw [hl]; decide)
  have e_15 : n_v (vs ++ [Value.int x]) 15 = Value.int x := n_v_new hl
  have nf0 : fc_1 PRD (20, [4, 4], [30, 0, 1, 1, 15, -1, 1, 11]) ws (vs ++ [Value.int x]) := by
    refine ⟨nf_inA hl rfl, sgq_1397 ?_⟩
    · show 1 * w_fi ws (n_v (vs ++ [Value.int x]) 4) 15 + ((-1) * w_fi ws (n_v (vs ++ [Value.int x]) 4) 11 + 0) ≤ 0
      simp only [e_4, q4]
      exact vc_Mo_groupItem_at_k1_19_0 (v_iv (n_v vs 13)) (w_fi ws (n_v vs 0) 15) (w_fi ws (n_v vs 0) 11) (w_fi ws (n_v vs 0) 5) f5 kz_0_11 kz_0_15
  have nf1 : fc_1 PRD (20, [4], [50, 3, 0, 12, 11, 15, 2, 21, 4, 7, 1, 3, 2, 0, 12, 0, 1, 0, 3, 2, 0, 11, 4, 3, 2, 0, 15, 0, 8, 3, 7, 1, 3, 2, 0, 12, 0, 0, 0, 7, 4, 3, 2, 0, 15, 0, 1, 2, 0, 11]) ws (vs ++ [Value.int x]) := by
    refine ⟨nf_inA hl rfl, sgq_1398 ?_⟩
    · show ((w_fi ws (n_v (vs ++ [Value.int x]) 4) 12 = 1) → (w_fi ws (n_v (vs ++ [Value.int x]) 4) 11 ≤ (w_fi ws (n_v (vs ++ [Value.int x]) 4) 15 + 8))) ∧ ((w_fi ws (n_v (vs ++ [Value.int x]) 4) 12 = 0) ∨ ((w_fi ws (n_v (vs ++ [Value.int x]) 4) 15 + 1) ≤ w_fi ws (n_v (vs ++ [Value.int x]) 4) 11))
      simp only [e_4, q4]
      exact vc_Mo_groupItem_at_k1_19_1 (v_iv (n_v vs 13)) (w_fi ws (n_v vs 0) 12) (w_fi ws (n_v vs 0) 15) (w_fi ws (n_v vs 0) 11) (w_fi ws (n_v vs 0) 5) f6 kz_0_11 kz_0_12 kz_0_15
  have nf2 : fc_1 PRD (20, [15, 4], [30, 0, 1, 0, 0, -1, 1, 11]) ws (vs ++ [Value.int x]) := by
    refine ⟨nf_inA hl rfl, sgq_1395 ?_⟩
    · show 1 * v_iv (n_v (vs ++ [Value.int x]) 15) + ((-1) * w_fi ws (n_v (vs ++ [Value.int x]) 4) 11 + 0) ≤ 0
      simp only [e_4, e_15, q4]
      exact vc_Mo_groupItem_at_k1_19_2 (v_iv (n_v vs 13)) (w_fi ws (n_v vs 0) 11) (w_fi ws (n_v vs 0) 5) (v_iv (Value.int x)) kz_0_11 ex2
  have nf3 : fc_1 PRD (20, [7, 4], [50, 1, 1, 1005, 1002, 0, 6, 4, 2, 1, 0, 0, 1, 3, 1, 2, 4, 3, 2, 1, 5, 0, 2]) ws (vs ++ [Value.int x]) := by
    refine ⟨nf_inA hl rfl, sgq_981 ?_⟩
    · show (v_iv (n_v (vs ++ [Value.int x]) 7) + 1) ≤ w_ei ws (w_ar ws (n_v (vs ++ [Value.int x]) 4) 2) ((w_fi ws (n_v (vs ++ [Value.int x]) 4) 5 + 2))
      simp only [e_4, e_7, q4]
      exact vc_Mo_groupItem_at_k1_19_3 (v_iv (n_v vs 7)) (v_iv (n_v vs 13)) (w_ei ws (w_ar ws (n_v vs 0) 2)) (w_fi ws (n_v vs 0) 5) k7 f9
  have nf4 : fc_1 PRD (20, [4], [60, 1, 3, 199, 5, 2, 3, 4]) ws (vs ++ [Value.int x]) := by
    refine ⟨nf_inA hl rfl, sgq_952 ?_⟩
    · show RWS (w_fi ws (n_v (vs ++ [Value.int x]) 4) 5) (w_ei ws (w_ar ws (n_v (vs ++ [Value.int x]) 4) 2)) (w_ei ws (w_ar ws (n_v (vs ++ [Value.int x]) 4) 3)) (w_ei ws (w_ar ws (n_v (vs ++ [Value.int x]) 4) 4))
      simp only [e_4, q4]
      exact vc_Mo_groupItem_at_k1_19_4 (w_ei ws (w_ar ws (n_v vs 0) 2)) (w_fi ws (n_v vs 0) 5) (w_ei ws (w_ar ws (n_v vs 0) 3)) (w_ei ws (w_ar ws (n_v vs 0) 4)) f11
  have nf5 : fc_1 PRD (23, [3, 15], [-1, 1, -1]) ws (vs ++ [Value.int x]) := by
    refine ⟨nf_inA hl rfl, sgq_211 ?_⟩
    · show 1 * v_iv (n_v (vs ++ [Value.int x]) 3) + ((-1) * v_iv (n_v (vs ++ [Value.int x]) 15) + 0) ≤ (-1)
      simp only [e_3, e_15]
      exact vc_Mo_groupItem_at_k1_19_5 (v_iv (n_v vs 3)) (v_iv (n_v vs 10)) (v_iv (n_v vs 13)) (w_fi ws (n_v vs 0) 8) (w_fi ws (n_v vs 0) 11) (w_fi ws (n_v vs 0) 5) (v_iv (Value.int x)) k3 k10 g4 f7 f8 kz_0_8 kz_0_11 ex2
  have nf6 : fc_1 PRD (23, [9, 15], [-2005, -1, -1]) ws (vs ++ [Value.int x]) := by
    refine ⟨nf_inA hl rfl, sgq_2012 ?_⟩
    · show (-1) * v_iv (n_v (vs ++ [Value.int x]) 9) + ((-1) * v_iv (n_v (vs ++ [Value.int x]) 15) + 0) ≤ (-2005)
      simp only [e_9, e_15]
      exact vc_Mo_groupItem_at_k1_19_6 (v_iv (n_v vs 9)) (v_iv (n_v vs 10)) (v_iv (n_v vs 13)) (w_fi ws (n_v vs 0) 8) (w_fi ws (n_v vs 0) 11) (w_fi ws (n_v vs 0) 5) (v_iv (Value.int x)) k9 k10 g4 f14 f15 kz_0_8 kz_0_11 ex2
  exact ⟨(fun _ h => (by cases h)), [Value.int x], ag_one hx, List.forall_mem_cons.mpr ⟨⟨show (20 : Nat) < 100 from by decide, nf0⟩, List.forall_mem_cons.mpr ⟨⟨show (20 : Nat) < 100 from by decide, nf1⟩, List.forall_mem_cons.mpr ⟨⟨show (20 : Nat) < 100 from by decide, nf2⟩, List.forall_mem_cons.mpr ⟨⟨show (20 : Nat) < 100 from by decide, nf3⟩, List.forall_mem_cons.mpr ⟨⟨show (20 : Nat) < 100 from by decide, nf4⟩, List.forall_mem_cons.mpr ⟨⟨show (23 : Nat) < 100 from by decide, nf5⟩, List.forall_mem_cons.mpr ⟨⟨show (23 : Nat) < 100 from by decide, nf6⟩, (fun _ h => (by cases h))⟩⟩⟩⟩⟩⟩⟩, (fun _ h => (by cases h))⟩
set_option maxHeartbeats 4000000 in
theorem vc_Mo_groupItem_at_k1_20_0 (x13 : Int) (from_0 : Int) (pos_0 : Int) (r_0 : Int) (f5 : 1 * from_0 + ((-1) * pos_0 + 0) ≤ 0) (kz_0_11 : 0 ≤ pos_0 ∧ pos_0 ≤ 2000) (kz_0_15 : 0 ≤ from_0 ∧ from_0 ≤ 2000) : 1 * from_0 + ((-1) * pos_0 + 0) ≤ 0 := by
  first
    | omega
    | (have q1 := (hE_0_2_1 (r_0 + 2) (by omega)).2 (by omega)
       have q2 := (hE_0_2_2 (r_0 + 2) (by omega)).2 (by omega)
       omega)
    | (have q1 := (hE_0_2_1 (r_0 + 1) (by omega)).2 (by omega)
       have q2 := (hE_0_2_2 (r_0 + 1) (by omega)).2 (by omega)
       omega)
    | (have q1 := (hE_0_2_1 (r_0 + 2) (by omega)).2 (by omega)
       omega)
    | (have q1 := (hE_0_2_1 (r_0 + 1) (by omega)).2 (by omega)
       omega)
    | (have q1 := (hE_0_2_1 (r_0 + 2) (by omega)).2 (by omega)
       have q2 := (hE_0_2_2 (r_0 + 2) (by omega)).2 (by omega)
       have q3 := (hE_0_2_3 (r_0 + 2) (by omega)).1 (by omega)
       omega)
    | (have q1 := (hE_0_2_1 (r_0 + 2) (by omega)).2 (by omega)
       have q2 := (hE_0_2_2 (r_0 + 2) (by omega)).2 (by omega)
       have q3 := (hE_0_2_3 (r_0 + 2) (by omega)).2 (by omega)
       omega)
    | (have q1 := (hE_0_2_1 (r_0 + 2) (by omega)).2 (by omega)
       have q2 := (hE_0_2_2 (r_0 + 2) (by omega)).2 (by omega)
       have q3 := (hE_0_2_3 (r_0 + 2) (by omega)).1 (by omega)
       have q4 : x13 = r_0 + 2 := by omega
       rw [q4] at h34
       omega)
set_option maxHeartbeats 4000000 in
theorem vc_Mo_groupItem_at_k1_20_1 (x13 : Int) (from_0 : Int) (pos_0 : Int) (kind_0 : Int) (r_0 : Int) (f6 : ((kind_0 = 1) → (pos_0 ≤ (from_0 + 8))) ∧ ((kind_0 = 0) ∨ ((from_0 + 1) ≤ pos_0))) (kz_0_11 : 0 ≤ pos_0 ∧ pos_0 ≤ 2000) (kz_0_12 : 0 ≤ kind_0 ∧ kind_0 ≤ 4) (kz_0_15 : 0 ≤ from_0 ∧ from_0 ≤ 2000) : ((kind_0 = 1) → (pos_0 ≤ (from_0 + 8))) ∧ ((kind_0 = 0) ∨ ((from_0 + 1) ≤ pos_0)) := by
  first
    | omega
    | (have q1 := (hE_0_2_1 (r_0 + 2) (by omega)).2 (by omega)
       have q2 := (hE_0_2_2 (r_0 + 2) (by omega)).2 (by omega)
       omega)
    | (have q1 := (hE_0_2_1 (r_0 + 1) (by omega)).2 (by omega)
       have q2 := (hE_0_2_2 (r_0 + 1) (by omega)).2 (by omega)
       omega)
    | (have q1 := (hE_0_2_1 (r_0 + 2) (by omega)).2 (by omega)
       omega)
    | (have q1 := (hE_0_2_1 (r_0 + 1) (by omega)).2 (by omega)
       omega)
    | (have q1 := (hE_0_2_1 (r_0 + 2) (by omega)).2 (by omega)
       have q2 := (hE_0_2_2 (r_0 + 2) (by omega)).2 (by omega)
       have q3 := (hE_0_2_3 (r_0 + 2) (by omega)).1 (by omega)
       omega)
    | (have q1 := (hE_0_2_1 (r_0 + 2) (by omega)).2 (by omega)
       have q2 := (hE_0_2_2 (r_0 + 2) (by omega)).2 (by omega)
       have q3 := (hE_0_2_3 (r_0 + 2) (by omega)).2 (by omega)
       omega)
    | (have q1 := (hE_0_2_1 (r_0 + 2) (by omega)).2 (by omega)
       have q2 := (hE_0_2_2 (r_0 + 2) (by omega)).2 (by omega)
       have q3 := (hE_0_2_3 (r_0 + 2) (by omega)).1 (by omega)
       have q4 : x13 = r_0 + 2 := by omega
       rw [q4] at h34
       omega)
set_option maxHeartbeats 4000000 in
theorem vc_Mo_groupItem_at_k1_20_2 (x3 : Int) (x13 : Int) (x15 : Int) (pos_0 : Int) (r_0 : Int) (k3 : 0 ≤ x3 ∧ x3 ≤ 2000) (k15 : 0 ≤ x15 ∧ x15 ≤ 2000) (f0 : 1 * x3 + ((-1) * x15 + 0) ≤ (-1)) (f7 : 1 * x15 + ((-1) * pos_0 + 0) ≤ 0) (kz_0_11 : 0 ≤ pos_0 ∧ pos_0 ≤ 2000) : 1 * x3 + ((-1) * pos_0 + 0) ≤ 0 := by
  first
    | omega
    | (have q1 := (hE_0_2_1 (r_0 + 2) (by omega)).2 (by omega)
       have q2 := (hE_0_2_2 (r_0 + 2) (by omega)).2 (by omega)
       omega)
    | (have q1 := (hE_0_2_1 (r_0 + 1) (by omega)).2 (by omega)
       have q2 := (hE_0_2_2 (r_0 + 1) (by omega)).2 (by omega)
       omega)
    | (have q1 := (hE_0_2_1 (r_0 + 2) (by omega)).2 (by omega)
       omega)
    | (have q1 := (hE_0_2_1 (r_0 + 1) (by omega)).2 (by omega)
       omega)
    | (have q1 := (hE_0_2_1 (r_0 + 2) (by omega)).2 (by omega)
       have q2 := (hE_0_2_2 (r_0 + 2) (by omega)).2 (by omega)
       have q3 := (hE_0_2_3 (r_0 + 2) (by omega)).1 (by omega)
       omega)
    | (have q1 := (hE_0_2_1 (r_0 + 2) (by omega)).2 (by omega)
       have q2 := (hE_0_2_2 (r_0 + 2) (by omega)).2 (by omega)
       have q3 := (hE_0_2_3 (r_0 + 2) (by omega)).2 (by omega)
       omega)
    | (have q1 := (hE_0_2_1 (r_0 + 2) (by omega)).2 (by omega)
       have q2 := (hE_0_2_2 (r_0 + 2) (by omega)).2 (by omega)
       have q3 := (hE_0_2_3 (r_0 + 2) (by omega)).1 (by omega)
       have q4 : x13 = r_0 + 2 := by omega
       rw [q4] at h34
       omega)
set_option maxHeartbeats 4000000 in
theorem vc_Mo_groupItem_at_k1_20_3 (x3 : Int) (x13 : Int) (x15 : Int) (pos_0 : Int) (fault_0 : Int) (r_0 : Int) (k3 : 0 ≤ x3 ∧ x3 ≤ 2000) (k15 : 0 ≤ x15 ∧ x15 ≤ 2000) (f0 : 1 * x3 + ((-1) * x15 + 0) ≤ (-1)) (f7 : 1 * x15 + ((-1) * pos_0 + 0) ≤ 0) (kz_0_8 : 0 ≤ fault_0 ∧ fault_0 ≤ 5) (kz_0_11 : 0 ≤ pos_0 ∧ pos_0 ≤ 2000) : (1 ≤ fault_0) ∨ ((x3 + 1) ≤ pos_0) := by
  first
    | omega
    | (have q1 := (hE_0_2_1 (r_0 + 2) (by omega)).2 (by omega)
       have q2 := (hE_0_2_2 (r_0 + 2) (by omega)).2 (by omega)
       omega)
    | (have q1 := (hE_0_2_1 (r_0 + 1) (by omega)).2 (by omega)
       have q2 := (hE_0_2_2 (r_0 + 1) (by omega)).2 (by omega)
       omega)
    | (have q1 := (hE_0_2_1 (r_0 + 2) (by omega)).2 (by omega)
       omega)
    | (have q1 := (hE_0_2_1 (r_0 + 1) (by omega)).2 (by omega)
       omega)
    | (have q1 := (hE_0_2_1 (r_0 + 2) (by omega)).2 (by omega)
       have q2 := (hE_0_2_2 (r_0 + 2) (by omega)).2 (by omega)
       have q3 := (hE_0_2_3 (r_0 + 2) (by omega)).1 (by omega)
       omega)
    | (have q1 := (hE_0_2_1 (r_0 + 2) (by omega)).2 (by omega)
       have q2 := (hE_0_2_2 (r_0 + 2) (by omega)).2 (by omega)
       have q3 := (hE_0_2_3 (r_0 + 2) (by omega)).2 (by omega)
       omega)
    | (have q1 := (hE_0_2_1 (r_0 + 2) (by omega)).2 (by omega)
       have q2 := (hE_0_2_2 (r_0 + 2) (by omega)).2 (by omega)
       have q3 := (hE_0_2_3 (r_0 + 2) (by omega)).1 (by omega)
       have q4 : x13 = r_0 + 2 := by omega
       rw [q4] at h34
       omega)
set_option maxHeartbeats 4000000 in
theorem vc_Mo_groupItem_at_k1_20_4 (x7 : Int) (x13 : Int) (all_0 : Int → Int) (r_0 : Int) (k7 : 0 ≤ x7 ∧ x7 ≤ 7) (f9 : (x7 + 1) ≤ all_0 ((r_0 + 2))) : (x7 + 1) ≤ all_0 ((r_0 + 2)) := by
  first
    | omega
    | (have q1 := (hE_0_2_1 (r_0 + 2) (by omega)).2 (by omega)
       have q2 := (hE_0_2_2 (r_0 + 2) (by omega)).2 (by omega)
       omega)
    | (have q1 := (hE_0_2_1 (r_0 + 1) (by omega)).2 (by omega)
       have q2 := (hE_0_2_2 (r_0 + 1) (by omega)).2 (by omega)
       omega)
    | (have q1 := (hE_0_2_1 (r_0 + 2) (by omega)).2 (by omega)
       omega)
    | (have q1 := (hE_0_2_1 (r_0 + 1) (by omega)).2 (by omega)
       omega)
    | (have q1 := (hE_0_2_1 (r_0 + 2) (by omega)).2 (by omega)
       have q2 := (hE_0_2_2 (r_0 + 2) (by omega)).2 (by omega)
       have q3 := (hE_0_2_3 (r_0 + 2) (by omega)).1 (by omega)
       omega)
    | (have q1 := (hE_0_2_1 (r_0 + 2) (by omega)).2 (by omega)
       have q2 := (hE_0_2_2 (r_0 + 2) (by omega)).2 (by omega)
       have q3 := (hE_0_2_3 (r_0 + 2) (by omega)).2 (by omega)
       omega)
    | (have q1 := (hE_0_2_1 (r_0 + 2) (by omega)).2 (by omega)
       have q2 := (hE_0_2_2 (r_0 + 2) (by omega)).2 (by omega)
       have q3 := (hE_0_2_3 (r_0 + 2) (by omega)).1 (by omega)
       have q4 : x13 = r_0 + 2 := by omega
       rw [q4] at h34
       omega)
set_option maxHeartbeats 4000000 in
theorem vc_Mo_groupItem_at_k1_20_5 (x1 : Int) (x7 : Int) (x13 : Int) (r_0 : Int) (k1 : 0 ≤ x1 ∧ x1 ≤ 7) (k7 : 0 ≤ x7 ∧ x7 ≤ 7) (f15 : 1 * x1 + ((-1) * x7 + 0) ≤ (-1)) : 1 * x1 + ((-1) * x7 + 0) ≤ (-1) := by
  first
    | omega
    | (have q1 := (hE_0_2_1 (r_0 + 2) (by omega)).2 (by omega)
       have q2 := (hE_0_2_2 (r_0 + 2) (by omega)).2 (by omega)
       omega)
    | (have q1 := (hE_0_2_1 (r_0 + 1) (by omega)).2 (by omega)
       have q2 := (hE_0_2_2 (r_0 + 1) (by omega)).2 (by omega)
       omega)
    | (have q1 := (hE_0_2_1 (r_0 + 2) (by omega)).2 (by omega)
       omega)
    | (have q1 := (hE_0_2_1 (r_0 + 1) (by omega)).2 (by omega)
       omega)
    | (have q1 := (hE_0_2_1 (r_0 + 2) (by omega)).2 (by omega)
       have q2 := (hE_0_2_2 (r_0 + 2) (by omega)).2 (by omega)
       have q3 := (hE_0_2_3 (r_0 + 2) (by omega)).1 (by omega)
       omega)
    | (have q1 := (hE_0_2_1 (r_0 + 2) (by omega)).2 (by omega)
       have q2 := (hE_0_2_2 (r_0 + 2) (by omega)).2 (by omega)
       have q3 := (hE_0_2_3 (r_0 + 2) (by omega)).2 (by omega)
       omega)
    | (have q1 := (hE_0_2_1 (r_0 + 2) (by omega)).2 (by omega)
       have q2 := (hE_0_2_2 (r_0 + 2) (by omega)).2 (by omega)
       have q3 := (hE_0_2_3 (r_0 + 2) (by omega)).1 (by omega)
       have q4 : x13 = r_0 + 2 := by omega
       rw [q4] at h34
       omega)
set_option maxHeartbeats 4000000 in
theorem vc_Mo_groupItem_at_k1_20_6 (all_0 : Int → Int) (r_0 : Int) (now_0 : Int → Int) (latest_0 : Int → Int) (f10 : RWS (r_0) (all_0) (now_0) (latest_0)) : RWS (r_0) (all_0) (now_0) (latest_0) := by
  first
    | assumption
set_option maxHeartbeats 4000000 in
theorem vc_Mo_groupItem_at_k1_20_7 (x9 : Int) (x13 : Int) (x15 : Int) (pos_0 : Int) (fault_0 : Int) (r_0 : Int) (gx : Int) (k9 : 0 ≤ x9 ∧ x9 ≤ 2005) (k15 : 0 ≤ x15 ∧ x15 ≤ 2000) (f1 : (-1) * x9 + ((-1) * x15 + 0) ≤ (-2005)) (f7 : 1 * x15 + ((-1) * pos_0 + 0) ≤ 0) (f8 : (1 ≤ fault_0) ∨ ((x15 + 1) ≤ pos_0)) (kz_0_8 : 0 ≤ fault_0 ∧ fault_0 ≤ 5) (kz_0_11 : 0 ≤ pos_0 ∧ pos_0 ≤ 2000) (ex2 : gx = 0 + (1 * x9 + 0)) : (-1) * gx + ((-1) * pos_0 + ((-1) * fault_0 + 0)) ≤ (-2006) := by
  first
    | omega
    | (have q1 := (hE_0_2_1 (r_0 + 2) (by omega)).2 (by omega)
       have q2 := (hE_0_2_2 (r_0 + 2) (by omega)).2 (by omega)
       omega)
    | (have q1 := (hE_0_2_1 (r_0 + 1) (by omega)).2 (by omega)
       have q2 := (hE_0_2_2 (r_0 + 1) (by omega)).2 (by omega)
       omega)
    | (have q1 := (hE_0_2_1 (r_0 + 2) (by omega)).2 (by omega)
       omega)
    | (have q1 := (hE_0_2_1 (r_0 + 1) (by omega)).2 (by omega)
       omega)
    | (have q1 := (hE_0_2_1 (r_0 + 2) (by omega)).2 (by omega)
       have q2 := (hE_0_2_2 (r_0 + 2) (by omega)).2 (by omega)
       have q3 := (hE_0_2_3 (r_0 + 2) (by omega)).1 (by omega)
       omega)
    | (have q1 := (hE_0_2_1 (r_0 + 2) (by omega)).2 (by omega)
       have q2 := (hE_0_2_2 (r_0 + 2) (by omega)).2 (by omega)
       have q3 := (hE_0_2_3 (r_0 + 2) (by omega)).2 (by omega)
       omega)
    | (have q1 := (hE_0_2_1 (r_0 + 2) (by omega)).2 (by omega)
       have q2 := (hE_0_2_2 (r_0 + 2) (by omega)).2 (by omega)
       have q3 := (hE_0_2_3 (r_0 + 2) (by omega)).1 (by omega)
       have q4 : x13 = r_0 + 2 := by omega
       rw [q4] at h34
       omega)
def o_Mo_groupItem_at_k1_20 : or_T := (194, 16, [(0, (2, 0, 0, [165])), (1, (0, 0, 7, [])), (3, (0, 0, 2000, [])), (4, (2, 0, 0, [165])), (5, (0, 0, 7, [])), (6, (0, 1, 1, [])), (7, (0, 0, 7, [])), (9, (0, 0, 2005, [])), (13, (0, 1, 1, [])), (14, (0, 2, 2, [])), (15, (0, 0, 2000, []))], [(23, [3, 15], [-1, 1, -1]), (23, [9, 15], [-2005, -1, -1]), (23, [5, 7], [-1, 1, -1]), (24, [0, 4], []), (24, [1, 5], []), (20, [4, 4], [30, 0, 1, 1, 15, -1, 1, 11]), (20, [4], [50, 3, 0, 12, 11, 15, 2, 21, 4, 7, 1, 3, 2, 0, 12, 0, 1, 0, 3, 2, 0, 11, 4, 3, 2, 0, 15, 0, 8, 3, 7, 1, 3, 2, 0, 12, 0, 0, 0, 7, 4, 3, 2, 0, 15, 0, 1, 2, 0, 11]), (20, [15, 4], [30, 0, 1, 0, 0, -1, 1, 11]), (20, [4, 15], [50, 2, 0, 8, 11, 3, 7, 0, 2, 0, 1, 2, 0, 8, 0, 6, 4, 2, 1, 1, 0, 1, 2, 0, 11]), (20, [7, 4], [50, 1, 1, 1005, 1002, 0, 6, 4, 2, 1, 0, 0, 1, 3, 1, 2, 4, 3, 2, 1, 5, 0, 2]), (20, [4], [60, 1, 3, 199, 5, 2, 3, 4]), (102, [15], [187072209578355573530071658587684226515959365500928, 165008, 165009, 165011, 165012, 165013, 165014, 165015]), (23, [3, 15], [-1, 1, -1]), (23, [9, 15], [-2005, -1, -1]), (1, [14, 6, 13], []), (23, [5, 7], [-1, 1, -1])], [], [(0, 0, 2005, [])], [(20, [4, 4], [30, 0, 1, 1, 15, -1, 1, 11]), (20, [4], [50, 3, 0, 12, 11, 15, 2, 21, 4, 7, 1, 3, 2, 0, 12, 0, 1, 0, 3, 2, 0, 11, 4, 3, 2, 0, 15, 0, 8, 3, 7, 1, 3, 2, 0, 12, 0, 0, 0, 7, 4, 3, 2, 0, 15, 0, 1, 2, 0, 11]), (20, [3, 4], [30, 0, 1, 0, 0, -1, 1, 11]), (20, [4, 3], [50, 2, 0, 8, 11, 3, 7, 0, 2, 0, 1, 2, 0, 8, 0, 6, 4, 2, 1, 1, 0, 1, 2, 0, 11]), (20, [7, 4], [50, 1, 1, 1005, 1002, 0, 6, 4, 2, 1, 0, 0, 1, 3, 1, 2, 4, 3, 2, 1, 5, 0, 2]), (23, [5, 7], [-1, 1, -1]), (20, [4], [60, 1, 3, 199, 5, 2, 3, 4]), (20, [16, 4, 4], [30, -2006, -1, 0, 0, -1, 1, 11, -1, 1, 8]), (24, [0, 4], []), (24, [1, 5], [])], [(16, 9, 0, 0)], [(1, 5, -4294967296, 0), (5, 1, -4294967296, 0)])
theorem oo_Mo_groupItem_at_k1_20 {kA : Nat → ClassId} : or_ok PRD kA GG o_Mo_groupItem_at_k1_20 := by
  refine or_mk fun A ta ws vs hD hth hl => ?_
  intro t0 r0 t1 k1 t3 k3 t4 r4 t5 k5 t6 k6 t7 k7 t9 k9 t13 k13 t14 k14 t15 k15 d0 d1 f0 f1 f2 f3 f4 f5 f6 f7 f8 f9 f10 ta1 w1 le1 s1 f12 f13 f14 f15
  replace f0 := shm_211 f0
  replace f1 := shm_2012 f1
  replace f2 := shm_211 f2
  replace f3 := shm_5 f3
  replace f4 := shm_5 f4
  replace f5 := shm_1397 f5
  replace f6 := shm_1398 f6
  replace f7 := shm_1395 f7
  replace f8 := shm_1659 f8
  replace f9 := shm_981 f9
  replace f10 := shm_952 f10
  replace f12 := shm_211 f12
  replace f13 := shm_2012 f13
  replace f14 := shm_12 f14
  replace f15 := shm_211 f15
  have q4 : n_v vs 4 = n_v vs 0 := f3.symm
  have q5 : n_v vs 5 = n_v vs 1 := f4.symm
  simp only [q5, q4] at f2 f5 f6 f7 f8 f9 f10 f15
  have cr_0_2 := fdq_12 hD hth r0
  have cr_0_3 := fdq_141 hD hth r0
  have cr_0_4 := fdq_142 hD hth r0
  have hK_0_3 := elq_77 hD hth cr_0_3
  have hK_0_4 := elq_78 hD hth cr_0_4
  have kz_0_8 := fdq_14 hD hth r0
  have kz_0_11 := fdq_273 hD hth r0
  have kz_0_12 := fdq_186 hD hth r0
  have kz_0_15 := fdq_274 hD hth r0
  obtain ⟨x, ex, hx⟩ := iv_ex (ta := ta) (lo := 0) (hi := 2005) (z := 0 + (1 * v_iv (n_v vs 9) + 0)) (by omega) (by omega) (by omega) (by omega)
  have ex2 : v_iv (Value.int x) = 0 + (1 * v_iv (n_v vs 9) + 0) := ex
  have ex3 : 0 ≤ v_iv (Value.int x) ∧ v_iv (Value.int x) ≤ 2005 := tv_rng hx
  have e_0 : n_v (vs ++ [Value.int x]) 0 = n_v vs 0 := n_v_old (by rw [hl]; decide)
  have e_1 : n_v (vs ++ [Value.int x]) 1 = n_v vs 1 := n_v_old (by rw [hl]; decide)
  have e_3 : n_v (vs ++ [Value.int x]) 3 = n_v vs 3 := n_v_old (by rw [hl]; decide)
  have e_4 : n_v (vs ++ [Value.int x]) 4 = n_v vs 4 := n_v_old (by rw [hl]; decide)
  have e_5 : n_v (vs ++ [Value.int x]) 5 = n_v vs 5 := n_v_old (by rw [hl]; decide)
  have e_7 : n_v (vs ++ [Value.int x]) 7 = n_v vs 7 := n_v_old (by rw [hl]; decide)
  have e_16 : n_v (vs ++ [Value.int x]) 16 = Value.int x := n_v_new hl
  have nf0 : fc_1 PRD (20, [4, 4], [30, 0, 1, 1, 15, -1, 1, 11]) ws (vs ++ [Value.int x]) := by
    refine ⟨nf_inA hl rfl, sgq_1397 ?_⟩
    · show 1 * w_fi ws (n_v (vs ++ [Value.int x]) 4) 15 + ((-1) * w_fi ws (n_v (vs ++ [Value.int x]) 4) 11 + 0) ≤ 0
      simp only [e_4, q4]
      exact vc_Mo_groupItem_at_k1_20_0 (v_iv (n_v vs 13)) (w_fi ws (n_v vs 0) 15) (w_fi ws (n_v vs 0) 11) (w_fi ws (n_v vs 0) 5) f5 kz_0_11 kz_0_15
  have nf1 : fc_1 PRD (20, [4], [50, 3, 0, 12, 11, 15, 2, 21, 4, 7, 1, 3, 2, 0, 12, 0, 1, 0, 3, 2, 0, 11, 4, 3, 2, 0, 15, 0, 8, 3, 7, 1, 3, 2, 0, 12, 0, 0, 0, 7, 4, 3, 2, 0, 15, 0, 1, 2, 0, 11]) ws (vs ++ [Value.int x]) := by
    refine ⟨nf_inA hl rfl, sgq_1398 ?_⟩
    · show ((w_fi ws (n_v (vs ++ [Value.int x]) 4) 12 = 1) → (w_fi ws (n_v (vs ++ [Value.int x]) 4) 11 ≤ (w_fi ws (n_v (vs ++ [Value.int x]) 4) 15 + 8))) ∧ ((w_fi ws (n_v (vs ++ [Value.int x]) 4) 12 = 0) ∨ ((w_fi ws (n_v (vs ++ [Value.int x]) 4) 15 + 1) ≤ w_fi ws (n_v (vs ++ [Value.int x]) 4) 11))
      simp only [e_4, q4]
      exact vc_Mo_groupItem_at_k1_20_1 (v_iv (n_v vs 13)) (w_fi ws (n_v vs 0) 15) (w_fi ws (n_v vs 0) 11) (w_fi ws (n_v vs 0) 12) (w_fi ws (n_v vs 0) 5) f6 kz_0_11 kz_0_12 kz_0_15
  have nf2 : fc_1 PRD (20, [3, 4], [30, 0, 1, 0, 0, -1, 1, 11]) ws (vs ++ [Value.int x]) := by
    refine ⟨nf_inA hl rfl, sgq_1395 ?_⟩
    · show 1 * v_iv (n_v (vs ++ [Value.int x]) 3) + ((-1) * w_fi ws (n_v (vs ++ [Value.int x]) 4) 11 + 0) ≤ 0
      simp only [e_3, e_4, q4]
      exact vc_Mo_groupItem_at_k1_20_2 (v_iv (n_v vs 3)) (v_iv (n_v vs 13)) (v_iv (n_v vs 15)) (w_fi ws (n_v vs 0) 11) (w_fi ws (n_v vs 0) 5) k3 k15 f0 f7 kz_0_11
  have nf3 : fc_1 PRD (20, [4, 3], [50, 2, 0, 8, 11, 3, 7, 0, 2, 0, 1, 2, 0, 8, 0, 6, 4, 2, 1, 1, 0, 1, 2, 0, 11]) ws (vs ++ [Value.int x]) := by
    refine ⟨nf_inA hl rfl, sgq_1659 ?_⟩
    · show (1 ≤ w_fi ws (n_v (vs ++ [Value.int x]) 4) 8) ∨ ((v_iv (n_v (vs ++ [Value.int x]) 3) + 1) ≤ w_fi ws (n_v (vs ++ [Value.int x]) 4) 11)
      simp only [e_3, e_4, q4]
      exact vc_Mo_groupItem_at_k1_20_3 (v_iv (n_v vs 3)) (v_iv (n_v vs 13)) (v_iv (n_v vs 15)) (w_fi ws (n_v vs 0) 11) (w_fi ws (n_v vs 0) 8) (w_fi ws (n_v vs 0) 5) k3 k15 f0 f7 kz_0_8 kz_0_11
  have nf4 : fc_1 PRD (20, [7, 4], [50, 1, 1, 1005, 1002, 0, 6, 4, 2, 1, 0, 0, 1, 3, 1, 2, 4, 3, 2, 1, 5, 0, 2]) ws (vs ++ [Value.int x]) := by
    refine ⟨nf_inA hl rfl, sgq_981 ?_⟩
    · show (v_iv (n_v (vs ++ [Value.int x]) 7) + 1) ≤ w_ei ws (w_ar ws (n_v (vs ++ [Value.int x]) 4) 2) ((w_fi ws (n_v (vs ++ [Value.int x]) 4) 5 + 2))
      simp only [e_4, e_7, q4]
      exact vc_Mo_groupItem_at_k1_20_4 (v_iv (n_v vs 7)) (v_iv (n_v vs 13)) (w_ei ws (w_ar ws (n_v vs 0) 2)) (w_fi ws (n_v vs 0) 5) k7 f9
  have nf5 : fc_1 PRD (23, [5, 7], [-1, 1, -1]) ws (vs ++ [Value.int x]) := by
    refine ⟨nf_inA hl rfl, sgq_211 ?_⟩
    · show 1 * v_iv (n_v (vs ++ [Value.int x]) 5) + ((-1) * v_iv (n_v (vs ++ [Value.int x]) 7) + 0) ≤ (-1)
      simp only [e_5, e_7, q5]
      exact vc_Mo_groupItem_at_k1_20_5 (v_iv (n_v vs 1)) (v_iv (n_v vs 7)) (v_iv (n_v vs 13)) (w_fi ws (n_v vs 0) 5) k1 k7 f15
  have nf6 : fc_1 PRD (20, [4], [60, 1, 3, 199, 5, 2, 3, 4]) ws (vs ++ [Value.int x]) := by
    refine ⟨nf_inA hl rfl, sgq_952 ?_⟩
    · show RWS (w_fi ws (n_v (vs ++ [Value.int x]) 4) 5) (w_ei ws (w_ar ws (n_v (vs ++ [Value.int x]) 4) 2)) (w_ei ws (w_ar ws (n_v (vs ++ [Value.int x]) 4) 3)) (w_ei ws (w_ar ws (n_v (vs ++ [Value.int x]) 4) 4))
      simp only [e_4, q4]
      exact vc_Mo_groupItem_at_k1_20_6 (w_ei ws (w_ar ws (n_v vs 0) 2)) (w_fi ws (n_v vs 0) 5) (w_ei ws (w_ar ws (n_v vs 0) 3)) (w_ei ws (w_ar ws (n_v vs 0) 4)) f10
  have nf7 : fc_1 PRD (20, [16, 4, 4], [30, -2006, -1, 0, 0, -1, 1, 11, -1, 1, 8]) ws (vs ++ [Value.int x]) := by
    refine ⟨nf_inA hl rfl, sgq_2013 ?_⟩
    · show (-1) * v_iv (n_v (vs ++ [Value.int x]) 16) + ((-1) * w_fi ws (n_v (vs ++ [Value.int x]) 4) 11 + ((-1) * w_fi ws (n_v (vs ++ [Value.int x]) 4) 8 + 0)) ≤ (-2006)
      simp only [e_4, e_16, q4]
      exact vc_Mo_groupItem_at_k1_20_7 (v_iv (n_v vs 9)) (v_iv (n_v vs 13)) (v_iv (n_v vs 15)) (w_fi ws (n_v vs 0) 11) (w_fi ws (n_v vs 0) 8) (w_fi ws (n_v vs 0) 5) (v_iv (Value.int x)) k9 k15 f1 f7 f8 kz_0_8 kz_0_11 ex2
  have nf8 : fc_1 PRD (24, [0, 4], []) ws (vs ++ [Value.int x]) := by
    refine ⟨nf_inA hl rfl, sgq_5 ?_⟩
    · show n_v (vs ++ [Value.int x]) 0 = n_v (vs ++ [Value.int x]) 4
      first | rfl | simp only [e_0, e_4, q4, q5]
  have nf9 : fc_1 PRD (24, [1, 5], []) ws (vs ++ [Value.int x]) := by
    refine ⟨nf_inA hl rfl, sgq_5 ?_⟩
    · show n_v (vs ++ [Value.int x]) 1 = n_v (vs ++ [Value.int x]) 5
      first | rfl | simp only [e_1, e_5, q4, q5]
  obtain ⟨x0, e0, _, _⟩ := tv_int t9 rfl
  have e1 : v_iv (n_v vs 9) = x0.toInt := by rw [e0]; rfl
  have ho : sy_ofs (vs ++ [Value.int x]) (16, 9, 0, 0) := by
    refine ⟨x, x0, by rw [List.getElem?_append_right (by rw [hl]; decide), hl]; rfl, ?_, ?_, ?_⟩
    · rw [List.getElem?_append_left (by rw [hl]; decide)]; exact n_v_some (by rw [hl]; decide) e0
    · show x0.toInt + 0 ≤ x.toInt; omega
    · show x.toInt ≤ x0.toInt + 0; omega
  exact ⟨(fun _ h => (by cases h)), [Value.int x], ag_one hx, List.forall_mem_cons.mpr ⟨⟨show (20 : Nat) < 100 from by decide, nf0⟩, List.forall_mem_cons.mpr ⟨⟨show (20 : Nat) < 100 from by decide, nf1⟩, List.forall_mem_cons.mpr ⟨⟨show (20 : Nat) < 100 from by decide, nf2⟩, List.forall_mem_cons.mpr ⟨⟨show (20 : Nat) < 100 from by decide, nf3⟩, List.forall_mem_cons.mpr ⟨⟨show (20 : Nat) < 100 from by decide, nf4⟩, List.forall_mem_cons.mpr ⟨⟨show (23 : Nat) < 100 from by decide, nf5⟩, List.forall_mem_cons.mpr ⟨⟨show (20 : Nat) < 100 from by decide, nf6⟩, List.forall_mem_cons.mpr ⟨⟨show (20 : Nat) < 100 from by decide, nf7⟩, List.forall_mem_cons.mpr ⟨⟨show (24 : Nat) < 100 from by decide, nf8⟩, List.forall_mem_cons.mpr ⟨⟨show (24 : Nat) < 100 from by decide, nf9⟩, (fun _ h => (by cases h))⟩⟩⟩⟩⟩⟩⟩⟩⟩⟩, List.forall_mem_cons.mpr ⟨ho, (fun _ h => (by cases h))⟩⟩
set_option maxHeartbeats 4000000 in
theorem vc_Mo_groupItem_at_k1_21_0 (x3 : Int) (r_0 : Int) (gx : Int) (k3 : 0 ≤ x3 ∧ x3 ≤ 2000) (ex2 : gx = x3) : 1 * gx + ((-1) * x3 + 0) ≤ 0 := by
  first
    | omega
    | (have q1 := (hE_0_2_1 (r_0 + 2) (by omega)).2 (by omega)
       have q2 := (hE_0_2_2 (r_0 + 2) (by omega)).2 (by omega)
       omega)
    | (have q1 := (hE_0_2_1 (r_0 + 1) (by omega)).2 (by omega)
       have q2 := (hE_0_2_2 (r_0 + 1) (by omega)).2 (by omega)
       omega)
    | (have q1 := (hE_0_2_1 (r_0 + 2) (by omega)).2 (by omega)
       omega)
    | (have q1 := (hE_0_2_1 (r_0 + 1) (by omega)).2 (by omega)
       omega)
    | (have q1 := (hE_0_2_1 (r_0 + 2) (by omega)).2 (by omega)
       have q2 := (hE_0_2_2 (r_0 + 2) (by omega)).2 (by omega)
       have q3 := (hE_0_2_3 (r_0 + 2) (by omega)).1 (by omega)
       omega)
    | (have q1 := (hE_0_2_1 (r_0 + 2) (by omega)).2 (by omega)
       have q2 := (hE_0_2_2 (r_0 + 2) (by omega)).2 (by omega)
       have q3 := (hE_0_2_3 (r_0 + 2) (by omega)).2 (by omega)
       omega)
    | (have q1 := (hE_0_2_1 (r_0 + 2) (by omega)).2 (by omega)
       have q2 := (hE_0_2_2 (r_0 + 2) (by omega)).2 (by omega)
       have q3 := (hE_0_2_3 (r_0 + 2) (by omega)).1 (by omega)
       have q4 : x13 = r_0 + 2 := by omega
       rw [q4] at h34
       omega)
set_option maxHeartbeats 4000000 in
theorem vc_Mo_groupItem_at_k1_21_1 (x3 : Int) (r_0 : Int) (gx : Int) (k3 : 0 ≤ x3 ∧ x3 ≤ 2000) (ex2 : gx = x3) : (-1) * gx + (1 * x3 + 0) ≤ 0 := by
  first
    | omega
    | (have q1 := (hE_0_2_1 (r_0 + 2) (by omega)).2 (by omega)
       have q2 := (hE_0_2_2 (r_0 + 2) (by omega)).2 (by omega)
       omega)
    | (have q1 := (hE_0_2_1 (r_0 + 1) (by omega)).2 (by omega)
       have q2 := (hE_0_2_2 (r_0 + 1) (by omega)).2 (by omega)
       omega)
    | (have q1 := (hE_0_2_1 (r_0 + 2) (by omega)).2 (by omega)
       omega)
    | (have q1 := (hE_0_2_1 (r_0 + 1) (by omega)).2 (by omega)
       omega)
    | (have q1 := (hE_0_2_1 (r_0 + 2) (by omega)).2 (by omega)
       have q2 := (hE_0_2_2 (r_0 + 2) (by omega)).2 (by omega)
       have q3 := (hE_0_2_3 (r_0 + 2) (by omega)).1 (by omega)
       omega)
    | (have q1 := (hE_0_2_1 (r_0 + 2) (by omega)).2 (by omega)
       have q2 := (hE_0_2_2 (r_0 + 2) (by omega)).2 (by omega)
       have q3 := (hE_0_2_3 (r_0 + 2) (by omega)).2 (by omega)
       omega)
    | (have q1 := (hE_0_2_1 (r_0 + 2) (by omega)).2 (by omega)
       have q2 := (hE_0_2_2 (r_0 + 2) (by omega)).2 (by omega)
       have q3 := (hE_0_2_3 (r_0 + 2) (by omega)).1 (by omega)
       have q4 : x13 = r_0 + 2 := by omega
       rw [q4] at h34
       omega)
set_option maxHeartbeats 4000000 in
theorem vc_Mo_groupItem_at_k1_21_2 (from_0 : Int) (pos_0 : Int) (r_0 : Int) (f4 : 1 * from_0 + ((-1) * pos_0 + 0) ≤ 0) (kz_0_11 : 0 ≤ pos_0 ∧ pos_0 ≤ 2000) (kz_0_15 : 0 ≤ from_0 ∧ from_0 ≤ 2000) : 1 * from_0 + ((-1) * pos_0 + 0) ≤ 0 := by
  first
    | omega
    | (have q1 := (hE_0_2_1 (r_0 + 2) (by omega)).2 (by omega)
       have q2 := (hE_0_2_2 (r_0 + 2) (by omega)).2 (by omega)
       omega)
    | (have q1 := (hE_0_2_1 (r_0 + 1) (by omega)).2 (by omega)
       have q2 := (hE_0_2_2 (r_0 + 1) (by omega)).2 (by omega)
       omega)
    | (have q1 := (hE_0_2_1 (r_0 + 2) (by omega)).2 (by omega)
       omega)
    | (have q1 := (hE_0_2_1 (r_0 + 1) (by omega)).2 (by omega)
       omega)
    | (have q1 := (hE_0_2_1 (r_0 + 2) (by omega)).2 (by omega)
       have q2 := (hE_0_2_2 (r_0 + 2) (by omega)).2 (by omega)
       have q3 := (hE_0_2_3 (r_0 + 2) (by omega)).1 (by omega)
       omega)
    | (have q1 := (hE_0_2_1 (r_0 + 2) (by omega)).2 (by omega)
       have q2 := (hE_0_2_2 (r_0 + 2) (by omega)).2 (by omega)
       have q3 := (hE_0_2_3 (r_0 + 2) (by omega)).2 (by omega)
       omega)
    | (have q1 := (hE_0_2_1 (r_0 + 2) (by omega)).2 (by omega)
       have q2 := (hE_0_2_2 (r_0 + 2) (by omega)).2 (by omega)
       have q3 := (hE_0_2_3 (r_0 + 2) (by omega)).1 (by omega)
       have q4 : x13 = r_0 + 2 := by omega
       rw [q4] at h34
       omega)
set_option maxHeartbeats 4000000 in
theorem vc_Mo_groupItem_at_k1_21_3 (kind_0 : Int) (from_0 : Int) (pos_0 : Int) (r_0 : Int) (f5 : ((kind_0 = 1) → (pos_0 ≤ (from_0 + 8))) ∧ ((kind_0 = 0) ∨ ((from_0 + 1) ≤ pos_0))) (kz_0_11 : 0 ≤ pos_0 ∧ pos_0 ≤ 2000) (kz_0_12 : 0 ≤ kind_0 ∧ kind_0 ≤ 4) (kz_0_15 : 0 ≤ from_0 ∧ from_0 ≤ 2000) : ((kind_0 = 1) → (pos_0 ≤ (from_0 + 8))) ∧ ((kind_0 = 0) ∨ ((from_0 + 1) ≤ pos_0)) := by
  first
    | omega
    | (have q1 := (hE_0_2_1 (r_0 + 2) (by omega)).2 (by omega)
       have q2 := (hE_0_2_2 (r_0 + 2) (by omega)).2 (by omega)
       omega)
    | (have q1 := (hE_0_2_1 (r_0 + 1) (by omega)).2 (by omega)
       have q2 := (hE_0_2_2 (r_0 + 1) (by omega)).2 (by omega)
       omega)
    | (have q1 := (hE_0_2_1 (r_0 + 2) (by omega)).2 (by omega)
       omega)
    | (have q1 := (hE_0_2_1 (r_0 + 1) (by omega)).2 (by omega)
       omega)
    | (have q1 := (hE_0_2_1 (r_0 + 2) (by omega)).2 (by omega)
       have q2 := (hE_0_2_2 (r_0 + 2) (by omega)).2 (by omega)
       have q3 := (hE_0_2_3 (r_0 + 2) (by omega)).1 (by omega)
       omega)
    | (have q1 := (hE_0_2_1 (r_0 + 2) (by omega)).2 (by omega)
       have q2 := (hE_0_2_2 (r_0 + 2) (by omega)).2 (by omega)
       have q3 := (hE_0_2_3 (r_0 + 2) (by omega)).2 (by omega)
       omega)
    | (have q1 := (hE_0_2_1 (r_0 + 2) (by omega)).2 (by omega)
       have q2 := (hE_0_2_2 (r_0 + 2) (by omega)).2 (by omega)
       have q3 := (hE_0_2_3 (r_0 + 2) (by omega)).1 (by omega)
       have q4 : x13 = r_0 + 2 := by omega
       rw [q4] at h34
       omega)
set_option maxHeartbeats 4000000 in
theorem vc_Mo_groupItem_at_k1_21_4 (x3 : Int) (pos_0 : Int) (r_0 : Int) (gx : Int) (k3 : 0 ≤ x3 ∧ x3 ≤ 2000) (f6 : 1 * x3 + ((-1) * pos_0 + 0) ≤ 0) (kz_0_11 : 0 ≤ pos_0 ∧ pos_0 ≤ 2000) (ex2 : gx = x3) : 1 * gx + ((-1) * pos_0 + 0) ≤ 0 := by
  first
    | omega
    | (have q1 := (hE_0_2_1 (r_0 + 2) (by omega)).2 (by omega)
       have q2 := (hE_0_2_2 (r_0 + 2) (by omega)).2 (by omega)
       omega)
    | (have q1 := (hE_0_2_1 (r_0 + 1) (by omega)).2 (by omega)
       have q2 := (hE_0_2_2 (r_0 + 1) (by omega)).2 (by omega)
       omega)
    | (have q1 := (hE_0_2_1 (r_0 + 2) (by omega)).2 (by omega)
       omega)
    | (have q1 := (hE_0_2_1 (r_0 + 1) (by omega)).2 (by omega)
       omega)
    | (have q1 := (hE_0_2_1 (r_0 + 2) (by omega)).2 (by omega)
       have q2 := (hE_0_2_2 (r_0 + 2) (by omega)).2 (by omega)
       have q3 := (hE_0_2_3 (r_0 + 2) (by omega)).1 (by omega)
       omega)
    | (have q1 := (hE_0_2_1 (r_0 + 2) (by omega)).2 (by omega)
       have q2 := (hE_0_2_2 (r_0 + 2) (by omega)).2 (by omega)
       have q3 := (hE_0_2_3 (r_0 + 2) (by omega)).2 (by omega)
       omega)
    | (have q1 := (hE_0_2_1 (r_0 + 2) (by omega)).2 (by omega)
       have q2 := (hE_0_2_2 (r_0 + 2) (by omega)).2 (by omega)
       have q3 := (hE_0_2_3 (r_0 + 2) (by omega)).1 (by omega)
       have q4 : x13 = r_0 + 2 := by omega
       rw [q4] at h34
       omega)
set_option maxHeartbeats 4000000 in
theorem vc_Mo_groupItem_at_k1_21_5 (x3 : Int) (x10 : Int) (kind_0 : Int) (fault_0 : Int) (pos_0 : Int) (r_0 : Int) (gx : Int) (k3 : 0 ≤ x3 ∧ x3 ≤ 2000) (k10 : 0 ≤ x10 ∧ x10 ≤ 0) (g3 : x10 = fault_0) (f6 : 1 * x3 + ((-1) * pos_0 + 0) ≤ 0) (f7 : (1 ≤ fault_0) ∨ ((x3 + 1) ≤ pos_0)) (kz_0_8 : 0 ≤ fault_0 ∧ fault_0 ≤ 5) (kz_0_11 : 0 ≤ pos_0 ∧ pos_0 ≤ 2000) (kz_0_12 : 0 ≤ kind_0 ∧ kind_0 ≤ 4) (ex2 : gx = x3) : (1 ≤ fault_0) ∨ ((kind_0 = 0) ∨ ((gx + 1) ≤ pos_0)) := by
  first
    | omega
    | (have q1 := (hE_0_2_1 (r_0 + 2) (by omega)).2 (by omega)
       have q2 := (hE_0_2_2 (r_0 + 2) (by omega)).2 (by omega)
       omega)
    | (have q1 := (hE_0_2_1 (r_0 + 1) (by omega)).2 (by omega)
       have q2 := (hE_0_2_2 (r_0 + 1) (by omega)).2 (by omega)
       omega)
    | (have q1 := (hE_0_2_1 (r_0 + 2) (by omega)).2 (by omega)
       omega)
    | (have q1 := (hE_0_2_1 (r_0 + 1) (by omega)).2 (by omega)
       omega)
    | (have q1 := (hE_0_2_1 (r_0 + 2) (by omega)).2 (by omega)
       have q2 := (hE_0_2_2 (r_0 + 2) (by omega)).2 (by omega)
       have q3 := (hE_0_2_3 (r_0 + 2) (by omega)).1 (by omega)
       omega)
    | (have q1 := (hE_0_2_1 (r_0 + 2) (by omega)).2 (by omega)
       have q2 := (hE_0_2_2 (r_0 + 2) (by omega)).2 (by omega)
       have q3 := (hE_0_2_3 (r_0 + 2) (by omega)).2 (by omega)
       omega)
    | (have q1 := (hE_0_2_1 (r_0 + 2) (by omega)).2 (by omega)
       have q2 := (hE_0_2_2 (r_0 + 2) (by omega)).2 (by omega)
       have q3 := (hE_0_2_3 (r_0 + 2) (by omega)).1 (by omega)
       have q4 : x13 = r_0 + 2 := by omega
       rw [q4] at h34
       omega)
def o_Mo_groupItem_at_k1_21 : or_T := (200, 14, [(0, (2, 0, 0, [165])), (3, (0, 0, 2000, [])), (10, (0, 0, 0, []))], [(9, [10, 4], [8]), (20, [4, 4], [30, 0, 1, 1, 15, -1, 1, 11]), (20, [4], [50, 3, 0, 12, 11, 15, 2, 21, 4, 7, 1, 3, 2, 0, 12, 0, 1, 0, 3, 2, 0, 11, 4, 3, 2, 0, 15, 0, 8, 3, 7, 1, 3, 2, 0, 12, 0, 0, 0, 7, 4, 3, 2, 0, 15, 0, 1, 2, 0, 11]), (20, [3, 4], [30, 0, 1, 0, 0, -1, 1, 11]), (20, [4, 3], [50, 2, 0, 8, 11, 3, 7, 0, 2, 0, 1, 2, 0, 8, 0, 6, 4, 2, 1, 1, 0, 1, 2, 0, 11]), (24, [0, 4], [])], [], [(0, 0, 2000, [])], [(23, [14, 3], [0, 1, -1]), (23, [14, 3], [0, -1, 1]), (20, [4, 4], [30, 0, 1, 1, 15, -1, 1, 11]), (20, [4], [50, 3, 0, 12, 11, 15, 2, 21, 4, 7, 1, 3, 2, 0, 12, 0, 1, 0, 3, 2, 0, 11, 4, 3, 2, 0, 15, 0, 8, 3, 7, 1, 3, 2, 0, 12, 0, 0, 0, 7, 4, 3, 2, 0, 15, 0, 1, 2, 0, 11]), (20, [14, 4], [30, 0, 1, 0, 0, -1, 1, 11]), (20, [4, 14], [50, 3, 0, 8, 12, 11, 3, 7, 0, 2, 0, 1, 2, 0, 8, 3, 7, 1, 3, 2, 0, 12, 0, 0, 0, 6, 4, 2, 1, 1, 0, 1, 2, 0, 11])], [], [])
theorem oo_Mo_groupItem_at_k1_21 {kA : Nat → ClassId} : or_ok PRD kA GG o_Mo_groupItem_at_k1_21 := by
  refine or_mk fun A ta ws vs hD hth hl => ?_
  intro t0 r0 t3 k3 t10 k10 f3 f4 f5 f6 f7 f11
  replace f3 := shm_143 f3
  replace f4 := shm_1397 f4
  replace f5 := shm_1398 f5
  replace f6 := shm_1395 f6
  replace f7 := shm_1659 f7
  replace f11 := shm_5 f11
  have q4 : n_v vs 4 = n_v vs 0 := f11.symm
  simp only [q4] at f3 f4 f5 f6 f7
  have g3 : v_iv (n_v vs 10) = w_fi ws (n_v vs 0) 8 := congrArg v_iv f3
  have kz_0_8 := fdq_14 hD hth r0
  have kz_0_11 := fdq_273 hD hth r0
  have kz_0_12 := fdq_186 hD hth r0
  have kz_0_15 := fdq_274 hD hth r0
  obtain ⟨x, ex, hx⟩ := iv_ex (ta := ta) (lo := 0) (hi := 2000) (z := v_iv (n_v vs 3)) (by omega) (by omega) (by omega) (by omega)
  have ex2 : v_iv (Value.int x) = v_iv (n_v vs 3) := ex
  have ex3 : 0 ≤ v_iv (Value.int x) ∧ v_iv (Value.int x) ≤ 2000 := tv_rng hx
  have e_3 : n_v (vs ++ [Value.int x]) 3 = n_v vs 3 := n_v_old (by rw [hl]; decide)
  have e_4 : n_v (vs ++ [Value.int x]) 4 = n_v vs 4 := n_v_old (by rw [hl]; decide)
  have e_14 : n_v (vs ++ [Value.int x]) 14 = Value.int x := n_v_new hl
  have nf0 : fc_1 PRD (23, [14, 3], [0, 1, -1]) ws (vs ++ [Value.int x]) := by
    refine ⟨nf_inA hl rfl, sgq_7 ?_⟩
    · show 1 * v_iv (n_v (vs ++ [Value.int x]) 14) + ((-1) * v_iv (n_v (vs ++ [Value.int x]) 3) + 0) ≤ 0
      simp only [e_3, e_14]
      exact vc_Mo_groupItem_at_k1_21_0 (v_iv (n_v vs 3)) (w_fi ws (n_v vs 0) 5) (v_iv (Value.int x)) k3 ex2
  have nf1 : fc_1 PRD (23, [14, 3], [0, -1, 1]) ws (vs ++ [Value.int x]) := by
    refine ⟨nf_inA hl rfl, sgq_22 ?_⟩
    · show (-1) * v_iv (n_v (vs ++ [Value.int x]) 14) + (1 * v_iv (n_v (vs ++ [Value.int x]) 3) + 0) ≤ 0
      simp only [e_3, e_14]
      exact vc_Mo_groupItem_at_k1_21_1 (v_iv (n_v vs 3)) (w_fi ws (n_v vs 0) 5) (v_iv (Value.int x)) k3 ex2
  have nf2 : fc_1 PRD (20, [4, 4], [30, 0, 1, 1, 15, -1, 1, 11]) ws (vs ++ [Value.int x]) := by
    refine ⟨nf_inA hl rfl, sgq_1397 ?_⟩
    · show 1 * w_fi ws (n_v (vs ++ [Value.int x]) 4) 15 + ((-1) * w_fi ws (n_v (vs ++ [Value.int x]) 4) 11 + 0) ≤ 0
      simp only [e_4, q4]
      exact vc_Mo_groupItem_at_k1_21_2 (w_fi ws (n_v vs 0) 15) (w_fi ws (n_v vs 0) 11) (w_fi ws (n_v vs 0) 5) f4 kz_0_11 kz_0_15
  have nf3 : fc_1 PRD (20, [4], [50, 3, 0, 12, 11, 15, 2, 21, 4, 7, 1, 3, 2, 0, 12, 0, 1, 0, 3, 2, 0, 11, 4, 3, 2, 0, 15, 0, 8, 3, 7, 1, 3, 2, 0, 12, 0, 0, 0, 7, 4, 3, 2, 0, 15, 0, 1, 2, 0, 11]) ws (vs ++ [Value.int x]) := by
    refine ⟨nf_inA hl rfl, sgq_1398 ?_⟩
    · show ((w_fi ws (n_v (vs ++ [Value.int x]) 4) 12 = 1) → (w_fi ws (n_v (vs ++ [Value.int x]) 4) 11 ≤ (w_fi ws (n_v (vs ++ [Value.int x]) 4) 15 + 8))) ∧ ((w_fi ws (n_v (vs ++ [Value.int x]) 4) 12 = 0) ∨ ((w_fi ws (n_v (vs ++ [Value.int x]) 4) 15 + 1) ≤ w_fi ws (n_v (vs ++ [Value.int x]) 4) 11))
      simp only [e_4, q4]
      exact vc_Mo_groupItem_at_k1_21_3 (w_fi ws (n_v vs 0) 12) (w_fi ws (n_v vs 0) 15) (w_fi ws (n_v vs 0) 11) (w_fi ws (n_v vs 0) 5) f5 kz_0_11 kz_0_12 kz_0_15
  have nf4 : fc_1 PRD (20, [14, 4], [30, 0, 1, 0, 0, -1, 1, 11]) ws (vs ++ [Value.int x]) := by
    refine ⟨nf_inA hl rfl, sgq_1395 ?_⟩
    · show 1 * v_iv (n_v (vs ++ [Value.int x]) 14) + ((-1) * w_fi ws (n_v (vs ++ [Value.int x]) 4) 11 + 0) ≤ 0
      simp only [e_4, e_14, q4]
      exact vc_Mo_groupItem_at_k1_21_4 (v_iv (n_v vs 3)) (w_fi ws (n_v vs 0) 11) (w_fi ws (n_v vs 0) 5) (v_iv (Value.int x)) k3 f6 kz_0_11 ex2
  have nf5 : fc_1 PRD (20, [4, 14], [50, 3, 0, 8, 12, 11, 3, 7, 0, 2, 0, 1, 2, 0, 8, 3, 7, 1, 3, 2, 0, 12, 0, 0, 0, 6, 4, 2, 1, 1, 0, 1, 2, 0, 11]) ws (vs ++ [Value.int x]) := by
    refine ⟨nf_inA hl rfl, sgq_1660 ?_⟩
    · show (1 ≤ w_fi ws (n_v (vs ++ [Value.int x]) 4) 8) ∨ ((w_fi ws (n_v (vs ++ [Value.int x]) 4) 12 = 0) ∨ ((v_iv (n_v (vs ++ [Value.int x]) 14) + 1) ≤ w_fi ws (n_v (vs ++ [Value.int x]) 4) 11))
      simp only [e_4, e_14, q4]
      exact vc_Mo_groupItem_at_k1_21_5 (v_iv (n_v vs 3)) (v_iv (n_v vs 10)) (w_fi ws (n_v vs 0) 12) (w_fi ws (n_v vs 0) 8) (w_fi ws (n_v vs 0) 11) (w_fi ws (n_v vs 0) 5) (v_iv (Value.int x)) k3 k10 g3 f6 f7 kz_0_8 kz_0_11 kz_0_12 ex2
  exact ⟨(fun _ h => (by cases h)), [Value.int x], ag_one hx, List.forall_mem_cons.mpr ⟨⟨show (23 : Nat) < 100 from by decide, nf0⟩, List.forall_mem_cons.mpr ⟨⟨show (23 : Nat) < 100 from by decide, nf1⟩, List.forall_mem_cons.mpr ⟨⟨show (20 : Nat) < 100 from by decide, nf2⟩, List.forall_mem_cons.mpr ⟨⟨show (20 : Nat) < 100 from by decide, nf3⟩, List.forall_mem_cons.mpr ⟨⟨show (20 : Nat) < 100 from by decide, nf4⟩, List.forall_mem_cons.mpr ⟨⟨show (20 : Nat) < 100 from by decide, nf5⟩, (fun _ h => (by cases h))⟩⟩⟩⟩⟩⟩, (fun _ h => (by cases h))⟩
set_option maxHeartbeats 4000000 in
theorem vc_Mo_groupItem_at_k1_22_0 (r_0 : Int) (from_0 : Int) (pos_0 : Int) (f7 : 1 * from_0 + ((-1) * pos_0 + 0) ≤ 0) (kz_0_11 : 0 ≤ pos_0 ∧ pos_0 ≤ 2000) (kz_0_15 : 0 ≤ from_0 ∧ from_0 ≤ 2000) : 1 * from_0 + ((-1) * pos_0 + 0) ≤ 0 := by
  first
    | omega
    | (have q1 := (hE_0_2_1 (r_0 + 2) (by omega)).2 (by omega)
       have q2 := (hE_0_2_2 (r_0 + 2) (by omega)).2 (by omega)
       omega)
    | (have q1 := (hE_0_2_1 (r_0 + 1) (by omega)).2 (by omega)
       have q2 := (hE_0_2_2 (r_0 + 1) (by omega)).2 (by omega)
       omega)
    | (have q1 := (hE_0_2_1 (r_0 + 2) (by omega)).2 (by omega)
       omega)
    | (have q1 := (hE_0_2_1 (r_0 + 1) (by omega)).2 (by omega)
       omega)
    | (have q1 := (hE_0_2_1 (r_0 + 2) (by omega)).2 (by omega)
       have q2 := (hE_0_2_2 (r_0 + 2) (by omega)).2 (by omega)
       have q3 := (hE_0_2_3 (r_0 + 2) (by omega)).1 (by omega)
       omega)
    | (have q1 := (hE_0_2_1 (r_0 + 2) (by omega)).2 (by omega)
       have q2 := (hE_0_2_2 (r_0 + 2) (by omega)).2 (by omega)
       have q3 := (hE_0_2_3 (r_0 + 2) (by omega)).2 (by omega)
       omega)
    | (have q1 := (hE_0_2_1 (r_0 + 2) (by omega)).2 (by omega)
       have q2 := (hE_0_2_2 (r_0 + 2) (by omega)).2 (by omega)
       have q3 := (hE_0_2_3 (r_0 + 2) (by omega)).1 (by omega)
       have q4 : x13 = r_0 + 2 := by omega
       rw [q4] at h34
       omega)
set_option maxHeartbeats 4000000 in
theorem vc_Mo_groupItem_at_k1_22_1 (r_0 : Int) (from_0 : Int) (pos_0 : Int) (kind_0 : Int) (f8 : ((kind_0 = 1) → (pos_0 ≤ (from_0 + 8))) ∧ ((kind_0 = 0) ∨ ((from_0 + 1) ≤ pos_0))) (kz_0_11 : 0 ≤ pos_0 ∧ pos_0 ≤ 2000) (kz_0_12 : 0 ≤ kind_0 ∧ kind_0 ≤ 4) (kz_0_15 : 0 ≤ from_0 ∧ from_0 ≤ 2000) : ((kind_0 = 1) → (pos_0 ≤ (from_0 + 8))) ∧ ((kind_0 = 0) ∨ ((from_0 + 1) ≤ pos_0)) := by
  first
    | omega
    | (have q1 := (hE_0_2_1 (r_0 + 2) (by omega)).2 (by omega)
       have q2 := (hE_0_2_2 (r_0 + 2) (by omega)).2 (by omega)
       omega)
    | (have q1 := (hE_0_2_1 (r_0 + 1) (by omega)).2 (by omega)
       have q2 := (hE_0_2_2 (r_0 + 1) (by omega)).2 (by omega)
       omega)
    | (have q1 := (hE_0_2_1 (r_0 + 2) (by omega)).2 (by omega)
       omega)
    | (have q1 := (hE_0_2_1 (r_0 + 1) (by omega)).2 (by omega)
       omega)
    | (have q1 := (hE_0_2_1 (r_0 + 2) (by omega)).2 (by omega)
       have q2 := (hE_0_2_2 (r_0 + 2) (by omega)).2 (by omega)
       have q3 := (hE_0_2_3 (r_0 + 2) (by omega)).1 (by omega)
       omega)
    | (have q1 := (hE_0_2_1 (r_0 + 2) (by omega)).2 (by omega)
       have q2 := (hE_0_2_2 (r_0 + 2) (by omega)).2 (by omega)
       have q3 := (hE_0_2_3 (r_0 + 2) (by omega)).2 (by omega)
       omega)
    | (have q1 := (hE_0_2_1 (r_0 + 2) (by omega)).2 (by omega)
       have q2 := (hE_0_2_2 (r_0 + 2) (by omega)).2 (by omega)
       have q3 := (hE_0_2_3 (r_0 + 2) (by omega)).1 (by omega)
       have q4 : x13 = r_0 + 2 := by omega
       rw [q4] at h34
       omega)
set_option maxHeartbeats 4000000 in
theorem vc_Mo_groupItem_at_k1_22_2 (x3 : Int) (x14 : Int) (r_0 : Int) (pos_0 : Int) (k3 : 0 ≤ x3 ∧ x3 ≤ 2000) (k14 : 0 ≤ x14 ∧ x14 ≤ 2000) (f0 : 1 * x14 + ((-1) * x3 + 0) ≤ 0) (f1 : (-1) * x14 + (1 * x3 + 0) ≤ 0) (f9 : 1 * x14 + ((-1) * pos_0 + 0) ≤ 0) (kz_0_11 : 0 ≤ pos_0 ∧ pos_0 ≤ 2000) : 1 * x3 + ((-1) * pos_0 + 0) ≤ 0 := by
  first
    | omega
    | (have q1 := (hE_0_2_1 (r_0 + 2) (by omega)).2 (by omega)
       have q2 := (hE_0_2_2 (r_0 + 2) (by omega)).2 (by omega)
       omega)
    | (have q1 := (hE_0_2_1 (r_0 + 1) (by omega)).2 (by omega)
       have q2 := (hE_0_2_2 (r_0 + 1) (by omega)).2 (by omega)
       omega)
    | (have q1 := (hE_0_2_1 (r_0 + 2) (by omega)).2 (by omega)
       omega)
    | (have q1 := (hE_0_2_1 (r_0 + 1) (by omega)).2 (by omega)
       omega)
    | (have q1 := (hE_0_2_1 (r_0 + 2) (by omega)).2 (by omega)
       have q2 := (hE_0_2_2 (r_0 + 2) (by omega)).2 (by omega)
       have q3 := (hE_0_2_3 (r_0 + 2) (by omega)).1 (by omega)
       omega)
    | (have q1 := (hE_0_2_1 (r_0 + 2) (by omega)).2 (by omega)
       have q2 := (hE_0_2_2 (r_0 + 2) (by omega)).2 (by omega)
       have q3 := (hE_0_2_3 (r_0 + 2) (by omega)).2 (by omega)
       omega)
    | (have q1 := (hE_0_2_1 (r_0 + 2) (by omega)).2 (by omega)
       have q2 := (hE_0_2_2 (r_0 + 2) (by omega)).2 (by omega)
       have q3 := (hE_0_2_3 (r_0 + 2) (by omega)).1 (by omega)
       have q4 : x13 = r_0 + 2 := by omega
       rw [q4] at h34
       omega)
set_option maxHeartbeats 4000000 in
theorem vc_Mo_groupItem_at_k1_22_3 (x3 : Int) (x14 : Int) (r_0 : Int) (pos_0 : Int) (fault_0 : Int) (k3 : 0 ≤ x3 ∧ x3 ≤ 2000) (k14 : 0 ≤ x14 ∧ x14 ≤ 2000) (f0 : 1 * x14 + ((-1) * x3 + 0) ≤ 0) (f1 : (-1) * x14 + (1 * x3 + 0) ≤ 0) (f9 : 1 * x14 + ((-1) * pos_0 + 0) ≤ 0) (f10 : (1 ≤ fault_0) ∨ ((x14 + 1) ≤ pos_0)) (kz_0_8 : 0 ≤ fault_0 ∧ fault_0 ≤ 5) (kz_0_11 : 0 ≤ pos_0 ∧ pos_0 ≤ 2000) : (1 ≤ fault_0) ∨ ((x3 + 1) ≤ pos_0) := by
  first
    | omega
    | (have q1 := (hE_0_2_1 (r_0 + 2) (by omega)).2 (by omega)
       have q2 := (hE_0_2_2 (r_0 + 2) (by omega)).2 (by omega)
       omega)
    | (have q1 := (hE_0_2_1 (r_0 + 1) (by omega)).2 (by omega)
       have q2 := (hE_0_2_2 (r_0 + 1) (by omega)).2 (by omega)
       omega)
    | (have q1 := (hE_0_2_1 (r_0 + 2) (by omega)).2 (by omega)
       omega)
    | (have q1 := (hE_0_2_1 (r_0 + 1) (by omega)).2 (by omega)
       omega)
    | (have q1 := (hE_0_2_1 (r_0 + 2) (by omega)).2 (by omega)
       have q2 := (hE_0_2_2 (r_0 + 2) (by omega)).2 (by omega)
       have q3 := (hE_0_2_3 (r_0 + 2) (by omega)).1 (by omega)
       omega)
    | (have q1 := (hE_0_2_1 (r_0 + 2) (by omega)).2 (by omega)
       have q2 := (hE_0_2_2 (r_0 + 2) (by omega)).2 (by omega)
       have q3 := (hE_0_2_3 (r_0 + 2) (by omega)).2 (by omega)
       omega)
    | (have q1 := (hE_0_2_1 (r_0 + 2) (by omega)).2 (by omega)
       have q2 := (hE_0_2_2 (r_0 + 2) (by omega)).2 (by omega)
       have q3 := (hE_0_2_3 (r_0 + 2) (by omega)).1 (by omega)
       have q4 : x13 = r_0 + 2 := by omega
       rw [q4] at h34
       omega)
set_option maxHeartbeats 4000000 in
theorem vc_Mo_groupItem_at_k1_22_4 (x1 : Int) (x5 : Int) (x7 : Int) (all_0 : Int → Int) (r_0 : Int) (k1 : 0 ≤ x1 ∧ x1 ≤ 7) (k5 : 0 ≤ x5 ∧ x5 ≤ 7) (k7 : 0 ≤ x7 ∧ x7 ≤ 7) (d0 : x5 + (-4294967296) ≤ x1 ∧ x1 ≤ x5 + 0) (d1 : x1 + (-4294967296) ≤ x5 ∧ x5 ≤ x1 + 0) (f2 : (x7 + 1) ≤ all_0 ((r_0 + 2))) (f3 : 1 * x1 + ((-1) * x7 + 0) ≤ (-1)) : (x1 + 1) ≤ all_0 ((r_0 + 2)) := by
  first
    | omega
    | (have q1 := (hE_0_2_1 (r_0 + 2) (by omega)).2 (by omega)
       have q2 := (hE_0_2_2 (r_0 + 2) (by omega)).2 (by omega)
       omega)
    | (have q1 := (hE_0_2_1 (r_0 + 1) (by omega)).2 (by omega)
       have q2 := (hE_0_2_2 (r_0 + 1) (by omega)).2 (by omega)
       omega)
    | (have q1 := (hE_0_2_1 (r_0 + 2) (by omega)).2 (by omega)
       omega)
    | (have q1 := (hE_0_2_1 (r_0 + 1) (by omega)).2 (by omega)
       omega)
    | (have q1 := (hE_0_2_1 (r_0 + 2) (by omega)).2 (by omega)
       have q2 := (hE_0_2_2 (r_0 + 2) (by omega)).2 (by omega)
       have q3 := (hE_0_2_3 (r_0 + 2) (by omega)).1 (by omega)
       omega)
    | (have q1 := (hE_0_2_1 (r_0 + 2) (by omega)).2 (by omega)
       have q2 := (hE_0_2_2 (r_0 + 2) (by omega)).2 (by omega)
       have q3 := (hE_0_2_3 (r_0 + 2) (by omega)).2 (by omega)
       omega)
    | (have q1 := (hE_0_2_1 (r_0 + 2) (by omega)).2 (by omega)
       have q2 := (hE_0_2_2 (r_0 + 2) (by omega)).2 (by omega)
       have q3 := (hE_0_2_3 (r_0 + 2) (by omega)).1 (by omega)
       have q4 : x13 = r_0 + 2 := by omega
       rw [q4] at h34
       omega)
set_option maxHeartbeats 4000000 in
theorem vc_Mo_groupItem_at_k1_22_5 (all_0 : Int → Int) (r_0 : Int) (now_0 : Int → Int) (latest_0 : Int → Int) (f4 : RWS (r_0) (all_0) (now_0) (latest_0)) : RWS (r_0) (all_0) (now_0) (latest_0) := by
  first
    | assumption
def o_Mo_groupItem_at_k1_22 : or_T := (203, 15, [(0, (2, 0, 0, [165])), (1, (0, 0, 7, [])), (3, (0, 0, 2000, [])), (5, (0, 0, 7, [])), (7, (0, 0, 7, [])), (14, (0, 0, 2000, []))], [(23, [14, 3], [0, 1, -1]), (23, [14, 3], [0, -1, 1]), (20, [7, 4], [50, 1, 1, 1005, 1002, 0, 6, 4, 2, 1, 0, 0, 1, 3, 1, 2, 4, 3, 2, 1, 5, 0, 2]), (23, [5, 7], [-1, 1, -1]), (20, [4], [60, 1, 3, 199, 5, 2, 3, 4]), (24, [0, 4], []), (24, [1, 5], []), (20, [4, 4], [30, 0, 1, 1, 15, -1, 1, 11]), (20, [4], [50, 3, 0, 12, 11, 15, 2, 21, 4, 7, 1, 3, 2, 0, 12, 0, 1, 0, 3, 2, 0, 11, 4, 3, 2, 0, 15, 0, 8, 3, 7, 1, 3, 2, 0, 12, 0, 0, 0, 7, 4, 3, 2, 0, 15, 0, 1, 2, 0, 11]), (20, [14, 4], [30, 0, 1, 0, 0, -1, 1, 11]), (20, [4, 14], [50, 2, 0, 8, 11, 3, 7, 0, 2, 0, 1, 2, 0, 8, 0, 6, 4, 2, 1, 1, 0, 1, 2, 0, 11])], [], [], [(20, [0, 0], [30, 0, 1, 1, 15, -1, 1, 11]), (20, [0], [50, 3, 0, 12, 11, 15, 2, 21, 4, 7, 1, 3, 2, 0, 12, 0, 1, 0, 3, 2, 0, 11, 4, 3, 2, 0, 15, 0, 8, 3, 7, 1, 3, 2, 0, 12, 0, 0, 0, 7, 4, 3, 2, 0, 15, 0, 1, 2, 0, 11]), (20, [3, 0], [30, 0, 1, 0, 0, -1, 1, 11]), (20, [0, 3], [50, 2, 0, 8, 11, 3, 7, 0, 2, 0, 1, 2, 0, 8, 0, 6, 4, 2, 1, 1, 0, 1, 2, 0, 11]), (20, [1, 0], [50, 1, 1, 1005, 1002, 0, 6, 4, 2, 1, 0, 0, 1, 3, 1, 2, 4, 3, 2, 1, 5, 0, 2]), (20, [0], [60, 1, 3, 199, 5, 2, 3, 4])], [], [(1, 5, -4294967296, 0), (5, 1, -4294967296, 0)])
theorem oo_Mo_groupItem_at_k1_22 {kA : Nat → ClassId} : or_ok PRD kA GG o_Mo_groupItem_at_k1_22 := by
  refine or_mk fun A ta ws vs hD hth hl => ?_
  intro t0 r0 t1 k1 t3 k3 t5 k5 t7 k7 t14 k14 d0 d1 f0 f1 f2 f3 f4 f5 f6 f7 f8 f9 f10
  replace f2 := shm_981 f2
  replace f3 := shm_211 f3
  replace f4 := shm_952 f4
  replace f5 := shm_5 f5
  replace f6 := shm_5 f6
  replace f7 := shm_1397 f7
  replace f8 := shm_1398 f8
  replace f9 := shm_1395 f9
  replace f10 := shm_1659 f10
  have q4 : n_v vs 4 = n_v vs 0 := f5.symm
  have q5 : n_v vs 5 = n_v vs 1 := f6.symm
  simp only [q4, q5] at f2 f3 f4 f7 f8 f9 f10
  have kz_0_8 := fdq_14 hD hth r0
  have kz_0_11 := fdq_273 hD hth r0
  have kz_0_12 := fdq_186 hD hth r0
  have kz_0_15 := fdq_274 hD hth r0
  have nf0 : fc_1 PRD (20, [0, 0], [30, 0, 1, 1, 15, -1, 1, 11]) ws (vs) := ⟨nf_in hl rfl, sgq_1397 (vc_Mo_groupItem_at_k1_22_0 (w_fi ws (n_v vs 0) 5) (w_fi ws (n_v vs 0) 15) (w_fi ws (n_v vs 0) 11) f7 kz_0_11 kz_0_15)⟩
  have nf1 : fc_1 PRD (20, [0], [50, 3, 0, 12, 11, 15, 2, 21, 4, 7, 1, 3, 2, 0, 12, 0, 1, 0, 3, 2, 0, 11, 4, 3, 2, 0, 15, 0, 8, 3, 7, 1, 3, 2, 0, 12, 0, 0, 0, 7, 4, 3, 2, 0, 15, 0, 1, 2, 0, 11]) ws (vs) := ⟨nf_in hl rfl, sgq_1398 (vc_Mo_groupItem_at_k1_22_1 (w_fi ws (n_v vs 0) 5) (w_fi ws (n_v vs 0) 15) (w_fi ws (n_v vs 0) 11) (w_fi ws (n_v vs 0) 12) f8 kz_0_11 kz_0_12 kz_0_15)⟩
  have nf2 : fc_1 PRD (20, [3, 0], [30, 0, 1, 0, 0, -1, 1, 11]) ws (vs) := ⟨nf_in hl rfl, sgq_1395 (vc_Mo_groupItem_at_k1_22_2 (v_iv (n_v vs 3)) (v_iv (n_v vs 14)) (w_fi ws (n_v vs 0) 5) (w_fi ws (n_v vs 0) 11) k3 k14 (shm_7 f0) (shm_22 f1) f9 kz_0_11)⟩
  have nf3 : fc_1 PRD (20, [0, 3], [50, 2, 0, 8, 11, 3, 7, 0, 2, 0, 1, 2, 0, 8, 0, 6, 4, 2, 1, 1, 0, 1, 2, 0, 11]) ws (vs) := ⟨nf_in hl rfl, sgq_1659 (vc_Mo_groupItem_at_k1_22_3 (v_iv (n_v vs 3)) (v_iv (n_v vs 14)) (w_fi ws (n_v vs 0) 5) (w_fi ws (n_v vs 0) 11) (w_fi ws (n_v vs 0) 8) k3 k14 (shm_7 f0) (shm_22 f1) f9 f10 kz_0_8 kz_0_11)⟩
  have nf4 : fc_1 PRD (20, [1, 0], [50, 1, 1, 1005, 1002, 0, 6, 4, 2, 1, 0, 0, 1, 3, 1, 2, 4, 3, 2, 1, 5, 0, 2]) ws (vs) := ⟨nf_in hl rfl, sgq_981 (vc_Mo_groupItem_at_k1_22_4 (v_iv (n_v vs 1)) (v_iv (n_v vs 5)) (v_iv (n_v vs 7)) (w_ei ws (w_ar ws (n_v vs 0) 2)) (w_fi ws (n_v vs 0) 5) k1 k5 k7 d0 d1 f2 f3)⟩
  have nf5 : fc_1 PRD (20, [0], [60, 1, 3, 199, 5, 2, 3, 4]) ws (vs) := ⟨nf_in hl rfl, sgq_952 (vc_Mo_groupItem_at_k1_22_5 (w_ei ws (w_ar ws (n_v vs 0) 2)) (w_fi ws (n_v vs 0) 5) (w_ei ws (w_ar ws (n_v vs 0) 3)) (w_ei ws (w_ar ws (n_v vs 0) 4)) f4)⟩
  refine ⟨(fun _ h => (by cases h)), [], trivial, ?_, (fun _ h => (by cases h))⟩
  rw [List.append_nil]
  exact List.forall_mem_cons.mpr ⟨⟨show (20 : Nat) < 100 from by decide, nf0⟩, List.forall_mem_cons.mpr ⟨⟨show (20 : Nat) < 100 from by decide, nf1⟩, List.forall_mem_cons.mpr ⟨⟨show (20 : Nat) < 100 from by decide, nf2⟩, List.forall_mem_cons.mpr ⟨⟨show (20 : Nat) < 100 from by decide, nf3⟩, List.forall_mem_cons.mpr ⟨⟨show (20 : Nat) < 100 from by decide, nf4⟩, List.forall_mem_cons.mpr ⟨⟨show (20 : Nat) < 100 from by decide, nf5⟩, (fun _ h => (by cases h))⟩⟩⟩⟩⟩⟩
set_option maxHeartbeats 4000000 in
theorem vc_Mo_groupItem_at_k1_23_0 (from_0 : Int) (pos_0 : Int) (r_0 : Int) (f0 : 1 * from_0 + ((-1) * pos_0 + 0) ≤ 0) (kz_0_11 : 0 ≤ pos_0 ∧ pos_0 ≤ 2000) (kz_0_15 : 0 ≤ from_0 ∧ from_0 ≤ 2000) : 1 * from_0 + ((-1) * pos_0 + 0) ≤ 0 := by
  first
    | omega
    | (have q1 := (hE_0_2_1 (r_0 + 2) (by omega)).2 (by omega)
       have q2 := (hE_0_2_2 (r_0 + 2) (by omega)).2 (by omega)
       omega)
    | (have q1 := (hE_0_2_1 (r_0 + 1) (by omega)).2 (by omega)
       have q2 := (hE_0_2_2 (r_0 + 1) (by omega)).2 (by omega)
       omega)
    | (have q1 := (hE_0_2_1 (r_0 + 2) (by omega)).2 (by omega)
       omega)
    | (have q1 := (hE_0_2_1 (r_0 + 1) (by omega)).2 (by omega)
       omega)
    | (have q1 := (hE_0_2_1 (r_0 + 2) (by omega)).2 (by omega)
       have q2 := (hE_0_2_2 (r_0 + 2) (by omega)).2 (by omega)
       have q3 := (hE_0_2_3 (r_0 + 2) (by omega)).1 (by omega)
       omega)
    | (have q1 := (hE_0_2_1 (r_0 + 2) (by omega)).2 (by omega)
       have q2 := (hE_0_2_2 (r_0 + 2) (by omega)).2 (by omega)
       have q3 := (hE_0_2_3 (r_0 + 2) (by omega)).2 (by omega)
       omega)
    | (have q1 := (hE_0_2_1 (r_0 + 2) (by omega)).2 (by omega)
       have q2 := (hE_0_2_2 (r_0 + 2) (by omega)).2 (by omega)
       have q3 := (hE_0_2_3 (r_0 + 2) (by omega)).1 (by omega)
       have q4 : x13 = r_0 + 2 := by omega
       rw [q4] at h34
       omega)
set_option maxHeartbeats 4000000 in
theorem vc_Mo_groupItem_at_k1_23_1 (from_0 : Int) (pos_0 : Int) (kind_0 : Int) (r_0 : Int) (f1 : ((kind_0 = 1) → (pos_0 ≤ (from_0 + 8))) ∧ ((kind_0 = 0) ∨ ((from_0 + 1) ≤ pos_0))) (kz_0_11 : 0 ≤ pos_0 ∧ pos_0 ≤ 2000) (kz_0_12 : 0 ≤ kind_0 ∧ kind_0 ≤ 4) (kz_0_15 : 0 ≤ from_0 ∧ from_0 ≤ 2000) : ((kind_0 = 1) → (pos_0 ≤ (from_0 + 8))) ∧ ((kind_0 = 0) ∨ ((from_0 + 1) ≤ pos_0)) := by
  first
    | omega
    | (have q1 := (hE_0_2_1 (r_0 + 2) (by omega)).2 (by omega)
       have q2 := (hE_0_2_2 (r_0 + 2) (by omega)).2 (by omega)
       omega)
    | (have q1 := (hE_0_2_1 (r_0 + 1) (by omega)).2 (by omega)
       have q2 := (hE_0_2_2 (r_0 + 1) (by omega)).2 (by omega)
       omega)
    | (have q1 := (hE_0_2_1 (r_0 + 2) (by omega)).2 (by omega)
       omega)
    | (have q1 := (hE_0_2_1 (r_0 + 1) (by omega)).2 (by omega)
       omega)
    | (have q1 := (hE_0_2_1 (r_0 + 2) (by omega)).2 (by omega)
       have q2 := (hE_0_2_2 (r_0 + 2) (by omega)).2 (by omega)
       have q3 := (hE_0_2_3 (r_0 + 2) (by omega)).1 (by omega)
       omega)
    | (have q1 := (hE_0_2_1 (r_0 + 2) (by omega)).2 (by omega)
       have q2 := (hE_0_2_2 (r_0 + 2) (by omega)).2 (by omega)
       have q3 := (hE_0_2_3 (r_0 + 2) (by omega)).2 (by omega)
       omega)
    | (have q1 := (hE_0_2_1 (r_0 + 2) (by omega)).2 (by omega)
       have q2 := (hE_0_2_2 (r_0 + 2) (by omega)).2 (by omega)
       have q3 := (hE_0_2_3 (r_0 + 2) (by omega)).1 (by omega)
       have q4 : x13 = r_0 + 2 := by omega
       rw [q4] at h34
       omega)
set_option maxHeartbeats 4000000 in
theorem vc_Mo_groupItem_at_k1_23_2 (x3 : Int) (pos_0 : Int) (r_0 : Int) (k3 : 0 ≤ x3 ∧ x3 ≤ 2000) (f2 : 1 * x3 + ((-1) * pos_0 + 0) ≤ 0) (kz_0_11 : 0 ≤ pos_0 ∧ pos_0 ≤ 2000) : 1 * x3 + ((-1) * pos_0 + 0) ≤ 0 := by
  first
    | omega
    | (have q1 := (hE_0_2_1 (r_0 + 2) (by omega)).2 (by omega)
       have q2 := (hE_0_2_2 (r_0 + 2) (by omega)).2 (by omega)
       omega)
    | (have q1 := (hE_0_2_1 (r_0 + 1) (by omega)).2 (by omega)
       have q2 := (hE_0_2_2 (r_0 + 1) (by omega)).2 (by omega)
       omega)
    | (have q1 := (hE_0_2_1 (r_0 + 2) (by omega)).2 (by omega)
       omega)
    | (have q1 := (hE_0_2_1 (r_0 + 1) (by omega)).2 (by omega)
       omega)
    | (have q1 := (hE_0_2_1 (r_0 + 2) (by omega)).2 (by omega)
       have q2 := (hE_0_2_2 (r_0 + 2) (by omega)).2 (by omega)
       have q3 := (hE_0_2_3 (r_0 + 2) (by omega)).1 (by omega)
       omega)
    | (have q1 := (hE_0_2_1 (r_0 + 2) (by omega)).2 (by omega)
       have q2 := (hE_0_2_2 (r_0 + 2) (by omega)).2 (by omega)
       have q3 := (hE_0_2_3 (r_0 + 2) (by omega)).2 (by omega)
       omega)
    | (have q1 := (hE_0_2_1 (r_0 + 2) (by omega)).2 (by omega)
       have q2 := (hE_0_2_2 (r_0 + 2) (by omega)).2 (by omega)
       have q3 := (hE_0_2_3 (r_0 + 2) (by omega)).1 (by omega)
       have q4 : x13 = r_0 + 2 := by omega
       rw [q4] at h34
       omega)
set_option maxHeartbeats 4000000 in
theorem vc_Mo_groupItem_at_k1_23_3 (x3 : Int) (pos_0 : Int) (fault_0 : Int) (r_0 : Int) (k3 : 0 ≤ x3 ∧ x3 ≤ 2000) (f3 : (1 ≤ fault_0) ∨ ((x3 + 1) ≤ pos_0)) (kz_0_8 : 0 ≤ fault_0 ∧ fault_0 ≤ 5) (kz_0_11 : 0 ≤ pos_0 ∧ pos_0 ≤ 2000) : (1 ≤ fault_0) ∨ ((x3 + 1) ≤ pos_0) := by
  first
    | omega
    | (have q1 := (hE_0_2_1 (r_0 + 2) (by omega)).2 (by omega)
       have q2 := (hE_0_2_2 (r_0 + 2) (by omega)).2 (by omega)
       omega)
    | (have q1 := (hE_0_2_1 (r_0 + 1) (by omega)).2 (by omega)
       have q2 := (hE_0_2_2 (r_0 + 1) (by omega)).2 (by omega)
       omega)
    | (have q1 := (hE_0_2_1 (r_0 + 2) (by omega)).2 (by omega)
       omega)
    | (have q1 := (hE_0_2_1 (r_0 + 1) (by omega)).2 (by omega)
       omega)
    | (have q1 := (hE_0_2_1 (r_0 + 2) (by omega)).2 (by omega)
       have q2 := (hE_0_2_2 (r_0 + 2) (by omega)).2 (by omega)
       have q3 := (hE_0_2_3 (r_0 + 2) (by omega)).1 (by omega)
       omega)
    | (have q1 := (hE_0_2_1 (r_0 + 2) (by omega)).2 (by omega)
       have q2 := (hE_0_2_2 (r_0 + 2) (by omega)).2 (by omega)
       have q3 := (hE_0_2_3 (r_0 + 2) (by omega)).2 (by omega)
       omega)
    | (have q1 := (hE_0_2_1 (r_0 + 2) (by omega)).2 (by omega)
       have q2 := (hE_0_2_2 (r_0 + 2) (by omega)).2 (by omega)
       have q3 := (hE_0_2_3 (r_0 + 2) (by omega)).1 (by omega)
       have q4 : x13 = r_0 + 2 := by omega
       rw [q4] at h34
       omega)
set_option maxHeartbeats 4000000 in
theorem vc_Mo_groupItem_at_k1_23_4 (x7 : Int) (all_0 : Int → Int) (r_0 : Int) (k7 : 0 ≤ x7 ∧ x7 ≤ 7) (f4 : (x7 + 1) ≤ all_0 ((r_0 + 2))) : (x7 + 1) ≤ all_0 ((r_0 + 2)) := by
  first
    | omega
    | (have q1 := (hE_0_2_1 (r_0 + 2) (by omega)).2 (by omega)
       have q2 := (hE_0_2_2 (r_0 + 2) (by omega)).2 (by omega)
       omega)
    | (have q1 := (hE_0_2_1 (r_0 + 1) (by omega)).2 (by omega)
       have q2 := (hE_0_2_2 (r_0 + 1) (by omega)).2 (by omega)
       omega)
    | (have q1 := (hE_0_2_1 (r_0 + 2) (by omega)).2 (by omega)
       omega)
    | (have q1 := (hE_0_2_1 (r_0 + 1) (by omega)).2 (by omega)
       omega)
    | (have q1 := (hE_0_2_1 (r_0 + 2) (by omega)).2 (by omega)
       have q2 := (hE_0_2_2 (r_0 + 2) (by omega)).2 (by omega)
       have q3 := (hE_0_2_3 (r_0 + 2) (by omega)).1 (by omega)
       omega)
    | (have q1 := (hE_0_2_1 (r_0 + 2) (by omega)).2 (by omega)
       have q2 := (hE_0_2_2 (r_0 + 2) (by omega)).2 (by omega)
       have q3 := (hE_0_2_3 (r_0 + 2) (by omega)).2 (by omega)
       omega)
    | (have q1 := (hE_0_2_1 (r_0 + 2) (by omega)).2 (by omega)
       have q2 := (hE_0_2_2 (r_0 + 2) (by omega)).2 (by omega)
       have q3 := (hE_0_2_3 (r_0 + 2) (by omega)).1 (by omega)
       have q4 : x13 = r_0 + 2 := by omega
       rw [q4] at h34
       omega)
set_option maxHeartbeats 4000000 in
theorem vc_Mo_groupItem_at_k1_23_5 (x1 : Int) (x7 : Int) (r_0 : Int) (k1 : 0 ≤ x1 ∧ x1 ≤ 7) (k7 : 0 ≤ x7 ∧ x7 ≤ 7) (f5 : 1 * x1 + ((-1) * x7 + 0) ≤ (-1)) : 1 * x1 + ((-1) * x7 + 0) ≤ (-1) := by
  first
    | omega
    | (have q1 := (hE_0_2_1 (r_0 + 2) (by omega)).2 (by omega)
       have q2 := (hE_0_2_2 (r_0 + 2) (by omega)).2 (by omega)
       omega)
    | (have q1 := (hE_0_2_1 (r_0 + 1) (by omega)).2 (by omega)
       have q2 := (hE_0_2_2 (r_0 + 1) (by omega)).2 (by omega)
       omega)
    | (have q1 := (hE_0_2_1 (r_0 + 2) (by omega)).2 (by omega)
       omega)
    | (have q1 := (hE_0_2_1 (r_0 + 1) (by omega)).2 (by omega)
       omega)
    | (have q1 := (hE_0_2_1 (r_0 + 2) (by omega)).2 (by omega)
       have q2 := (hE_0_2_2 (r_0 + 2) (by omega)).2 (by omega)
       have q3 := (hE_0_2_3 (r_0 + 2) (by omega)).1 (by omega)
       omega)
    | (have q1 := (hE_0_2_1 (r_0 + 2) (by omega)).2 (by omega)
       have q2 := (hE_0_2_2 (r_0 + 2) (by omega)).2 (by omega)
       have q3 := (hE_0_2_3 (r_0 + 2) (by omega)).2 (by omega)
       omega)
    | (have q1 := (hE_0_2_1 (r_0 + 2) (by omega)).2 (by omega)
       have q2 := (hE_0_2_2 (r_0 + 2) (by omega)).2 (by omega)
       have q3 := (hE_0_2_3 (r_0 + 2) (by omega)).1 (by omega)
       have q4 : x13 = r_0 + 2 := by omega
       rw [q4] at h34
       omega)
set_option maxHeartbeats 4000000 in
theorem vc_Mo_groupItem_at_k1_23_6 (all_0 : Int → Int) (r_0 : Int) (now_0 : Int → Int) (latest_0 : Int → Int) (f6 : RWS (r_0) (all_0) (now_0) (latest_0)) : RWS (r_0) (all_0) (now_0) (latest_0) := by
  first
    | assumption
set_option maxHeartbeats 4000000 in
theorem vc_Mo_groupItem_at_k1_23_9 (pos_0 : Int) (fault_0 : Int) (r_0 : Int) (gx : Int) (kz_0_8 : 0 ≤ fault_0 ∧ fault_0 ≤ 5) (kz_0_11 : 0 ≤ pos_0 ∧ pos_0 ≤ 2000) (ex2 : gx = 2005 + ((-1) * pos_0 + ((-1) * fault_0 + 0))) : 1 * gx + (1 * pos_0 + (1 * fault_0 + 0)) ≤ 2005 := by
  first
    | omega
    | (have q1 := (hE_0_2_1 (r_0 + 2) (by omega)).2 (by omega)
       have q2 := (hE_0_2_2 (r_0 + 2) (by omega)).2 (by omega)
       omega)
    | (have q1 := (hE_0_2_1 (r_0 + 1) (by omega)).2 (by omega)
       have q2 := (hE_0_2_2 (r_0 + 1) (by omega)).2 (by omega)
       omega)
    | (have q1 := (hE_0_2_1 (r_0 + 2) (by omega)).2 (by omega)
       omega)
    | (have q1 := (hE_0_2_1 (r_0 + 1) (by omega)).2 (by omega)
       omega)
    | (have q1 := (hE_0_2_1 (r_0 + 2) (by omega)).2 (by omega)
       have q2 := (hE_0_2_2 (r_0 + 2) (by omega)).2 (by omega)
       have q3 := (hE_0_2_3 (r_0 + 2) (by omega)).1 (by omega)
       omega)
    | (have q1 := (hE_0_2_1 (r_0 + 2) (by omega)).2 (by omega)
       have q2 := (hE_0_2_2 (r_0 + 2) (by omega)).2 (by omega)
       have q3 := (hE_0_2_3 (r_0 + 2) (by omega)).2 (by omega)
       omega)
    | (have q1 := (hE_0_2_1 (r_0 + 2) (by omega)).2 (by omega)
       have q2 := (hE_0_2_2 (r_0 + 2) (by omega)).2 (by omega)
       have q3 := (hE_0_2_3 (r_0 + 2) (by omega)).1 (by omega)
       have q4 : x13 = r_0 + 2 := by omega
       rw [q4] at h34
       omega)
set_option maxHeartbeats 4000000 in
theorem vc_Mo_groupItem_at_k1_23_10 (pos_0 : Int) (fault_0 : Int) (r_0 : Int) (gx : Int) (kz_0_8 : 0 ≤ fault_0 ∧ fault_0 ≤ 5) (kz_0_11 : 0 ≤ pos_0 ∧ pos_0 ≤ 2000) (ex2 : gx = 2005 + ((-1) * pos_0 + ((-1) * fault_0 + 0))) : (-1) * gx + ((-1) * pos_0 + ((-1) * fault_0 + 0)) ≤ (-2005) := by
  first
    | omega
    | (have q1 := (hE_0_2_1 (r_0 + 2) (by omega)).2 (by omega)
       have q2 := (hE_0_2_2 (r_0 + 2) (by omega)).2 (by omega)
       omega)
    | (have q1 := (hE_0_2_1 (r_0 + 1) (by omega)).2 (by omega)
       have q2 := (hE_0_2_2 (r_0 + 1) (by omega)).2 (by omega)
       omega)
    | (have q1 := (hE_0_2_1 (r_0 + 2) (by omega)).2 (by omega)
       omega)
    | (have q1 := (hE_0_2_1 (r_0 + 1) (by omega)).2 (by omega)
       omega)
    | (have q1 := (hE_0_2_1 (r_0 + 2) (by omega)).2 (by omega)
       have q2 := (hE_0_2_2 (r_0 + 2) (by omega)).2 (by omega)
       have q3 := (hE_0_2_3 (r_0 + 2) (by omega)).1 (by omega)
       omega)
    | (have q1 := (hE_0_2_1 (r_0 + 2) (by omega)).2 (by omega)
       have q2 := (hE_0_2_2 (r_0 + 2) (by omega)).2 (by omega)
       have q3 := (hE_0_2_3 (r_0 + 2) (by omega)).2 (by omega)
       omega)
    | (have q1 := (hE_0_2_1 (r_0 + 2) (by omega)).2 (by omega)
       have q2 := (hE_0_2_2 (r_0 + 2) (by omega)).2 (by omega)
       have q3 := (hE_0_2_3 (r_0 + 2) (by omega)).1 (by omega)
       have q4 : x13 = r_0 + 2 := by omega
       rw [q4] at h34
       omega)
def o_Mo_groupItem_at_k1_23 : or_T := (170, 10, [(0, (2, 0, 0, [165])), (1, (0, 0, 7, [])), (3, (0, 0, 2000, [])), (4, (2, 0, 0, [165])), (5, (0, 0, 7, [])), (7, (0, 0, 7, [])), (9, (0, 0, 2005, []))], [(20, [4, 4], [30, 0, 1, 1, 15, -1, 1, 11]), (20, [4], [50, 3, 0, 12, 11, 15, 2, 21, 4, 7, 1, 3, 2, 0, 12, 0, 1, 0, 3, 2, 0, 11, 4, 3, 2, 0, 15, 0, 8, 3, 7, 1, 3, 2, 0, 12, 0, 0, 0, 7, 4, 3, 2, 0, 15, 0, 1, 2, 0, 11]), (20, [3, 4], [30, 0, 1, 0, 0, -1, 1, 11]), (20, [4, 3], [50, 2, 0, 8, 11, 3, 7, 0, 2, 0, 1, 2, 0, 8, 0, 6, 4, 2, 1, 1, 0, 1, 2, 0, 11]), (20, [7, 4], [50, 1, 1, 1005, 1002, 0, 6, 4, 2, 1, 0, 0, 1, 3, 1, 2, 4, 3, 2, 1, 5, 0, 2]), (23, [5, 7], [-1, 1, -1]), (20, [4], [60, 1, 3, 199, 5, 2, 3, 4]), (20, [9, 4, 4], [30, -2006, -1, 0, 0, -1, 1, 11, -1, 1, 8]), (24, [0, 4], []), (24, [1, 5], [])], [], [(0, 0, 2005, [])], [(20, [4, 4], [30, 0, 1, 1, 15, -1, 1, 11]), (20, [4], [50, 3, 0, 12, 11, 15, 2, 21, 4, 7, 1, 3, 2, 0, 12, 0, 1, 0, 3, 2, 0, 11, 4, 3, 2, 0, 15, 0, 8, 3, 7, 1, 3, 2, 0, 12, 0, 0, 0, 7, 4, 3, 2, 0, 15, 0, 1, 2, 0, 11]), (20, [3, 4], [30, 0, 1, 0, 0, -1, 1, 11]), (20, [4, 3], [50, 2, 0, 8, 11, 3, 7, 0, 2, 0, 1, 2, 0, 8, 0, 6, 4, 2, 1, 1, 0, 1, 2, 0, 11]), (20, [7, 4], [50, 1, 1, 1005, 1002, 0, 6, 4, 2, 1, 0, 0, 1, 3, 1, 2, 4, 3, 2, 1, 5, 0, 2]), (23, [5, 7], [-1, 1, -1]), (20, [4], [60, 1, 3, 199, 5, 2, 3, 4]), (24, [0, 4], []), (24, [1, 5], []), (20, [10, 4, 4], [30, 2005, 1, 0, 0, 1, 1, 11, 1, 1, 8]), (20, [10, 4, 4], [30, -2005, -1, 0, 0, -1, 1, 11, -1, 1, 8])], [(10, 9, -1000000000000, -1)], [(1, 5, -4294967296, 0), (5, 1, -4294967296, 0)])
theorem oo_Mo_groupItem_at_k1_23 {kA : Nat → ClassId} : or_ok PRD kA GG o_Mo_groupItem_at_k1_23 := by
  refine or_mk fun A ta ws vs hD hth hl => ?_
  intro t0 r0 t1 k1 t3 k3 t4 r4 t5 k5 t7 k7 t9 k9 d0 d1 f0 f1 f2 f3 f4 f5 f6 f7 f8 f9
  replace f0 := shm_1397 f0
  replace f1 := shm_1398 f1
  replace f2 := shm_1395 f2
  replace f3 := shm_1659 f3
  replace f4 := shm_981 f4
  replace f5 := shm_211 f5
  replace f6 := shm_952 f6
  replace f7 := shm_2013 f7
  replace f8 := shm_5 f8
  replace f9 := shm_5 f9
  have q4 : n_v vs 4 = n_v vs 0 := f8.symm
  have q5 : n_v vs 5 = n_v vs 1 := f9.symm
  simp only [q4, q5] at f0 f1 f2 f3 f4 f5 f6 f7
  have cr_0_2 := fdq_12 hD hth r0
  have cr_0_3 := fdq_141 hD hth r0
  have cr_0_4 := fdq_142 hD hth r0
  have hK_0_3 := elq_77 hD hth cr_0_3
  have hK_0_4 := elq_78 hD hth cr_0_4
  have kz_0_8 := fdq_14 hD hth r0
  have kz_0_11 := fdq_273 hD hth r0
  have kz_0_12 := fdq_186 hD hth r0
  have kz_0_15 := fdq_274 hD hth r0
  have kb_0_8 := fdq_14 hD hth r0
  have kb_0_11 := fdq_273 hD hth r0
  obtain ⟨x, ex, hx⟩ := iv_ex (ta := ta) (lo := 0) (hi := 2005) (z := 2005 + ((-1) * w_fi ws (n_v vs 0) 11 + ((-1) * w_fi ws (n_v vs 0) 8 + 0))) (by omega) (by omega) (by omega) (by omega)
  have ex2 : v_iv (Value.int x) = 2005 + ((-1) * w_fi ws (n_v vs 0) 11 + ((-1) * w_fi ws (n_v vs 0) 8 + 0)) := ex
  have ex3 : 0 ≤ v_iv (Value.int x) ∧ v_iv (Value.int x) ≤ 2005 := tv_rng hx
  have e_0 : n_v (vs ++ [Value.int x]) 0 = n_v vs 0 := n_v_old (by rw [hl]; decide)
  have e_1 : n_v (vs ++ [Value.int x]) 1 = n_v vs 1 := n_v_old (by rw [hl]; decide)
  have e_3 : n_v (vs ++ [Value.int x]) 3 = n_v vs 3 := n_v_old (by rw [hl]; decide)
  have e_4 : n_v (vs ++ [Value.int x]) 4 = n_v vs 4 := n_v_old (by rw [hl]; decide)
  have e_5 : n_v (vs ++ [Value.int x]) 5 = n_v vs 5 := n_v_old (by rw [hl]; decide)
  have e_7 : n_v (vs ++ [Value.int x]) 7 = n_v vs 7 := n_v_old (by rw [hl]; decide)
  have e_10 : n_v (vs ++ [Value.int x]) 10 = Value.int x := n_v_new hl
  have nf0 : fc_1 PRD (20, [4, 4], [30, 0, 1, 1, 15, -1, 1, 11]) ws (vs ++ [Value.int x]) := by
    refine ⟨nf_inA hl rfl, sgq_1397 ?_⟩
    · show 1 * w_fi ws (n_v (vs ++ [Value.int x]) 4) 15 + ((-1) * w_fi ws (n_v (vs ++ [Value.int x]) 4) 11 + 0) ≤ 0
      simp only [e_4, q4]
      exact vc_Mo_groupItem_at_k1_23_0 (w_fi ws (n_v vs 0) 15) (w_fi ws (n_v vs 0) 11) (w_fi ws (n_v vs 0) 5) f0 kz_0_11 kz_0_15
  have nf1 : fc_1 PRD (20, [4], [50, 3, 0, 12, 11, 15, 2, 21, 4, 7, 1, 3, 2, 0, 12, 0, 1, 0, 3, 2, 0, 11, 4, 3, 2, 0, 15, 0, 8, 3, 7, 1, 3, 2, 0, 12, 0, 0, 0, 7, 4, 3, 2, 0, 15, 0, 1, 2, 0, 11]) ws (vs ++ [Value.int x]) := by
    refine ⟨nf_inA hl rfl, sgq_1398 ?_⟩
    · show ((w_fi ws (n_v (vs ++ [Value.int x]) 4) 12 = 1) → (w_fi ws (n_v (vs ++ [Value.int x]) 4) 11 ≤ (w_fi ws (n_v (vs ++ [Value.int x]) 4) 15 + 8))) ∧ ((w_fi ws (n_v (vs ++ [Value.int x]) 4) 12 = 0) ∨ ((w_fi ws (n_v (vs ++ [Value.int x]) 4) 15 + 1) ≤ w_fi ws (n_v (vs ++ [Value.int x]) 4) 11))
      simp only [e_4, q4]
      exact vc_Mo_groupItem_at_k1_23_1 (w_fi ws (n_v vs 0) 15) (w_fi ws (n_v vs 0) 11) (w_fi ws (n_v vs 0) 12) (w_fi ws (n_v vs 0) 5) f1 kz_0_11 kz_0_12 kz_0_15
  have nf2 : fc_1 PRD (20, [3, 4], [30, 0, 1, 0, 0, -1, 1, 11]) ws (vs ++ [Value.int x]) := by
    refine ⟨nf_inA hl rfl, sgq_1395 ?_⟩
    · show 1 * v_iv (n_v (vs ++ [Value.int x]) 3) + ((-1) * w_fi ws (n_v (vs ++ [Value.int x]) 4) 11 + 0) ≤ 0
      simp only [e_3, e_4, q4]
      exact vc_Mo_groupItem_at_k1_23_2 (v_iv (n_v vs 3)) (w_fi ws (n_v vs 0) 11) (w_fi ws (n_v vs 0) 5) k3 f2 kz_0_11
  have nf3 : fc_1 PRD (20, [4, 3], [50, 2, 0, 8, 11, 3, 7, 0, 2, 0, 1, 2, 0, 8, 0, 6, 4, 2, 1, 1, 0, 1, 2, 0, 11]) ws (vs ++ [Value.int x]) := by
    refine ⟨nf_inA hl rfl, sgq_1659 ?_⟩
    · show (1 ≤ w_fi ws (n_v (vs ++ [Value.int x]) 4) 8) ∨ ((v_iv (n_v (vs ++ [Value.int x]) 3) + 1) ≤ w_fi ws (n_v (vs ++ [Value.int x]) 4) 11)
      simp only [e_3, e_4, q4]
      exact vc_Mo_groupItem_at_k1_23_3 (v_iv (n_v vs 3)) (w_fi ws (n_v vs 0) 11) (w_fi ws (n_v vs 0) 8) (w_fi ws (n_v vs 0) 5) k3 f3 kz_0_8 kz_0_11
  have nf4 : fc_1 PRD (20, [7, 4], [50, 1, 1, 1005, 1002, 0, 6, 4, 2, 1, 0, 0, 1, 3, 1, 2, 4, 3, 2, 1, 5, 0, 2]) ws (vs ++ [Value.int x]) := by
    refine ⟨nf_inA hl rfl, sgq_981 ?_⟩
    · show (v_iv (n_v (vs ++ [Value.int x]) 7) + 1) ≤ w_ei ws (w_ar ws (n_v (vs ++ [Value.int x]) 4) 2) ((w_fi ws (n_v (vs ++ [Value.int x]) 4) 5 + 2))
      simp only [e_4, e_7, q4]
      exact vc_Mo_groupItem_at_k1_23_4 (v_iv (n_v vs 7)) (w_ei ws (w_ar ws (n_v vs 0) 2)) (w_fi ws (n_v vs 0) 5) k7 f4
  have nf5 : fc_1 PRD (23, [5, 7], [-1, 1, -1]) ws (vs ++ [Value.int x]) := by
    refine ⟨nf_inA hl rfl, sgq_211 ?_⟩
    · show 1 * v_iv (n_v (vs ++ [Value.int x]) 5) + ((-1) * v_iv (n_v (vs ++ [Value.int x]) 7) + 0) ≤ (-1)
      simp only [e_5, e_7, q5]
      exact vc_Mo_groupItem_at_k1_23_5 (v_iv (n_v vs 1)) (v_iv (n_v vs 7)) (w_fi ws (n_v vs 0) 5) k1 k7 f5
  have nf6 : fc_1 PRD (20, [4], [60, 1, 3, 199, 5, 2, 3, 4]) ws (vs ++ [Value.int x]) := by
    refine ⟨nf_inA hl rfl, sgq_952 ?_⟩
    · show RWS (w_fi ws (n_v (vs ++ [Value.int x]) 4) 5) (w_ei ws (w_ar ws (n_v (vs ++ [Value.int x]) 4) 2)) (w_ei ws (w_ar ws (n_v (vs ++ [Value.int x]) 4) 3)) (w_ei ws (w_ar ws (n_v (vs ++ [Value.int x]) 4) 4))
      simp only [e_4, q4]
      exact vc_Mo_groupItem_at_k1_23_6 (w_ei ws (w_ar ws (n_v vs 0) 2)) (w_fi ws (n_v vs 0) 5) (w_ei ws (w_ar ws (n_v vs 0) 3)) (w_ei ws (w_ar ws (n_v vs 0) 4)) f6
  have nf7 : fc_1 PRD (24, [0, 4], []) ws (vs ++ [Value.int x]) := by
    refine ⟨nf_inA hl rfl, sgq_5 ?_⟩
    · show n_v (vs ++ [Value.int x]) 0 = n_v (vs ++ [Value.int x]) 4
      first | rfl | simp only [e_0, e_4, q4, q5]
  have nf8 : fc_1 PRD (24, [1, 5], []) ws (vs ++ [Value.int x]) := by
    refine ⟨nf_inA hl rfl, sgq_5 ?_⟩
    · show n_v (vs ++ [Value.int x]) 1 = n_v (vs ++ [Value.int x]) 5
      first | rfl | simp only [e_1, e_5, q4, q5]
  have nf9 : fc_1 PRD (20, [10, 4, 4], [30, 2005, 1, 0, 0, 1, 1, 11, 1, 1, 8]) ws (vs ++ [Value.int x]) := by
    refine ⟨nf_inA hl rfl, sgq_2010 ?_⟩
    · show 1 * v_iv (n_v (vs ++ [Value.int x]) 10) + (1 * w_fi ws (n_v (vs ++ [Value.int x]) 4) 11 + (1 * w_fi ws (n_v (vs ++ [Value.int x]) 4) 8 + 0)) ≤ 2005
      simp only [e_4, e_10, q4]
      exact vc_Mo_groupItem_at_k1_23_9 (w_fi ws (n_v vs 0) 11) (w_fi ws (n_v vs 0) 8) (w_fi ws (n_v vs 0) 5) (v_iv (Value.int x)) kz_0_8 kz_0_11 ex2
  have nf10 : fc_1 PRD (20, [10, 4, 4], [30, -2005, -1, 0, 0, -1, 1, 11, -1, 1, 8]) ws (vs ++ [Value.int x]) := by
    refine ⟨nf_inA hl rfl, sgq_2011 ?_⟩
    · show (-1) * v_iv (n_v (vs ++ [Value.int x]) 10) + ((-1) * w_fi ws (n_v (vs ++ [Value.int x]) 4) 11 + ((-1) * w_fi ws (n_v (vs ++ [Value.int x]) 4) 8 + 0)) ≤ (-2005)
      simp only [e_4, e_10, q4]
      exact vc_Mo_groupItem_at_k1_23_10 (w_fi ws (n_v vs 0) 11) (w_fi ws (n_v vs 0) 8) (w_fi ws (n_v vs 0) 5) (v_iv (Value.int x)) kz_0_8 kz_0_11 ex2
  obtain ⟨x0, e0, _, _⟩ := tv_int t9 rfl
  have e1 : v_iv (n_v vs 9) = x0.toInt := by rw [e0]; rfl
  have ho : sy_ofs (vs ++ [Value.int x]) (10, 9, -1000000000000, -1) := by
    refine ⟨x, x0, by rw [List.getElem?_append_right (by rw [hl]; decide), hl]; rfl, ?_, ?_, ?_⟩
    · rw [List.getElem?_append_left (by rw [hl]; decide)]; exact n_v_some (by rw [hl]; decide) e0
    · show x0.toInt + (-1000000000000) ≤ x.toInt; omega
    · show x.toInt ≤ x0.toInt + (-1); omega
  exact ⟨(fun _ h => (by cases h)), [Value.int x], ag_one hx, List.forall_mem_cons.mpr ⟨⟨show (20 : Nat) < 100 from by decide, nf0⟩, List.forall_mem_cons.mpr ⟨⟨show (20 : Nat) < 100 from by decide, nf1⟩, List.forall_mem_cons.mpr ⟨⟨show (20 : Nat) < 100 from by decide, nf2⟩, List.forall_mem_cons.mpr ⟨⟨show (20 : Nat) < 100 from by decide, nf3⟩, List.forall_mem_cons.mpr ⟨⟨show (20 : Nat) < 100 from by decide, nf4⟩, List.forall_mem_cons.mpr ⟨⟨show (23 : Nat) < 100 from by decide, nf5⟩, List.forall_mem_cons.mpr ⟨⟨show (20 : Nat) < 100 from by decide, nf6⟩, List.forall_mem_cons.mpr ⟨⟨show (24 : Nat) < 100 from by decide, nf7⟩, List.forall_mem_cons.mpr ⟨⟨show (24 : Nat) < 100 from by decide, nf8⟩, List.forall_mem_cons.mpr ⟨⟨show (20 : Nat) < 100 from by decide, nf9⟩, List.forall_mem_cons.mpr ⟨⟨show (20 : Nat) < 100 from by decide, nf10⟩, (fun _ h => (by cases h))⟩⟩⟩⟩⟩⟩⟩⟩⟩⟩⟩, List.forall_mem_cons.mpr ⟨ho, (fun _ h => (by cases h))⟩⟩
def n_Mo_groupItem_at_k1_an : List an_T := [(108, [(0, (2, 0, 0, [165])), (1, (0, 0, 7, [])), (2, (0, 1, 1, [])), (3, (0, 0, 7, [])), (4, (0, 0, 8, []))], [], (0, 0), [(0, 0, 99892), (1, 8, 8), (0, 0, 100000)], [(1, 5, (Int.negSucc 999999999999), 0), (5, 1, (Int.negSucc 999999999999), 0)], [], [(2, 0, 0, [165]), (0, 0, 7, []), (0, 1, 1, []), (0, 0, 2000, [])], 0, [], [(20, [4, 4], [30, 0, 1, 1, 15, (Int.negSucc 0), 1, 11]), (20, [4], [50, 3, 0, 12, 11, 15, 2, 21, 4, 7, 1, 3, 2, 0, 12, 0, 1, 0, 3, 2, 0, 11, 4, 3, 2, 0, 15, 0, 8, 3, 7, 1, 3, 2, 0, 12, 0, 0, 0, 7, 4, 3, 2, 0, 15, 0, 1, 2, 0, 11]), (20, [3, 4], [30, (Int.negSucc 0), 1, 0, 0, (Int.negSucc 0), 1, 11]), (20, [4], [50, 1, 0, 12, 1, 3, 2, 0, 12, 0, 1]), (20, [7, 4], [50, 1, 1, 1005, 1002, 0, 6, 4, 2, 1, 0, 0, 1, 3, 1, 2, 4, 3, 2, 1, 5, 0, 2]), (23, [5, 7], [(Int.negSucc 0), 1, (Int.negSucc 0)]), (20, [4], [60, 1, 3, 199, 5, 2, 3, 4]), (24, [0, 4], []), (24, [1, 5], [])]), (170, [(0, (2, 0, 0, [165])), (1, (0, 0, 7, [])), (2, (0, 1, 1, [])), (3, (0, 0, 7, [])), (4, (0, 0, 8, []))], [], (0, 0), [(0, 0, 99830), (2, 9, 0), (0, 0, 100000)], [(1, 5, (Int.negSucc 999999999999), 0), (5, 1, (Int.negSucc 999999999999), 0)], [], [(2, 0, 0, [165]), (0, 0, 7, []), (0, 1, 1, []), (0, 0, 2000, [])], 0, [(0, 0, 2005, [])], [(20, [4, 4], [30, 0, 1, 1, 15, (Int.negSucc 0), 1, 11]), (20, [4], [50, 3, 0, 12, 11, 15, 2, 21, 4, 7, 1, 3, 2, 0, 12, 0, 1, 0, 3, 2, 0, 11, 4, 3, 2, 0, 15, 0, 8, 3, 7, 1, 3, 2, 0, 12, 0, 0, 0, 7, 4, 3, 2, 0, 15, 0, 1, 2, 0, 11]), (20, [3, 4], [30, 0, 1, 0, 0, (Int.negSucc 0), 1, 11]), (20, [4, 3], [50, 2, 0, 8, 11, 3, 7, 0, 2, 0, 1, 2, 0, 8, 0, 6, 4, 2, 1, 1, 0, 1, 2, 0, 11]), (20, [7, 4], [50, 1, 1, 1005, 1002, 0, 6, 4, 2, 1, 0, 0, 1, 3, 1, 2, 4, 3, 2, 1, 5, 0, 2]), (23, [5, 7], [(Int.negSucc 0), 1, (Int.negSucc 0)]), (20, [4], [60, 1, 3, 199, 5, 2, 3, 4]), (24, [0, 4], []), (24, [1, 5], []), (20, [9, 4, 4], [30, 2005, 1, 0, 0, 1, 1, 11, 1, 1, 8]), (20, [9, 4, 4], [30, (Int.negSucc 2004), (Int.negSucc 0), 0, 0, (Int.negSucc 0), 1, 11, (Int.negSucc 0), 1, 8])]), (194, [(0, (2, 0, 0, [165])), (1, (0, 0, 7, [])), (2, (0, 1, 1, [])), (3, (0, 0, 7, [])), (4, (0, 0, 8, []))], [], (0, 0), [(0, 0, 99830), (2, 9, 0), (0, 0, 99806)], [(1, 5, (Int.negSucc 999999999999), 0), (5, 1, (Int.negSucc 999999999999), 0)], [], [(2, 0, 0, [165]), (0, 0, 7, []), (0, 1, 1, []), (0, 0, 2000, [])], 0, [(0, 0, 2005, [])], [(20, [4, 4], [30, 0, 1, 1, 15, (Int.negSucc 0), 1, 11]), (20, [4], [50, 3, 0, 12, 11, 15, 2, 21, 4, 7, 1, 3, 2, 0, 12, 0, 1, 0, 3, 2, 0, 11, 4, 3, 2, 0, 15, 0, 8, 3, 7, 1, 3, 2, 0, 12, 0, 0, 0, 7, 4, 3, 2, 0, 15, 0, 1, 2, 0, 11]), (20, [3, 4], [30, 0, 1, 0, 0, (Int.negSucc 0), 1, 11]), (20, [4, 3], [50, 2, 0, 8, 11, 3, 7, 0, 2, 0, 1, 2, 0, 8, 0, 6, 4, 2, 1, 1, 0, 1, 2, 0, 11]), (20, [7, 4], [50, 1, 1, 1005, 1002, 0, 6, 4, 2, 1, 0, 0, 1, 3, 1, 2, 4, 3, 2, 1, 5, 0, 2]), (23, [5, 7], [(Int.negSucc 0), 1, (Int.negSucc 0)]), (20, [4], [60, 1, 3, 199, 5, 2, 3, 4]), (20, [9, 4, 4], [30, (Int.negSucc 2005), (Int.negSucc 0), 0, 0, (Int.negSucc 0), 1, 11, (Int.negSucc 0), 1, 8]), (24, [0, 4], []), (24, [1, 5], [])])]
def t_Mo_groupItem_at_k1_ct : ct_L := [(1, 425, e_Mo_byteAt), (1, 457, e_Mo_sign), (1, 460, e_Mo_next), (1, 463, e_Mo_wrong), (1, 481, e_Mo_isName), (1, 491, e_Mo_need), (1, 509, e_Mo_groups), (577, 512, e_Mo_item_at_k2)]
set_option maxRecDepth 100000 in
theorem c_Mo_groupItem_at_k1 {l : Launch} {D : va_G} {kA : Nat → ClassId} (h_Mo_byteAt : ct_ok PRD l D kA GG y_Mo_byteAt z_Mo_byteAt e_Mo_byteAt) (h_Mo_groups : ct_ok PRD l D kA GG y_Mo_groups z_Mo_groups e_Mo_groups) (h_Mo_isName : ct_ok PRD l D kA GG y_Mo_isName z_Mo_isName e_Mo_isName) (h_Mo_item_at_k2 : ct_ok PRD l D kA GG y_Mo_item_at_k2 z_Mo_item_at_k2 e_Mo_item_at_k2) (h_Mo_need : ct_ok PRD l D kA GG y_Mo_need z_Mo_need e_Mo_need) (h_Mo_next : ct_ok PRD l D kA GG y_Mo_next z_Mo_next e_Mo_next) (h_Mo_sign : ct_ok PRD l D kA GG y_Mo_sign z_Mo_sign e_Mo_sign) (h_Mo_wrong : ct_ok PRD l D kA GG y_Mo_wrong z_Mo_wrong e_Mo_wrong) : ct_ok PRD l D kA GG y_Mo_groupItem_at_k1 z_Mo_groupItem_at_k1 e_Mo_groupItem_at_k1 := chk_all_ok (FT := [(16, 13, 2), (391, 13, 5), (413, 13, 8), (422, 13, 11), (428, 13, 13), (431, 13, 15)]) (PT := []) (CT := t_Mo_groupItem_at_k1_ct) (KT := []) (NT := []) (AN := n_Mo_groupItem_at_k1_an) (OT := [o_Mo_groupItem_at_k1_0, o_Mo_groupItem_at_k1_1, o_Mo_groupItem_at_k1_2, o_Mo_groupItem_at_k1_3, o_Mo_groupItem_at_k1_4, o_Mo_groupItem_at_k1_5, o_Mo_groupItem_at_k1_6, o_Mo_groupItem_at_k1_7, o_Mo_groupItem_at_k1_8, o_Mo_groupItem_at_k1_9, o_Mo_groupItem_at_k1_10, o_Mo_groupItem_at_k1_11, o_Mo_groupItem_at_k1_12, o_Mo_groupItem_at_k1_13, o_Mo_groupItem_at_k1_14, o_Mo_groupItem_at_k1_15, o_Mo_groupItem_at_k1_16, o_Mo_groupItem_at_k1_17, o_Mo_groupItem_at_k1_18, o_Mo_groupItem_at_k1_19, o_Mo_groupItem_at_k1_20, o_Mo_groupItem_at_k1_21, o_Mo_groupItem_at_k1_22, o_Mo_groupItem_at_k1_23]) 3 492 (List.forall_mem_cons.mpr ⟨oo_Mo_groupItem_at_k1_0, List.forall_mem_cons.mpr ⟨oo_Mo_groupItem_at_k1_1, List.forall_mem_cons.mpr ⟨oo_Mo_groupItem_at_k1_2, List.forall_mem_cons.mpr ⟨oo_Mo_groupItem_at_k1_3, List.forall_mem_cons.mpr ⟨oo_Mo_groupItem_at_k1_4, List.forall_mem_cons.mpr ⟨oo_Mo_groupItem_at_k1_5, List.forall_mem_cons.mpr ⟨oo_Mo_groupItem_at_k1_6, List.forall_mem_cons.mpr ⟨oo_Mo_groupItem_at_k1_7, List.forall_mem_cons.mpr ⟨oo_Mo_groupItem_at_k1_8, List.forall_mem_cons.mpr ⟨oo_Mo_groupItem_at_k1_9, List.forall_mem_cons.mpr ⟨oo_Mo_groupItem_at_k1_10, List.forall_mem_cons.mpr ⟨oo_Mo_groupItem_at_k1_11, List.forall_mem_cons.mpr ⟨oo_Mo_groupItem_at_k1_12, List.forall_mem_cons.mpr ⟨oo_Mo_groupItem_at_k1_13, List.forall_mem_cons.mpr ⟨oo_Mo_groupItem_at_k1_14, List.forall_mem_cons.mpr ⟨oo_Mo_groupItem_at_k1_15, List.forall_mem_cons.mpr ⟨oo_Mo_groupItem_at_k1_16, List.forall_mem_cons.mpr ⟨oo_Mo_groupItem_at_k1_17, List.forall_mem_cons.mpr ⟨oo_Mo_groupItem_at_k1_18, List.forall_mem_cons.mpr ⟨oo_Mo_groupItem_at_k1_19, List.forall_mem_cons.mpr ⟨oo_Mo_groupItem_at_k1_20, List.forall_mem_cons.mpr ⟨oo_Mo_groupItem_at_k1_21, List.forall_mem_cons.mpr ⟨oo_Mo_groupItem_at_k1_22, List.forall_mem_cons.mpr ⟨oo_Mo_groupItem_at_k1_23, List.forall_mem_nil _⟩⟩⟩⟩⟩⟩⟩⟩⟩⟩⟩⟩⟩⟩⟩⟩⟩⟩⟩⟩⟩⟩⟩⟩) (by decide +kernel) ⟨List.forall_mem_cons.mpr ⟨gf_Mo_16, List.forall_mem_cons.mpr ⟨gf_Mo_391, List.forall_mem_cons.mpr ⟨gf_Mo_413, List.forall_mem_cons.mpr ⟨gf_Mo_422, List.forall_mem_cons.mpr ⟨gf_Mo_428, List.forall_mem_cons.mpr ⟨gf_Mo_431, List.forall_mem_nil _⟩⟩⟩⟩⟩⟩, List.forall_mem_nil _, List.forall_mem_cons.mpr ⟨cl_virtual (y := y_Mo_byteAt) (ci := 13) rfl rfl ⟨_, _, rfl⟩ (by decide +kernel) h_Mo_byteAt wm_2986 wm_9 wm_2983 wm_2985 wv_12_12 ⟨by decide, by decide, by decide +kernel⟩ (by decide), List.forall_mem_cons.mpr ⟨cl_virtual (y := y_Mo_sign) (ci := 13) rfl rfl ⟨_, _, rfl⟩ (by decide +kernel) h_Mo_sign wm_3058 wm_9 wm_3055 wm_3057 wv_13_11 ⟨by decide, by decide, by decide +kernel⟩ (by decide), List.forall_mem_cons.mpr ⟨cl_virtual (y := y_Mo_next) (ci := 13) rfl rfl ⟨_, _, rfl⟩ (by decide +kernel) h_Mo_next wm_2982 wm_9 wm_2979 wm_2981 wv_12_11 ⟨by decide, by decide, by decide +kernel⟩ (by decide), List.forall_mem_cons.mpr ⟨cl_virtual (y := y_Mo_wrong) (ci := 13) rfl rfl ⟨_, _, rfl⟩ (by decide +kernel) h_Mo_wrong wm_3017 wm_9 wm_3014 wm_3016 wv_13_1 ⟨by decide, by decide, by decide +kernel⟩ (by decide), List.forall_mem_cons.mpr ⟨cl_virtual (y := y_Mo_isName) (ci := 13) rfl rfl ⟨_, _, rfl⟩ (by decide +kernel) h_Mo_isName wm_3012 wm_9 wm_3009 wm_3011 wv_13_0 ⟨by decide, by decide, by decide +kernel⟩ (by decide), List.forall_mem_cons.mpr ⟨cl_virtual (y := y_Mo_need) (ci := 13) rfl rfl ⟨_, _, rfl⟩ (by decide +kernel) h_Mo_need wm_3062 wm_9 wm_3059 wm_3061 wv_13_12 ⟨by decide, by decide, by decide +kernel⟩ (by decide), List.forall_mem_cons.mpr ⟨cl_virtual (y := y_Mo_groups) (ci := 13) rfl rfl ⟨_, _, rfl⟩ (by decide +kernel) h_Mo_groups wm_3070 wm_9 wm_3067 wm_3069 wv_13_14 ⟨by decide, by decide, by decide +kernel⟩ (by decide), List.forall_mem_cons.mpr ⟨cl_virtual (y := y_Mo_item_at_k2) (ci := 13) rfl rfl ⟨_, _, rfl⟩ (by decide +kernel) h_Mo_item_at_k2 wm_2997 wm_9 wm_2994 wm_2996 wv_12_13 ⟨by decide, by decide, by decide +kernel⟩ (by decide), List.forall_mem_nil _⟩⟩⟩⟩⟩⟩⟩⟩, List.forall_mem_nil _, List.forall_mem_nil _, GG_pl⟩ (by decide +kernel)

set_option maxHeartbeats 4000000 in
theorem vc_Mo_groupItem_at_k2_0_0 (x3 : Int) (r_0 : Int) (pos_0 : Int) (fault_0 : Int) (k3 : 0 ≤ x3 ∧ x3 ≤ 2000) (f7 : (-1) * fault_0 + 0 ≤ (-1)) (kz_0_8 : 0 ≤ fault_0 ∧ fault_0 ≤ 5) (kz_0_11 : 0 ≤ pos_0 ∧ pos_0 ≤ 2000) : (1 ≤ fault_0) ∨ ((x3 + 1) ≤ pos_0) := by
  first
    | omega
    | (have q1 := (hE_0_2_1 (r_0 + 2) (by omega)).2 (by omega)
       have q2 := (hE_0_2_2 (r_0 + 2) (by omega)).2 (by omega)
       omega)
    | (have q1 := (hE_0_2_1 (r_0 + 1) (by omega)).2 (by omega)
       have q2 := (hE_0_2_2 (r_0 + 1) (by omega)).2 (by omega)
       omega)
    | (have q1 := (hE_0_2_1 (r_0 + 2) (by omega)).2 (by omega)
       omega)
    | (have q1 := (hE_0_2_1 (r_0 + 1) (by omega)).2 (by omega)
       omega)
    | (have q1 := (hE_0_2_1 (r_0 + 2) (by omega)).2 (by omega)
       have q2 := (hE_0_2_2 (r_0 + 2) (by omega)).2 (by omega)
       have q3 := (hE_0_2_3 (r_0 + 2) (by omega)).1 (by omega)
       omega)
    | (have q1 := (hE_0_2_1 (r_0 + 2) (by omega)).2 (by omega)
       have q2 := (hE_0_2_2 (r_0 + 2) (by omega)).2 (by omega)
       have q3 := (hE_0_2_3 (r_0 + 2) (by omega)).2 (by omega)
       omega)
    | (have q1 := (hE_0_2_1 (r_0 + 2) (by omega)).2 (by omega)
       have q2 := (hE_0_2_2 (r_0 + 2) (by omega)).2 (by omega)
       have q3 := (hE_0_2_3 (r_0 + 2) (by omega)).1 (by omega)
       have q4 : x13 = r_0 + 2 := by omega
       rw [q4] at h34
       omega)
def o_Mo_groupItem_at_k2_0 : or_T := (23, 8, [(0, (2, 0, 0, [165])), (3, (0, 0, 2000, []))], [(20, [0], [30, -1, -1, 1, 8])], [], [], [(20, [0, 3], [50, 2, 0, 8, 11, 3, 7, 0, 2, 0, 1, 2, 0, 8, 0, 6, 4, 2, 1, 1, 0, 1, 2, 0, 11])], [], [])
theorem oo_Mo_groupItem_at_k2_0 {kA : Nat → ClassId} : or_ok PRD kA GG o_Mo_groupItem_at_k2_0 := by
  refine or_mk fun A ta ws vs hD hth hl => ?_
  intro t0 r0 t3 k3 f7
  have kz_0_8 := fdq_14 hD hth r0
  have kz_0_11 := fdq_273 hD hth r0
  have nf0 : fc_1 PRD (20, [0, 3], [50, 2, 0, 8, 11, 3, 7, 0, 2, 0, 1, 2, 0, 8, 0, 6, 4, 2, 1, 1, 0, 1, 2, 0, 11]) ws (vs) := ⟨nf_in hl rfl, sgq_1659 (vc_Mo_groupItem_at_k2_0_0 (v_iv (n_v vs 3)) (w_fi ws (n_v vs 0) 5) (w_fi ws (n_v vs 0) 11) (w_fi ws (n_v vs 0) 8) k3 (shm_144 f7) kz_0_8 kz_0_11)⟩
  refine ⟨(fun _ h => (by cases h)), [], trivial, ?_, (fun _ h => (by cases h))⟩
  rw [List.append_nil]
  exact List.forall_mem_cons.mpr ⟨⟨show (20 : Nat) < 100 from by decide, nf0⟩, (fun _ h => (by cases h))⟩
set_option maxHeartbeats 4000000 in
theorem vc_Mo_groupItem_at_k2_1_0 (x3 : Int) (r_0 : Int) (gx : Int) (k3 : 0 ≤ x3 ∧ x3 ≤ 2000) (ex2 : gx = x3) : 1 * gx + ((-1) * x3 + 0) ≤ 0 := by
  first
    | omega
    | (have q1 := (hE_0_2_1 (r_0 + 2) (by omega)).2 (by omega)
       have q2 := (hE_0_2_2 (r_0 + 2) (by omega)).2 (by omega)
       omega)
    | (have q1 := (hE_0_2_1 (r_0 + 1) (by omega)).2 (by omega)
       have q2 := (hE_0_2_2 (r_0 + 1) (by omega)).2 (by omega)
       omega)
    | (have q1 := (hE_0_2_1 (r_0 + 2) (by omega)).2 (by omega)
       omega)
    | (have q1 := (hE_0_2_1 (r_0 + 1) (by omega)).2 (by omega)
       omega)
    | (have q1 := (hE_0_2_1 (r_0 + 2) (by omega)).2 (by omega)
       have q2 := (hE_0_2_2 (r_0 + 2) (by omega)).2 (by omega)
       have q3 := (hE_0_2_3 (r_0 + 2) (by omega)).1 (by omega)
       omega)
    | (have q1 := (hE_0_2_1 (r_0 + 2) (by omega)).2 (by omega)
       have q2 := (hE_0_2_2 (r_0 + 2) (by omega)).2 (by omega)
       have q3 := (hE_0_2_3 (r_0 + 2) (by omega)).2 (by omega)
       omega)
    | (have q1 := (hE_0_2_1 (r_0 + 2) (by omega)).2 (by omega)
       have q2 := (hE_0_2_2 (r_0 + 2) (by omega)).2 (by omega)
       have q3 := (hE_0_2_3 (r_0 + 2) (by omega)).1 (by omega)
       have q4 : x13 = r_0 + 2 := by omega
       rw [q4] at h34
       omega)
set_option maxHeartbeats 4000000 in
theorem vc_Mo_groupItem_at_k2_1_1 (x3 : Int) (r_0 : Int) (gx : Int) (k3 : 0 ≤ x3 ∧ x3 ≤ 2000) (ex2 : gx = x3) : (-1) * gx + (1 * x3 + 0) ≤ 0 := by
  first
    | omega
    | (have q1 := (hE_0_2_1 (r_0 + 2) (by omega)).2 (by omega)
       have q2 := (hE_0_2_2 (r_0 + 2) (by omega)).2 (by omega)
       omega)
    | (have q1 := (hE_0_2_1 (r_0 + 1) (by omega)).2 (by omega)
       have q2 := (hE_0_2_2 (r_0 + 1) (by omega)).2 (by omega)
       omega)
    | (have q1 := (hE_0_2_1 (r_0 + 2) (by omega)).2 (by omega)
       omega)
    | (have q1 := (hE_0_2_1 (r_0 + 1) (by omega)).2 (by omega)
       omega)
    | (have q1 := (hE_0_2_1 (r_0 + 2) (by omega)).2 (by omega)
       have q2 := (hE_0_2_2 (r_0 + 2) (by omega)).2 (by omega)
       have q3 := (hE_0_2_3 (r_0 + 2) (by omega)).1 (by omega)
       omega)
    | (have q1 := (hE_0_2_1 (r_0 + 2) (by omega)).2 (by omega)
       have q2 := (hE_0_2_2 (r_0 + 2) (by omega)).2 (by omega)
       have q3 := (hE_0_2_3 (r_0 + 2) (by omega)).2 (by omega)
       omega)
    | (have q1 := (hE_0_2_1 (r_0 + 2) (by omega)).2 (by omega)
       have q2 := (hE_0_2_2 (r_0 + 2) (by omega)).2 (by omega)
       have q3 := (hE_0_2_3 (r_0 + 2) (by omega)).1 (by omega)
       have q4 : x13 = r_0 + 2 := by omega
       rw [q4] at h34
       omega)
set_option maxHeartbeats 4000000 in
theorem vc_Mo_groupItem_at_k2_1_2 (x3 : Int) (r_0 : Int) (pos_0 : Int) (gx : Int) (k3 : 0 ≤ x3 ∧ x3 ≤ 2000) (f5 : 1 * x3 + ((-1) * pos_0 + 0) ≤ 0) (kz_0_11 : 0 ≤ pos_0 ∧ pos_0 ≤ 2000) (ex2 : gx = x3) : 1 * gx + ((-1) * pos_0 + 0) ≤ 0 := by
  first
    | omega
    | (have q1 := (hE_0_2_1 (r_0 + 2) (by omega)).2 (by omega)
       have q2 := (hE_0_2_2 (r_0 + 2) (by omega)).2 (by omega)
       omega)
    | (have q1 := (hE_0_2_1 (r_0 + 1) (by omega)).2 (by omega)
       have q2 := (hE_0_2_2 (r_0 + 1) (by omega)).2 (by omega)
       omega)
    | (have q1 := (hE_0_2_1 (r_0 + 2) (by omega)).2 (by omega)
       omega)
    | (have q1 := (hE_0_2_1 (r_0 + 1) (by omega)).2 (by omega)
       omega)
    | (have q1 := (hE_0_2_1 (r_0 + 2) (by omega)).2 (by omega)
       have q2 := (hE_0_2_2 (r_0 + 2) (by omega)).2 (by omega)
       have q3 := (hE_0_2_3 (r_0 + 2) (by omega)).1 (by omega)
       omega)
    | (have q1 := (hE_0_2_1 (r_0 + 2) (by omega)).2 (by omega)
       have q2 := (hE_0_2_2 (r_0 + 2) (by omega)).2 (by omega)
       have q3 := (hE_0_2_3 (r_0 + 2) (by omega)).2 (by omega)
       omega)
    | (have q1 := (hE_0_2_1 (r_0 + 2) (by omega)).2 (by omega)
       have q2 := (hE_0_2_2 (r_0 + 2) (by omega)).2 (by omega)
       have q3 := (hE_0_2_3 (r_0 + 2) (by omega)).1 (by omega)
       have q4 : x13 = r_0 + 2 := by omega
       rw [q4] at h34
       omega)
def o_Mo_groupItem_at_k2_1 : or_T := (25, 7, [(0, (2, 0, 0, [165])), (3, (0, 0, 2000, []))], [(20, [3, 0], [30, 0, 1, 0, 0, -1, 1, 11])], [], [(0, 0, 2000, [])], [(23, [7, 3], [0, 1, -1]), (23, [7, 3], [0, -1, 1]), (20, [7, 0], [30, 0, 1, 0, 0, -1, 1, 11])], [], [])
theorem oo_Mo_groupItem_at_k2_1 {kA : Nat → ClassId} : or_ok PRD kA GG o_Mo_groupItem_at_k2_1 := by
  refine or_mk fun A ta ws vs hD hth hl => ?_
  intro t0 r0 t3 k3 f5
  replace f5 := shm_1395 f5
  have kz_0_11 := fdq_273 hD hth r0
  obtain ⟨x, ex, hx⟩ := iv_ex (ta := ta) (lo := 0) (hi := 2000) (z := v_iv (n_v vs 3)) (by omega) (by omega) (by omega) (by omega)
  have ex2 : v_iv (Value.int x) = v_iv (n_v vs 3) := ex
  have ex3 : 0 ≤ v_iv (Value.int x) ∧ v_iv (Value.int x) ≤ 2000 := tv_rng hx
  have e_0 : n_v (vs ++ [Value.int x]) 0 = n_v vs 0 := n_v_old (by rw [hl]; decide)
  have e_3 : n_v (vs ++ [Value.int x]) 3 = n_v vs 3 := n_v_old (by rw [hl]; decide)
  have e_7 : n_v (vs ++ [Value.int x]) 7 = Value.int x := n_v_new hl
  have nf0 : fc_1 PRD (23, [7, 3], [0, 1, -1]) ws (vs ++ [Value.int x]) := by
    refine ⟨nf_inA hl rfl, sgq_7 ?_⟩
    · show 1 * v_iv (n_v (vs ++ [Value.int x]) 7) + ((-1) * v_iv (n_v (vs ++ [Value.int x]) 3) + 0) ≤ 0
      simp only [e_3, e_7]
      exact vc_Mo_groupItem_at_k2_1_0 (v_iv (n_v vs 3)) (w_fi ws (n_v vs 0) 5) (v_iv (Value.int x)) k3 ex2
  have nf1 : fc_1 PRD (23, [7, 3], [0, -1, 1]) ws (vs ++ [Value.int x]) := by
    refine ⟨nf_inA hl rfl, sgq_22 ?_⟩
    · show (-1) * v_iv (n_v (vs ++ [Value.int x]) 7) + (1 * v_iv (n_v (vs ++ [Value.int x]) 3) + 0) ≤ 0
      simp only [e_3, e_7]
      exact vc_Mo_groupItem_at_k2_1_1 (v_iv (n_v vs 3)) (w_fi ws (n_v vs 0) 5) (v_iv (Value.int x)) k3 ex2
  have nf2 : fc_1 PRD (20, [7, 0], [30, 0, 1, 0, 0, -1, 1, 11]) ws (vs ++ [Value.int x]) := by
    refine ⟨nf_inA hl rfl, sgq_1395 ?_⟩
    · show 1 * v_iv (n_v (vs ++ [Value.int x]) 7) + ((-1) * w_fi ws (n_v (vs ++ [Value.int x]) 0) 11 + 0) ≤ 0
      simp only [e_0, e_7]
      exact vc_Mo_groupItem_at_k2_1_2 (v_iv (n_v vs 3)) (w_fi ws (n_v vs 0) 5) (w_fi ws (n_v vs 0) 11) (v_iv (Value.int x)) k3 f5 kz_0_11 ex2
  exact ⟨(fun _ h => (by cases h)), [Value.int x], ag_one hx, List.forall_mem_cons.mpr ⟨⟨show (23 : Nat) < 100 from by decide, nf0⟩, List.forall_mem_cons.mpr ⟨⟨show (23 : Nat) < 100 from by decide, nf1⟩, List.forall_mem_cons.mpr ⟨⟨show (20 : Nat) < 100 from by decide, nf2⟩, (fun _ h => (by cases h))⟩⟩⟩, (fun _ h => (by cases h))⟩
set_option maxHeartbeats 4000000 in
theorem vc_Mo_groupItem_at_k2_2_r0 (x4 : Int) (x9 : Int) (all_0 : Int → Int) (r_0 : Int) (k4 : 0 ≤ x4 ∧ x4 ≤ 7) (k9 : 0 ≤ x9 ∧ x9 ≤ 8) (f0 : 1 * x9 + ((-1) * all_0 (r_0 + 2) + 0) ≤ 0) (f1 : (-1) * x9 + (1 * all_0 (r_0 + 2) + 0) ≤ 0) (f5 : 1 * x4 + ((-1) * all_0 (r_0 + 2) + 0) ≤ 0) (f6 : (-1) * x4 + (1 * all_0 (r_0 + 2) + 0) ≤ 0) : 0 ≤ x9 ∧ x9 ≤ 7 := by
  first
    | omega
    | (have q1 := (hE_0_2_1 (r_0 + 2) (by omega)).2 (by omega)
       have q2 := (hE_0_2_2 (r_0 + 2) (by omega)).2 (by omega)
       omega)
    | (have q1 := (hE_0_2_1 (r_0 + 1) (by omega)).2 (by omega)
       have q2 := (hE_0_2_2 (r_0 + 1) (by omega)).2 (by omega)
       omega)
    | (have q1 := (hE_0_2_1 (r_0 + 2) (by omega)).2 (by omega)
       omega)
    | (have q1 := (hE_0_2_1 (r_0 + 1) (by omega)).2 (by omega)
       omega)
    | (have q1 := (hE_0_2_1 (r_0 + 2) (by omega)).2 (by omega)
       have q2 := (hE_0_2_2 (r_0 + 2) (by omega)).2 (by omega)
       have q3 := (hE_0_2_3 (r_0 + 2) (by omega)).1 (by omega)
       omega)
    | (have q1 := (hE_0_2_1 (r_0 + 2) (by omega)).2 (by omega)
       have q2 := (hE_0_2_2 (r_0 + 2) (by omega)).2 (by omega)
       have q3 := (hE_0_2_3 (r_0 + 2) (by omega)).2 (by omega)
       omega)
    | (have q1 := (hE_0_2_1 (r_0 + 2) (by omega)).2 (by omega)
       have q2 := (hE_0_2_2 (r_0 + 2) (by omega)).2 (by omega)
       have q3 := (hE_0_2_3 (r_0 + 2) (by omega)).1 (by omega)
       have q4 : x13 = r_0 + 2 := by omega
       rw [q4] at h34
       omega)
def o_Mo_groupItem_at_k2_2 : or_T := (49, 10, [(0, (2, 0, 0, [165])), (1, (0, 0, 7, [])), (3, (0, 0, 2000, [])), (4, (0, 0, 7, [])), (5, (0, 8, 8, [])), (7, (0, 0, 2000, [])), (8, (0, 1, 1, [])), (9, (0, 0, 8, []))], [(20, [9, 0], [30, 0, 1, 0, 0, -1, 3, 2005002]), (20, [9, 0], [30, 0, -1, 0, 0, 1, 3, 2005002]), (8, [8], [1]), (23, [7, 3], [0, 1, -1]), (23, [7, 3], [0, -1, 1]), (20, [4, 0], [30, 0, 1, 0, 0, -1, 3, 2005002]), (20, [4, 0], [30, 0, -1, 0, 0, 1, 3, 2005002]), (20, [1, 0], [50, 1, 1, 1005, 1002, 0, 6, 4, 2, 1, 0, 0, 1, 3, 1, 2, 4, 3, 2, 1, 5, 0, 2]), (20, [0], [60, 1, 3, 199, 5, 2, 3, 4]), (20, [0, 0], [30, 0, 1, 1, 15, -1, 1, 11]), (20, [0], [50, 3, 0, 12, 11, 15, 2, 21, 4, 7, 1, 3, 2, 0, 12, 0, 1, 0, 3, 2, 0, 11, 4, 3, 2, 0, 15, 0, 8, 3, 7, 1, 3, 2, 0, 12, 0, 0, 0, 7, 4, 3, 2, 0, 15, 0, 1, 2, 0, 11]), (20, [7, 0], [30, 0, 1, 0, 0, -1, 1, 15]), (20, [8, 0], [50, 1, 0, 1012, 4, 6, 1, 2, 1, 0, 0, 1, 1, 3, 2, 1, 12, 0, 1]), (102, [7], [0]), (23, [7, 3], [0, 1, -1]), (23, [7, 3], [0, -1, 1]), (102, [7], [0, 165011, 165012, 165013, 165014, 165015]), (23, [7, 3], [0, 1, -1]), (23, [7, 3], [0, -1, 1]), (7, [4, 5], [1])], [(9, (0, 0, 7, []))], [], [], [], [])
theorem oo_Mo_groupItem_at_k2_2 {kA : Nat → ClassId} : or_ok PRD kA GG o_Mo_groupItem_at_k2_2 := by
  refine or_mk fun A ta ws vs hD hth hl => ?_
  intro t0 r0 t1 k1 t3 k3 t4 k4 t5 k5 t7 k7 t8 k8 t9 k9 f0 f1 f2 f3 f4 f5 f6 f7 f8 f9 f10 f11 f12 ta1 w1 le1 s1 f14 f15 ta2 w2 le2 s2 f17 f18 f19
  have hrf0 : 0 ≤ v_iv (n_v vs 9) ∧ v_iv (n_v vs 9) ≤ 7 := vc_Mo_groupItem_at_k2_2_r0 (v_iv (n_v vs 4)) (v_iv (n_v vs 9)) (w_ei ws (w_ar ws (n_v vs 0) 2)) (w_fi ws (n_v vs 0) 5) k4 k9 (shm_132 f0) (shm_133 f1) (shm_132 f5) (shm_133 f6)
  have rf9 : tv_ok ta (0, 0, 7, []) (n_v vs 9) := tv_in t9 (by first | omega | grind) (by first | omega | grind)
  refine ⟨List.forall_mem_cons.mpr ⟨rf9, (fun _ h => (by cases h))⟩, [], trivial, ?_, (fun _ h => (by cases h))⟩
  rw [List.append_nil]
  exact (fun _ h => (by cases h))
set_option maxHeartbeats 4000000 in
theorem vc_Mo_groupItem_at_k2_3_r0 (x9 : Int) (x11 : Int) (x13 : Int) (x14 : Int) (x16 : Int) (all_0 : Int → Int) (r_0 : Int) (k9 : 0 ≤ x9 ∧ x9 ≤ 7) (k11 : 0 ≤ x11 ∧ x11 ≤ 66297) (k13 : 2 ≤ x13 ∧ x13 ≤ 66299) (k14 : 0 ≤ x14 ∧ x14 ≤ 8) (k16 : 1 ≤ x16 ∧ x16 ≤ 9) (d0 : x14 + 1 ≤ x16 ∧ x16 ≤ x14 + 1) (d1 : x11 + 2 ≤ x13 ∧ x13 ≤ x11 + 2) (h1 : x14 = all_0 (x13)) (g3 : x11 = r_0) (f5 : 1 * x9 + ((-1) * all_0 (r_0 + 2) + 0) ≤ 0) (f6 : (-1) * x9 + (1 * all_0 (r_0 + 2) + 0) ≤ 0) : 1 ≤ x16 ∧ x16 ≤ 8 := by
  first
    | omega
    | (have e : x13 = r_0 + 2 := by omega
       rw [e] at h1
       omega)
def o_Mo_groupItem_at_k2_3 : or_T := (64, 17, [(0, (2, 0, 0, [165])), (1, (0, 0, 7, [])), (3, (0, 0, 2000, [])), (4, (0, 0, 7, [])), (5, (0, 8, 8, [])), (7, (0, 0, 2000, [])), (8, (0, 1, 1, [])), (9, (0, 0, 7, [])), (10, (2, 0, 0, [167])), (11, (0, 0, 66297, [])), (12, (0, 2, 2, [])), (13, (0, 2, 66299, [])), (14, (0, 0, 8, [])), (15, (0, 1, 1, [])), (16, (0, 1, 9, []))], [(1, [16, 14, 15], []), (10, [14, 10, 13], []), (1, [13, 11, 12], []), (9, [11, 0], [5]), (9, [10, 0], [2]), (20, [9, 0], [30, 0, 1, 0, 0, -1, 3, 2005002]), (20, [9, 0], [30, 0, -1, 0, 0, 1, 3, 2005002]), (8, [8], [1]), (23, [7, 3], [0, 1, -1]), (23, [7, 3], [0, -1, 1]), (20, [4, 0], [30, 0, 1, 0, 0, -1, 3, 2005002]), (20, [4, 0], [30, 0, -1, 0, 0, 1, 3, 2005002]), (20, [1, 0], [50, 1, 1, 1005, 1002, 0, 6, 4, 2, 1, 0, 0, 1, 3, 1, 2, 4, 3, 2, 1, 5, 0, 2]), (20, [0], [60, 1, 3, 199, 5, 2, 3, 4]), (20, [0, 0], [30, 0, 1, 1, 15, -1, 1, 11]), (20, [0], [50, 3, 0, 12, 11, 15, 2, 21, 4, 7, 1, 3, 2, 0, 12, 0, 1, 0, 3, 2, 0, 11, 4, 3, 2, 0, 15, 0, 8, 3, 7, 1, 3, 2, 0, 12, 0, 0, 0, 7, 4, 3, 2, 0, 15, 0, 1, 2, 0, 11]), (20, [7, 0], [30, 0, 1, 0, 0, -1, 1, 15]), (20, [8, 0], [50, 1, 0, 1012, 4, 6, 1, 2, 1, 0, 0, 1, 1, 3, 2, 1, 12, 0, 1]), (102, [7], [0]), (23, [7, 3], [0, 1, -1]), (23, [7, 3], [0, -1, 1]), (102, [7], [0, 165011, 165012, 165013, 165014, 165015]), (23, [7, 3], [0, 1, -1]), (23, [7, 3], [0, -1, 1]), (7, [4, 5], [1])], [(16, (0, 1, 8, []))], [], [], [], [(16, 14, 1, 1), (13, 11, 2, 2)])
theorem oo_Mo_groupItem_at_k2_3 {kA : Nat → ClassId} : or_ok PRD kA GG o_Mo_groupItem_at_k2_3 := by
  refine or_mk fun A ta ws vs hD hth hl => ?_
  intro t0 r0 t1 k1 t3 k3 t4 k4 t5 k5 t7 k7 t8 k8 t9 k9 t10 r10 t11 k11 t12 k12 t13 k13 t14 k14 t15 k15 t16 k16 d0 d1 f0 f1 f2 f3 f4 f5 f6 f7 f8 f9 f10 f11 f12 f13 f14 f15 f16 f17 ta1 w1 le1 s1 f19 f20 ta2 w2 le2 s2 f22 f23 f24
  replace f1 := shm_106 f1
  replace f3 := shm_109 f3
  replace f4 := shm_129 f4
  have ad_10 : v_ad (n_v vs 10) = w_ar ws (n_v vs 0) 2 := congrArg v_ad f4
  simp only [ad_10] at f1
  have h1 : v_iv (n_v vs 14) = w_ei ws (w_ar ws (n_v vs 0) 2) (v_iv (n_v vs 13)) := f1
  have g3 : v_iv (n_v vs 11) = w_fi ws (n_v vs 0) 5 := congrArg v_iv f3
  have hrf0 : 1 ≤ v_iv (n_v vs 16) ∧ v_iv (n_v vs 16) ≤ 8 := vc_Mo_groupItem_at_k2_3_r0 (v_iv (n_v vs 9)) (v_iv (n_v vs 11)) (v_iv (n_v vs 13)) (v_iv (n_v vs 14)) (v_iv (n_v vs 16)) (w_ei ws (w_ar ws (n_v vs 0) 2)) (w_fi ws (n_v vs 0) 5) k9 k11 k13 k14 k16 d0 d1 h1 g3 (shm_132 f5) (shm_133 f6)
  have rf16 : tv_ok ta (0, 1, 8, []) (n_v vs 16) := tv_in t16 (by first | omega | grind) (by first | omega | grind)
  refine ⟨List.forall_mem_cons.mpr ⟨rf16, (fun _ h => (by cases h))⟩, [], trivial, ?_, (fun _ h => (by cases h))⟩
  rw [List.append_nil]
  exact (fun _ h => (by cases h))
set_option maxHeartbeats 4000000 in
theorem vc_Mo_groupItem_at_k2_4_0 (x1 : Int) (x9 : Int) (x13 : Int) (x16 : Int) (from_0 : Int) (pos_0 : Int) (kind_0 : Int) (all_1 : Int → Int) (r_1 : Int) (r_0 : Int) (now_1 : Int → Int) (latest_1 : Int → Int) (from_1 : Int) (pos_1 : Int) (kind_1 : Int) (all_0 : Int → Int) (now_0 : Int → Int) (latest_0 : Int → Int) (k1 : 0 ≤ x1 ∧ x1 ≤ 7) (k9 : 0 ≤ x9 ∧ x9 ≤ 7) (k13 : 2 ≤ x13 ∧ x13 ≤ 66299) (k16 : 1 ≤ x16 ∧ x16 ≤ 8) (f12 : 1 * x9 + ((-1) * all_1 (r_0 + 2) + 0) ≤ 0) (f13 : (-1) * x9 + (1 * all_1 (r_0 + 2) + 0) ≤ 0) (f19 : (x1 + 1) ≤ all_1 ((r_1 + 2))) (fe_0_5_1 : r_0 = r_1) (fe_0_11_1 : pos_0 = pos_1) (fe_0_12_1 : kind_0 = kind_1) (fe_0_15_1 : from_0 = from_1) (hE_0_2_1 : ∀ j : Int, 0 ≤ j → (j = x13 → all_0 j = x16) ∧ (j ≠ x13 → all_0 j = all_1 j)) (hE_0_3_1 : ∀ j : Int, now_0 j = now_1 j) (hE_0_4_1 : ∀ j : Int, latest_0 j = latest_1 j) (kz_0_11 : 0 ≤ pos_0 ∧ pos_0 ≤ 2000) (kz_0_12 : 0 ≤ kind_0 ∧ kind_0 ≤ 4) (kz_0_15 : 0 ≤ from_0 ∧ from_0 ≤ 2000) : 1 * x1 + ((-1) * x9 + 0) ≤ (-1) := by
  subst fe_0_5_1
  subst fe_0_11_1
  subst fe_0_12_1
  subst fe_0_15_1
  have e_hE_0_3_1 := funext hE_0_3_1; subst e_hE_0_3_1
  have e_hE_0_4_1 := funext hE_0_4_1; subst e_hE_0_4_1
  first
    | omega
    | (have q1 := (hE_0_2_1 (r_0 + 2) (by omega)).2 (by omega)
       have q2 := (hE_0_2_2 (r_0 + 2) (by omega)).2 (by omega)
       omega)
    | (have q1 := (hE_0_2_1 (r_0 + 1) (by omega)).2 (by omega)
       have q2 := (hE_0_2_2 (r_0 + 1) (by omega)).2 (by omega)
       omega)
    | (have q1 := (hE_0_2_1 (r_0 + 2) (by omega)).2 (by omega)
       omega)
    | (have q1 := (hE_0_2_1 (r_0 + 1) (by omega)).2 (by omega)
       omega)
    | (have q1 := (hE_0_2_1 (r_0 + 2) (by omega)).2 (by omega)
       have q2 := (hE_0_2_2 (r_0 + 2) (by omega)).2 (by omega)
       have q3 := (hE_0_2_3 (r_0 + 2) (by omega)).1 (by omega)
       omega)
    | (have q1 := (hE_0_2_1 (r_0 + 2) (by omega)).2 (by omega)
       have q2 := (hE_0_2_2 (r_0 + 2) (by omega)).2 (by omega)
       have q3 := (hE_0_2_3 (r_0 + 2) (by omega)).2 (by omega)
       omega)
    | (have q1 := (hE_0_2_1 (r_0 + 2) (by omega)).2 (by omega)
       have q2 := (hE_0_2_2 (r_0 + 2) (by omega)).2 (by omega)
       have q3 := (hE_0_2_3 (r_0 + 2) (by omega)).1 (by omega)
       have q4 : x13 = r_0 + 2 := by omega
       rw [q4] at h34
       omega)
def o_Mo_groupItem_at_k2_4 : or_T := (65, 17, [(0, (2, 0, 0, [165])), (1, (0, 0, 7, [])), (3, (0, 0, 2000, [])), (4, (0, 0, 7, [])), (5, (0, 8, 8, [])), (7, (0, 0, 2000, [])), (8, (0, 1, 1, [])), (9, (0, 0, 7, [])), (10, (2, 0, 0, [167])), (11, (0, 0, 66297, [])), (12, (0, 2, 2, [])), (13, (0, 2, 66299, [])), (14, (0, 0, 8, [])), (15, (0, 1, 1, [])), (16, (0, 1, 8, []))], [(23, [7, 3], [0, 1, -1]), (23, [7, 3], [0, -1, 1]), (20, [0, 0], [30, 0, 1, 1, 15, -1, 1, 11]), (20, [0], [50, 3, 0, 12, 11, 15, 2, 21, 4, 7, 1, 3, 2, 0, 12, 0, 1, 0, 3, 2, 0, 11, 4, 3, 2, 0, 15, 0, 8, 3, 7, 1, 3, 2, 0, 12, 0, 0, 0, 7, 4, 3, 2, 0, 15, 0, 1, 2, 0, 11]), (20, [7, 0], [30, 0, 1, 0, 0, -1, 1, 15]), (20, [8, 0], [50, 1, 0, 1012, 4, 6, 1, 2, 1, 0, 0, 1, 1, 3, 2, 1, 12, 0, 1]), (100, [10, 13, 16], []), (1, [16, 14, 15], []), (10, [14, 10, 13], []), (1, [13, 11, 12], []), (9, [11, 0], [5]), (9, [10, 0], [2]), (20, [9, 0], [30, 0, 1, 0, 0, -1, 3, 2005002]), (20, [9, 0], [30, 0, -1, 0, 0, 1, 3, 2005002]), (8, [8], [1]), (23, [7, 3], [0, 1, -1]), (23, [7, 3], [0, -1, 1]), (20, [4, 0], [30, 0, 1, 0, 0, -1, 3, 2005002]), (20, [4, 0], [30, 0, -1, 0, 0, 1, 3, 2005002]), (20, [1, 0], [50, 1, 1, 1005, 1002, 0, 6, 4, 2, 1, 0, 0, 1, 3, 1, 2, 4, 3, 2, 1, 5, 0, 2]), (20, [0], [60, 1, 3, 199, 5, 2, 3, 4]), (20, [0, 0], [30, 0, 1, 1, 15, -1, 1, 11]), (20, [0], [50, 3, 0, 12, 11, 15, 2, 21, 4, 7, 1, 3, 2, 0, 12, 0, 1, 0, 3, 2, 0, 11, 4, 3, 2, 0, 15, 0, 8, 3, 7, 1, 3, 2, 0, 12, 0, 0, 0, 7, 4, 3, 2, 0, 15, 0, 1, 2, 0, 11]), (20, [7, 0], [30, 0, 1, 0, 0, -1, 1, 15]), (20, [8, 0], [50, 1, 0, 1012, 4, 6, 1, 2, 1, 0, 0, 1, 1, 3, 2, 1, 12, 0, 1]), (102, [7], [0]), (23, [7, 3], [0, 1, -1]), (23, [7, 3], [0, -1, 1]), (102, [7], [0, 165011, 165012, 165013, 165014, 165015]), (23, [7, 3], [0, 1, -1]), (23, [7, 3], [0, -1, 1]), (7, [4, 5], [1])], [], [], [(23, [1, 9], [-1, 1, -1])], [], [(16, 14, 1, 1), (13, 11, 2, 2)])
theorem oo_Mo_groupItem_at_k2_4 {kA : Nat → ClassId} : or_ok PRD kA GG o_Mo_groupItem_at_k2_4 := by
  refine or_mk fun A ta ws vs hD hth hl => ?_
  intro t0 r0 t1 k1 t3 k3 t4 k4 t5 k5 t7 k7 t8 k8 t9 k9 t10 r10 t11 k11 t12 k12 t13 k13 t14 k14 t15 k15 t16 k16 d0 d1 f0 f1 f2 f3 f4 f5 ta1 w1 le1 s1 f7 f8 f9 f10 f11 f12 f13 f14 f15 f16 f17 f18 f19 f20 f21 f22 f23 f24 ta2 w2 le2 s2 f26 f27 ta3 w3 le3 s3 f29 f30 f31
  replace f0 := shm_7 f0
  replace f1 := shm_22 f1
  replace f2 := shm_1397 f2
  replace f3 := shm_1398 f3
  replace f4 := shm_1396 f4
  replace f5 := shm_1762 f5
  have s1 : (∀ b j, w_el ws b j = if b = v_ad (n_v vs 10) ∧ j = (v_iv (n_v vs 13)).toNat then v_iv (n_v vs 16) else w_el w1 b j) ∧ ∀ b k, w_fd ws b k = w_fd w1 b k := s1.2
  replace f7 := shm_12 f7
  replace f8 := shm_106 f8
  replace f9 := shm_12 f9
  replace f10 := shm_109 f10
  replace f11 := shm_129 f11
  replace f12 := shm_132 f12
  replace f13 := shm_133 f13
  replace f14 := shm_154 f14
  replace f15 := shm_7 f15
  replace f16 := shm_22 f16
  replace f17 := shm_132 f17
  replace f18 := shm_133 f18
  replace f19 := shm_981 f19
  replace f20 := shm_952 f20
  replace f21 := shm_1397 f21
  replace f22 := shm_1398 f22
  replace f23 := shm_1396 f23
  replace f24 := shm_1762 f24
  replace f26 := shm_7 f26
  replace f27 := shm_22 f27
  replace f29 := shm_7 f29
  replace f30 := shm_22 f30
  replace f31 := shm_40 f31
  have ar_0_2_1 : w_ar w1 (n_v vs 0) 2 = w_ar ws (n_v vs 0) 2 := congrArg v_ad (s1.2 _ _).symm
  have cr_0_2 := fdq_12 hD hth r0
  have ar_0_3_1 : w_ar w1 (n_v vs 0) 3 = w_ar ws (n_v vs 0) 3 := congrArg v_ad (s1.2 _ _).symm
  have cr_0_3 := fdq_141 hD hth r0
  have ar_0_4_1 : w_ar w1 (n_v vs 0) 4 = w_ar ws (n_v vs 0) 4 := congrArg v_ad (s1.2 _ _).symm
  have cr_0_4 := fdq_142 hD hth r0
  have fi_0_5_1 : w_fi w1 (n_v vs 0) 5 = w_fi ws (n_v vs 0) 5 := by show v_iv (w_fd w1 _ _) = v_iv (w_fd ws _ _); rw [s1.2]
  have ad_10 : v_ad (n_v vs 10) = w_ar ws (n_v vs 0) 2 := (congrArg v_ad f11).trans ar_0_2_1
  simp only [ad_10] at f8
  have h8 : v_iv (n_v vs 14) = w_ei w1 (w_ar ws (n_v vs 0) 2) (v_iv (n_v vs 13)) := f8
  have g10 : v_iv (n_v vs 11) = w_fi w1 (n_v vs 0) 5 := congrArg v_iv f10
  simp only [ar_0_2_1, ar_0_3_1, ar_0_4_1] at f12 f13 f17 f18 f19 f20
  simp only [fi_0_5_1] at f12 f13 f17 f18
  have fe_0_5_1 : w_fi ws (n_v vs 0) 5 = w_fi w1 (n_v vs 0) 5 := congrArg v_iv (s1.2 _ _)
  have fe_0_11_1 : w_fi ws (n_v vs 0) 11 = w_fi w1 (n_v vs 0) 11 := congrArg v_iv (s1.2 _ _)
  have fe_0_12_1 : w_fi ws (n_v vs 0) 12 = w_fi w1 (n_v vs 0) 12 := congrArg v_iv (s1.2 _ _)
  have fe_0_15_1 : w_fi ws (n_v vs 0) 15 = w_fi w1 (n_v vs 0) 15 := congrArg v_iv (s1.2 _ _)
  have hE_0_2_1 : ∀ j : Int, 0 ≤ j → (j = v_iv (n_v vs 13) → w_ei ws (w_ar ws (n_v vs 0) 2) j = v_iv (n_v vs 16)) ∧ (j ≠ v_iv (n_v vs 13) → w_ei ws (w_ar ws (n_v vs 0) 2) j = w_ei w1 (w_ar ws (n_v vs 0) 2) j) := fun j hj => ⟨fun h => by unfold w_ei; rw [s1.1, if_pos ⟨ad_10.symm, by rw [h]⟩], fun h => by unfold w_ei; rw [s1.1, if_neg (fun e => h (by have := e.2; omega))]⟩
  have hE_0_3_1 : ∀ j : Int, w_ei ws (w_ar ws (n_v vs 0) 3) j = w_ei w1 (w_ar ws (n_v vs 0) 3) j := el_kp s1.1 r10 cr_0_3 (by decide)
  have hK_0_3 := elq_77 hD hth cr_0_3
  have hE_0_4_1 : ∀ j : Int, w_ei ws (w_ar ws (n_v vs 0) 4) j = w_ei w1 (w_ar ws (n_v vs 0) 4) j := el_kp s1.1 r10 cr_0_4 (by decide)
  have hK_0_4 := elq_78 hD hth cr_0_4
  have kz_0_11 := fdq_273 hD hth r0
  have kz_0_12 := fdq_186 hD hth r0
  have kz_0_15 := fdq_274 hD hth r0
  first | have hJ0 : w_ei w1 (w_ar ws (n_v vs 0) 2) ((w_fi w1 (n_v vs 0) 5 + 2)) = w_ei w1 (w_ar ws (n_v vs 0) 2) ((w_fi ws (n_v vs 0) 5 + 2)) := congrArg _ (show ((w_fi w1 (n_v vs 0) 5 + 2) : Int) = (w_fi ws (n_v vs 0) 5 + 2) from by omega) | skip
  first | have hI1 := (hE_0_2_1 ((w_fi ws (n_v vs 0) 5 + 2)) (by omega)).2 (by omega) | have hI1 := (hE_0_2_1 ((w_fi ws (n_v vs 0) 5 + 2)) (by omega)).1 (by omega) | skip
  have nf0 : fc_1 PRD (23, [1, 9], [-1, 1, -1]) ws (vs) := ⟨nf_in hl rfl, sgq_211 (vc_Mo_groupItem_at_k2_4_0 (v_iv (n_v vs 1)) (v_iv (n_v vs 9)) (v_iv (n_v vs 13)) (v_iv (n_v vs 16)) (w_fi ws (n_v vs 0) 15) (w_fi ws (n_v vs 0) 11) (w_fi ws (n_v vs 0) 12) (w_ei w1 (w_ar ws (n_v vs 0) 2)) (w_fi w1 (n_v vs 0) 5) (w_fi ws (n_v vs 0) 5) (w_ei w1 (w_ar ws (n_v vs 0) 3)) (w_ei w1 (w_ar ws (n_v vs 0) 4)) (w_fi w1 (n_v vs 0) 15) (w_fi w1 (n_v vs 0) 11) (w_fi w1 (n_v vs 0) 12) (w_ei ws (w_ar ws (n_v vs 0) 2)) (w_ei ws (w_ar ws (n_v vs 0) 3)) (w_ei ws (w_ar ws (n_v vs 0) 4)) k1 k9 k13 k16 f12 f13 f19 fe_0_5_1 fe_0_11_1 fe_0_12_1 fe_0_15_1 hE_0_2_1 hE_0_3_1 hE_0_4_1 kz_0_11 kz_0_12 kz_0_15)⟩
  refine ⟨(fun _ h => (by cases h)), [], trivial, ?_, (fun _ h => (by cases h))⟩
  rw [List.append_nil]
  exact List.forall_mem_cons.mpr ⟨⟨show (23 : Nat) < 100 from by decide, nf0⟩, (fun _ h => (by cases h))⟩
def o_Mo_groupItem_at_k2_5 : or_T := (80, 20, [(1, (0, 0, 7, [])), (9, (0, 0, 7, [])), (11, (5, 0, 66297, [539])), (17, (0, 531, 531, [])), (18, (0, 531, 66828, [])), (19, (0, 531, 66835, []))], [(1, [19, 18, 9], []), (1, [18, 11, 17], []), (23, [1, 9], [-1, 1, -1])], [], [], [(18, [19, 1], [1])], [], [(19, 9, 531, 66828), (19, 18, 0, 7), (19, 11, 531, 538), (18, 11, 531, 531)])
theorem oo_Mo_groupItem_at_k2_5 {kA : Nat → ClassId} : or_ok PRD kA GG o_Mo_groupItem_at_k2_5 := by
  refine or_mk fun A ta ws vs hD hth hl => ?_
  intro t1 k1 t9 k9 t11 t17 k17 t18 k18 t19 k19 d0 d1 d2 d3 f0 f1 f2
  obtain ⟨k11, q11_⟩ : (0 ≤ v_iv (n_v vs 11) ∧ v_iv (n_v vs 11) ≤ 66297) ∧ ∃ q : Int, v_iv (n_v vs 11) = 539 * q := tv_dvk t11
  obtain ⟨q11, hq11⟩ := q11_
  replace f0 := shm_12 f0
  replace f1 := shm_12 f1
  replace f2 := shm_211 f2
  have nf0 : fc_1 PRD (18, [19, 1], [1]) ws (vs) := by
    refine ⟨nf_in hl rfl, sgq_1268 ?_⟩
    · show pl_ok 1 (v_iv (n_v vs 19)).toNat (v_iv (n_v vs 1))
      exact pl_ginS (k := v_iv (n_v vs 9)) (by omega) (by omega) (by omega) (by omega) (by omega)
  refine ⟨(fun _ h => (by cases h)), [], trivial, ?_, (fun _ h => (by cases h))⟩
  rw [List.append_nil]
  exact List.forall_mem_cons.mpr ⟨⟨show (18 : Nat) < 100 from by decide, nf0⟩, (fun _ h => (by cases h))⟩
set_option maxHeartbeats 4000000 in
theorem vc_Mo_groupItem_at_k2_6_r0 (x1 : Int) (x8 : Int) (x13 : Int) (x16 : Int) (x19 : Int) (x23 : Int) (x24 : Int) (x25 : Int) (from_0 : Int) (pos_0 : Int) (r_0 : Int) (kind_0 : Int) (from_1 : Int) (pos_1 : Int) (kind_1 : Int) (all_2 : Int → Int) (r_2 : Int) (now_2 : Int → Int) (latest_2 : Int → Int) (from_2 : Int) (pos_2 : Int) (kind_2 : Int) (r_1 : Int) (all_0 : Int → Int) (all_1 : Int → Int) (now_0 : Int → Int) (now_1 : Int → Int) (latest_0 : Int → Int) (latest_1 : Int → Int) (k1 : 0 ≤ x1 ∧ x1 ≤ 7) (k8 : 1 ≤ x8 ∧ x8 ≤ 1) (k13 : 2 ≤ x13 ∧ x13 ≤ 66299) (k16 : 1 ≤ x16 ∧ x16 ≤ 8) (k19 : 531 ≤ x19 ∧ x19 ≤ 66835) (k23 : 0 ≤ x23 ∧ x23 ≤ 2000) (k24 : 0 ≤ x24 ∧ x24 ≤ 2000) (k25 : (-2000) ≤ x25 ∧ x25 ≤ 2000) (f0 : x25 = x23 - x24) (g1 : x24 = from_0) (g2 : x23 = pos_0) (f10 : 1 * from_0 + ((-1) * pos_0 + 0) ≤ 0) (f38 : ((kind_2 = 1) → (pos_2 ≤ (from_2 + 8))) ∧ ((kind_2 = 0) ∨ ((from_2 + 1) ≤ pos_2))) (f40 : (x8 = 1) → (kind_2 = 1)) (fe_0_5_1 : r_0 = r_1) (fe_0_11_1 : pos_0 = pos_1) (fe_0_12_1 : kind_0 = kind_1) (fe_0_15_1 : from_0 = from_1) (fe_0_5_2 : r_1 = r_2) (fe_0_11_2 : pos_1 = pos_2) (fe_0_12_2 : kind_1 = kind_2) (fe_0_15_2 : from_1 = from_2) (hE_0_2_1 : ∀ j : Int, 0 ≤ j → (j = x19 → all_0 j = x1) ∧ (j ≠ x19 → all_0 j = all_1 j)) (hE_0_2_2 : ∀ j : Int, 0 ≤ j → (j = x13 → all_1 j = x16) ∧ (j ≠ x13 → all_1 j = all_2 j)) (hE_0_3_1 : ∀ j : Int, now_0 j = now_1 j) (hE_0_3_2 : ∀ j : Int, now_1 j = now_2 j) (hE_0_4_1 : ∀ j : Int, latest_0 j = latest_1 j) (hE_0_4_2 : ∀ j : Int, latest_1 j = latest_2 j) (kz_0_11 : 0 ≤ pos_0 ∧ pos_0 ≤ 2000) (kz_0_12 : 0 ≤ kind_0 ∧ kind_0 ≤ 4) (kz_0_15 : 0 ≤ from_0 ∧ from_0 ≤ 2000) : 0 ≤ x25 ∧ x25 ≤ 8 := by
  subst fe_0_5_1
  subst fe_0_11_1
  subst fe_0_12_1
  subst fe_0_15_1
  subst fe_0_5_2
  subst fe_0_11_2
  subst fe_0_12_2
  subst fe_0_15_2
  have e_hE_0_3_1 := funext hE_0_3_1; subst e_hE_0_3_1
  have e_hE_0_3_2 := funext hE_0_3_2; subst e_hE_0_3_2
  have e_hE_0_4_1 := funext hE_0_4_1; subst e_hE_0_4_1
  have e_hE_0_4_2 := funext hE_0_4_2; subst e_hE_0_4_2
  first
    | omega
    | (have q1 := (hE_0_2_1 (r_0 + 2) (by omega)).2 (by omega)
       have q2 := (hE_0_2_2 (r_0 + 2) (by omega)).2 (by omega)
       omega)
    | (have q1 := (hE_0_2_1 (r_0 + 1) (by omega)).2 (by omega)
       have q2 := (hE_0_2_2 (r_0 + 1) (by omega)).2 (by omega)
       omega)
    | (have q1 := (hE_0_2_1 (r_0 + 2) (by omega)).2 (by omega)
       omega)
    | (have q1 := (hE_0_2_1 (r_0 + 1) (by omega)).2 (by omega)
       omega)
    | (have q1 := (hE_0_2_1 (r_0 + 2) (by omega)).2 (by omega)
       have q2 := (hE_0_2_2 (r_0 + 2) (by omega)).2 (by omega)
       have q3 := (hE_0_2_3 (r_0 + 2) (by omega)).1 (by omega)
       omega)
    | (have q1 := (hE_0_2_1 (r_0 + 2) (by omega)).2 (by omega)
       have q2 := (hE_0_2_2 (r_0 + 2) (by omega)).2 (by omega)
       have q3 := (hE_0_2_3 (r_0 + 2) (by omega)).2 (by omega)
       omega)
    | (have q1 := (hE_0_2_1 (r_0 + 2) (by omega)).2 (by omega)
       have q2 := (hE_0_2_2 (r_0 + 2) (by omega)).2 (by omega)
       have q3 := (hE_0_2_3 (r_0 + 2) (by omega)).1 (by omega)
       have q4 : x13 = r_0 + 2 := by omega
       rw [q4] at h34
       omega)
def o_Mo_groupItem_at_k2_6 : or_T := (104, 26, [(0, (2, 0, 0, [165])), (1, (0, 0, 7, [])), (3, (0, 0, 2000, [])), (4, (0, 0, 7, [])), (5, (0, 8, 8, [])), (7, (0, 0, 2000, [])), (8, (0, 1, 1, [])), (9, (0, 0, 7, [])), (10, (2, 0, 0, [167])), (11, (0, 0, 66297, [])), (12, (0, 2, 2, [])), (13, (0, 2, 66299, [])), (14, (0, 0, 8, [])), (15, (0, 1, 1, [])), (16, (0, 1, 8, [])), (17, (0, 531, 531, [])), (18, (0, 531, 66828, [])), (19, (0, 531, 66835, [])), (20, (0, 523, 523, [])), (21, (0, 523, 66820, [])), (22, (0, 523, 66827, [])), (23, (0, 0, 2000, [])), (24, (0, 0, 2000, [])), (25, (0, -2000, 2000, []))], [(2, [25, 23, 24], []), (9, [24, 0], [15]), (9, [23, 0], [11]), (1, [22, 21, 9], []), (1, [21, 11, 20], []), (9, [11, 0], [5]), (9, [10, 0], [2]), (23, [1, 9], [-1, 1, -1]), (23, [7, 3], [0, 1, -1]), (23, [7, 3], [0, -1, 1]), (20, [0, 0], [30, 0, 1, 1, 15, -1, 1, 11]), (20, [0], [50, 3, 0, 12, 11, 15, 2, 21, 4, 7, 1, 3, 2, 0, 12, 0, 1, 0, 3, 2, 0, 11, 4, 3, 2, 0, 15, 0, 8, 3, 7, 1, 3, 2, 0, 12, 0, 0, 0, 7, 4, 3, 2, 0, 15, 0, 1, 2, 0, 11]), (20, [7, 0], [30, 0, 1, 0, 0, -1, 1, 15]), (20, [8, 0], [50, 1, 0, 1012, 4, 6, 1, 2, 1, 0, 0, 1, 1, 3, 2, 1, 12, 0, 1]), (100, [10, 19, 1], []), (1, [19, 18, 9], []), (1, [18, 11, 17], []), (23, [1, 9], [-1, 1, -1]), (23, [7, 3], [0, 1, -1]), (23, [7, 3], [0, -1, 1]), (20, [0, 0], [30, 0, 1, 1, 15, -1, 1, 11]), (20, [0], [50, 3, 0, 12, 11, 15, 2, 21, 4, 7, 1, 3, 2, 0, 12, 0, 1, 0, 3, 2, 0, 11, 4, 3, 2, 0, 15, 0, 8, 3, 7, 1, 3, 2, 0, 12, 0, 0, 0, 7, 4, 3, 2, 0, 15, 0, 1, 2, 0, 11]), (20, [7, 0], [30, 0, 1, 0, 0, -1, 1, 15]), (20, [8, 0], [50, 1, 0, 1012, 4, 6, 1, 2, 1, 0, 0, 1, 1, 3, 2, 1, 12, 0, 1]), (100, [10, 13, 16], []), (1, [16, 14, 15], []), (10, [14, 10, 13], []), (1, [13, 11, 12], []), (20, [9, 0], [30, 0, 1, 0, 0, -1, 3, 2005002]), (20, [9, 0], [30, 0, -1, 0, 0, 1, 3, 2005002]), (8, [8], [1]), (23, [7, 3], [0, 1, -1]), (23, [7, 3], [0, -1, 1]), (20, [4, 0], [30, 0, 1, 0, 0, -1, 3, 2005002]), (20, [4, 0], [30, 0, -1, 0, 0, 1, 3, 2005002]), (20, [1, 0], [50, 1, 1, 1005, 1002, 0, 6, 4, 2, 1, 0, 0, 1, 3, 1, 2, 4, 3, 2, 1, 5, 0, 2]), (20, [0], [60, 1, 3, 199, 5, 2, 3, 4]), (20, [0, 0], [30, 0, 1, 1, 15, -1, 1, 11]), (20, [0], [50, 3, 0, 12, 11, 15, 2, 21, 4, 7, 1, 3, 2, 0, 12, 0, 1, 0, 3, 2, 0, 11, 4, 3, 2, 0, 15, 0, 8, 3, 7, 1, 3, 2, 0, 12, 0, 0, 0, 7, 4, 3, 2, 0, 15, 0, 1, 2, 0, 11]), (20, [7, 0], [30, 0, 1, 0, 0, -1, 1, 15]), (20, [8, 0], [50, 1, 0, 1012, 4, 6, 1, 2, 1, 0, 0, 1, 1, 3, 2, 1, 12, 0, 1]), (102, [7], [0]), (23, [7, 3], [0, 1, -1]), (23, [7, 3], [0, -1, 1]), (102, [7], [0, 165011, 165012, 165013, 165014, 165015]), (23, [7, 3], [0, 1, -1]), (23, [7, 3], [0, -1, 1]), (7, [4, 5], [1])], [(25, (0, 0, 8, []))], [], [], [], [(25, 23, -2000, 0), (22, 9, 523, 66820), (22, 21, 0, 7), (22, 11, 523, 530), (21, 11, 523, 523), (19, 9, 531, 66828), (19, 18, 0, 7), (19, 11, 531, 538), (18, 11, 531, 531), (16, 14, 1, 1), (13, 11, 2, 2)])
theorem oo_Mo_groupItem_at_k2_6 {kA : Nat → ClassId} : or_ok PRD kA GG o_Mo_groupItem_at_k2_6 := by
  refine or_mk fun A ta ws vs hD hth hl => ?_
  intro t0 r0 t1 k1 t3 k3 t4 k4 t5 k5 t7 k7 t8 k8 t9 k9 t10 r10 t11 k11 t12 k12 t13 k13 t14 k14 t15 k15 t16 k16 t17 k17 t18 k18 t19 k19 t20 k20 t21 k21 t22 k22 t23 k23 t24 k24 t25 k25 d0 d1 d2 d3 d4 d5 d6 d7 d8 d9 d10 f0 f1 f2 f3 f4 f5 f6 f7 f8 f9 f10 f11 f12 f13 ta1 w1 le1 s1 f15 f16 f17 f18 f19 f20 f21 f22 f23 ta2 w2 le2 s2 f25 f26 f27 f28 f29 f30 f31 f32 f33 f34 f35 f36 f37 f38 f39 f40 ta3 w3 le3 s3 f42 f43 ta4 w4 le4 s4 f45 f46 f47
  replace f0 := shm_14 f0
  replace f1 := shm_189 f1
  replace f2 := shm_117 f2
  replace f3 := shm_12 f3
  replace f4 := shm_12 f4
  replace f5 := shm_109 f5
  replace f6 := shm_129 f6
  replace f7 := shm_211 f7
  replace f8 := shm_7 f8
  replace f9 := shm_22 f9
  replace f10 := shm_1397 f10
  replace f11 := shm_1398 f11
  replace f12 := shm_1396 f12
  replace f13 := shm_1762 f13
  have s1 : (∀ b j, w_el ws b j = if b = v_ad (n_v vs 10) ∧ j = (v_iv (n_v vs 19)).toNat then v_iv (n_v vs 1) else w_el w1 b j) ∧ ∀ b k, w_fd ws b k = w_fd w1 b k := s1.2
  replace f15 := shm_12 f15
  replace f16 := shm_12 f16
  replace f17 := shm_211 f17
  replace f18 := shm_7 f18
  replace f19 := shm_22 f19
  replace f20 := shm_1397 f20
  replace f21 := shm_1398 f21
  replace f22 := shm_1396 f22
  replace f23 := shm_1762 f23
  have s2 : (∀ b j, w_el w1 b j = if b = v_ad (n_v vs 10) ∧ j = (v_iv (n_v vs 13)).toNat then v_iv (n_v vs 16) else w_el w2 b j) ∧ ∀ b k, w_fd w1 b k = w_fd w2 b k := s2.2
  replace f25 := shm_12 f25
  replace f26 := shm_106 f26
  replace f27 := shm_12 f27
  replace f28 := shm_132 f28
  replace f29 := shm_133 f29
  replace f30 := shm_154 f30
  replace f31 := shm_7 f31
  replace f32 := shm_22 f32
  replace f33 := shm_132 f33
  replace f34 := shm_133 f34
  replace f35 := shm_981 f35
  replace f36 := shm_952 f36
  replace f37 := shm_1397 f37
  replace f38 := shm_1398 f38
  replace f39 := shm_1396 f39
  replace f40 := shm_1762 f40
  replace f42 := shm_7 f42
  replace f43 := shm_22 f43
  replace f45 := shm_7 f45
  replace f46 := shm_22 f46
  replace f47 := shm_40 f47
  have ar_0_2_1 : w_ar w1 (n_v vs 0) 2 = w_ar ws (n_v vs 0) 2 := congrArg v_ad (s1.2 _ _).symm
  have ar_0_2_2 : w_ar w2 (n_v vs 0) 2 = w_ar ws (n_v vs 0) 2 := by rw [← ar_0_2_1]; show v_ad (w_fd w2 _ _) = v_ad (w_fd w1 _ _); rw [s2.2]
  have cr_0_2 := fdq_12 hD hth r0
  have ar_0_3_1 : w_ar w1 (n_v vs 0) 3 = w_ar ws (n_v vs 0) 3 := congrArg v_ad (s1.2 _ _).symm
  have ar_0_3_2 : w_ar w2 (n_v vs 0) 3 = w_ar ws (n_v vs 0) 3 := by rw [← ar_0_3_1]; show v_ad (w_fd w2 _ _) = v_ad (w_fd w1 _ _); rw [s2.2]
  have cr_0_3 := fdq_141 hD hth r0
  have ar_0_4_1 : w_ar w1 (n_v vs 0) 4 = w_ar ws (n_v vs 0) 4 := congrArg v_ad (s1.2 _ _).symm
  have ar_0_4_2 : w_ar w2 (n_v vs 0) 4 = w_ar ws (n_v vs 0) 4 := by rw [← ar_0_4_1]; show v_ad (w_fd w2 _ _) = v_ad (w_fd w1 _ _); rw [s2.2]
  have cr_0_4 := fdq_142 hD hth r0
  have fi_0_5_1 : w_fi w1 (n_v vs 0) 5 = w_fi ws (n_v vs 0) 5 := by show v_iv (w_fd w1 _ _) = v_iv (w_fd ws _ _); rw [s1.2]
  have fi_0_5_2 : w_fi w2 (n_v vs 0) 5 = w_fi ws (n_v vs 0) 5 := by rw [← fi_0_5_1]; show v_iv (w_fd w2 _ _) = v_iv (w_fd w1 _ _); rw [s2.2]
  have ad_10 : v_ad (n_v vs 10) = w_ar ws (n_v vs 0) 2 := congrArg v_ad f6
  have g1 : v_iv (n_v vs 24) = w_fi ws (n_v vs 0) 15 := congrArg v_iv f1
  have g2 : v_iv (n_v vs 23) = w_fi ws (n_v vs 0) 11 := congrArg v_iv f2
  have g5 : v_iv (n_v vs 11) = w_fi ws (n_v vs 0) 5 := congrArg v_iv f5
  simp only [ad_10] at f26
  have h26 : v_iv (n_v vs 14) = w_ei w2 (w_ar ws (n_v vs 0) 2) (v_iv (n_v vs 13)) := f26
  simp only [ar_0_2_2, ar_0_3_2, ar_0_4_2] at f28 f29 f33 f34 f35 f36
  simp only [fi_0_5_2] at f28 f29 f33 f34
  have fe_0_5_1 : w_fi ws (n_v vs 0) 5 = w_fi w1 (n_v vs 0) 5 := congrArg v_iv (s1.2 _ _)
  have fe_0_11_1 : w_fi ws (n_v vs 0) 11 = w_fi w1 (n_v vs 0) 11 := congrArg v_iv (s1.2 _ _)
  have fe_0_12_1 : w_fi ws (n_v vs 0) 12 = w_fi w1 (n_v vs 0) 12 := congrArg v_iv (s1.2 _ _)
  have fe_0_15_1 : w_fi ws (n_v vs 0) 15 = w_fi w1 (n_v vs 0) 15 := congrArg v_iv (s1.2 _ _)
  have fe_0_5_2 : w_fi w1 (n_v vs 0) 5 = w_fi w2 (n_v vs 0) 5 := congrArg v_iv (s2.2 _ _)
  have fe_0_11_2 : w_fi w1 (n_v vs 0) 11 = w_fi w2 (n_v vs 0) 11 := congrArg v_iv (s2.2 _ _)
  have fe_0_12_2 : w_fi w1 (n_v vs 0) 12 = w_fi w2 (n_v vs 0) 12 := congrArg v_iv (s2.2 _ _)
  have fe_0_15_2 : w_fi w1 (n_v vs 0) 15 = w_fi w2 (n_v vs 0) 15 := congrArg v_iv (s2.2 _ _)
  have hE_0_2_1 : ∀ j : Int, 0 ≤ j → (j = v_iv (n_v vs 19) → w_ei ws (w_ar ws (n_v vs 0) 2) j = v_iv (n_v vs 1)) ∧ (j ≠ v_iv (n_v vs 19) → w_ei ws (w_ar ws (n_v vs 0) 2) j = w_ei w1 (w_ar ws (n_v vs 0) 2) j) := fun j hj => ⟨fun h => by unfold w_ei; rw [s1.1, if_pos ⟨ad_10.symm, by rw [h]⟩], fun h => by unfold w_ei; rw [s1.1, if_neg (fun e => h (by have := e.2; omega))]⟩
  have hE_0_2_2 : ∀ j : Int, 0 ≤ j → (j = v_iv (n_v vs 13) → w_ei w1 (w_ar ws (n_v vs 0) 2) j = v_iv (n_v vs 16)) ∧ (j ≠ v_iv (n_v vs 13) → w_ei w1 (w_ar ws (n_v vs 0) 2) j = w_ei w2 (w_ar ws (n_v vs 0) 2) j) := fun j hj => ⟨fun h => by unfold w_ei; rw [s2.1, if_pos ⟨ad_10.symm, by rw [h]⟩], fun h => by unfold w_ei; rw [s2.1, if_neg (fun e => h (by have := e.2; omega))]⟩
  have hE_0_3_1 : ∀ j : Int, w_ei ws (w_ar ws (n_v vs 0) 3) j = w_ei w1 (w_ar ws (n_v vs 0) 3) j := el_kp s1.1 r10 cr_0_3 (by decide)
  have hE_0_3_2 : ∀ j : Int, w_ei w1 (w_ar ws (n_v vs 0) 3) j = w_ei w2 (w_ar ws (n_v vs 0) 3) j := el_kp s2.1 r10 cr_0_3 (by decide)
  have hK_0_3 := elq_77 hD hth cr_0_3
  have hE_0_4_1 : ∀ j : Int, w_ei ws (w_ar ws (n_v vs 0) 4) j = w_ei w1 (w_ar ws (n_v vs 0) 4) j := el_kp s1.1 r10 cr_0_4 (by decide)
  have hE_0_4_2 : ∀ j : Int, w_ei w1 (w_ar ws (n_v vs 0) 4) j = w_ei w2 (w_ar ws (n_v vs 0) 4) j := el_kp s2.1 r10 cr_0_4 (by decide)
  have hK_0_4 := elq_78 hD hth cr_0_4
  have kz_0_11 := fdq_273 hD hth r0
  have kz_0_12 := fdq_186 hD hth r0
  have kz_0_15 := fdq_274 hD hth r0
  first | have hJ0 : w_ei w2 (w_ar ws (n_v vs 0) 2) ((w_fi w2 (n_v vs 0) 5 + 2)) = w_ei w2 (w_ar ws (n_v vs 0) 2) ((w_fi ws (n_v vs 0) 5 + 2)) := congrArg _ (show ((w_fi w2 (n_v vs 0) 5 + 2) : Int) = (w_fi ws (n_v vs 0) 5 + 2) from by omega) | skip
  first | have hI1 := (hE_0_2_1 ((w_fi ws (n_v vs 0) 5 + 2)) (by omega)).2 (by omega) | have hI1 := (hE_0_2_1 ((w_fi ws (n_v vs 0) 5 + 2)) (by omega)).1 (by omega) | skip
  first | have hI2 := (hE_0_2_2 ((w_fi ws (n_v vs 0) 5 + 2)) (by omega)).2 (by omega) | have hI2 := (hE_0_2_2 ((w_fi ws (n_v vs 0) 5 + 2)) (by omega)).1 (by omega) | skip
  have hrf0 : 0 ≤ v_iv (n_v vs 25) ∧ v_iv (n_v vs 25) ≤ 8 := vc_Mo_groupItem_at_k2_6_r0 (v_iv (n_v vs 1)) (v_iv (n_v vs 8)) (v_iv (n_v vs 13)) (v_iv (n_v vs 16)) (v_iv (n_v vs 19)) (v_iv (n_v vs 23)) (v_iv (n_v vs 24)) (v_iv (n_v vs 25)) (w_fi ws (n_v vs 0) 15) (w_fi ws (n_v vs 0) 11) (w_fi ws (n_v vs 0) 5) (w_fi ws (n_v vs 0) 12) (w_fi w1 (n_v vs 0) 15) (w_fi w1 (n_v vs 0) 11) (w_fi w1 (n_v vs 0) 12) (w_ei w2 (w_ar ws (n_v vs 0) 2)) (w_fi w2 (n_v vs 0) 5) (w_ei w2 (w_ar ws (n_v vs 0) 3)) (w_ei w2 (w_ar ws (n_v vs 0) 4)) (w_fi w2 (n_v vs 0) 15) (w_fi w2 (n_v vs 0) 11) (w_fi w2 (n_v vs 0) 12) (w_fi w1 (n_v vs 0) 5) (w_ei ws (w_ar ws (n_v vs 0) 2)) (w_ei w1 (w_ar ws (n_v vs 0) 2)) (w_ei ws (w_ar ws (n_v vs 0) 3)) (w_ei w1 (w_ar ws (n_v vs 0) 3)) (w_ei ws (w_ar ws (n_v vs 0) 4)) (w_ei w1 (w_ar ws (n_v vs 0) 4)) k1 k8 k13 k16 k19 k23 k24 k25 f0 g1 g2 f10 f38 f40 fe_0_5_1 fe_0_11_1 fe_0_12_1 fe_0_15_1 fe_0_5_2 fe_0_11_2 fe_0_12_2 fe_0_15_2 hE_0_2_1 hE_0_2_2 hE_0_3_1 hE_0_3_2 hE_0_4_1 hE_0_4_2 kz_0_11 kz_0_12 kz_0_15
  have rf25 : tv_ok ta (0, 0, 8, []) (n_v vs 25) := tv_in t25 (by first | omega | grind) (by first | omega | grind)
  refine ⟨List.forall_mem_cons.mpr ⟨rf25, (fun _ h => (by cases h))⟩, [], trivial, ?_, (fun _ h => (by cases h))⟩
  rw [List.append_nil]
  exact (fun _ h => (by cases h))
set_option maxHeartbeats 4000000 in
theorem vc_Mo_groupItem_at_k2_7_0 (x1 : Int) (x3 : Int) (x7 : Int) (x8 : Int) (x13 : Int) (x14 : Int) (x16 : Int) (x19 : Int) (x22 : Int) (x23 : Int) (x24 : Int) (x25 : Int) (from_0 : Int) (pos_0 : Int) (kind_0 : Int) (from_1 : Int) (pos_1 : Int) (r_1 : Int) (kind_1 : Int) (from_2 : Int) (pos_2 : Int) (kind_2 : Int) (all_3 : Int → Int) (r_0 : Int) (r_3 : Int) (now_3 : Int → Int) (latest_3 : Int → Int) (from_3 : Int) (pos_3 : Int) (kind_3 : Int) (r_2 : Int) (all_0 : Int → Int) (all_1 : Int → Int) (all_2 : Int → Int) (now_0 : Int → Int) (now_1 : Int → Int) (now_2 : Int → Int) (latest_0 : Int → Int) (latest_1 : Int → Int) (latest_2 : Int → Int) (k1 : 0 ≤ x1 ∧ x1 ≤ 7) (k3 : 0 ≤ x3 ∧ x3 ≤ 2000) (k7 : 0 ≤ x7 ∧ x7 ≤ 2000) (k8 : 1 ≤ x8 ∧ x8 ≤ 1) (k13 : 2 ≤ x13 ∧ x13 ≤ 66299) (k14 : 0 ≤ x14 ∧ x14 ≤ 8) (k16 : 1 ≤ x16 ∧ x16 ≤ 8) (k19 : 531 ≤ x19 ∧ x19 ≤ 66835) (k22 : 523 ≤ x22 ∧ x22 ≤ 66827) (k23 : 0 ≤ x23 ∧ x23 ≤ 2000) (k24 : 0 ≤ x24 ∧ x24 ≤ 2000) (k25 : 0 ≤ x25 ∧ x25 ≤ 8) (f1 : 1 * x7 + ((-1) * x3 + 0) ≤ 0) (f2 : (-1) * x7 + (1 * x3 + 0) ≤ 0) (f5 : 1 * x7 + ((-1) * from_0 + 0) ≤ 0) (f8 : x25 = x23 - x24) (g9 : x24 = from_1) (g10 : x23 = pos_1) (h34 : x14 = all_3 (x13)) (f46 : ((kind_3 = 1) → (pos_3 ≤ (from_3 + 8))) ∧ ((kind_3 = 0) ∨ ((from_3 + 1) ≤ pos_3))) (f48 : (x8 = 1) → (kind_3 = 1)) (fe_0_5_1 : r_0 = r_1) (fe_0_11_1 : pos_0 = pos_1) (fe_0_12_1 : kind_0 = kind_1) (fe_0_15_1 : from_0 = from_1) (fe_0_5_2 : r_1 = r_2) (fe_0_11_2 : pos_1 = pos_2) (fe_0_12_2 : kind_1 = kind_2) (fe_0_15_2 : from_1 = from_2) (fe_0_5_3 : r_2 = r_3) (fe_0_11_3 : pos_2 = pos_3) (fe_0_12_3 : kind_2 = kind_3) (fe_0_15_3 : from_2 = from_3) (hE_0_2_1 : ∀ j : Int, 0 ≤ j → (j = x22 → all_0 j = x25) ∧ (j ≠ x22 → all_0 j = all_1 j)) (hE_0_2_2 : ∀ j : Int, 0 ≤ j → (j = x19 → all_1 j = x1) ∧ (j ≠ x19 → all_1 j = all_2 j)) (hE_0_2_3 : ∀ j : Int, 0 ≤ j → (j = x13 → all_2 j = x16) ∧ (j ≠ x13 → all_2 j = all_3 j)) (hE_0_3_1 : ∀ j : Int, now_0 j = now_1 j) (hE_0_3_2 : ∀ j : Int, now_1 j = now_2 j) (hE_0_3_3 : ∀ j : Int, now_2 j = now_3 j) (hE_0_4_1 : ∀ j : Int, latest_0 j = latest_1 j) (hE_0_4_2 : ∀ j : Int, latest_1 j = latest_2 j) (hE_0_4_3 : ∀ j : Int, latest_2 j = latest_3 j) (kz_0_11 : 0 ≤ pos_0 ∧ pos_0 ≤ 2000) (kz_0_12 : 0 ≤ kind_0 ∧ kind_0 ≤ 4) (kz_0_15 : 0 ≤ from_0 ∧ from_0 ≤ 2000) : 1 * x3 + ((-1) * pos_0 + 0) ≤ (-1) := by
  subst fe_0_5_1
  subst fe_0_11_1
  subst fe_0_12_1
  subst fe_0_15_1
  subst fe_0_5_2
  subst fe_0_11_2
  subst fe_0_12_2
  subst fe_0_15_2
  subst fe_0_5_3
  subst fe_0_11_3
  subst fe_0_12_3
  subst fe_0_15_3
  have e_hE_0_3_1 := funext hE_0_3_1; subst e_hE_0_3_1
  have e_hE_0_3_2 := funext hE_0_3_2; subst e_hE_0_3_2
  have e_hE_0_3_3 := funext hE_0_3_3; subst e_hE_0_3_3
  have e_hE_0_4_1 := funext hE_0_4_1; subst e_hE_0_4_1
  have e_hE_0_4_2 := funext hE_0_4_2; subst e_hE_0_4_2
  have e_hE_0_4_3 := funext hE_0_4_3; subst e_hE_0_4_3
  first
    | omega
    | (have q1 := (hE_0_2_1 (r_0 + 2) (by omega)).2 (by omega)
       have q2 := (hE_0_2_2 (r_0 + 2) (by omega)).2 (by omega)
       omega)
    | (have q1 := (hE_0_2_1 (r_0 + 1) (by omega)).2 (by omega)
       have q2 := (hE_0_2_2 (r_0 + 1) (by omega)).2 (by omega)
       omega)
    | (have q1 := (hE_0_2_1 (r_0 + 2) (by omega)).2 (by omega)
       omega)
    | (have q1 := (hE_0_2_1 (r_0 + 1) (by omega)).2 (by omega)
       omega)
    | (have q1 := (hE_0_2_1 (r_0 + 2) (by omega)).2 (by omega)
       have q2 := (hE_0_2_2 (r_0 + 2) (by omega)).2 (by omega)
       have q3 := (hE_0_2_3 (r_0 + 2) (by omega)).1 (by omega)
       omega)
    | (have q1 := (hE_0_2_1 (r_0 + 2) (by omega)).2 (by omega)
       have q2 := (hE_0_2_2 (r_0 + 2) (by omega)).2 (by omega)
       have q3 := (hE_0_2_3 (r_0 + 2) (by omega)).2 (by omega)
       omega)
    | (have q1 := (hE_0_2_1 (r_0 + 2) (by omega)).2 (by omega)
       have q2 := (hE_0_2_2 (r_0 + 2) (by omega)).2 (by omega)
       have q3 := (hE_0_2_3 (r_0 + 2) (by omega)).1 (by omega)
       have q4 : x13 = r_0 + 2 := by omega
       rw [q4] at h34
       omega)
set_option maxHeartbeats 4000000 in
theorem vc_Mo_groupItem_at_k2_7_1 (x1 : Int) (x8 : Int) (x13 : Int) (x14 : Int) (x16 : Int) (x19 : Int) (x22 : Int) (x25 : Int) (from_0 : Int) (pos_0 : Int) (kind_0 : Int) (from_1 : Int) (pos_1 : Int) (r_1 : Int) (kind_1 : Int) (from_2 : Int) (pos_2 : Int) (kind_2 : Int) (all_3 : Int → Int) (r_0 : Int) (r_3 : Int) (now_3 : Int → Int) (latest_3 : Int → Int) (from_3 : Int) (pos_3 : Int) (kind_3 : Int) (r_2 : Int) (all_0 : Int → Int) (all_1 : Int → Int) (all_2 : Int → Int) (now_0 : Int → Int) (now_1 : Int → Int) (now_2 : Int → Int) (latest_0 : Int → Int) (latest_1 : Int → Int) (latest_2 : Int → Int) (k1 : 0 ≤ x1 ∧ x1 ≤ 7) (k8 : 1 ≤ x8 ∧ x8 ≤ 1) (k13 : 2 ≤ x13 ∧ x13 ≤ 66299) (k14 : 0 ≤ x14 ∧ x14 ≤ 8) (k16 : 1 ≤ x16 ∧ x16 ≤ 8) (k19 : 531 ≤ x19 ∧ x19 ≤ 66835) (k22 : 523 ≤ x22 ∧ x22 ≤ 66827) (k25 : 0 ≤ x25 ∧ x25 ≤ 8) (h34 : x14 = all_3 (x13)) (f46 : ((kind_3 = 1) → (pos_3 ≤ (from_3 + 8))) ∧ ((kind_3 = 0) ∨ ((from_3 + 1) ≤ pos_3))) (f48 : (x8 = 1) → (kind_3 = 1)) (fe_0_5_1 : r_0 = r_1) (fe_0_11_1 : pos_0 = pos_1) (fe_0_12_1 : kind_0 = kind_1) (fe_0_15_1 : from_0 = from_1) (fe_0_5_2 : r_1 = r_2) (fe_0_11_2 : pos_1 = pos_2) (fe_0_12_2 : kind_1 = kind_2) (fe_0_15_2 : from_1 = from_2) (fe_0_5_3 : r_2 = r_3) (fe_0_11_3 : pos_2 = pos_3) (fe_0_12_3 : kind_2 = kind_3) (fe_0_15_3 : from_2 = from_3) (hE_0_2_1 : ∀ j : Int, 0 ≤ j → (j = x22 → all_0 j = x25) ∧ (j ≠ x22 → all_0 j = all_1 j)) (hE_0_2_2 : ∀ j : Int, 0 ≤ j → (j = x19 → all_1 j = x1) ∧ (j ≠ x19 → all_1 j = all_2 j)) (hE_0_2_3 : ∀ j : Int, 0 ≤ j → (j = x13 → all_2 j = x16) ∧ (j ≠ x13 → all_2 j = all_3 j)) (hE_0_3_1 : ∀ j : Int, now_0 j = now_1 j) (hE_0_3_2 : ∀ j : Int, now_1 j = now_2 j) (hE_0_3_3 : ∀ j : Int, now_2 j = now_3 j) (hE_0_4_1 : ∀ j : Int, latest_0 j = latest_1 j) (hE_0_4_2 : ∀ j : Int, latest_1 j = latest_2 j) (hE_0_4_3 : ∀ j : Int, latest_2 j = latest_3 j) (kz_0_11 : 0 ≤ pos_0 ∧ pos_0 ≤ 2000) (kz_0_12 : 0 ≤ kind_0 ∧ kind_0 ≤ 4) (kz_0_15 : 0 ≤ from_0 ∧ from_0 ≤ 2000) : kind_0 = 1 := by
  subst fe_0_5_1
  subst fe_0_11_1
  subst fe_0_12_1
  subst fe_0_15_1
  subst fe_0_5_2
  subst fe_0_11_2
  subst fe_0_12_2
  subst fe_0_15_2
  subst fe_0_5_3
  subst fe_0_11_3
  subst fe_0_12_3
  subst fe_0_15_3
  have e_hE_0_3_1 := funext hE_0_3_1; subst e_hE_0_3_1
  have e_hE_0_3_2 := funext hE_0_3_2; subst e_hE_0_3_2
  have e_hE_0_3_3 := funext hE_0_3_3; subst e_hE_0_3_3
  have e_hE_0_4_1 := funext hE_0_4_1; subst e_hE_0_4_1
  have e_hE_0_4_2 := funext hE_0_4_2; subst e_hE_0_4_2
  have e_hE_0_4_3 := funext hE_0_4_3; subst e_hE_0_4_3
  first
    | omega
    | (have q1 := (hE_0_2_1 (r_0 + 2) (by omega)).2 (by omega)
       have q2 := (hE_0_2_2 (r_0 + 2) (by omega)).2 (by omega)
       omega)
    | (have q1 := (hE_0_2_1 (r_0 + 1) (by omega)).2 (by omega)
       have q2 := (hE_0_2_2 (r_0 + 1) (by omega)).2 (by omega)
       omega)
    | (have q1 := (hE_0_2_1 (r_0 + 2) (by omega)).2 (by omega)
       omega)
    | (have q1 := (hE_0_2_1 (r_0 + 1) (by omega)).2 (by omega)
       omega)
    | (have q1 := (hE_0_2_1 (r_0 + 2) (by omega)).2 (by omega)
       have q2 := (hE_0_2_2 (r_0 + 2) (by omega)).2 (by omega)
       have q3 := (hE_0_2_3 (r_0 + 2) (by omega)).1 (by omega)
       omega)
    | (have q1 := (hE_0_2_1 (r_0 + 2) (by omega)).2 (by omega)
       have q2 := (hE_0_2_2 (r_0 + 2) (by omega)).2 (by omega)
       have q3 := (hE_0_2_3 (r_0 + 2) (by omega)).2 (by omega)
       omega)
    | (have q1 := (hE_0_2_1 (r_0 + 2) (by omega)).2 (by omega)
       have q2 := (hE_0_2_2 (r_0 + 2) (by omega)).2 (by omega)
       have q3 := (hE_0_2_3 (r_0 + 2) (by omega)).1 (by omega)
       have q4 : x13 = r_0 + 2 := by omega
       rw [q4] at h34
       omega)
set_option maxHeartbeats 4000000 in
theorem vc_Mo_groupItem_at_k2_7_2 (x1 : Int) (x4 : Int) (x9 : Int) (x11 : Int) (x13 : Int) (x14 : Int) (x16 : Int) (x18 : Int) (x19 : Int) (x21 : Int) (x22 : Int) (x25 : Int) (from_0 : Int) (pos_0 : Int) (kind_0 : Int) (from_1 : Int) (pos_1 : Int) (r_1 : Int) (kind_1 : Int) (from_2 : Int) (pos_2 : Int) (kind_2 : Int) (all_3 : Int → Int) (r_0 : Int) (r_3 : Int) (now_3 : Int → Int) (latest_3 : Int → Int) (from_3 : Int) (pos_3 : Int) (kind_3 : Int) (r_2 : Int) (all_0 : Int → Int) (all_1 : Int → Int) (all_2 : Int → Int) (now_0 : Int → Int) (now_1 : Int → Int) (now_2 : Int → Int) (latest_0 : Int → Int) (latest_1 : Int → Int) (latest_2 : Int → Int) (k1 : 0 ≤ x1 ∧ x1 ≤ 7) (k4 : 0 ≤ x4 ∧ x4 ≤ 7) (k9 : 0 ≤ x9 ∧ x9 ≤ 7) (k11 : 0 ≤ x11 ∧ x11 ≤ 66297) (k13 : 2 ≤ x13 ∧ x13 ≤ 66299) (k14 : 0 ≤ x14 ∧ x14 ≤ 8) (k16 : 1 ≤ x16 ∧ x16 ≤ 8) (k18 : 531 ≤ x18 ∧ x18 ≤ 66828) (k19 : 531 ≤ x19 ∧ x19 ≤ 66835) (k21 : 523 ≤ x21 ∧ x21 ≤ 66820) (k22 : 523 ≤ x22 ∧ x22 ≤ 66827) (k25 : 0 ≤ x25 ∧ x25 ≤ 8) (d4 : x11 + 523 ≤ x21 ∧ x21 ≤ x11 + 523) (d8 : x11 + 531 ≤ x18 ∧ x18 ≤ x11 + 531) (d9 : x14 + 1 ≤ x16 ∧ x16 ≤ x14 + 1) (d10 : x11 + 2 ≤ x13 ∧ x13 ≤ x11 + 2) (f11 : x22 = x21 + x9) (g13 : x11 = r_1) (f23 : x19 = x18 + x9) (h34 : x14 = all_3 (x13)) (f36 : 1 * x9 + ((-1) * all_3 (r_0 + 2) + 0) ≤ 0) (f37 : (-1) * x9 + (1 * all_3 (r_0 + 2) + 0) ≤ 0) (f41 : 1 * x4 + ((-1) * all_3 (r_0 + 2) + 0) ≤ 0) (f42 : (-1) * x4 + (1 * all_3 (r_0 + 2) + 0) ≤ 0) (fe_0_5_1 : r_0 = r_1) (fe_0_11_1 : pos_0 = pos_1) (fe_0_12_1 : kind_0 = kind_1) (fe_0_15_1 : from_0 = from_1) (fe_0_5_2 : r_1 = r_2) (fe_0_11_2 : pos_1 = pos_2) (fe_0_12_2 : kind_1 = kind_2) (fe_0_15_2 : from_1 = from_2) (fe_0_5_3 : r_2 = r_3) (fe_0_11_3 : pos_2 = pos_3) (fe_0_12_3 : kind_2 = kind_3) (fe_0_15_3 : from_2 = from_3) (hE_0_2_1 : ∀ j : Int, 0 ≤ j → (j = x22 → all_0 j = x25) ∧ (j ≠ x22 → all_0 j = all_1 j)) (hE_0_2_2 : ∀ j : Int, 0 ≤ j → (j = x19 → all_1 j = x1) ∧ (j ≠ x19 → all_1 j = all_2 j)) (hE_0_2_3 : ∀ j : Int, 0 ≤ j → (j = x13 → all_2 j = x16) ∧ (j ≠ x13 → all_2 j = all_3 j)) (hE_0_3_1 : ∀ j : Int, now_0 j = now_1 j) (hE_0_3_2 : ∀ j : Int, now_1 j = now_2 j) (hE_0_3_3 : ∀ j : Int, now_2 j = now_3 j) (hE_0_4_1 : ∀ j : Int, latest_0 j = latest_1 j) (hE_0_4_2 : ∀ j : Int, latest_1 j = latest_2 j) (hE_0_4_3 : ∀ j : Int, latest_2 j = latest_3 j) (kz_0_11 : 0 ≤ pos_0 ∧ pos_0 ≤ 2000) (kz_0_12 : 0 ≤ kind_0 ∧ kind_0 ≤ 4) (kz_0_15 : 0 ≤ from_0 ∧ from_0 ≤ 2000) : (x9 + 1) ≤ all_0 ((r_0 + 2)) := by
  subst fe_0_5_1
  subst fe_0_11_1
  subst fe_0_12_1
  subst fe_0_15_1
  subst fe_0_5_2
  subst fe_0_11_2
  subst fe_0_12_2
  subst fe_0_15_2
  subst fe_0_5_3
  subst fe_0_11_3
  subst fe_0_12_3
  subst fe_0_15_3
  have e_hE_0_3_1 := funext hE_0_3_1; subst e_hE_0_3_1
  have e_hE_0_3_2 := funext hE_0_3_2; subst e_hE_0_3_2
  have e_hE_0_3_3 := funext hE_0_3_3; subst e_hE_0_3_3
  have e_hE_0_4_1 := funext hE_0_4_1; subst e_hE_0_4_1
  have e_hE_0_4_2 := funext hE_0_4_2; subst e_hE_0_4_2
  have e_hE_0_4_3 := funext hE_0_4_3; subst e_hE_0_4_3
  first
    | omega
    | (have q1 := (hE_0_2_1 (r_0 + 2) (by omega)).2 (by omega)
       have q2 := (hE_0_2_2 (r_0 + 2) (by omega)).2 (by omega)
       omega)
    | (have q1 := (hE_0_2_1 (r_0 + 1) (by omega)).2 (by omega)
       have q2 := (hE_0_2_2 (r_0 + 1) (by omega)).2 (by omega)
       omega)
    | (have q1 := (hE_0_2_1 (r_0 + 2) (by omega)).2 (by omega)
       omega)
    | (have q1 := (hE_0_2_1 (r_0 + 1) (by omega)).2 (by omega)
       omega)
    | (have q1 := (hE_0_2_1 (r_0 + 2) (by omega)).2 (by omega)
       have q2 := (hE_0_2_2 (r_0 + 2) (by omega)).2 (by omega)
       have q3 := (hE_0_2_3 (r_0 + 2) (by omega)).1 (by omega)
       omega)
    | (have q1 := (hE_0_2_1 (r_0 + 2) (by omega)).2 (by omega)
       have q2 := (hE_0_2_2 (r_0 + 2) (by omega)).2 (by omega)
       have q3 := (hE_0_2_3 (r_0 + 2) (by omega)).2 (by omega)
       omega)
    | (have q1 := (hE_0_2_1 (r_0 + 2) (by omega)).2 (by omega)
       have q2 := (hE_0_2_2 (r_0 + 2) (by omega)).2 (by omega)
       have q3 := (hE_0_2_3 (r_0 + 2) (by omega)).1 (by omega)
       have q4 : x13 = r_0 + 2 := by omega
       rw [q4] at h34
       omega)
set_option maxHeartbeats 4000000 in
theorem vc_Mo_groupItem_at_k2_7_3 (x1 : Int) (x4 : Int) (x9 : Int) (x11 : Int) (x13 : Int) (x16 : Int) (x18 : Int) (x19 : Int) (x21 : Int) (x22 : Int) (x25 : Int) (from_0 : Int) (pos_0 : Int) (kind_0 : Int) (from_1 : Int) (pos_1 : Int) (r_1 : Int) (kind_1 : Int) (from_2 : Int) (pos_2 : Int) (kind_2 : Int) (all_3 : Int → Int) (r_0 : Int) (r_3 : Int) (now_3 : Int → Int) (latest_3 : Int → Int) (from_3 : Int) (pos_3 : Int) (kind_3 : Int) (r_2 : Int) (all_0 : Int → Int) (all_1 : Int → Int) (all_2 : Int → Int) (now_0 : Int → Int) (now_1 : Int → Int) (now_2 : Int → Int) (latest_0 : Int → Int) (latest_1 : Int → Int) (latest_2 : Int → Int) (k1 : 0 ≤ x1 ∧ x1 ≤ 7) (k4 : 0 ≤ x4 ∧ x4 ≤ 7) (k9 : 0 ≤ x9 ∧ x9 ≤ 7) (k11 : 0 ≤ x11 ∧ x11 ≤ 66297) (k13 : 2 ≤ x13 ∧ x13 ≤ 66299) (k16 : 1 ≤ x16 ∧ x16 ≤ 8) (k18 : 531 ≤ x18 ∧ x18 ≤ 66828) (k19 : 531 ≤ x19 ∧ x19 ≤ 66835) (k21 : 523 ≤ x21 ∧ x21 ≤ 66820) (k22 : 523 ≤ x22 ∧ x22 ≤ 66827) (k25 : 0 ≤ x25 ∧ x25 ≤ 8) (d4 : x11 + 523 ≤ x21 ∧ x21 ≤ x11 + 523) (d8 : x11 + 531 ≤ x18 ∧ x18 ≤ x11 + 531) (d10 : x11 + 2 ≤ x13 ∧ x13 ≤ x11 + 2) (f0 : 1 * x1 + ((-1) * x9 + 0) ≤ (-1)) (f11 : x22 = x21 + x9) (g13 : x11 = r_1) (f23 : x19 = x18 + x9) (f36 : 1 * x9 + ((-1) * all_3 (r_0 + 2) + 0) ≤ 0) (f37 : (-1) * x9 + (1 * all_3 (r_0 + 2) + 0) ≤ 0) (f41 : 1 * x4 + ((-1) * all_3 (r_0 + 2) + 0) ≤ 0) (f42 : (-1) * x4 + (1 * all_3 (r_0 + 2) + 0) ≤ 0) (f44 : RWS (r_3) (all_3) (now_3) (latest_3)) (fe_0_5_1 : r_0 = r_1) (fe_0_11_1 : pos_0 = pos_1) (fe_0_12_1 : kind_0 = kind_1) (fe_0_15_1 : from_0 = from_1) (fe_0_5_2 : r_1 = r_2) (fe_0_11_2 : pos_1 = pos_2) (fe_0_12_2 : kind_1 = kind_2) (fe_0_15_2 : from_1 = from_2) (fe_0_5_3 : r_2 = r_3) (fe_0_11_3 : pos_2 = pos_3) (fe_0_12_3 : kind_2 = kind_3) (fe_0_15_3 : from_2 = from_3) (hE_0_2_1 : ∀ j : Int, 0 ≤ j → (j = x22 → all_0 j = x25) ∧ (j ≠ x22 → all_0 j = all_1 j)) (hE_0_2_2 : ∀ j : Int, 0 ≤ j → (j = x19 → all_1 j = x1) ∧ (j ≠ x19 → all_1 j = all_2 j)) (hE_0_2_3 : ∀ j : Int, 0 ≤ j → (j = x13 → all_2 j = x16) ∧ (j ≠ x13 → all_2 j = all_3 j)) (hE_0_3_1 : ∀ j : Int, now_0 j = now_1 j) (hE_0_3_2 : ∀ j : Int, now_1 j = now_2 j) (hE_0_3_3 : ∀ j : Int, now_2 j = now_3 j) (hE_0_4_1 : ∀ j : Int, latest_0 j = latest_1 j) (hE_0_4_2 : ∀ j : Int, latest_1 j = latest_2 j) (hE_0_4_3 : ∀ j : Int, latest_2 j = latest_3 j) (kz_0_11 : 0 ≤ pos_0 ∧ pos_0 ≤ 2000) (kz_0_12 : 0 ≤ kind_0 ∧ kind_0 ≤ 4) (kz_0_15 : 0 ≤ from_0 ∧ from_0 ≤ 2000) : RWS (r_0) (all_0) (now_0) (latest_0) := by
  subst fe_0_5_1
  subst fe_0_11_1
  subst fe_0_12_1
  subst fe_0_15_1
  subst fe_0_5_2
  subst fe_0_11_2
  subst fe_0_12_2
  subst fe_0_15_2
  subst fe_0_5_3
  subst fe_0_11_3
  subst fe_0_12_3
  subst fe_0_15_3
  have e_hE_0_3_1 := funext hE_0_3_1; subst e_hE_0_3_1
  have e_hE_0_3_2 := funext hE_0_3_2; subst e_hE_0_3_2
  have e_hE_0_3_3 := funext hE_0_3_3; subst e_hE_0_3_3
  have e_hE_0_4_1 := funext hE_0_4_1; subst e_hE_0_4_1
  have e_hE_0_4_2 := funext hE_0_4_2; subst e_hE_0_4_2
  have e_hE_0_4_3 := funext hE_0_4_3; subst e_hE_0_4_3
  first
    | assumption
    | (have hr := rws_r ‹RWS _ _ _ _›
       exact rws_off (rws_off (rws_off ‹RWS _ _ _ _› (by assumption) (by omega)) (by assumption) (by omega)) (by assumption) (by omega))
    | (have hr := rws_r ‹RWS _ _ _ _›
       exact rws_off ‹RWS _ _ _ _› (by assumption) (by omega))
def o_Mo_groupItem_at_k2_7 : or_T := (108, 27, [(0, (2, 0, 0, [165])), (1, (0, 0, 7, [])), (3, (0, 0, 2000, [])), (4, (0, 0, 7, [])), (5, (0, 8, 8, [])), (7, (0, 0, 2000, [])), (8, (0, 1, 1, [])), (9, (0, 0, 7, [])), (10, (2, 0, 0, [167])), (11, (0, 0, 66297, [])), (12, (0, 2, 2, [])), (13, (0, 2, 66299, [])), (14, (0, 0, 8, [])), (15, (0, 1, 1, [])), (16, (0, 1, 8, [])), (17, (0, 531, 531, [])), (18, (0, 531, 66828, [])), (19, (0, 531, 66835, [])), (20, (0, 523, 523, [])), (21, (0, 523, 66820, [])), (22, (0, 523, 66827, [])), (23, (0, 0, 2000, [])), (24, (0, 0, 2000, [])), (25, (0, 0, 8, []))], [(23, [1, 9], [-1, 1, -1]), (23, [7, 3], [0, 1, -1]), (23, [7, 3], [0, -1, 1]), (20, [0, 0], [30, 0, 1, 1, 15, -1, 1, 11]), (20, [0], [50, 3, 0, 12, 11, 15, 2, 21, 4, 7, 1, 3, 2, 0, 12, 0, 1, 0, 3, 2, 0, 11, 4, 3, 2, 0, 15, 0, 8, 3, 7, 1, 3, 2, 0, 12, 0, 0, 0, 7, 4, 3, 2, 0, 15, 0, 1, 2, 0, 11]), (20, [7, 0], [30, 0, 1, 0, 0, -1, 1, 15]), (20, [8, 0], [50, 1, 0, 1012, 4, 6, 1, 2, 1, 0, 0, 1, 1, 3, 2, 1, 12, 0, 1]), (100, [10, 22, 25], []), (2, [25, 23, 24], []), (9, [24, 0], [15]), (9, [23, 0], [11]), (1, [22, 21, 9], []), (1, [21, 11, 20], []), (9, [11, 0], [5]), (9, [10, 0], [2]), (23, [1, 9], [-1, 1, -1]), (23, [7, 3], [0, 1, -1]), (23, [7, 3], [0, -1, 1]), (20, [0, 0], [30, 0, 1, 1, 15, -1, 1, 11]), (20, [0], [50, 3, 0, 12, 11, 15, 2, 21, 4, 7, 1, 3, 2, 0, 12, 0, 1, 0, 3, 2, 0, 11, 4, 3, 2, 0, 15, 0, 8, 3, 7, 1, 3, 2, 0, 12, 0, 0, 0, 7, 4, 3, 2, 0, 15, 0, 1, 2, 0, 11]), (20, [7, 0], [30, 0, 1, 0, 0, -1, 1, 15]), (20, [8, 0], [50, 1, 0, 1012, 4, 6, 1, 2, 1, 0, 0, 1, 1, 3, 2, 1, 12, 0, 1]), (100, [10, 19, 1], []), (1, [19, 18, 9], []), (1, [18, 11, 17], []), (23, [1, 9], [-1, 1, -1]), (23, [7, 3], [0, 1, -1]), (23, [7, 3], [0, -1, 1]), (20, [0, 0], [30, 0, 1, 1, 15, -1, 1, 11]), (20, [0], [50, 3, 0, 12, 11, 15, 2, 21, 4, 7, 1, 3, 2, 0, 12, 0, 1, 0, 3, 2, 0, 11, 4, 3, 2, 0, 15, 0, 8, 3, 7, 1, 3, 2, 0, 12, 0, 0, 0, 7, 4, 3, 2, 0, 15, 0, 1, 2, 0, 11]), (20, [7, 0], [30, 0, 1, 0, 0, -1, 1, 15]), (20, [8, 0], [50, 1, 0, 1012, 4, 6, 1, 2, 1, 0, 0, 1, 1, 3, 2, 1, 12, 0, 1]), (100, [10, 13, 16], []), (1, [16, 14, 15], []), (10, [14, 10, 13], []), (1, [13, 11, 12], []), (20, [9, 0], [30, 0, 1, 0, 0, -1, 3, 2005002]), (20, [9, 0], [30, 0, -1, 0, 0, 1, 3, 2005002]), (8, [8], [1]), (23, [7, 3], [0, 1, -1]), (23, [7, 3], [0, -1, 1]), (20, [4, 0], [30, 0, 1, 0, 0, -1, 3, 2005002]), (20, [4, 0], [30, 0, -1, 0, 0, 1, 3, 2005002]), (20, [1, 0], [50, 1, 1, 1005, 1002, 0, 6, 4, 2, 1, 0, 0, 1, 3, 1, 2, 4, 3, 2, 1, 5, 0, 2]), (20, [0], [60, 1, 3, 199, 5, 2, 3, 4]), (20, [0, 0], [30, 0, 1, 1, 15, -1, 1, 11]), (20, [0], [50, 3, 0, 12, 11, 15, 2, 21, 4, 7, 1, 3, 2, 0, 12, 0, 1, 0, 3, 2, 0, 11, 4, 3, 2, 0, 15, 0, 8, 3, 7, 1, 3, 2, 0, 12, 0, 0, 0, 7, 4, 3, 2, 0, 15, 0, 1, 2, 0, 11]), (20, [7, 0], [30, 0, 1, 0, 0, -1, 1, 15]), (20, [8, 0], [50, 1, 0, 1012, 4, 6, 1, 2, 1, 0, 0, 1, 1, 3, 2, 1, 12, 0, 1]), (102, [7], [0]), (23, [7, 3], [0, 1, -1]), (23, [7, 3], [0, -1, 1]), (102, [7], [0, 165011, 165012, 165013, 165014, 165015]), (23, [7, 3], [0, 1, -1]), (23, [7, 3], [0, -1, 1]), (7, [4, 5], [1])], [], [], [(20, [3, 0], [30, -1, 1, 0, 0, -1, 1, 11]), (20, [0], [50, 1, 0, 12, 1, 3, 2, 0, 12, 0, 1]), (20, [9, 0], [50, 1, 1, 1005, 1002, 0, 6, 4, 2, 1, 0, 0, 1, 3, 1, 2, 4, 3, 2, 1, 5, 0, 2]), (20, [0], [60, 1, 3, 199, 5, 2, 3, 4]), (24, [0, 0], []), (24, [1, 1], [])], [], [(25, 23, -2000, 0), (22, 9, 523, 66820), (22, 21, 0, 7), (22, 11, 523, 530), (21, 11, 523, 523), (19, 9, 531, 66828), (19, 18, 0, 7), (19, 11, 531, 538), (18, 11, 531, 531), (16, 14, 1, 1), (13, 11, 2, 2)])
theorem oo_Mo_groupItem_at_k2_7 {kA : Nat → ClassId} : or_ok PRD kA GG o_Mo_groupItem_at_k2_7 := by
  refine or_mk fun A ta ws vs hD hth hl => ?_
  intro t0 r0 t1 k1 t3 k3 t4 k4 t5 k5 t7 k7 t8 k8 t9 k9 t10 r10 t11 k11 t12 k12 t13 k13 t14 k14 t15 k15 t16 k16 t17 k17 t18 k18 t19 k19 t20 k20 t21 k21 t22 k22 t23 k23 t24 k24 t25 k25 d0 d1 d2 d3 d4 d5 d6 d7 d8 d9 d10 f0 f1 f2 f3 f4 f5 f6 ta1 w1 le1 s1 f8 f9 f10 f11 f12 f13 f14 f15 f16 f17 f18 f19 f20 f21 ta2 w2 le2 s2 f23 f24 f25 f26 f27 f28 f29 f30 f31 ta3 w3 le3 s3 f33 f34 f35 f36 f37 f38 f39 f40 f41 f42 f43 f44 f45 f46 f47 f48 ta4 w4 le4 s4 f50 f51 ta5 w5 le5 s5 f53 f54 f55
  replace f0 := shm_211 f0
  replace f1 := shm_7 f1
  replace f2 := shm_22 f2
  replace f3 := shm_1397 f3
  replace f4 := shm_1398 f4
  replace f5 := shm_1396 f5
  replace f6 := shm_1762 f6
  have s1 : (∀ b j, w_el ws b j = if b = v_ad (n_v vs 10) ∧ j = (v_iv (n_v vs 22)).toNat then v_iv (n_v vs 25) else w_el w1 b j) ∧ ∀ b k, w_fd ws b k = w_fd w1 b k := s1.2
  replace f8 := shm_14 f8
  replace f9 := shm_189 f9
  replace f10 := shm_117 f10
  replace f11 := shm_12 f11
  replace f12 := shm_12 f12
  replace f13 := shm_109 f13
  replace f14 := shm_129 f14
  replace f15 := shm_211 f15
  replace f16 := shm_7 f16
  replace f17 := shm_22 f17
  replace f18 := shm_1397 f18
  replace f19 := shm_1398 f19
  replace f20 := shm_1396 f20
  replace f21 := shm_1762 f21
  have s2 : (∀ b j, w_el w1 b j = if b = v_ad (n_v vs 10) ∧ j = (v_iv (n_v vs 19)).toNat then v_iv (n_v vs 1) else w_el w2 b j) ∧ ∀ b k, w_fd w1 b k = w_fd w2 b k := s2.2
  replace f23 := shm_12 f23
  replace f24 := shm_12 f24
  replace f25 := shm_211 f25
  replace f26 := shm_7 f26
  replace f27 := shm_22 f27
  replace f28 := shm_1397 f28
  replace f29 := shm_1398 f29
  replace f30 := shm_1396 f30
  replace f31 := shm_1762 f31
  have s3 : (∀ b j, w_el w2 b j = if b = v_ad (n_v vs 10) ∧ j = (v_iv (n_v vs 13)).toNat then v_iv (n_v vs 16) else w_el w3 b j) ∧ ∀ b k, w_fd w2 b k = w_fd w3 b k := s3.2
  replace f33 := shm_12 f33
  replace f34 := shm_106 f34
  replace f35 := shm_12 f35
  replace f36 := shm_132 f36
  replace f37 := shm_133 f37
  replace f38 := shm_154 f38
  replace f39 := shm_7 f39
  replace f40 := shm_22 f40
  replace f41 := shm_132 f41
  replace f42 := shm_133 f42
  replace f43 := shm_981 f43
  replace f44 := shm_952 f44
  replace f45 := shm_1397 f45
  replace f46 := shm_1398 f46
  replace f47 := shm_1396 f47
  replace f48 := shm_1762 f48
  replace f50 := shm_7 f50
  replace f51 := shm_22 f51
  replace f53 := shm_7 f53
  replace f54 := shm_22 f54
  replace f55 := shm_40 f55
  have ar_0_2_1 : w_ar w1 (n_v vs 0) 2 = w_ar ws (n_v vs 0) 2 := congrArg v_ad (s1.2 _ _).symm
  have ar_0_2_2 : w_ar w2 (n_v vs 0) 2 = w_ar ws (n_v vs 0) 2 := by rw [← ar_0_2_1]; show v_ad (w_fd w2 _ _) = v_ad (w_fd w1 _ _); rw [s2.2]
  have ar_0_2_3 : w_ar w3 (n_v vs 0) 2 = w_ar ws (n_v vs 0) 2 := by rw [← ar_0_2_2]; show v_ad (w_fd w3 _ _) = v_ad (w_fd w2 _ _); rw [s3.2]
  have cr_0_2 := fdq_12 hD hth r0
  have ar_0_3_1 : w_ar w1 (n_v vs 0) 3 = w_ar ws (n_v vs 0) 3 := congrArg v_ad (s1.2 _ _).symm
  have ar_0_3_2 : w_ar w2 (n_v vs 0) 3 = w_ar ws (n_v vs 0) 3 := by rw [← ar_0_3_1]; show v_ad (w_fd w2 _ _) = v_ad (w_fd w1 _ _); rw [s2.2]
  have ar_0_3_3 : w_ar w3 (n_v vs 0) 3 = w_ar ws (n_v vs 0) 3 := by rw [← ar_0_3_2]; show v_ad (w_fd w3 _ _) = v_ad (w_fd w2 _ _); rw [s3.2]
  have cr_0_3 := fdq_141 hD hth r0
  have ar_0_4_1 : w_ar w1 (n_v vs 0) 4 = w_ar ws (n_v vs 0) 4 := congrArg v_ad (s1.2 _ _).symm
  have ar_0_4_2 : w_ar w2 (n_v vs 0) 4 = w_ar ws (n_v vs 0) 4 := by rw [← ar_0_4_1]; show v_ad (w_fd w2 _ _) = v_ad (w_fd w1 _ _); rw [s2.2]
  have ar_0_4_3 : w_ar w3 (n_v vs 0) 4 = w_ar ws (n_v vs 0) 4 := by rw [← ar_0_4_2]; show v_ad (w_fd w3 _ _) = v_ad (w_fd w2 _ _); rw [s3.2]
  have cr_0_4 := fdq_142 hD hth r0
  have fi_0_5_1 : w_fi w1 (n_v vs 0) 5 = w_fi ws (n_v vs 0) 5 := by show v_iv (w_fd w1 _ _) = v_iv (w_fd ws _ _); rw [s1.2]
  have fi_0_5_2 : w_fi w2 (n_v vs 0) 5 = w_fi ws (n_v vs 0) 5 := by rw [← fi_0_5_1]; show v_iv (w_fd w2 _ _) = v_iv (w_fd w1 _ _); rw [s2.2]
  have fi_0_5_3 : w_fi w3 (n_v vs 0) 5 = w_fi ws (n_v vs 0) 5 := by rw [← fi_0_5_2]; show v_iv (w_fd w3 _ _) = v_iv (w_fd w2 _ _); rw [s3.2]
  have ad_10 : v_ad (n_v vs 10) = w_ar ws (n_v vs 0) 2 := (congrArg v_ad f14).trans ar_0_2_1
  have g9 : v_iv (n_v vs 24) = w_fi w1 (n_v vs 0) 15 := congrArg v_iv f9
  have g10 : v_iv (n_v vs 23) = w_fi w1 (n_v vs 0) 11 := congrArg v_iv f10
  have g13 : v_iv (n_v vs 11) = w_fi w1 (n_v vs 0) 5 := congrArg v_iv f13
  simp only [ad_10] at f34
  have h34 : v_iv (n_v vs 14) = w_ei w3 (w_ar ws (n_v vs 0) 2) (v_iv (n_v vs 13)) := f34
  simp only [ar_0_2_3, ar_0_3_3, ar_0_4_3] at f36 f37 f41 f42 f43 f44
  simp only [fi_0_5_3] at f36 f37 f41 f42
  have fe_0_5_1 : w_fi ws (n_v vs 0) 5 = w_fi w1 (n_v vs 0) 5 := congrArg v_iv (s1.2 _ _)
  have fe_0_11_1 : w_fi ws (n_v vs 0) 11 = w_fi w1 (n_v vs 0) 11 := congrArg v_iv (s1.2 _ _)
  have fe_0_12_1 : w_fi ws (n_v vs 0) 12 = w_fi w1 (n_v vs 0) 12 := congrArg v_iv (s1.2 _ _)
  have fe_0_15_1 : w_fi ws (n_v vs 0) 15 = w_fi w1 (n_v vs 0) 15 := congrArg v_iv (s1.2 _ _)
  have fe_0_5_2 : w_fi w1 (n_v vs 0) 5 = w_fi w2 (n_v vs 0) 5 := congrArg v_iv (s2.2 _ _)
  have fe_0_11_2 : w_fi w1 (n_v vs 0) 11 = w_fi w2 (n_v vs 0) 11 := congrArg v_iv (s2.2 _ _)
  have fe_0_12_2 : w_fi w1 (n_v vs 0) 12 = w_fi w2 (n_v vs 0) 12 := congrArg v_iv (s2.2 _ _)
  have fe_0_15_2 : w_fi w1 (n_v vs 0) 15 = w_fi w2 (n_v vs 0) 15 := congrArg v_iv (s2.2 _ _)
  have fe_0_5_3 : w_fi w2 (n_v vs 0) 5 = w_fi w3 (n_v vs 0) 5 := congrArg v_iv (s3.2 _ _)
  have fe_0_11_3 : w_fi w2 (n_v vs 0) 11 = w_fi w3 (n_v vs 0) 11 := congrArg v_iv (s3.2 _ _)
  have fe_0_12_3 : w_fi w2 (n_v vs 0) 12 = w_fi w3 (n_v vs 0) 12 := congrArg v_iv (s3.2 _ _)
  have fe_0_15_3 : w_fi w2 (n_v vs 0) 15 = w_fi w3 (n_v vs 0) 15 := congrArg v_iv (s3.2 _ _)
  have hE_0_2_1 : ∀ j : Int, 0 ≤ j → (j = v_iv (n_v vs 22) → w_ei ws (w_ar ws (n_v vs 0) 2) j = v_iv (n_v vs 25)) ∧ (j ≠ v_iv (n_v vs 22) → w_ei ws (w_ar ws (n_v vs 0) 2) j = w_ei w1 (w_ar ws (n_v vs 0) 2) j) := fun j hj => ⟨fun h => by unfold w_ei; rw [s1.1, if_pos ⟨ad_10.symm, by rw [h]⟩], fun h => by unfold w_ei; rw [s1.1, if_neg (fun e => h (by have := e.2; omega))]⟩
  have hE_0_2_2 : ∀ j : Int, 0 ≤ j → (j = v_iv (n_v vs 19) → w_ei w1 (w_ar ws (n_v vs 0) 2) j = v_iv (n_v vs 1)) ∧ (j ≠ v_iv (n_v vs 19) → w_ei w1 (w_ar ws (n_v vs 0) 2) j = w_ei w2 (w_ar ws (n_v vs 0) 2) j) := fun j hj => ⟨fun h => by unfold w_ei; rw [s2.1, if_pos ⟨ad_10.symm, by rw [h]⟩], fun h => by unfold w_ei; rw [s2.1, if_neg (fun e => h (by have := e.2; omega))]⟩
  have hE_0_2_3 : ∀ j : Int, 0 ≤ j → (j = v_iv (n_v vs 13) → w_ei w2 (w_ar ws (n_v vs 0) 2) j = v_iv (n_v vs 16)) ∧ (j ≠ v_iv (n_v vs 13) → w_ei w2 (w_ar ws (n_v vs 0) 2) j = w_ei w3 (w_ar ws (n_v vs 0) 2) j) := fun j hj => ⟨fun h => by unfold w_ei; rw [s3.1, if_pos ⟨ad_10.symm, by rw [h]⟩], fun h => by unfold w_ei; rw [s3.1, if_neg (fun e => h (by have := e.2; omega))]⟩
  have hE_0_3_1 : ∀ j : Int, w_ei ws (w_ar ws (n_v vs 0) 3) j = w_ei w1 (w_ar ws (n_v vs 0) 3) j := el_kp s1.1 r10 cr_0_3 (by decide)
  have hE_0_3_2 : ∀ j : Int, w_ei w1 (w_ar ws (n_v vs 0) 3) j = w_ei w2 (w_ar ws (n_v vs 0) 3) j := el_kp s2.1 r10 cr_0_3 (by decide)
  have hE_0_3_3 : ∀ j : Int, w_ei w2 (w_ar ws (n_v vs 0) 3) j = w_ei w3 (w_ar ws (n_v vs 0) 3) j := el_kp s3.1 r10 cr_0_3 (by decide)
  have hK_0_3 := elq_77 hD hth cr_0_3
  have hE_0_4_1 : ∀ j : Int, w_ei ws (w_ar ws (n_v vs 0) 4) j = w_ei w1 (w_ar ws (n_v vs 0) 4) j := el_kp s1.1 r10 cr_0_4 (by decide)
  have hE_0_4_2 : ∀ j : Int, w_ei w1 (w_ar ws (n_v vs 0) 4) j = w_ei w2 (w_ar ws (n_v vs 0) 4) j := el_kp s2.1 r10 cr_0_4 (by decide)
  have hE_0_4_3 : ∀ j : Int, w_ei w2 (w_ar ws (n_v vs 0) 4) j = w_ei w3 (w_ar ws (n_v vs 0) 4) j := el_kp s3.1 r10 cr_0_4 (by decide)
  have hK_0_4 := elq_78 hD hth cr_0_4
  have kz_0_11 := fdq_273 hD hth r0
  have kz_0_12 := fdq_186 hD hth r0
  have kz_0_15 := fdq_274 hD hth r0
  first | have hJ0 : w_ei w3 (w_ar ws (n_v vs 0) 2) ((w_fi w3 (n_v vs 0) 5 + 2)) = w_ei w3 (w_ar ws (n_v vs 0) 2) ((w_fi ws (n_v vs 0) 5 + 2)) := congrArg _ (show ((w_fi w3 (n_v vs 0) 5 + 2) : Int) = (w_fi ws (n_v vs 0) 5 + 2) from by omega) | skip
  first | have hI1 := (hE_0_2_1 ((w_fi ws (n_v vs 0) 5 + 2)) (by omega)).2 (by omega) | have hI1 := (hE_0_2_1 ((w_fi ws (n_v vs 0) 5 + 2)) (by omega)).1 (by omega) | skip
  first | have hI2 := (hE_0_2_2 ((w_fi ws (n_v vs 0) 5 + 2)) (by omega)).2 (by omega) | have hI2 := (hE_0_2_2 ((w_fi ws (n_v vs 0) 5 + 2)) (by omega)).1 (by omega) | skip
  first | have hI3 := (hE_0_2_3 ((w_fi ws (n_v vs 0) 5 + 2)) (by omega)).2 (by omega) | have hI3 := (hE_0_2_3 ((w_fi ws (n_v vs 0) 5 + 2)) (by omega)).1 (by omega) | skip
  have nf0 : fc_1 PRD (20, [3, 0], [30, -1, 1, 0, 0, -1, 1, 11]) ws (vs) := ⟨nf_in hl rfl, sgq_1891 (vc_Mo_groupItem_at_k2_7_0 (v_iv (n_v vs 1)) (v_iv (n_v vs 3)) (v_iv (n_v vs 7)) (v_iv (n_v vs 8)) (v_iv (n_v vs 13)) (v_iv (n_v vs 14)) (v_iv (n_v vs 16)) (v_iv (n_v vs 19)) (v_iv (n_v vs 22)) (v_iv (n_v vs 23)) (v_iv (n_v vs 24)) (v_iv (n_v vs 25)) (w_fi ws (n_v vs 0) 15) (w_fi ws (n_v vs 0) 11) (w_fi ws (n_v vs 0) 12) (w_fi w1 (n_v vs 0) 15) (w_fi w1 (n_v vs 0) 11) (w_fi w1 (n_v vs 0) 5) (w_fi w1 (n_v vs 0) 12) (w_fi w2 (n_v vs 0) 15) (w_fi w2 (n_v vs 0) 11) (w_fi w2 (n_v vs 0) 12) (w_ei w3 (w_ar ws (n_v vs 0) 2)) (w_fi ws (n_v vs 0) 5) (w_fi w3 (n_v vs 0) 5) (w_ei w3 (w_ar ws (n_v vs 0) 3)) (w_ei w3 (w_ar ws (n_v vs 0) 4)) (w_fi w3 (n_v vs 0) 15) (w_fi w3 (n_v vs 0) 11) (w_fi w3 (n_v vs 0) 12) (w_fi w2 (n_v vs 0) 5) (w_ei ws (w_ar ws (n_v vs 0) 2)) (w_ei w1 (w_ar ws (n_v vs 0) 2)) (w_ei w2 (w_ar ws (n_v vs 0) 2)) (w_ei ws (w_ar ws (n_v vs 0) 3)) (w_ei w1 (w_ar ws (n_v vs 0) 3)) (w_ei w2 (w_ar ws (n_v vs 0) 3)) (w_ei ws (w_ar ws (n_v vs 0) 4)) (w_ei w1 (w_ar ws (n_v vs 0) 4)) (w_ei w2 (w_ar ws (n_v vs 0) 4)) k1 k3 k7 k8 k13 k14 k16 k19 k22 k23 k24 k25 f1 f2 f5 f8 g9 g10 h34 f46 f48 fe_0_5_1 fe_0_11_1 fe_0_12_1 fe_0_15_1 fe_0_5_2 fe_0_11_2 fe_0_12_2 fe_0_15_2 fe_0_5_3 fe_0_11_3 fe_0_12_3 fe_0_15_3 hE_0_2_1 hE_0_2_2 hE_0_2_3 hE_0_3_1 hE_0_3_2 hE_0_3_3 hE_0_4_1 hE_0_4_2 hE_0_4_3 kz_0_11 kz_0_12 kz_0_15)⟩
  have nf1 : fc_1 PRD (20, [0], [50, 1, 0, 12, 1, 3, 2, 0, 12, 0, 1]) ws (vs) := ⟨nf_in hl rfl, sgq_1791 (vc_Mo_groupItem_at_k2_7_1 (v_iv (n_v vs 1)) (v_iv (n_v vs 8)) (v_iv (n_v vs 13)) (v_iv (n_v vs 14)) (v_iv (n_v vs 16)) (v_iv (n_v vs 19)) (v_iv (n_v vs 22)) (v_iv (n_v vs 25)) (w_fi ws (n_v vs 0) 15) (w_fi ws (n_v vs 0) 11) (w_fi ws (n_v vs 0) 12) (w_fi w1 (n_v vs 0) 15) (w_fi w1 (n_v vs 0) 11) (w_fi w1 (n_v vs 0) 5) (w_fi w1 (n_v vs 0) 12) (w_fi w2 (n_v vs 0) 15) (w_fi w2 (n_v vs 0) 11) (w_fi w2 (n_v vs 0) 12) (w_ei w3 (w_ar ws (n_v vs 0) 2)) (w_fi ws (n_v vs 0) 5) (w_fi w3 (n_v vs 0) 5) (w_ei w3 (w_ar ws (n_v vs 0) 3)) (w_ei w3 (w_ar ws (n_v vs 0) 4)) (w_fi w3 (n_v vs 0) 15) (w_fi w3 (n_v vs 0) 11) (w_fi w3 (n_v vs 0) 12) (w_fi w2 (n_v vs 0) 5) (w_ei ws (w_ar ws (n_v vs 0) 2)) (w_ei w1 (w_ar ws (n_v vs 0) 2)) (w_ei w2 (w_ar ws (n_v vs 0) 2)) (w_ei ws (w_ar ws (n_v vs 0) 3)) (w_ei w1 (w_ar ws (n_v vs 0) 3)) (w_ei w2 (w_ar ws (n_v vs 0) 3)) (w_ei ws (w_ar ws (n_v vs 0) 4)) (w_ei w1 (w_ar ws (n_v vs 0) 4)) (w_ei w2 (w_ar ws (n_v vs 0) 4)) k1 k8 k13 k14 k16 k19 k22 k25 h34 f46 f48 fe_0_5_1 fe_0_11_1 fe_0_12_1 fe_0_15_1 fe_0_5_2 fe_0_11_2 fe_0_12_2 fe_0_15_2 fe_0_5_3 fe_0_11_3 fe_0_12_3 fe_0_15_3 hE_0_2_1 hE_0_2_2 hE_0_2_3 hE_0_3_1 hE_0_3_2 hE_0_3_3 hE_0_4_1 hE_0_4_2 hE_0_4_3 kz_0_11 kz_0_12 kz_0_15)⟩
  have nf2 : fc_1 PRD (20, [9, 0], [50, 1, 1, 1005, 1002, 0, 6, 4, 2, 1, 0, 0, 1, 3, 1, 2, 4, 3, 2, 1, 5, 0, 2]) ws (vs) := ⟨nf_in hl rfl, sgq_981 (vc_Mo_groupItem_at_k2_7_2 (v_iv (n_v vs 1)) (v_iv (n_v vs 4)) (v_iv (n_v vs 9)) (v_iv (n_v vs 11)) (v_iv (n_v vs 13)) (v_iv (n_v vs 14)) (v_iv (n_v vs 16)) (v_iv (n_v vs 18)) (v_iv (n_v vs 19)) (v_iv (n_v vs 21)) (v_iv (n_v vs 22)) (v_iv (n_v vs 25)) (w_fi ws (n_v vs 0) 15) (w_fi ws (n_v vs 0) 11) (w_fi ws (n_v vs 0) 12) (w_fi w1 (n_v vs 0) 15) (w_fi w1 (n_v vs 0) 11) (w_fi w1 (n_v vs 0) 5) (w_fi w1 (n_v vs 0) 12) (w_fi w2 (n_v vs 0) 15) (w_fi w2 (n_v vs 0) 11) (w_fi w2 (n_v vs 0) 12) (w_ei w3 (w_ar ws (n_v vs 0) 2)) (w_fi ws (n_v vs 0) 5) (w_fi w3 (n_v vs 0) 5) (w_ei w3 (w_ar ws (n_v vs 0) 3)) (w_ei w3 (w_ar ws (n_v vs 0) 4)) (w_fi w3 (n_v vs 0) 15) (w_fi w3 (n_v vs 0) 11) (w_fi w3 (n_v vs 0) 12) (w_fi w2 (n_v vs 0) 5) (w_ei ws (w_ar ws (n_v vs 0) 2)) (w_ei w1 (w_ar ws (n_v vs 0) 2)) (w_ei w2 (w_ar ws (n_v vs 0) 2)) (w_ei ws (w_ar ws (n_v vs 0) 3)) (w_ei w1 (w_ar ws (n_v vs 0) 3)) (w_ei w2 (w_ar ws (n_v vs 0) 3)) (w_ei ws (w_ar ws (n_v vs 0) 4)) (w_ei w1 (w_ar ws (n_v vs 0) 4)) (w_ei w2 (w_ar ws (n_v vs 0) 4)) k1 k4 k9 k11 k13 k14 k16 k18 k19 k21 k22 k25 d4 d8 d9 d10 f11 g13 f23 h34 f36 f37 f41 f42 fe_0_5_1 fe_0_11_1 fe_0_12_1 fe_0_15_1 fe_0_5_2 fe_0_11_2 fe_0_12_2 fe_0_15_2 fe_0_5_3 fe_0_11_3 fe_0_12_3 fe_0_15_3 hE_0_2_1 hE_0_2_2 hE_0_2_3 hE_0_3_1 hE_0_3_2 hE_0_3_3 hE_0_4_1 hE_0_4_2 hE_0_4_3 kz_0_11 kz_0_12 kz_0_15)⟩
  have nf3 : fc_1 PRD (20, [0], [60, 1, 3, 199, 5, 2, 3, 4]) ws (vs) := ⟨nf_in hl rfl, sgq_952 (vc_Mo_groupItem_at_k2_7_3 (v_iv (n_v vs 1)) (v_iv (n_v vs 4)) (v_iv (n_v vs 9)) (v_iv (n_v vs 11)) (v_iv (n_v vs 13)) (v_iv (n_v vs 16)) (v_iv (n_v vs 18)) (v_iv (n_v vs 19)) (v_iv (n_v vs 21)) (v_iv (n_v vs 22)) (v_iv (n_v vs 25)) (w_fi ws (n_v vs 0) 15) (w_fi ws (n_v vs 0) 11) (w_fi ws (n_v vs 0) 12) (w_fi w1 (n_v vs 0) 15) (w_fi w1 (n_v vs 0) 11) (w_fi w1 (n_v vs 0) 5) (w_fi w1 (n_v vs 0) 12) (w_fi w2 (n_v vs 0) 15) (w_fi w2 (n_v vs 0) 11) (w_fi w2 (n_v vs 0) 12) (w_ei w3 (w_ar ws (n_v vs 0) 2)) (w_fi ws (n_v vs 0) 5) (w_fi w3 (n_v vs 0) 5) (w_ei w3 (w_ar ws (n_v vs 0) 3)) (w_ei w3 (w_ar ws (n_v vs 0) 4)) (w_fi w3 (n_v vs 0) 15) (w_fi w3 (n_v vs 0) 11) (w_fi w3 (n_v vs 0) 12) (w_fi w2 (n_v vs 0) 5) (w_ei ws (w_ar ws (n_v vs 0) 2)) (w_ei w1 (w_ar ws (n_v vs 0) 2)) (w_ei w2 (w_ar ws (n_v vs 0) 2)) (w_ei ws (w_ar ws (n_v vs 0) 3)) (w_ei w1 (w_ar ws (n_v vs 0) 3)) (w_ei w2 (w_ar ws (n_v vs 0) 3)) (w_ei ws (w_ar ws (n_v vs 0) 4)) (w_ei w1 (w_ar ws (n_v vs 0) 4)) (w_ei w2 (w_ar ws (n_v vs 0) 4)) k1 k4 k9 k11 k13 k16 k18 k19 k21 k22 k25 d4 d8 d10 f0 f11 g13 f23 f36 f37 f41 f42 f44 fe_0_5_1 fe_0_11_1 fe_0_12_1 fe_0_15_1 fe_0_5_2 fe_0_11_2 fe_0_12_2 fe_0_15_2 fe_0_5_3 fe_0_11_3 fe_0_12_3 fe_0_15_3 hE_0_2_1 hE_0_2_2 hE_0_2_3 hE_0_3_1 hE_0_3_2 hE_0_3_3 hE_0_4_1 hE_0_4_2 hE_0_4_3 kz_0_11 kz_0_12 kz_0_15)⟩
  have nf4 : fc_1 PRD (24, [0, 0], []) ws (vs) := by
    refine ⟨nf_in hl rfl, sgq_1 ?_⟩
    · show n_v vs 0 = n_v vs 0
      first | rfl | simp only [true_and]
  have nf5 : fc_1 PRD (24, [1, 1], []) ws (vs) := by
    refine ⟨nf_in hl rfl, sgq_1 ?_⟩
    · show n_v vs 1 = n_v vs 1
      first | rfl | simp only [true_and]
  refine ⟨(fun _ h => (by cases h)), [], trivial, ?_, (fun _ h => (by cases h))⟩
  rw [List.append_nil]
  exact List.forall_mem_cons.mpr ⟨⟨show (20 : Nat) < 100 from by decide, nf0⟩, List.forall_mem_cons.mpr ⟨⟨show (20 : Nat) < 100 from by decide, nf1⟩, List.forall_mem_cons.mpr ⟨⟨show (20 : Nat) < 100 from by decide, nf2⟩, List.forall_mem_cons.mpr ⟨⟨show (20 : Nat) < 100 from by decide, nf3⟩, List.forall_mem_cons.mpr ⟨⟨show (24 : Nat) < 100 from by decide, nf4⟩, List.forall_mem_cons.mpr ⟨⟨show (24 : Nat) < 100 from by decide, nf5⟩, (fun _ h => (by cases h))⟩⟩⟩⟩⟩⟩
set_option maxHeartbeats 4000000 in
theorem vc_Mo_groupItem_at_k2_8_0 (x3 : Int) (x7 : Int) (r_0 : Int) (from_0 : Int) (pos_0 : Int) (k3 : 0 ≤ x3 ∧ x3 ≤ 2000) (k7 : 0 ≤ x7 ∧ x7 ≤ 2000) (f0 : 1 * x7 + ((-1) * x3 + 0) ≤ 0) (f1 : (-1) * x7 + (1 * x3 + 0) ≤ 0) (f6 : 1 * from_0 + ((-1) * pos_0 + 0) ≤ 0) (f8 : 1 * x7 + ((-1) * from_0 + 0) ≤ 0) (kz_0_11 : 0 ≤ pos_0 ∧ pos_0 ≤ 2000) (kz_0_15 : 0 ≤ from_0 ∧ from_0 ≤ 2000) : 1 * x3 + ((-1) * pos_0 + 0) ≤ 0 := by
  first
    | omega
    | (have q1 := (hE_0_2_1 (r_0 + 2) (by omega)).2 (by omega)
       have q2 := (hE_0_2_2 (r_0 + 2) (by omega)).2 (by omega)
       omega)
    | (have q1 := (hE_0_2_1 (r_0 + 1) (by omega)).2 (by omega)
       have q2 := (hE_0_2_2 (r_0 + 1) (by omega)).2 (by omega)
       omega)
    | (have q1 := (hE_0_2_1 (r_0 + 2) (by omega)).2 (by omega)
       omega)
    | (have q1 := (hE_0_2_1 (r_0 + 1) (by omega)).2 (by omega)
       omega)
    | (have q1 := (hE_0_2_1 (r_0 + 2) (by omega)).2 (by omega)
       have q2 := (hE_0_2_2 (r_0 + 2) (by omega)).2 (by omega)
       have q3 := (hE_0_2_3 (r_0 + 2) (by omega)).1 (by omega)
       omega)
    | (have q1 := (hE_0_2_1 (r_0 + 2) (by omega)).2 (by omega)
       have q2 := (hE_0_2_2 (r_0 + 2) (by omega)).2 (by omega)
       have q3 := (hE_0_2_3 (r_0 + 2) (by omega)).2 (by omega)
       omega)
    | (have q1 := (hE_0_2_1 (r_0 + 2) (by omega)).2 (by omega)
       have q2 := (hE_0_2_2 (r_0 + 2) (by omega)).2 (by omega)
       have q3 := (hE_0_2_3 (r_0 + 2) (by omega)).1 (by omega)
       have q4 : x13 = r_0 + 2 := by omega
       rw [q4] at h34
       omega)
set_option maxHeartbeats 4000000 in
theorem vc_Mo_groupItem_at_k2_8_1 (x3 : Int) (r_0 : Int) (pos_0 : Int) (fault_0 : Int) (k3 : 0 ≤ x3 ∧ x3 ≤ 2000) (f10 : (-1) * fault_0 + 0 ≤ (-1)) (kz_0_8 : 0 ≤ fault_0 ∧ fault_0 ≤ 5) (kz_0_11 : 0 ≤ pos_0 ∧ pos_0 ≤ 2000) : (1 ≤ fault_0) ∨ ((x3 + 1) ≤ pos_0) := by
  first
    | omega
    | (have q1 := (hE_0_2_1 (r_0 + 2) (by omega)).2 (by omega)
       have q2 := (hE_0_2_2 (r_0 + 2) (by omega)).2 (by omega)
       omega)
    | (have q1 := (hE_0_2_1 (r_0 + 1) (by omega)).2 (by omega)
       have q2 := (hE_0_2_2 (r_0 + 1) (by omega)).2 (by omega)
       omega)
    | (have q1 := (hE_0_2_1 (r_0 + 2) (by omega)).2 (by omega)
       omega)
    | (have q1 := (hE_0_2_1 (r_0 + 1) (by omega)).2 (by omega)
       omega)
    | (have q1 := (hE_0_2_1 (r_0 + 2) (by omega)).2 (by omega)
       have q2 := (hE_0_2_2 (r_0 + 2) (by omega)).2 (by omega)
       have q3 := (hE_0_2_3 (r_0 + 2) (by omega)).1 (by omega)
       omega)
    | (have q1 := (hE_0_2_1 (r_0 + 2) (by omega)).2 (by omega)
       have q2 := (hE_0_2_2 (r_0 + 2) (by omega)).2 (by omega)
       have q3 := (hE_0_2_3 (r_0 + 2) (by omega)).2 (by omega)
       omega)
    | (have q1 := (hE_0_2_1 (r_0 + 2) (by omega)).2 (by omega)
       have q2 := (hE_0_2_2 (r_0 + 2) (by omega)).2 (by omega)
       have q3 := (hE_0_2_3 (r_0 + 2) (by omega)).1 (by omega)
       have q4 : x13 = r_0 + 2 := by omega
       rw [q4] at h34
       omega)
def o_Mo_groupItem_at_k2_8 : or_T := (44, 11, [(0, (2, 0, 0, [165])), (3, (0, 0, 2000, [])), (7, (0, 0, 2000, []))], [(23, [7, 3], [0, 1, -1]), (23, [7, 3], [0, -1, 1]), (20, [0, 0], [30, 0, 1, 1, 15, -1, 1, 11]), (20, [7, 0], [30, 0, 1, 0, 0, -1, 1, 15]), (20, [0], [30, -1, -1, 1, 8])], [], [], [(20, [3, 0], [30, 0, 1, 0, 0, -1, 1, 11]), (20, [0, 3], [50, 2, 0, 8, 11, 3, 7, 0, 2, 0, 1, 2, 0, 8, 0, 6, 4, 2, 1, 1, 0, 1, 2, 0, 11])], [], [])
theorem oo_Mo_groupItem_at_k2_8 {kA : Nat → ClassId} : or_ok PRD kA GG o_Mo_groupItem_at_k2_8 := by
  refine or_mk fun A ta ws vs hD hth hl => ?_
  intro t0 r0 t3 k3 t7 k7 f0 f1 f6 f8 f10
  have kz_0_8 := fdq_14 hD hth r0
  have kz_0_11 := fdq_273 hD hth r0
  have kz_0_15 := fdq_274 hD hth r0
  have nf0 : fc_1 PRD (20, [3, 0], [30, 0, 1, 0, 0, -1, 1, 11]) ws (vs) := ⟨nf_in hl rfl, sgq_1395 (vc_Mo_groupItem_at_k2_8_0 (v_iv (n_v vs 3)) (v_iv (n_v vs 7)) (w_fi ws (n_v vs 0) 5) (w_fi ws (n_v vs 0) 15) (w_fi ws (n_v vs 0) 11) k3 k7 (shm_7 f0) (shm_22 f1) (shm_1397 f6) (shm_1396 f8) kz_0_11 kz_0_15)⟩
  have nf1 : fc_1 PRD (20, [0, 3], [50, 2, 0, 8, 11, 3, 7, 0, 2, 0, 1, 2, 0, 8, 0, 6, 4, 2, 1, 1, 0, 1, 2, 0, 11]) ws (vs) := ⟨nf_in hl rfl, sgq_1659 (vc_Mo_groupItem_at_k2_8_1 (v_iv (n_v vs 3)) (w_fi ws (n_v vs 0) 5) (w_fi ws (n_v vs 0) 11) (w_fi ws (n_v vs 0) 8) k3 (shm_144 f10) kz_0_8 kz_0_11)⟩
  refine ⟨(fun _ h => (by cases h)), [], trivial, ?_, (fun _ h => (by cases h))⟩
  rw [List.append_nil]
  exact List.forall_mem_cons.mpr ⟨⟨show (20 : Nat) < 100 from by decide, nf0⟩, List.forall_mem_cons.mpr ⟨⟨show (20 : Nat) < 100 from by decide, nf1⟩, (fun _ h => (by cases h))⟩⟩
set_option maxHeartbeats 4000000 in
theorem vc_Mo_groupItem_at_k2_9_0 (pos_0 : Int) (r_0 : Int) (gx : Int) (kz_0_11 : 0 ≤ pos_0 ∧ pos_0 ≤ 2000) (ex2 : gx = pos_0) : 1 * gx + ((-1) * pos_0 + 0) ≤ 0 := by
  first
    | omega
    | (have q1 := (hE_0_2_1 (r_0 + 2) (by omega)).2 (by omega)
       have q2 := (hE_0_2_2 (r_0 + 2) (by omega)).2 (by omega)
       omega)
    | (have q1 := (hE_0_2_1 (r_0 + 1) (by omega)).2 (by omega)
       have q2 := (hE_0_2_2 (r_0 + 1) (by omega)).2 (by omega)
       omega)
    | (have q1 := (hE_0_2_1 (r_0 + 2) (by omega)).2 (by omega)
       omega)
    | (have q1 := (hE_0_2_1 (r_0 + 1) (by omega)).2 (by omega)
       omega)
    | (have q1 := (hE_0_2_1 (r_0 + 2) (by omega)).2 (by omega)
       have q2 := (hE_0_2_2 (r_0 + 2) (by omega)).2 (by omega)
       have q3 := (hE_0_2_3 (r_0 + 2) (by omega)).1 (by omega)
       omega)
    | (have q1 := (hE_0_2_1 (r_0 + 2) (by omega)).2 (by omega)
       have q2 := (hE_0_2_2 (r_0 + 2) (by omega)).2 (by omega)
       have q3 := (hE_0_2_3 (r_0 + 2) (by omega)).2 (by omega)
       omega)
    | (have q1 := (hE_0_2_1 (r_0 + 2) (by omega)).2 (by omega)
       have q2 := (hE_0_2_2 (r_0 + 2) (by omega)).2 (by omega)
       have q3 := (hE_0_2_3 (r_0 + 2) (by omega)).1 (by omega)
       have q4 : x13 = r_0 + 2 := by omega
       rw [q4] at h34
       omega)
set_option maxHeartbeats 4000000 in
theorem vc_Mo_groupItem_at_k2_9_1 (x3 : Int) (pos_0 : Int) (r_0 : Int) (gx : Int) (k3 : 0 ≤ x3 ∧ x3 ≤ 2000) (f6 : 1 * x3 + ((-1) * pos_0 + 0) ≤ (-1)) (kz_0_11 : 0 ≤ pos_0 ∧ pos_0 ≤ 2000) (ex2 : gx = pos_0) : 1 * x3 + ((-1) * gx + 0) ≤ (-1) := by
  first
    | omega
    | (have q1 := (hE_0_2_1 (r_0 + 2) (by omega)).2 (by omega)
       have q2 := (hE_0_2_2 (r_0 + 2) (by omega)).2 (by omega)
       omega)
    | (have q1 := (hE_0_2_1 (r_0 + 1) (by omega)).2 (by omega)
       have q2 := (hE_0_2_2 (r_0 + 1) (by omega)).2 (by omega)
       omega)
    | (have q1 := (hE_0_2_1 (r_0 + 2) (by omega)).2 (by omega)
       omega)
    | (have q1 := (hE_0_2_1 (r_0 + 1) (by omega)).2 (by omega)
       omega)
    | (have q1 := (hE_0_2_1 (r_0 + 2) (by omega)).2 (by omega)
       have q2 := (hE_0_2_2 (r_0 + 2) (by omega)).2 (by omega)
       have q3 := (hE_0_2_3 (r_0 + 2) (by omega)).1 (by omega)
       omega)
    | (have q1 := (hE_0_2_1 (r_0 + 2) (by omega)).2 (by omega)
       have q2 := (hE_0_2_2 (r_0 + 2) (by omega)).2 (by omega)
       have q3 := (hE_0_2_3 (r_0 + 2) (by omega)).2 (by omega)
       omega)
    | (have q1 := (hE_0_2_1 (r_0 + 2) (by omega)).2 (by omega)
       have q2 := (hE_0_2_2 (r_0 + 2) (by omega)).2 (by omega)
       have q3 := (hE_0_2_3 (r_0 + 2) (by omega)).1 (by omega)
       have q4 : x13 = r_0 + 2 := by omega
       rw [q4] at h34
       omega)
def o_Mo_groupItem_at_k2_9 : or_T := (161, 12, [(0, (2, 0, 0, [165])), (3, (0, 0, 2000, []))], [(20, [3, 4], [30, -1, 1, 0, 0, -1, 1, 11]), (24, [0, 4], [])], [], [(0, 0, 2000, [])], [(20, [12, 4], [30, 0, 1, 0, 0, -1, 1, 11]), (23, [3, 12], [-1, 1, -1])], [], [])
theorem oo_Mo_groupItem_at_k2_9 {kA : Nat → ClassId} : or_ok PRD kA GG o_Mo_groupItem_at_k2_9 := by
  refine or_mk fun A ta ws vs hD hth hl => ?_
  intro t0 r0 t3 k3 f6 f11
  replace f6 := shm_1891 f6
  replace f11 := shm_5 f11
  have q4 : n_v vs 4 = n_v vs 0 := f11.symm
  simp only [q4] at f6
  have kz_0_11 := fdq_273 hD hth r0
  obtain ⟨x, ex, hx⟩ := iv_ex (ta := ta) (lo := 0) (hi := 2000) (z := w_fi ws (n_v vs 0) 11) (by omega) (by omega) (by omega) (by omega)
  have ex2 : v_iv (Value.int x) = w_fi ws (n_v vs 0) 11 := ex
  have ex3 : 0 ≤ v_iv (Value.int x) ∧ v_iv (Value.int x) ≤ 2000 := tv_rng hx
  have e_3 : n_v (vs ++ [Value.int x]) 3 = n_v vs 3 := n_v_old (by rw [hl]; decide)
  have e_4 : n_v (vs ++ [Value.int x]) 4 = n_v vs 4 := n_v_old (by rw [hl]; decide)
  have e_12 : n_v (vs ++ [Value.int x]) 12 = Value.int x := n_v_new hl
  have nf0 : fc_1 PRD (20, [12, 4], [30, 0, 1, 0, 0, -1, 1, 11]) ws (vs ++ [Value.int x]) := by
    refine ⟨nf_inA hl rfl, sgq_1395 ?_⟩
    · show 1 * v_iv (n_v (vs ++ [Value.int x]) 12) + ((-1) * w_fi ws (n_v (vs ++ [Value.int x]) 4) 11 + 0) ≤ 0
      simp only [e_4, e_12, q4]
      exact vc_Mo_groupItem_at_k2_9_0 (w_fi ws (n_v vs 0) 11) (w_fi ws (n_v vs 0) 5) (v_iv (Value.int x)) kz_0_11 ex2
  have nf1 : fc_1 PRD (23, [3, 12], [-1, 1, -1]) ws (vs ++ [Value.int x]) := by
    refine ⟨nf_inA hl rfl, sgq_211 ?_⟩
    · show 1 * v_iv (n_v (vs ++ [Value.int x]) 3) + ((-1) * v_iv (n_v (vs ++ [Value.int x]) 12) + 0) ≤ (-1)
      simp only [e_3, e_12]
      exact vc_Mo_groupItem_at_k2_9_1 (v_iv (n_v vs 3)) (w_fi ws (n_v vs 0) 11) (w_fi ws (n_v vs 0) 5) (v_iv (Value.int x)) k3 f6 kz_0_11 ex2
  exact ⟨(fun _ h => (by cases h)), [Value.int x], ag_one hx, List.forall_mem_cons.mpr ⟨⟨show (20 : Nat) < 100 from by decide, nf0⟩, List.forall_mem_cons.mpr ⟨⟨show (23 : Nat) < 100 from by decide, nf1⟩, (fun _ h => (by cases h))⟩⟩, (fun _ h => (by cases h))⟩
set_option maxHeartbeats 4000000 in
theorem vc_Mo_groupItem_at_k2_10_0 (x3 : Int) (r_0 : Int) (gx : Int) (k3 : 0 ≤ x3 ∧ x3 ≤ 2000) (ex2 : gx = x3) : 1 * gx + ((-1) * x3 + 0) ≤ 0 := by
  first
    | omega
    | (have q1 := (hE_0_2_1 (r_0 + 2) (by omega)).2 (by omega)
       have q2 := (hE_0_2_2 (r_0 + 2) (by omega)).2 (by omega)
       omega)
    | (have q1 := (hE_0_2_1 (r_0 + 1) (by omega)).2 (by omega)
       have q2 := (hE_0_2_2 (r_0 + 1) (by omega)).2 (by omega)
       omega)
    | (have q1 := (hE_0_2_1 (r_0 + 2) (by omega)).2 (by omega)
       omega)
    | (have q1 := (hE_0_2_1 (r_0 + 1) (by omega)).2 (by omega)
       omega)
    | (have q1 := (hE_0_2_1 (r_0 + 2) (by omega)).2 (by omega)
       have q2 := (hE_0_2_2 (r_0 + 2) (by omega)).2 (by omega)
       have q3 := (hE_0_2_3 (r_0 + 2) (by omega)).1 (by omega)
       omega)
    | (have q1 := (hE_0_2_1 (r_0 + 2) (by omega)).2 (by omega)
       have q2 := (hE_0_2_2 (r_0 + 2) (by omega)).2 (by omega)
       have q3 := (hE_0_2_3 (r_0 + 2) (by omega)).2 (by omega)
       omega)
    | (have q1 := (hE_0_2_1 (r_0 + 2) (by omega)).2 (by omega)
       have q2 := (hE_0_2_2 (r_0 + 2) (by omega)).2 (by omega)
       have q3 := (hE_0_2_3 (r_0 + 2) (by omega)).1 (by omega)
       have q4 : x13 = r_0 + 2 := by omega
       rw [q4] at h34
       omega)
set_option maxHeartbeats 4000000 in
theorem vc_Mo_groupItem_at_k2_10_1 (x3 : Int) (r_0 : Int) (gx : Int) (k3 : 0 ≤ x3 ∧ x3 ≤ 2000) (ex2 : gx = x3) : (-1) * gx + (1 * x3 + 0) ≤ 0 := by
  first
    | omega
    | (have q1 := (hE_0_2_1 (r_0 + 2) (by omega)).2 (by omega)
       have q2 := (hE_0_2_2 (r_0 + 2) (by omega)).2 (by omega)
       omega)
    | (have q1 := (hE_0_2_1 (r_0 + 1) (by omega)).2 (by omega)
       have q2 := (hE_0_2_2 (r_0 + 1) (by omega)).2 (by omega)
       omega)
    | (have q1 := (hE_0_2_1 (r_0 + 2) (by omega)).2 (by omega)
       omega)
    | (have q1 := (hE_0_2_1 (r_0 + 1) (by omega)).2 (by omega)
       omega)
    | (have q1 := (hE_0_2_1 (r_0 + 2) (by omega)).2 (by omega)
       have q2 := (hE_0_2_2 (r_0 + 2) (by omega)).2 (by omega)
       have q3 := (hE_0_2_3 (r_0 + 2) (by omega)).1 (by omega)
       omega)
    | (have q1 := (hE_0_2_1 (r_0 + 2) (by omega)).2 (by omega)
       have q2 := (hE_0_2_2 (r_0 + 2) (by omega)).2 (by omega)
       have q3 := (hE_0_2_3 (r_0 + 2) (by omega)).2 (by omega)
       omega)
    | (have q1 := (hE_0_2_1 (r_0 + 2) (by omega)).2 (by omega)
       have q2 := (hE_0_2_2 (r_0 + 2) (by omega)).2 (by omega)
       have q3 := (hE_0_2_3 (r_0 + 2) (by omega)).1 (by omega)
       have q4 : x13 = r_0 + 2 := by omega
       rw [q4] at h34
       omega)
set_option maxHeartbeats 4000000 in
theorem vc_Mo_groupItem_at_k2_10_2 (r_0 : Int) (from_0 : Int) (pos_0 : Int) (f6 : 1 * from_0 + ((-1) * pos_0 + 0) ≤ 0) (kz_0_11 : 0 ≤ pos_0 ∧ pos_0 ≤ 2000) (kz_0_15 : 0 ≤ from_0 ∧ from_0 ≤ 2000) : 1 * from_0 + ((-1) * pos_0 + 0) ≤ 0 := by
  first
    | omega
    | (have q1 := (hE_0_2_1 (r_0 + 2) (by omega)).2 (by omega)
       have q2 := (hE_0_2_2 (r_0 + 2) (by omega)).2 (by omega)
       omega)
    | (have q1 := (hE_0_2_1 (r_0 + 1) (by omega)).2 (by omega)
       have q2 := (hE_0_2_2 (r_0 + 1) (by omega)).2 (by omega)
       omega)
    | (have q1 := (hE_0_2_1 (r_0 + 2) (by omega)).2 (by omega)
       omega)
    | (have q1 := (hE_0_2_1 (r_0 + 1) (by omega)).2 (by omega)
       omega)
    | (have q1 := (hE_0_2_1 (r_0 + 2) (by omega)).2 (by omega)
       have q2 := (hE_0_2_2 (r_0 + 2) (by omega)).2 (by omega)
       have q3 := (hE_0_2_3 (r_0 + 2) (by omega)).1 (by omega)
       omega)
    | (have q1 := (hE_0_2_1 (r_0 + 2) (by omega)).2 (by omega)
       have q2 := (hE_0_2_2 (r_0 + 2) (by omega)).2 (by omega)
       have q3 := (hE_0_2_3 (r_0 + 2) (by omega)).2 (by omega)
       omega)
    | (have q1 := (hE_0_2_1 (r_0 + 2) (by omega)).2 (by omega)
       have q2 := (hE_0_2_2 (r_0 + 2) (by omega)).2 (by omega)
       have q3 := (hE_0_2_3 (r_0 + 2) (by omega)).1 (by omega)
       have q4 : x13 = r_0 + 2 := by omega
       rw [q4] at h34
       omega)
set_option maxHeartbeats 4000000 in
theorem vc_Mo_groupItem_at_k2_10_3 (r_0 : Int) (from_0 : Int) (pos_0 : Int) (kind_0 : Int) (f7 : ((kind_0 = 1) → (pos_0 ≤ (from_0 + 8))) ∧ ((kind_0 = 0) ∨ ((from_0 + 1) ≤ pos_0))) (kz_0_11 : 0 ≤ pos_0 ∧ pos_0 ≤ 2000) (kz_0_12 : 0 ≤ kind_0 ∧ kind_0 ≤ 4) (kz_0_15 : 0 ≤ from_0 ∧ from_0 ≤ 2000) : ((kind_0 = 1) → (pos_0 ≤ (from_0 + 8))) ∧ ((kind_0 = 0) ∨ ((from_0 + 1) ≤ pos_0)) := by
  first
    | omega
    | (have q1 := (hE_0_2_1 (r_0 + 2) (by omega)).2 (by omega)
       have q2 := (hE_0_2_2 (r_0 + 2) (by omega)).2 (by omega)
       omega)
    | (have q1 := (hE_0_2_1 (r_0 + 1) (by omega)).2 (by omega)
       have q2 := (hE_0_2_2 (r_0 + 1) (by omega)).2 (by omega)
       omega)
    | (have q1 := (hE_0_2_1 (r_0 + 2) (by omega)).2 (by omega)
       omega)
    | (have q1 := (hE_0_2_1 (r_0 + 1) (by omega)).2 (by omega)
       omega)
    | (have q1 := (hE_0_2_1 (r_0 + 2) (by omega)).2 (by omega)
       have q2 := (hE_0_2_2 (r_0 + 2) (by omega)).2 (by omega)
       have q3 := (hE_0_2_3 (r_0 + 2) (by omega)).1 (by omega)
       omega)
    | (have q1 := (hE_0_2_1 (r_0 + 2) (by omega)).2 (by omega)
       have q2 := (hE_0_2_2 (r_0 + 2) (by omega)).2 (by omega)
       have q3 := (hE_0_2_3 (r_0 + 2) (by omega)).2 (by omega)
       omega)
    | (have q1 := (hE_0_2_1 (r_0 + 2) (by omega)).2 (by omega)
       have q2 := (hE_0_2_2 (r_0 + 2) (by omega)).2 (by omega)
       have q3 := (hE_0_2_3 (r_0 + 2) (by omega)).1 (by omega)
       have q4 : x13 = r_0 + 2 := by omega
       rw [q4] at h34
       omega)
set_option maxHeartbeats 4000000 in
theorem vc_Mo_groupItem_at_k2_10_4 (x3 : Int) (x12 : Int) (r_0 : Int) (from_0 : Int) (pos_0 : Int) (gx : Int) (k3 : 0 ≤ x3 ∧ x3 ≤ 2000) (k12 : 0 ≤ x12 ∧ x12 ≤ 2000) (f0 : 1 * x3 + ((-1) * x12 + 0) ≤ (-1)) (f6 : 1 * from_0 + ((-1) * pos_0 + 0) ≤ 0) (f8 : 1 * x12 + ((-1) * from_0 + 0) ≤ 0) (kz_0_11 : 0 ≤ pos_0 ∧ pos_0 ≤ 2000) (kz_0_15 : 0 ≤ from_0 ∧ from_0 ≤ 2000) (ex2 : gx = x3) : 1 * gx + ((-1) * pos_0 + 0) ≤ 0 := by
  first
    | omega
    | (have q1 := (hE_0_2_1 (r_0 + 2) (by omega)).2 (by omega)
       have q2 := (hE_0_2_2 (r_0 + 2) (by omega)).2 (by omega)
       omega)
    | (have q1 := (hE_0_2_1 (r_0 + 1) (by omega)).2 (by omega)
       have q2 := (hE_0_2_2 (r_0 + 1) (by omega)).2 (by omega)
       omega)
    | (have q1 := (hE_0_2_1 (r_0 + 2) (by omega)).2 (by omega)
       omega)
    | (have q1 := (hE_0_2_1 (r_0 + 1) (by omega)).2 (by omega)
       omega)
    | (have q1 := (hE_0_2_1 (r_0 + 2) (by omega)).2 (by omega)
       have q2 := (hE_0_2_2 (r_0 + 2) (by omega)).2 (by omega)
       have q3 := (hE_0_2_3 (r_0 + 2) (by omega)).1 (by omega)
       omega)
    | (have q1 := (hE_0_2_1 (r_0 + 2) (by omega)).2 (by omega)
       have q2 := (hE_0_2_2 (r_0 + 2) (by omega)).2 (by omega)
       have q3 := (hE_0_2_3 (r_0 + 2) (by omega)).2 (by omega)
       omega)
    | (have q1 := (hE_0_2_1 (r_0 + 2) (by omega)).2 (by omega)
       have q2 := (hE_0_2_2 (r_0 + 2) (by omega)).2 (by omega)
       have q3 := (hE_0_2_3 (r_0 + 2) (by omega)).1 (by omega)
       have q4 : x13 = r_0 + 2 := by omega
       rw [q4] at h34
       omega)
set_option maxHeartbeats 4000000 in
theorem vc_Mo_groupItem_at_k2_10_5 (x3 : Int) (x12 : Int) (r_0 : Int) (from_0 : Int) (pos_0 : Int) (kind_0 : Int) (fault_0 : Int) (gx : Int) (k3 : 0 ≤ x3 ∧ x3 ≤ 2000) (k12 : 0 ≤ x12 ∧ x12 ≤ 2000) (f0 : 1 * x3 + ((-1) * x12 + 0) ≤ (-1)) (f6 : 1 * from_0 + ((-1) * pos_0 + 0) ≤ 0) (f8 : 1 * x12 + ((-1) * from_0 + 0) ≤ 0) (kz_0_8 : 0 ≤ fault_0 ∧ fault_0 ≤ 5) (kz_0_11 : 0 ≤ pos_0 ∧ pos_0 ≤ 2000) (kz_0_12 : 0 ≤ kind_0 ∧ kind_0 ≤ 4) (kz_0_15 : 0 ≤ from_0 ∧ from_0 ≤ 2000) (ex2 : gx = x3) : (1 ≤ fault_0) ∨ ((kind_0 = 0) ∨ ((gx + 1) ≤ pos_0)) := by
  first
    | omega
    | (have q1 := (hE_0_2_1 (r_0 + 2) (by omega)).2 (by omega)
       have q2 := (hE_0_2_2 (r_0 + 2) (by omega)).2 (by omega)
       omega)
    | (have q1 := (hE_0_2_1 (r_0 + 1) (by omega)).2 (by omega)
       have q2 := (hE_0_2_2 (r_0 + 1) (by omega)).2 (by omega)
       omega)
    | (have q1 := (hE_0_2_1 (r_0 + 2) (by omega)).2 (by omega)
       omega)
    | (have q1 := (hE_0_2_1 (r_0 + 1) (by omega)).2 (by omega)
       omega)
    | (have q1 := (hE_0_2_1 (r_0 + 2) (by omega)).2 (by omega)
       have q2 := (hE_0_2_2 (r_0 + 2) (by omega)).2 (by omega)
       have q3 := (hE_0_2_3 (r_0 + 2) (by omega)).1 (by omega)
       omega)
    | (have q1 := (hE_0_2_1 (r_0 + 2) (by omega)).2 (by omega)
       have q2 := (hE_0_2_2 (r_0 + 2) (by omega)).2 (by omega)
       have q3 := (hE_0_2_3 (r_0 + 2) (by omega)).2 (by omega)
       omega)
    | (have q1 := (hE_0_2_1 (r_0 + 2) (by omega)).2 (by omega)
       have q2 := (hE_0_2_2 (r_0 + 2) (by omega)).2 (by omega)
       have q3 := (hE_0_2_3 (r_0 + 2) (by omega)).1 (by omega)
       have q4 : x13 = r_0 + 2 := by omega
       rw [q4] at h34
       omega)
def o_Mo_groupItem_at_k2_10 : or_T := (167, 14, [(0, (2, 0, 0, [165])), (3, (0, 0, 2000, [])), (12, (0, 0, 2000, []))], [(23, [3, 12], [-1, 1, -1]), (24, [0, 4], []), (20, [4, 4], [30, 0, 1, 1, 15, -1, 1, 11]), (20, [4], [50, 3, 0, 12, 11, 15, 2, 21, 4, 7, 1, 3, 2, 0, 12, 0, 1, 0, 3, 2, 0, 11, 4, 3, 2, 0, 15, 0, 8, 3, 7, 1, 3, 2, 0, 12, 0, 0, 0, 7, 4, 3, 2, 0, 15, 0, 1, 2, 0, 11]), (20, [12, 4], [30, 0, 1, 0, 0, -1, 1, 15])], [], [(0, 0, 2000, [])], [(23, [14, 3], [0, 1, -1]), (23, [14, 3], [0, -1, 1]), (20, [4, 4], [30, 0, 1, 1, 15, -1, 1, 11]), (20, [4], [50, 3, 0, 12, 11, 15, 2, 21, 4, 7, 1, 3, 2, 0, 12, 0, 1, 0, 3, 2, 0, 11, 4, 3, 2, 0, 15, 0, 8, 3, 7, 1, 3, 2, 0, 12, 0, 0, 0, 7, 4, 3, 2, 0, 15, 0, 1, 2, 0, 11]), (20, [14, 4], [30, 0, 1, 0, 0, -1, 1, 11]), (20, [4, 14], [50, 3, 0, 8, 12, 11, 3, 7, 0, 2, 0, 1, 2, 0, 8, 3, 7, 1, 3, 2, 0, 12, 0, 0, 0, 6, 4, 2, 1, 1, 0, 1, 2, 0, 11])], [], [])
theorem oo_Mo_groupItem_at_k2_10 {kA : Nat → ClassId} : or_ok PRD kA GG o_Mo_groupItem_at_k2_10 := by
  refine or_mk fun A ta ws vs hD hth hl => ?_
  intro t0 r0 t3 k3 t12 k12 f0 f4 f6 f7 f8
  replace f0 := shm_211 f0
  replace f4 := shm_5 f4
  replace f6 := shm_1397 f6
  replace f7 := shm_1398 f7
  replace f8 := shm_1396 f8
  have q4 : n_v vs 4 = n_v vs 0 := f4.symm
  simp only [q4] at f6 f7 f8
  have kz_0_8 := fdq_14 hD hth r0
  have kz_0_11 := fdq_273 hD hth r0
  have kz_0_12 := fdq_186 hD hth r0
  have kz_0_15 := fdq_274 hD hth r0
  obtain ⟨x, ex, hx⟩ := iv_ex (ta := ta) (lo := 0) (hi := 2000) (z := v_iv (n_v vs 3)) (by omega) (by omega) (by omega) (by omega)
  have ex2 : v_iv (Value.int x) = v_iv (n_v vs 3) := ex
  have ex3 : 0 ≤ v_iv (Value.int x) ∧ v_iv (Value.int x) ≤ 2000 := tv_rng hx
  have e_3 : n_v (vs ++ [Value.int x]) 3 = n_v vs 3 := n_v_old (by rw [hl]; decide)
  have e_4 : n_v (vs ++ [Value.int x]) 4 = n_v vs 4 := n_v_old (by rw [hl]; decide)
  have e_14 : n_v (vs ++ [Value.int x]) 14 = Value.int x := n_v_new hl
  have nf0 : fc_1 PRD (23, [14, 3], [0, 1, -1]) ws (vs ++ [Value.int x]) := by
    refine ⟨nf_inA hl rfl, sgq_7 ?_⟩
    · show 1 * v_iv (n_v (vs ++ [Value.int x]) 14) + ((-1) * v_iv (n_v (vs ++ [Value.int x]) 3) + 0) ≤ 0
      simp only [e_3, e_14]
      exact vc_Mo_groupItem_at_k2_10_0 (v_iv (n_v vs 3)) (w_fi ws (n_v vs 0) 5) (v_iv (Value.int x)) k3 ex2
  have nf1 : fc_1 PRD (23, [14, 3], [0, -1, 1]) ws (vs ++ [Value.int x]) := by
    refine ⟨nf_inA hl rfl, sgq_22 ?_⟩
    · show (-1) * v_iv (n_v (vs ++ [Value.int x]) 14) + (1 * v_iv (n_v (vs ++ [Value.int x]) 3) + 0) ≤ 0
      simp only [e_3, e_14]
      exact vc_Mo_groupItem_at_k2_10_1 (v_iv (n_v vs 3)) (w_fi ws (n_v vs 0) 5) (v_iv (Value.int x)) k3 ex2
  have nf2 : fc_1 PRD (20, [4, 4], [30, 0, 1, 1, 15, -1, 1, 11]) ws (vs ++ [Value.int x]) := by
    refine ⟨nf_inA hl rfl, sgq_1397 ?_⟩
    · show 1 * w_fi ws (n_v (vs ++ [Value.int x]) 4) 15 + ((-1) * w_fi ws (n_v (vs ++ [Value.int x]) 4) 11 + 0) ≤ 0
      simp only [e_4, q4]
      exact vc_Mo_groupItem_at_k2_10_2 (w_fi ws (n_v vs 0) 5) (w_fi ws (n_v vs 0) 15) (w_fi ws (n_v vs 0) 11) f6 kz_0_11 kz_0_15
  have nf3 : fc_1 PRD (20, [4], [50, 3, 0, 12, 11, 15, 2, 21, 4, 7, 1, 3, 2, 0, 12, 0, 1, 0, 3, 2, 0, 11, 4, 3, 2, 0, 15, 0, 8, 3, 7, 1, 3, 2, 0, 12, 0, 0, 0, 7, 4, 3, 2, 0, 15, 0, 1, 2, 0, 11]) ws (vs ++ [Value.int x]) := by
    refine ⟨nf_inA hl rfl, sgq_1398 ?_⟩
    · show ((w_fi ws (n_v (vs ++ [Value.int x]) 4) 12 = 1) → (w_fi ws (n_v (vs ++ [Value.int x]) 4) 11 ≤ (w_fi ws (n_v (vs ++ [Value.int x]) 4) 15 + 8))) ∧ ((w_fi ws (n_v (vs ++ [Value.int x]) 4) 12 = 0) ∨ ((w_fi ws (n_v (vs ++ [Value.int x]) 4) 15 + 1) ≤ w_fi ws (n_v (vs ++ [Value.int x]) 4) 11))
      simp only [e_4, q4]
      exact vc_Mo_groupItem_at_k2_10_3 (w_fi ws (n_v vs 0) 5) (w_fi ws (n_v vs 0) 15) (w_fi ws (n_v vs 0) 11) (w_fi ws (n_v vs 0) 12) f7 kz_0_11 kz_0_12 kz_0_15
  have nf4 : fc_1 PRD (20, [14, 4], [30, 0, 1, 0, 0, -1, 1, 11]) ws (vs ++ [Value.int x]) := by
    refine ⟨nf_inA hl rfl, sgq_1395 ?_⟩
    · show 1 * v_iv (n_v (vs ++ [Value.int x]) 14) + ((-1) * w_fi ws (n_v (vs ++ [Value.int x]) 4) 11 + 0) ≤ 0
      simp only [e_4, e_14, q4]
      exact vc_Mo_groupItem_at_k2_10_4 (v_iv (n_v vs 3)) (v_iv (n_v vs 12)) (w_fi ws (n_v vs 0) 5) (w_fi ws (n_v vs 0) 15) (w_fi ws (n_v vs 0) 11) (v_iv (Value.int x)) k3 k12 f0 f6 f8 kz_0_11 kz_0_15 ex2
  have nf5 : fc_1 PRD (20, [4, 14], [50, 3, 0, 8, 12, 11, 3, 7, 0, 2, 0, 1, 2, 0, 8, 3, 7, 1, 3, 2, 0, 12, 0, 0, 0, 6, 4, 2, 1, 1, 0, 1, 2, 0, 11]) ws (vs ++ [Value.int x]) := by
    refine ⟨nf_inA hl rfl, sgq_1660 ?_⟩
    · show (1 ≤ w_fi ws (n_v (vs ++ [Value.int x]) 4) 8) ∨ ((w_fi ws (n_v (vs ++ [Value.int x]) 4) 12 = 0) ∨ ((v_iv (n_v (vs ++ [Value.int x]) 14) + 1) ≤ w_fi ws (n_v (vs ++ [Value.int x]) 4) 11))
      simp only [e_4, e_14, q4]
      exact vc_Mo_groupItem_at_k2_10_5 (v_iv (n_v vs 3)) (v_iv (n_v vs 12)) (w_fi ws (n_v vs 0) 5) (w_fi ws (n_v vs 0) 15) (w_fi ws (n_v vs 0) 11) (w_fi ws (n_v vs 0) 12) (w_fi ws (n_v vs 0) 8) (v_iv (Value.int x)) k3 k12 f0 f6 f8 kz_0_8 kz_0_11 kz_0_12 kz_0_15 ex2
  exact ⟨(fun _ h => (by cases h)), [Value.int x], ag_one hx, List.forall_mem_cons.mpr ⟨⟨show (23 : Nat) < 100 from by decide, nf0⟩, List.forall_mem_cons.mpr ⟨⟨show (23 : Nat) < 100 from by decide, nf1⟩, List.forall_mem_cons.mpr ⟨⟨show (20 : Nat) < 100 from by decide, nf2⟩, List.forall_mem_cons.mpr ⟨⟨show (20 : Nat) < 100 from by decide, nf3⟩, List.forall_mem_cons.mpr ⟨⟨show (20 : Nat) < 100 from by decide, nf4⟩, List.forall_mem_cons.mpr ⟨⟨show (20 : Nat) < 100 from by decide, nf5⟩, (fun _ h => (by cases h))⟩⟩⟩⟩⟩⟩, (fun _ h => (by cases h))⟩
set_option maxHeartbeats 4000000 in
theorem vc_Mo_groupItem_at_k2_11_0 (r_0 : Int) (from_0 : Int) (pos_0 : Int) (f8 : 1 * from_0 + ((-1) * pos_0 + 0) ≤ 0) (kz_0_11 : 0 ≤ pos_0 ∧ pos_0 ≤ 2000) (kz_0_15 : 0 ≤ from_0 ∧ from_0 ≤ 2000) : 1 * from_0 + ((-1) * pos_0 + 0) ≤ 0 := by
  first
    | omega
    | (have q1 := (hE_0_2_1 (r_0 + 2) (by omega)).2 (by omega)
       have q2 := (hE_0_2_2 (r_0 + 2) (by omega)).2 (by omega)
       omega)
    | (have q1 := (hE_0_2_1 (r_0 + 1) (by omega)).2 (by omega)
       have q2 := (hE_0_2_2 (r_0 + 1) (by omega)).2 (by omega)
       omega)
    | (have q1 := (hE_0_2_1 (r_0 + 2) (by omega)).2 (by omega)
       omega)
    | (have q1 := (hE_0_2_1 (r_0 + 1) (by omega)).2 (by omega)
       omega)
    | (have q1 := (hE_0_2_1 (r_0 + 2) (by omega)).2 (by omega)
       have q2 := (hE_0_2_2 (r_0 + 2) (by omega)).2 (by omega)
       have q3 := (hE_0_2_3 (r_0 + 2) (by omega)).1 (by omega)
       omega)
    | (have q1 := (hE_0_2_1 (r_0 + 2) (by omega)).2 (by omega)
       have q2 := (hE_0_2_2 (r_0 + 2) (by omega)).2 (by omega)
       have q3 := (hE_0_2_3 (r_0 + 2) (by omega)).2 (by omega)
       omega)
    | (have q1 := (hE_0_2_1 (r_0 + 2) (by omega)).2 (by omega)
       have q2 := (hE_0_2_2 (r_0 + 2) (by omega)).2 (by omega)
       have q3 := (hE_0_2_3 (r_0 + 2) (by omega)).1 (by omega)
       have q4 : x13 = r_0 + 2 := by omega
       rw [q4] at h34
       omega)
set_option maxHeartbeats 4000000 in
theorem vc_Mo_groupItem_at_k2_11_1 (r_0 : Int) (from_0 : Int) (pos_0 : Int) (kind_0 : Int) (f9 : ((kind_0 = 1) → (pos_0 ≤ (from_0 + 8))) ∧ ((kind_0 = 0) ∨ ((from_0 + 1) ≤ pos_0))) (kz_0_11 : 0 ≤ pos_0 ∧ pos_0 ≤ 2000) (kz_0_12 : 0 ≤ kind_0 ∧ kind_0 ≤ 4) (kz_0_15 : 0 ≤ from_0 ∧ from_0 ≤ 2000) : ((kind_0 = 1) → (pos_0 ≤ (from_0 + 8))) ∧ ((kind_0 = 0) ∨ ((from_0 + 1) ≤ pos_0)) := by
  first
    | omega
    | (have q1 := (hE_0_2_1 (r_0 + 2) (by omega)).2 (by omega)
       have q2 := (hE_0_2_2 (r_0 + 2) (by omega)).2 (by omega)
       omega)
    | (have q1 := (hE_0_2_1 (r_0 + 1) (by omega)).2 (by omega)
       have q2 := (hE_0_2_2 (r_0 + 1) (by omega)).2 (by omega)
       omega)
    | (have q1 := (hE_0_2_1 (r_0 + 2) (by omega)).2 (by omega)
       omega)
    | (have q1 := (hE_0_2_1 (r_0 + 1) (by omega)).2 (by omega)
       omega)
    | (have q1 := (hE_0_2_1 (r_0 + 2) (by omega)).2 (by omega)
       have q2 := (hE_0_2_2 (r_0 + 2) (by omega)).2 (by omega)
       have q3 := (hE_0_2_3 (r_0 + 2) (by omega)).1 (by omega)
       omega)
    | (have q1 := (hE_0_2_1 (r_0 + 2) (by omega)).2 (by omega)
       have q2 := (hE_0_2_2 (r_0 + 2) (by omega)).2 (by omega)
       have q3 := (hE_0_2_3 (r_0 + 2) (by omega)).2 (by omega)
       omega)
    | (have q1 := (hE_0_2_1 (r_0 + 2) (by omega)).2 (by omega)
       have q2 := (hE_0_2_2 (r_0 + 2) (by omega)).2 (by omega)
       have q3 := (hE_0_2_3 (r_0 + 2) (by omega)).1 (by omega)
       have q4 : x13 = r_0 + 2 := by omega
       rw [q4] at h34
       omega)
set_option maxHeartbeats 4000000 in
theorem vc_Mo_groupItem_at_k2_11_2 (x3 : Int) (x14 : Int) (r_0 : Int) (pos_0 : Int) (fault_0 : Int) (gx : Int) (k3 : 0 ≤ x3 ∧ x3 ≤ 2000) (k14 : 0 ≤ x14 ∧ x14 ≤ 2000) (f0 : 1 * x14 + ((-1) * x3 + 0) ≤ 0) (f1 : (-1) * x14 + (1 * x3 + 0) ≤ 0) (f10 : 1 * x14 + ((-1) * pos_0 + 0) ≤ 0) (kz_0_8 : 0 ≤ fault_0 ∧ fault_0 ≤ 5) (kz_0_11 : 0 ≤ pos_0 ∧ pos_0 ≤ 2000) (ex2 : gx = 2005 + ((-1) * pos_0 + ((-1) * fault_0 + 0))) : 1 * x3 + ((-1) * pos_0 + 0) ≤ 0 := by
  first
    | omega
    | (have q1 := (hE_0_2_1 (r_0 + 2) (by omega)).2 (by omega)
       have q2 := (hE_0_2_2 (r_0 + 2) (by omega)).2 (by omega)
       omega)
    | (have q1 := (hE_0_2_1 (r_0 + 1) (by omega)).2 (by omega)
       have q2 := (hE_0_2_2 (r_0 + 1) (by omega)).2 (by omega)
       omega)
    | (have q1 := (hE_0_2_1 (r_0 + 2) (by omega)).2 (by omega)
       omega)
    | (have q1 := (hE_0_2_1 (r_0 + 1) (by omega)).2 (by omega)
       omega)
    | (have q1 := (hE_0_2_1 (r_0 + 2) (by omega)).2 (by omega)
       have q2 := (hE_0_2_2 (r_0 + 2) (by omega)).2 (by omega)
       have q3 := (hE_0_2_3 (r_0 + 2) (by omega)).1 (by omega)
       omega)
    | (have q1 := (hE_0_2_1 (r_0 + 2) (by omega)).2 (by omega)
       have q2 := (hE_0_2_2 (r_0 + 2) (by omega)).2 (by omega)
       have q3 := (hE_0_2_3 (r_0 + 2) (by omega)).2 (by omega)
       omega)
    | (have q1 := (hE_0_2_1 (r_0 + 2) (by omega)).2 (by omega)
       have q2 := (hE_0_2_2 (r_0 + 2) (by omega)).2 (by omega)
       have q3 := (hE_0_2_3 (r_0 + 2) (by omega)).1 (by omega)
       have q4 : x13 = r_0 + 2 := by omega
       rw [q4] at h34
       omega)
set_option maxHeartbeats 4000000 in
theorem vc_Mo_groupItem_at_k2_11_3 (x3 : Int) (x14 : Int) (r_0 : Int) (pos_0 : Int) (fault_0 : Int) (gx : Int) (k3 : 0 ≤ x3 ∧ x3 ≤ 2000) (k14 : 0 ≤ x14 ∧ x14 ≤ 2000) (f0 : 1 * x14 + ((-1) * x3 + 0) ≤ 0) (f1 : (-1) * x14 + (1 * x3 + 0) ≤ 0) (f10 : 1 * x14 + ((-1) * pos_0 + 0) ≤ 0) (f11 : (1 ≤ fault_0) ∨ ((x14 + 1) ≤ pos_0)) (kz_0_8 : 0 ≤ fault_0 ∧ fault_0 ≤ 5) (kz_0_11 : 0 ≤ pos_0 ∧ pos_0 ≤ 2000) (ex2 : gx = 2005 + ((-1) * pos_0 + ((-1) * fault_0 + 0))) : (1 ≤ fault_0) ∨ ((x3 + 1) ≤ pos_0) := by
  first
    | omega
    | (have q1 := (hE_0_2_1 (r_0 + 2) (by omega)).2 (by omega)
       have q2 := (hE_0_2_2 (r_0 + 2) (by omega)).2 (by omega)
       omega)
    | (have q1 := (hE_0_2_1 (r_0 + 1) (by omega)).2 (by omega)
       have q2 := (hE_0_2_2 (r_0 + 1) (by omega)).2 (by omega)
       omega)
    | (have q1 := (hE_0_2_1 (r_0 + 2) (by omega)).2 (by omega)
       omega)
    | (have q1 := (hE_0_2_1 (r_0 + 1) (by omega)).2 (by omega)
       omega)
    | (have q1 := (hE_0_2_1 (r_0 + 2) (by omega)).2 (by omega)
       have q2 := (hE_0_2_2 (r_0 + 2) (by omega)).2 (by omega)
       have q3 := (hE_0_2_3 (r_0 + 2) (by omega)).1 (by omega)
       omega)
    | (have q1 := (hE_0_2_1 (r_0 + 2) (by omega)).2 (by omega)
       have q2 := (hE_0_2_2 (r_0 + 2) (by omega)).2 (by omega)
       have q3 := (hE_0_2_3 (r_0 + 2) (by omega)).2 (by omega)
       omega)
    | (have q1 := (hE_0_2_1 (r_0 + 2) (by omega)).2 (by omega)
       have q2 := (hE_0_2_2 (r_0 + 2) (by omega)).2 (by omega)
       have q3 := (hE_0_2_3 (r_0 + 2) (by omega)).1 (by omega)
       have q4 : x13 = r_0 + 2 := by omega
       rw [q4] at h34
       omega)
set_option maxHeartbeats 4000000 in
theorem vc_Mo_groupItem_at_k2_11_4 (x7 : Int) (all_0 : Int → Int) (r_0 : Int) (k7 : 0 ≤ x7 ∧ x7 ≤ 7) (f3 : (x7 + 1) ≤ all_0 ((r_0 + 2))) : (x7 + 1) ≤ all_0 ((r_0 + 2)) := by
  first
    | omega
    | (have q1 := (hE_0_2_1 (r_0 + 2) (by omega)).2 (by omega)
       have q2 := (hE_0_2_2 (r_0 + 2) (by omega)).2 (by omega)
       omega)
    | (have q1 := (hE_0_2_1 (r_0 + 1) (by omega)).2 (by omega)
       have q2 := (hE_0_2_2 (r_0 + 1) (by omega)).2 (by omega)
       omega)
    | (have q1 := (hE_0_2_1 (r_0 + 2) (by omega)).2 (by omega)
       omega)
    | (have q1 := (hE_0_2_1 (r_0 + 1) (by omega)).2 (by omega)
       omega)
    | (have q1 := (hE_0_2_1 (r_0 + 2) (by omega)).2 (by omega)
       have q2 := (hE_0_2_2 (r_0 + 2) (by omega)).2 (by omega)
       have q3 := (hE_0_2_3 (r_0 + 2) (by omega)).1 (by omega)
       omega)
    | (have q1 := (hE_0_2_1 (r_0 + 2) (by omega)).2 (by omega)
       have q2 := (hE_0_2_2 (r_0 + 2) (by omega)).2 (by omega)
       have q3 := (hE_0_2_3 (r_0 + 2) (by omega)).2 (by omega)
       omega)
    | (have q1 := (hE_0_2_1 (r_0 + 2) (by omega)).2 (by omega)
       have q2 := (hE_0_2_2 (r_0 + 2) (by omega)).2 (by omega)
       have q3 := (hE_0_2_3 (r_0 + 2) (by omega)).1 (by omega)
       have q4 : x13 = r_0 + 2 := by omega
       rw [q4] at h34
       omega)
set_option maxHeartbeats 4000000 in
theorem vc_Mo_groupItem_at_k2_11_5 (x1 : Int) (x7 : Int) (r_0 : Int) (k1 : 0 ≤ x1 ∧ x1 ≤ 7) (k7 : 0 ≤ x7 ∧ x7 ≤ 7) (f19 : 1 * x1 + ((-1) * x7 + 0) ≤ (-1)) : 1 * x1 + ((-1) * x7 + 0) ≤ (-1) := by
  first
    | omega
    | (have q1 := (hE_0_2_1 (r_0 + 2) (by omega)).2 (by omega)
       have q2 := (hE_0_2_2 (r_0 + 2) (by omega)).2 (by omega)
       omega)
    | (have q1 := (hE_0_2_1 (r_0 + 1) (by omega)).2 (by omega)
       have q2 := (hE_0_2_2 (r_0 + 1) (by omega)).2 (by omega)
       omega)
    | (have q1 := (hE_0_2_1 (r_0 + 2) (by omega)).2 (by omega)
       omega)
    | (have q1 := (hE_0_2_1 (r_0 + 1) (by omega)).2 (by omega)
       omega)
    | (have q1 := (hE_0_2_1 (r_0 + 2) (by omega)).2 (by omega)
       have q2 := (hE_0_2_2 (r_0 + 2) (by omega)).2 (by omega)
       have q3 := (hE_0_2_3 (r_0 + 2) (by omega)).1 (by omega)
       omega)
    | (have q1 := (hE_0_2_1 (r_0 + 2) (by omega)).2 (by omega)
       have q2 := (hE_0_2_2 (r_0 + 2) (by omega)).2 (by omega)
       have q3 := (hE_0_2_3 (r_0 + 2) (by omega)).2 (by omega)
       omega)
    | (have q1 := (hE_0_2_1 (r_0 + 2) (by omega)).2 (by omega)
       have q2 := (hE_0_2_2 (r_0 + 2) (by omega)).2 (by omega)
       have q3 := (hE_0_2_3 (r_0 + 2) (by omega)).1 (by omega)
       have q4 : x13 = r_0 + 2 := by omega
       rw [q4] at h34
       omega)
set_option maxHeartbeats 4000000 in
theorem vc_Mo_groupItem_at_k2_11_6 (all_0 : Int → Int) (r_0 : Int) (now_0 : Int → Int) (latest_0 : Int → Int) (f5 : RWS (r_0) (all_0) (now_0) (latest_0)) : RWS (r_0) (all_0) (now_0) (latest_0) := by
  first
    | assumption
set_option maxHeartbeats 4000000 in
theorem vc_Mo_groupItem_at_k2_11_9 (r_0 : Int) (pos_0 : Int) (fault_0 : Int) (gx : Int) (kz_0_8 : 0 ≤ fault_0 ∧ fault_0 ≤ 5) (kz_0_11 : 0 ≤ pos_0 ∧ pos_0 ≤ 2000) (ex2 : gx = 2005 + ((-1) * pos_0 + ((-1) * fault_0 + 0))) : 1 * gx + (1 * pos_0 + (1 * fault_0 + 0)) ≤ 2005 := by
  first
    | omega
    | (have q1 := (hE_0_2_1 (r_0 + 2) (by omega)).2 (by omega)
       have q2 := (hE_0_2_2 (r_0 + 2) (by omega)).2 (by omega)
       omega)
    | (have q1 := (hE_0_2_1 (r_0 + 1) (by omega)).2 (by omega)
       have q2 := (hE_0_2_2 (r_0 + 1) (by omega)).2 (by omega)
       omega)
    | (have q1 := (hE_0_2_1 (r_0 + 2) (by omega)).2 (by omega)
       omega)
    | (have q1 := (hE_0_2_1 (r_0 + 1) (by omega)).2 (by omega)
       omega)
    | (have q1 := (hE_0_2_1 (r_0 + 2) (by omega)).2 (by omega)
       have q2 := (hE_0_2_2 (r_0 + 2) (by omega)).2 (by omega)
       have q3 := (hE_0_2_3 (r_0 + 2) (by omega)).1 (by omega)
       omega)
    | (have q1 := (hE_0_2_1 (r_0 + 2) (by omega)).2 (by omega)
       have q2 := (hE_0_2_2 (r_0 + 2) (by omega)).2 (by omega)
       have q3 := (hE_0_2_3 (r_0 + 2) (by omega)).2 (by omega)
       omega)
    | (have q1 := (hE_0_2_1 (r_0 + 2) (by omega)).2 (by omega)
       have q2 := (hE_0_2_2 (r_0 + 2) (by omega)).2 (by omega)
       have q3 := (hE_0_2_3 (r_0 + 2) (by omega)).1 (by omega)
       have q4 : x13 = r_0 + 2 := by omega
       rw [q4] at h34
       omega)
set_option maxHeartbeats 4000000 in
theorem vc_Mo_groupItem_at_k2_11_10 (r_0 : Int) (pos_0 : Int) (fault_0 : Int) (gx : Int) (kz_0_8 : 0 ≤ fault_0 ∧ fault_0 ≤ 5) (kz_0_11 : 0 ≤ pos_0 ∧ pos_0 ≤ 2000) (ex2 : gx = 2005 + ((-1) * pos_0 + ((-1) * fault_0 + 0))) : (-1) * gx + ((-1) * pos_0 + ((-1) * fault_0 + 0)) ≤ (-2005) := by
  first
    | omega
    | (have q1 := (hE_0_2_1 (r_0 + 2) (by omega)).2 (by omega)
       have q2 := (hE_0_2_2 (r_0 + 2) (by omega)).2 (by omega)
       omega)
    | (have q1 := (hE_0_2_1 (r_0 + 1) (by omega)).2 (by omega)
       have q2 := (hE_0_2_2 (r_0 + 1) (by omega)).2 (by omega)
       omega)
    | (have q1 := (hE_0_2_1 (r_0 + 2) (by omega)).2 (by omega)
       omega)
    | (have q1 := (hE_0_2_1 (r_0 + 1) (by omega)).2 (by omega)
       omega)
    | (have q1 := (hE_0_2_1 (r_0 + 2) (by omega)).2 (by omega)
       have q2 := (hE_0_2_2 (r_0 + 2) (by omega)).2 (by omega)
       have q3 := (hE_0_2_3 (r_0 + 2) (by omega)).1 (by omega)
       omega)
    | (have q1 := (hE_0_2_1 (r_0 + 2) (by omega)).2 (by omega)
       have q2 := (hE_0_2_2 (r_0 + 2) (by omega)).2 (by omega)
       have q3 := (hE_0_2_3 (r_0 + 2) (by omega)).2 (by omega)
       omega)
    | (have q1 := (hE_0_2_1 (r_0 + 2) (by omega)).2 (by omega)
       have q2 := (hE_0_2_2 (r_0 + 2) (by omega)).2 (by omega)
       have q3 := (hE_0_2_3 (r_0 + 2) (by omega)).1 (by omega)
       have q4 : x13 = r_0 + 2 := by omega
       rw [q4] at h34
       omega)
def o_Mo_groupItem_at_k2_11 : or_T := (170, 15, [(0, (2, 0, 0, [165])), (1, (0, 0, 7, [])), (3, (0, 0, 2000, [])), (7, (0, 0, 7, [])), (14, (0, 0, 2000, []))], [(23, [14, 3], [0, 1, -1]), (23, [14, 3], [0, -1, 1]), (20, [7, 4], [50, 1, 1, 1005, 1002, 0, 6, 4, 2, 1, 0, 0, 1, 3, 1, 2, 4, 3, 2, 1, 5, 0, 2]), (20, [4], [60, 1, 3, 199, 5, 2, 3, 4]), (24, [0, 4], []), (24, [1, 5], []), (20, [4, 4], [30, 0, 1, 1, 15, -1, 1, 11]), (20, [4], [50, 3, 0, 12, 11, 15, 2, 21, 4, 7, 1, 3, 2, 0, 12, 0, 1, 0, 3, 2, 0, 11, 4, 3, 2, 0, 15, 0, 8, 3, 7, 1, 3, 2, 0, 12, 0, 0, 0, 7, 4, 3, 2, 0, 15, 0, 1, 2, 0, 11]), (20, [14, 4], [30, 0, 1, 0, 0, -1, 1, 11]), (20, [4, 14], [50, 2, 0, 8, 11, 3, 7, 0, 2, 0, 1, 2, 0, 8, 0, 6, 4, 2, 1, 1, 0, 1, 2, 0, 11]), (102, [14], [0, 165008, 165009, 165011, 165012, 165013, 165014, 165015]), (102, [12], [0, 165011, 165012, 165013, 165014, 165015]), (23, [5, 7], [-1, 1, -1])], [], [(0, 0, 2005, [])], [(20, [4, 4], [30, 0, 1, 1, 15, -1, 1, 11]), (20, [4], [50, 3, 0, 12, 11, 15, 2, 21, 4, 7, 1, 3, 2, 0, 12, 0, 1, 0, 3, 2, 0, 11, 4, 3, 2, 0, 15, 0, 8, 3, 7, 1, 3, 2, 0, 12, 0, 0, 0, 7, 4, 3, 2, 0, 15, 0, 1, 2, 0, 11]), (20, [3, 4], [30, 0, 1, 0, 0, -1, 1, 11]), (20, [4, 3], [50, 2, 0, 8, 11, 3, 7, 0, 2, 0, 1, 2, 0, 8, 0, 6, 4, 2, 1, 1, 0, 1, 2, 0, 11]), (20, [7, 4], [50, 1, 1, 1005, 1002, 0, 6, 4, 2, 1, 0, 0, 1, 3, 1, 2, 4, 3, 2, 1, 5, 0, 2]), (23, [5, 7], [-1, 1, -1]), (20, [4], [60, 1, 3, 199, 5, 2, 3, 4]), (24, [0, 4], []), (24, [1, 5], []), (20, [15, 4, 4], [30, 2005, 1, 0, 0, 1, 1, 11, 1, 1, 8]), (20, [15, 4, 4], [30, -2005, -1, 0, 0, -1, 1, 11, -1, 1, 8])], [], [])
theorem oo_Mo_groupItem_at_k2_11 {kA : Nat → ClassId} : or_ok PRD kA GG o_Mo_groupItem_at_k2_11 := by
  refine or_mk fun A ta ws vs hD hth hl => ?_
  intro t0 r0 t1 k1 t3 k3 t7 k7 t14 k14 f0 f1 f3 f5 f6 f7 f8 f9 f10 f11 ta1 w1 le1 s1 ta2 w2 le2 s2 f19
  replace f0 := shm_7 f0
  replace f1 := shm_22 f1
  replace f3 := shm_981 f3
  replace f5 := shm_952 f5
  replace f6 := shm_5 f6
  replace f7 := shm_5 f7
  replace f8 := shm_1397 f8
  replace f9 := shm_1398 f9
  replace f10 := shm_1395 f10
  replace f11 := shm_1659 f11
  replace f19 := shm_211 f19
  have q4 : n_v vs 4 = n_v vs 0 := f6.symm
  have q5 : n_v vs 5 = n_v vs 1 := f7.symm
  simp only [q4, q5] at f3 f5 f8 f9 f10 f11 f19
  have kz_0_8 := fdq_14 hD hth r0
  have kz_0_11 := fdq_273 hD hth r0
  have kz_0_12 := fdq_186 hD hth r0
  have kz_0_15 := fdq_274 hD hth r0
  obtain ⟨x, ex, hx⟩ := iv_ex (ta := ta) (lo := 0) (hi := 2005) (z := 2005 + ((-1) * w_fi ws (n_v vs 0) 11 + ((-1) * w_fi ws (n_v vs 0) 8 + 0))) (by omega) (by omega) (by omega) (by omega)
  have ex2 : v_iv (Value.int x) = 2005 + ((-1) * w_fi ws (n_v vs 0) 11 + ((-1) * w_fi ws (n_v vs 0) 8 + 0)) := ex
  have ex3 : 0 ≤ v_iv (Value.int x) ∧ v_iv (Value.int x) ≤ 2005 := tv_rng hx
  have e_0 : n_v (vs ++ [Value.int x]) 0 = n_v vs 0 := n_v_old (by rw [hl]; decide)
  have e_1 : n_v (vs ++ [Value.int x]) 1 = n_v vs 1 := n_v_old (by rw [hl]; decide)
  have e_3 : n_v (vs ++ [Value.int x]) 3 = n_v vs 3 := n_v_old (by rw [hl]; decide)
  have e_4 : n_v (vs ++ [Value.int x]) 4 = n_v vs 4 := n_v_old (by rw [hl]; decide)
  have e_5 : n_v (vs ++ [Value.int x]) 5 = n_v vs 5 := n_v_old (by rw [hl]; decide)
  have e_7 : n_v (vs ++ [Value.int x]) 7 = n_v vs 7 := n_v_old (by rw [hl]; decide)
  have e_15 : n_v (vs ++ [Value.int x]) 15 = Value.int x := n_v_new hl
  have nf0 : fc_1 PRD (20, [4, 4], [30, 0, 1, 1, 15, -1, 1, 11]) ws (vs ++ [Value.int x]) := by
    refine ⟨nf_inA hl rfl, sgq_1397 ?_⟩
    · show 1 * w_fi ws (n_v (vs ++ [Value.int x]) 4) 15 + ((-1) * w_fi ws (n_v (vs ++ [Value.int x]) 4) 11 + 0) ≤ 0
      simp only [e_4, q4]
      exact vc_Mo_groupItem_at_k2_11_0 (w_fi ws (n_v vs 0) 5) (w_fi ws (n_v vs 0) 15) (w_fi ws (n_v vs 0) 11) f8 kz_0_11 kz_0_15
  have nf1 : fc_1 PRD (20, [4], [50, 3, 0, 12, 11, 15, 2, 21, 4, 7, 1, 3, 2, 0, 12, 0, 1, 0, 3, 2, 0, 11, 4, 3, 2, 0, 15, 0, 8, 3, 7, 1, 3, 2, 0, 12, 0, 0, 0, 7, 4, 3, 2, 0, 15, 0, 1, 2, 0, 11]) ws (vs ++ [Value.int x]) := by
    refine ⟨nf_inA hl rfl, sgq_1398 ?_⟩
    · show ((w_fi ws (n_v (vs ++ [Value.int x]) 4) 12 = 1) → (w_fi ws (n_v (vs ++ [Value.int x]) 4) 11 ≤ (w_fi ws (n_v (vs ++ [Value.int x]) 4) 15 + 8))) ∧ ((w_fi ws (n_v (vs ++ [Value.int x]) 4) 12 = 0) ∨ ((w_fi ws (n_v (vs ++ [Value.int x]) 4) 15 + 1) ≤ w_fi ws (n_v (vs ++ [Value.int x]) 4) 11))
      simp only [e_4, q4]
      exact vc_Mo_groupItem_at_k2_11_1 (w_fi ws (n_v vs 0) 5) (w_fi ws (n_v vs 0) 15) (w_fi ws (n_v vs 0) 11) (w_fi ws (n_v vs 0) 12) f9 kz_0_11 kz_0_12 kz_0_15
  have nf2 : fc_1 PRD (20, [3, 4], [30, 0, 1, 0, 0, -1, 1, 11]) ws (vs ++ [Value.int x]) := by
    refine ⟨nf_inA hl rfl, sgq_1395 ?_⟩
    · show 1 * v_iv (n_v (vs ++ [Value.int x]) 3) + ((-1) * w_fi ws (n_v (vs ++ [Value.int x]) 4) 11 + 0) ≤ 0
      simp only [e_3, e_4, q4]
      exact vc_Mo_groupItem_at_k2_11_2 (v_iv (n_v vs 3)) (v_iv (n_v vs 14)) (w_fi ws (n_v vs 0) 5) (w_fi ws (n_v vs 0) 11) (w_fi ws (n_v vs 0) 8) (v_iv (Value.int x)) k3 k14 f0 f1 f10 kz_0_8 kz_0_11 ex2
  have nf3 : fc_1 PRD (20, [4, 3], [50, 2, 0, 8, 11, 3, 7, 0, 2, 0, 1, 2, 0, 8, 0, 6, 4, 2, 1, 1, 0, 1, 2, 0, 11]) ws (vs ++ [Value.int x]) := by
    refine ⟨nf_inA hl rfl, sgq_1659 ?_⟩
    · show (1 ≤ w_fi ws (n_v (vs ++ [Value.int x]) 4) 8) ∨ ((v_iv (n_v (vs ++ [Value.int x]) 3) + 1) ≤ w_fi ws (n_v (vs ++ [Value.int x]) 4) 11)
      simp only [e_3, e_4, q4]
      exact vc_Mo_groupItem_at_k2_11_3 (v_iv (n_v vs 3)) (v_iv (n_v vs 14)) (w_fi ws (n_v vs 0) 5) (w_fi ws (n_v vs 0) 11) (w_fi ws (n_v vs 0) 8) (v_iv (Value.int x)) k3 k14 f0 f1 f10 f11 kz_0_8 kz_0_11 ex2
  have nf4 : fc_1 PRD (20, [7, 4], [50, 1, 1, 1005, 1002, 0, 6, 4, 2, 1, 0, 0, 1, 3, 1, 2, 4, 3, 2, 1, 5, 0, 2]) ws (vs ++ [Value.int x]) := by
    refine ⟨nf_inA hl rfl, sgq_981 ?_⟩
    · show (v_iv (n_v (vs ++ [Value.int x]) 7) + 1) ≤ w_ei ws (w_ar ws (n_v (vs ++ [Value.int x]) 4) 2) ((w_fi ws (n_v (vs ++ [Value.int x]) 4) 5 + 2))
      simp only [e_4, e_7, q4]
      exact vc_Mo_groupItem_at_k2_11_4 (v_iv (n_v vs 7)) (w_ei ws (w_ar ws (n_v vs 0) 2)) (w_fi ws (n_v vs 0) 5) k7 f3
  have nf5 : fc_1 PRD (23, [5, 7], [-1, 1, -1]) ws (vs ++ [Value.int x]) := by
    refine ⟨nf_inA hl rfl, sgq_211 ?_⟩
    · show 1 * v_iv (n_v (vs ++ [Value.int x]) 5) + ((-1) * v_iv (n_v (vs ++ [Value.int x]) 7) + 0) ≤ (-1)
      simp only [e_5, e_7, q5]
      exact vc_Mo_groupItem_at_k2_11_5 (v_iv (n_v vs 1)) (v_iv (n_v vs 7)) (w_fi ws (n_v vs 0) 5) k1 k7 f19
  have nf6 : fc_1 PRD (20, [4], [60, 1, 3, 199, 5, 2, 3, 4]) ws (vs ++ [Value.int x]) := by
    refine ⟨nf_inA hl rfl, sgq_952 ?_⟩
    · show RWS (w_fi ws (n_v (vs ++ [Value.int x]) 4) 5) (w_ei ws (w_ar ws (n_v (vs ++ [Value.int x]) 4) 2)) (w_ei ws (w_ar ws (n_v (vs ++ [Value.int x]) 4) 3)) (w_ei ws (w_ar ws (n_v (vs ++ [Value.int x]) 4) 4))
      simp only [e_4, q4]
      exact vc_Mo_groupItem_at_k2_11_6 (w_ei ws (w_ar ws (n_v vs 0) 2)) (w_fi ws (n_v vs 0) 5) (w_ei ws (w_ar ws (n_v vs 0) 3)) (w_ei ws (w_ar ws (n_v vs 0) 4)) f5
  have nf7 : fc_1 PRD (24, [0, 4], []) ws (vs ++ [Value.int x]) := by
    refine ⟨nf_inA hl rfl, sgq_5 ?_⟩
    · show n_v (vs ++ [Value.int x]) 0 = n_v (vs ++ [Value.int x]) 4
      first | rfl | simp only [e_0, e_4, q4, q5]
  have nf8 : fc_1 PRD (24, [1, 5], []) ws (vs ++ [Value.int x]) := by
    refine ⟨nf_inA hl rfl, sgq_5 ?_⟩
    · show n_v (vs ++ [Value.int x]) 1 = n_v (vs ++ [Value.int x]) 5
      first | rfl | simp only [e_1, e_5, q4, q5]
  have nf9 : fc_1 PRD (20, [15, 4, 4], [30, 2005, 1, 0, 0, 1, 1, 11, 1, 1, 8]) ws (vs ++ [Value.int x]) := by
    refine ⟨nf_inA hl rfl, sgq_2010 ?_⟩
    · show 1 * v_iv (n_v (vs ++ [Value.int x]) 15) + (1 * w_fi ws (n_v (vs ++ [Value.int x]) 4) 11 + (1 * w_fi ws (n_v (vs ++ [Value.int x]) 4) 8 + 0)) ≤ 2005
      simp only [e_4, e_15, q4]
      exact vc_Mo_groupItem_at_k2_11_9 (w_fi ws (n_v vs 0) 5) (w_fi ws (n_v vs 0) 11) (w_fi ws (n_v vs 0) 8) (v_iv (Value.int x)) kz_0_8 kz_0_11 ex2
  have nf10 : fc_1 PRD (20, [15, 4, 4], [30, -2005, -1, 0, 0, -1, 1, 11, -1, 1, 8]) ws (vs ++ [Value.int x]) := by
    refine ⟨nf_inA hl rfl, sgq_2011 ?_⟩
    · show (-1) * v_iv (n_v (vs ++ [Value.int x]) 15) + ((-1) * w_fi ws (n_v (vs ++ [Value.int x]) 4) 11 + ((-1) * w_fi ws (n_v (vs ++ [Value.int x]) 4) 8 + 0)) ≤ (-2005)
      simp only [e_4, e_15, q4]
      exact vc_Mo_groupItem_at_k2_11_10 (w_fi ws (n_v vs 0) 5) (w_fi ws (n_v vs 0) 11) (w_fi ws (n_v vs 0) 8) (v_iv (Value.int x)) kz_0_8 kz_0_11 ex2
  exact ⟨(fun _ h => (by cases h)), [Value.int x], ag_one hx, List.forall_mem_cons.mpr ⟨⟨show (20 : Nat) < 100 from by decide, nf0⟩, List.forall_mem_cons.mpr ⟨⟨show (20 : Nat) < 100 from by decide, nf1⟩, List.forall_mem_cons.mpr ⟨⟨show (20 : Nat) < 100 from by decide, nf2⟩, List.forall_mem_cons.mpr ⟨⟨show (20 : Nat) < 100 from by decide, nf3⟩, List.forall_mem_cons.mpr ⟨⟨show (20 : Nat) < 100 from by decide, nf4⟩, List.forall_mem_cons.mpr ⟨⟨show (23 : Nat) < 100 from by decide, nf5⟩, List.forall_mem_cons.mpr ⟨⟨show (20 : Nat) < 100 from by decide, nf6⟩, List.forall_mem_cons.mpr ⟨⟨show (24 : Nat) < 100 from by decide, nf7⟩, List.forall_mem_cons.mpr ⟨⟨show (24 : Nat) < 100 from by decide, nf8⟩, List.forall_mem_cons.mpr ⟨⟨show (20 : Nat) < 100 from by decide, nf9⟩, List.forall_mem_cons.mpr ⟨⟨show (20 : Nat) < 100 from by decide, nf10⟩, (fun _ h => (by cases h))⟩⟩⟩⟩⟩⟩⟩⟩⟩⟩⟩, (fun _ h => (by cases h))⟩
set_option maxHeartbeats 4000000 in
theorem vc_Mo_groupItem_at_k2_12_r0 (x8 : Int) (x9 : Int) (x10 : Int) (x11 : Int) (x13 : Int) (r_0 : Int) (from_0 : Int) (pos_0 : Int) (kind_0 : Int) (k8 : 0 ≤ x8 ∧ x8 ≤ 8) (k9 : 1 ≤ x9 ∧ x9 ≤ 2000) (k10 : 0 ≤ x10 ∧ x10 ≤ 2000) (k11 : 1 ≤ x11 ∧ x11 ≤ 2000) (d1 : x11 + (-4294967296) ≤ x8 ∧ x8 ≤ x11 + (-1)) (f4 : x11 = x9 - x10) (g5 : x10 = from_0) (g6 : x9 = pos_0) (f8 : ((kind_0 = 1) → (pos_0 ≤ (from_0 + 8))) ∧ ((kind_0 = 0) ∨ ((from_0 + 1) ≤ pos_0))) (f10 : kind_0 = 1) (kz_0_11 : 0 ≤ pos_0 ∧ pos_0 ≤ 2000) (kz_0_12 : 0 ≤ kind_0 ∧ kind_0 ≤ 4) (kz_0_15 : 0 ≤ from_0 ∧ from_0 ≤ 2000) : 0 ≤ x8 ∧ x8 ≤ 7 := by
  first
    | omega
    | (have q1 := (hE_0_2_1 (r_0 + 2) (by omega)).2 (by omega)
       have q2 := (hE_0_2_2 (r_0 + 2) (by omega)).2 (by omega)
       omega)
    | (have q1 := (hE_0_2_1 (r_0 + 1) (by omega)).2 (by omega)
       have q2 := (hE_0_2_2 (r_0 + 1) (by omega)).2 (by omega)
       omega)
    | (have q1 := (hE_0_2_1 (r_0 + 2) (by omega)).2 (by omega)
       omega)
    | (have q1 := (hE_0_2_1 (r_0 + 1) (by omega)).2 (by omega)
       omega)
    | (have q1 := (hE_0_2_1 (r_0 + 2) (by omega)).2 (by omega)
       have q2 := (hE_0_2_2 (r_0 + 2) (by omega)).2 (by omega)
       have q3 := (hE_0_2_3 (r_0 + 2) (by omega)).1 (by omega)
       omega)
    | (have q1 := (hE_0_2_1 (r_0 + 2) (by omega)).2 (by omega)
       have q2 := (hE_0_2_2 (r_0 + 2) (by omega)).2 (by omega)
       have q3 := (hE_0_2_3 (r_0 + 2) (by omega)).2 (by omega)
       omega)
    | (have q1 := (hE_0_2_1 (r_0 + 2) (by omega)).2 (by omega)
       have q2 := (hE_0_2_2 (r_0 + 2) (by omega)).2 (by omega)
       have q3 := (hE_0_2_3 (r_0 + 2) (by omega)).1 (by omega)
       have q4 : x13 = r_0 + 2 := by omega
       rw [q4] at h34
       omega)
def o_Mo_groupItem_at_k2_12 : or_T := (141, 19, [(0, (2, 0, 0, [165])), (1, (0, 0, 7, [])), (3, (0, 0, 2000, [])), (4, (2, 0, 0, [165])), (5, (0, 0, 7, [])), (7, (0, 0, 7, [])), (8, (0, 0, 8, [])), (9, (0, 1, 2000, [])), (10, (0, 0, 2000, [])), (11, (0, 1, 2000, [])), (12, (2, 0, 0, [167])), (13, (0, 0, 66297, [])), (14, (0, 459, 459, [])), (15, (0, 459, 66756, []))], [(1, [15, 13, 14], []), (9, [13, 4], [5]), (9, [12, 4], [2]), (7, [8, 11], [2]), (2, [11, 9, 10], []), (9, [10, 4], [15]), (9, [9, 4], [11]), (20, [4, 4], [30, 0, 1, 1, 15, -1, 1, 11]), (20, [4], [50, 3, 0, 12, 11, 15, 2, 21, 4, 7, 1, 3, 2, 0, 12, 0, 1, 0, 3, 2, 0, 11, 4, 3, 2, 0, 15, 0, 8, 3, 7, 1, 3, 2, 0, 12, 0, 0, 0, 7, 4, 3, 2, 0, 15, 0, 1, 2, 0, 11]), (20, [3, 4], [30, -1, 1, 0, 0, -1, 1, 11]), (20, [4], [50, 1, 0, 12, 1, 3, 2, 0, 12, 0, 1]), (20, [7, 4], [50, 1, 1, 1005, 1002, 0, 6, 4, 2, 1, 0, 0, 1, 3, 1, 2, 4, 3, 2, 1, 5, 0, 2]), (23, [5, 7], [-1, 1, -1]), (20, [4], [60, 1, 3, 199, 5, 2, 3, 4]), (24, [0, 4], []), (24, [1, 5], [])], [(8, (0, 0, 7, []))], [], [], [], [(15, 13, 459, 459), (8, 11, -4294967296, -1), (11, 9, -2000, 0), (1, 5, -4294967296, 0), (5, 1, -4294967296, 0)])
theorem oo_Mo_groupItem_at_k2_12 {kA : Nat → ClassId} : or_ok PRD kA GG o_Mo_groupItem_at_k2_12 := by
  refine or_mk fun A ta ws vs hD hth hl => ?_
  intro t0 r0 t1 k1 t3 k3 t4 r4 t5 k5 t7 k7 t8 k8 t9 k9 t10 k10 t11 k11 t12 r12 t13 k13 t14 k14 t15 k15 d0 d1 d2 d3 d4 f0 f1 f2 f3 f4 f5 f6 f7 f8 f9 f10 f11 f12 f13 f14 f15
  replace f5 := shm_189 f5
  replace f6 := shm_117 f6
  replace f8 := shm_1398 f8
  replace f10 := shm_1791 f10
  replace f14 := shm_5 f14
  have q4 : n_v vs 4 = n_v vs 0 := f14.symm
  simp only [q4] at f5 f6 f8 f10
  have g5 : v_iv (n_v vs 10) = w_fi ws (n_v vs 0) 15 := congrArg v_iv f5
  have g6 : v_iv (n_v vs 9) = w_fi ws (n_v vs 0) 11 := congrArg v_iv f6
  have kz_0_11 := fdq_273 hD hth r0
  have kz_0_12 := fdq_186 hD hth r0
  have kz_0_15 := fdq_274 hD hth r0
  have hrf0 : 0 ≤ v_iv (n_v vs 8) ∧ v_iv (n_v vs 8) ≤ 7 := vc_Mo_groupItem_at_k2_12_r0 (v_iv (n_v vs 8)) (v_iv (n_v vs 9)) (v_iv (n_v vs 10)) (v_iv (n_v vs 11)) (v_iv (n_v vs 13)) (w_fi ws (n_v vs 0) 5) (w_fi ws (n_v vs 0) 15) (w_fi ws (n_v vs 0) 11) (w_fi ws (n_v vs 0) 12) k8 k9 k10 k11 d1 (shm_14 f4) g5 g6 f8 f10 kz_0_11 kz_0_12 kz_0_15
  have rf8 : tv_ok ta (0, 0, 7, []) (n_v vs 8) := tv_in t8 (by first | omega | grind) (by first | omega | grind)
  refine ⟨List.forall_mem_cons.mpr ⟨rf8, (fun _ h => (by cases h))⟩, [], trivial, ?_, (fun _ h => (by cases h))⟩
  rw [List.append_nil]
  exact (fun _ h => (by cases h))
def o_Mo_groupItem_at_k2_13 : or_T := (153, 22, [(7, (0, 0, 7, [])), (8, (0, 0, 7, [])), (13, (5, 0, 66297, [539])), (14, (0, 459, 459, [])), (15, (0, 459, 66756, [])), (16, (0, 8, 8, [])), (17, (0, 0, 56, [])), (18, (0, 459, 66812, [])), (19, (0, 459, 66819, [])), (21, (0, -1, -1, []))], [(1, [19, 18, 8], []), (1, [18, 15, 17], []), (3, [17, 16, 7], []), (1, [15, 13, 14], [])], [], [], [(18, [19, 21], [1])], [], [(19, 8, 459, 66812), (19, 18, 0, 7), (19, 17, 459, 66763), (19, 15, 0, 63), (19, 13, 459, 522), (18, 17, 459, 66756), (18, 15, 0, 56), (18, 13, 459, 515), (15, 13, 459, 459)])
theorem oo_Mo_groupItem_at_k2_13 {kA : Nat → ClassId} : or_ok PRD kA GG o_Mo_groupItem_at_k2_13 := by
  refine or_mk fun A ta ws vs hD hth hl => ?_
  intro t7 k7 t8 k8 t13 t14 k14 t15 k15 t16 k16 t17 k17 t18 k18 t19 k19 t21 k21 d0 d1 d2 d3 d4 d5 d6 d7 d8 f0 f1 f2 f3
  obtain ⟨k13, q13_⟩ : (0 ≤ v_iv (n_v vs 13) ∧ v_iv (n_v vs 13) ≤ 66297) ∧ ∃ q : Int, v_iv (n_v vs 13) = 539 * q := tv_dvk t13
  obtain ⟨q13, hq13⟩ := q13_
  replace f0 := shm_12 f0
  replace f1 := shm_12 f1
  replace f2 := shm_38 f2
  rw [show v_iv (n_v vs 16) = 8 from by omega] at f2
  replace f3 := shm_12 f3
  have nf0 : fc_1 PRD (18, [19, 21], [1]) ws (vs) := by
    refine ⟨nf_in hl rfl, sgq_1268 ?_⟩
    · show pl_ok 1 (v_iv (n_v vs 19)).toNat (v_iv (n_v vs 21))
      exact pl_in pl_M1 (lo := 459) (hi := 522) (a := (-1)) (b := (-1)) (by decide +kernel) (by omega) (by omega) (by omega) (by omega)
  refine ⟨(fun _ h => (by cases h)), [], trivial, ?_, (fun _ h => (by cases h))⟩
  rw [List.append_nil]
  exact List.forall_mem_cons.mpr ⟨⟨show (18 : Nat) < 100 from by decide, nf0⟩, (fun _ h => (by cases h))⟩
set_option maxHeartbeats 4000000 in
theorem vc_Mo_groupItem_at_k2_14_0 (x7 : Int) (x8 : Int) (x13 : Int) (x15 : Int) (x17 : Int) (x18 : Int) (x19 : Int) (x21 : Int) (x22 : Int) (tape_0 : Int → Int) (limit_0 : Int) (from_0 : Int) (pos_0 : Int) (kind_0 : Int) (tape_1 : Int → Int) (limit_1 : Int) (from_1 : Int) (r_1 : Int) (pos_1 : Int) (kind_1 : Int) (all_1 : Int → Int) (now_1 : Int → Int) (latest_1 : Int → Int) (r_0 : Int) (all_0 : Int → Int) (now_0 : Int → Int) (latest_0 : Int → Int) (k7 : 0 ≤ x7 ∧ x7 ≤ 7) (k8 : 0 ≤ x8 ∧ x8 ≤ 7) (k13 : 0 ≤ x13 ∧ x13 ≤ 66297) (k15 : 459 ≤ x15 ∧ x15 ≤ 66756) (k17 : 0 ≤ x17 ∧ x17 ≤ 56) (k18 : 459 ≤ x18 ∧ x18 ≤ 66812) (k19 : 459 ≤ x19 ∧ x19 ≤ 66819) (k21 : (-1) ≤ x21 ∧ x21 ≤ (-1)) (k22 : 1 ≤ x22 ∧ x22 ≤ 8) (d0 : x8 + 1 ≤ x22 ∧ x22 ≤ x8 + 1) (d9 : x15 + 0 ≤ x19 ∧ x19 ≤ x15 + 63) (d14 : x13 + 459 ≤ x15 ∧ x15 ≤ x13 + 459) (f15 : x19 = x18 + x8) (f16 : x18 = x15 + x17) (f17 : x17 = 8 * x7) (g19 : x13 = r_1) (f28 : (x7 + 1) ≤ all_1 ((r_1 + 2))) (fe_0_5_1 : r_0 = r_1) (fe_0_10_1 : limit_0 = limit_1) (fe_0_11_1 : pos_0 = pos_1) (fe_0_12_1 : kind_0 = kind_1) (fe_0_15_1 : from_0 = from_1) (hE_0_1_1 : ∀ j : Int, tape_0 j = tape_1 j) (hE_0_2_1 : ∀ j : Int, 0 ≤ j → (j = x19 → all_0 j = x21) ∧ (j ≠ x19 → all_0 j = all_1 j)) (hE_0_3_1 : ∀ j : Int, now_0 j = now_1 j) (hE_0_4_1 : ∀ j : Int, latest_0 j = latest_1 j) (kz_0_10 : 0 ≤ limit_0 ∧ limit_0 ≤ 2000) (kz_0_11 : 0 ≤ pos_0 ∧ pos_0 ≤ 2000) (kz_0_12 : 0 ≤ kind_0 ∧ kind_0 ≤ 4) (kz_0_15 : 0 ≤ from_0 ∧ from_0 ≤ 2000) : (x7 + 1) ≤ all_0 ((r_0 + 2)) := by
  subst fe_0_5_1
  subst fe_0_10_1
  subst fe_0_11_1
  subst fe_0_12_1
  subst fe_0_15_1
  have e_hE_0_1_1 := funext hE_0_1_1; subst e_hE_0_1_1
  have e_hE_0_3_1 := funext hE_0_3_1; subst e_hE_0_3_1
  have e_hE_0_4_1 := funext hE_0_4_1; subst e_hE_0_4_1
  first
    | omega
    | (have q1 := (hE_0_2_1 (r_0 + 2) (by omega)).2 (by omega)
       have q2 := (hE_0_2_2 (r_0 + 2) (by omega)).2 (by omega)
       omega)
    | (have q1 := (hE_0_2_1 (r_0 + 1) (by omega)).2 (by omega)
       have q2 := (hE_0_2_2 (r_0 + 1) (by omega)).2 (by omega)
       omega)
    | (have q1 := (hE_0_2_1 (r_0 + 2) (by omega)).2 (by omega)
       omega)
    | (have q1 := (hE_0_2_1 (r_0 + 1) (by omega)).2 (by omega)
       omega)
    | (have q1 := (hE_0_2_1 (r_0 + 2) (by omega)).2 (by omega)
       have q2 := (hE_0_2_2 (r_0 + 2) (by omega)).2 (by omega)
       have q3 := (hE_0_2_3 (r_0 + 2) (by omega)).1 (by omega)
       omega)
    | (have q1 := (hE_0_2_1 (r_0 + 2) (by omega)).2 (by omega)
       have q2 := (hE_0_2_2 (r_0 + 2) (by omega)).2 (by omega)
       have q3 := (hE_0_2_3 (r_0 + 2) (by omega)).2 (by omega)
       omega)
    | (have q1 := (hE_0_2_1 (r_0 + 2) (by omega)).2 (by omega)
       have q2 := (hE_0_2_2 (r_0 + 2) (by omega)).2 (by omega)
       have q3 := (hE_0_2_3 (r_0 + 2) (by omega)).1 (by omega)
       have q4 : x13 = r_0 + 2 := by omega
       rw [q4] at h34
       omega)
set_option maxHeartbeats 4000000 in
theorem vc_Mo_groupItem_at_k2_14_1 (x7 : Int) (x8 : Int) (x13 : Int) (x15 : Int) (x17 : Int) (x18 : Int) (x19 : Int) (x21 : Int) (x22 : Int) (tape_0 : Int → Int) (limit_0 : Int) (from_0 : Int) (pos_0 : Int) (kind_0 : Int) (tape_1 : Int → Int) (limit_1 : Int) (from_1 : Int) (r_1 : Int) (pos_1 : Int) (kind_1 : Int) (all_1 : Int → Int) (now_1 : Int → Int) (latest_1 : Int → Int) (r_0 : Int) (all_0 : Int → Int) (now_0 : Int → Int) (latest_0 : Int → Int) (k7 : 0 ≤ x7 ∧ x7 ≤ 7) (k8 : 0 ≤ x8 ∧ x8 ≤ 7) (k13 : 0 ≤ x13 ∧ x13 ≤ 66297) (k15 : 459 ≤ x15 ∧ x15 ≤ 66756) (k17 : 0 ≤ x17 ∧ x17 ≤ 56) (k18 : 459 ≤ x18 ∧ x18 ≤ 66812) (k19 : 459 ≤ x19 ∧ x19 ≤ 66819) (k21 : (-1) ≤ x21 ∧ x21 ≤ (-1)) (k22 : 1 ≤ x22 ∧ x22 ≤ 8) (d0 : x8 + 1 ≤ x22 ∧ x22 ≤ x8 + 1) (d9 : x15 + 0 ≤ x19 ∧ x19 ≤ x15 + 63) (d14 : x13 + 459 ≤ x15 ∧ x15 ≤ x13 + 459) (f15 : x19 = x18 + x8) (f16 : x18 = x15 + x17) (f17 : x17 = 8 * x7) (g19 : x13 = r_1) (f30 : RWS (r_1) (all_1) (now_1) (latest_1)) (fe_0_5_1 : r_0 = r_1) (fe_0_10_1 : limit_0 = limit_1) (fe_0_11_1 : pos_0 = pos_1) (fe_0_12_1 : kind_0 = kind_1) (fe_0_15_1 : from_0 = from_1) (hE_0_1_1 : ∀ j : Int, tape_0 j = tape_1 j) (hE_0_2_1 : ∀ j : Int, 0 ≤ j → (j = x19 → all_0 j = x21) ∧ (j ≠ x19 → all_0 j = all_1 j)) (hE_0_3_1 : ∀ j : Int, now_0 j = now_1 j) (hE_0_4_1 : ∀ j : Int, latest_0 j = latest_1 j) (kz_0_10 : 0 ≤ limit_0 ∧ limit_0 ≤ 2000) (kz_0_11 : 0 ≤ pos_0 ∧ pos_0 ≤ 2000) (kz_0_12 : 0 ≤ kind_0 ∧ kind_0 ≤ 4) (kz_0_15 : 0 ≤ from_0 ∧ from_0 ≤ 2000) : RWS (r_0) (all_0) (now_0) (latest_0) := by
  subst fe_0_5_1
  subst fe_0_10_1
  subst fe_0_11_1
  subst fe_0_12_1
  subst fe_0_15_1
  have e_hE_0_1_1 := funext hE_0_1_1; subst e_hE_0_1_1
  have e_hE_0_3_1 := funext hE_0_3_1; subst e_hE_0_3_1
  have e_hE_0_4_1 := funext hE_0_4_1; subst e_hE_0_4_1
  first
    | assumption
    | (have hr := rws_r ‹RWS _ _ _ _›
       exact rws_off (rws_off (rws_off ‹RWS _ _ _ _› (by assumption) (by omega)) (by assumption) (by omega)) (by assumption) (by omega))
    | (have hr := rws_r ‹RWS _ _ _ _›
       exact rws_off ‹RWS _ _ _ _› (by assumption) (by omega))
def o_Mo_groupItem_at_k2_14 : or_T := (108, 23, [(0, (2, 0, 0, [165])), (1, (0, 0, 7, [])), (3, (0, 0, 2000, [])), (4, (2, 0, 0, [165])), (5, (0, 0, 7, [])), (7, (0, 0, 7, [])), (8, (0, 0, 7, [])), (9, (0, 1, 2000, [])), (10, (0, 0, 2000, [])), (11, (0, 1, 2000, [])), (12, (2, 0, 0, [167])), (13, (0, 0, 66297, [])), (14, (0, 459, 459, [])), (15, (0, 459, 66756, [])), (16, (0, 8, 8, [])), (17, (0, 0, 56, [])), (18, (0, 459, 66812, [])), (19, (0, 459, 66819, [])), (20, (0, 0, 2007, [])), (21, (0, -1, -1, [])), (22, (0, 1, 8, []))], [(6, [22, 8], [1]), (20, [20, 4, 21], [50, 1, 1, 1010, 1001, 4, 11, 0, 6, 4, 2, 1, 0, 0, 1, 2, 1, 10, 1, 2, 1, 2, 9, 5, 3, 1, 1, 1, 0, 0, 256]), (20, [4, 20, 21], [50, 1, 0, 10, 4, 7, 0, 3, 2, 0, 10, 1, 1, 1, 2, 1, 2, 0, -1]), (20, [4, 4], [30, 0, 1, 1, 15, -1, 1, 11]), (20, [4], [50, 3, 0, 12, 11, 15, 2, 21, 4, 7, 1, 3, 2, 0, 12, 0, 1, 0, 3, 2, 0, 11, 4, 3, 2, 0, 15, 0, 8, 3, 7, 1, 3, 2, 0, 12, 0, 0, 0, 7, 4, 3, 2, 0, 15, 0, 1, 2, 0, 11]), (20, [3, 4], [30, -1, 1, 0, 0, -1, 1, 11]), (20, [4], [50, 1, 0, 12, 1, 3, 2, 0, 12, 0, 1]), (23, [5, 7], [-1, 1, -1]), (24, [0, 4], []), (24, [1, 5], []), (100, [12, 19, 21], []), (20, [20, 4, 21], [50, 1, 1, 1010, 1001, 4, 11, 0, 6, 4, 2, 1, 0, 0, 1, 2, 1, 10, 1, 2, 1, 2, 9, 5, 3, 1, 1, 1, 0, 0, 256]), (20, [4, 20, 21], [50, 1, 0, 10, 4, 7, 0, 3, 2, 0, 10, 1, 1, 1, 2, 1, 2, 0, -1]), (1, [20, 10, 8], []), (9, [10, 4], [15]), (1, [19, 18, 8], []), (1, [18, 15, 17], []), (3, [17, 16, 7], []), (1, [15, 13, 14], []), (9, [13, 4], [5]), (9, [12, 4], [2]), (7, [8, 11], [2]), (2, [11, 9, 10], []), (9, [9, 4], [11]), (20, [4, 4], [30, 0, 1, 1, 15, -1, 1, 11]), (20, [4], [50, 3, 0, 12, 11, 15, 2, 21, 4, 7, 1, 3, 2, 0, 12, 0, 1, 0, 3, 2, 0, 11, 4, 3, 2, 0, 15, 0, 8, 3, 7, 1, 3, 2, 0, 12, 0, 0, 0, 7, 4, 3, 2, 0, 15, 0, 1, 2, 0, 11]), (20, [3, 4], [30, -1, 1, 0, 0, -1, 1, 11]), (20, [4], [50, 1, 0, 12, 1, 3, 2, 0, 12, 0, 1]), (20, [7, 4], [50, 1, 1, 1005, 1002, 0, 6, 4, 2, 1, 0, 0, 1, 3, 1, 2, 4, 3, 2, 1, 5, 0, 2]), (23, [5, 7], [-1, 1, -1]), (20, [4], [60, 1, 3, 199, 5, 2, 3, 4])], [], [], [(20, [7, 4], [50, 1, 1, 1005, 1002, 0, 6, 4, 2, 1, 0, 0, 1, 3, 1, 2, 4, 3, 2, 1, 5, 0, 2]), (20, [4], [60, 1, 3, 199, 5, 2, 3, 4])], [], [(22, 8, 1, 1), (22, 11, -4294967296, 0), (20, 8, 0, 2000), (20, 11, -4294967296, 1999), (20, 10, 0, 7), (19, 8, 459, 66812), (19, 11, -4294967296, 66811), (19, 18, 0, 7), (19, 17, 459, 66763), (19, 15, 0, 63), (19, 13, 459, 522), (18, 17, 459, 66756), (18, 15, 0, 56), (18, 13, 459, 515), (15, 13, 459, 459), (8, 11, -4294967296, -1), (11, 9, -2000, 0), (1, 5, -4294967296, 0), (5, 1, -4294967296, 0)])
theorem oo_Mo_groupItem_at_k2_14 {kA : Nat → ClassId} : or_ok PRD kA GG o_Mo_groupItem_at_k2_14 := by
  refine or_mk fun A ta ws vs hD hth hl => ?_
  intro t0 r0 t1 k1 t3 k3 t4 r4 t5 k5 t7 k7 t8 k8 t9 k9 t10 k10 t11 k11 t12 r12 t13 k13 t14 k14 t15 k15 t16 k16 t17 k17 t18 k18 t19 k19 t20 k20 t21 k21 t22 k22 d0 d1 d2 d3 d4 d5 d6 d7 d8 d9 d10 d11 d12 d13 d14 d15 d16 d17 d18 f0 f1 f2 f3 f4 f5 f6 f7 f8 f9 ta1 w1 le1 s1 f11 f12 f13 f14 f15 f16 f17 f18 f19 f20 f21 f22 f23 f24 f25 f26 f27 f28 f29 f30
  replace f0 := shm_4 f0
  replace f1 := shm_535 f1
  replace f2 := shm_536 f2
  replace f3 := shm_1397 f3
  replace f4 := shm_1398 f4
  replace f5 := shm_1891 f5
  replace f6 := shm_1791 f6
  replace f7 := shm_211 f7
  replace f8 := shm_5 f8
  replace f9 := shm_5 f9
  have s1 : (∀ b j, w_el ws b j = if b = v_ad (n_v vs 12) ∧ j = (v_iv (n_v vs 19)).toNat then v_iv (n_v vs 21) else w_el w1 b j) ∧ ∀ b k, w_fd ws b k = w_fd w1 b k := s1.2
  replace f11 := shm_535 f11
  replace f12 := shm_536 f12
  replace f13 := shm_12 f13
  replace f14 := shm_189 f14
  replace f15 := shm_12 f15
  replace f16 := shm_12 f16
  replace f17 := shm_38 f17
  rw [show v_iv (n_v vs 16) = 8 from by omega] at f17
  replace f18 := shm_12 f18
  replace f19 := shm_109 f19
  replace f20 := shm_129 f20
  replace f21 := shm_6 f21
  replace f22 := shm_14 f22
  replace f23 := shm_117 f23
  replace f24 := shm_1397 f24
  replace f25 := shm_1398 f25
  replace f26 := shm_1891 f26
  replace f27 := shm_1791 f27
  replace f28 := shm_981 f28
  replace f29 := shm_211 f29
  replace f30 := shm_952 f30
  have q4 : n_v vs 4 = n_v vs 0 := f8.symm
  have q5 : n_v vs 5 = n_v vs 1 := f9.symm
  simp only [q4, q5] at f1 f2 f3 f4 f5 f6 f7 f11 f12 f14 f19 f20 f23 f24 f25 f26 f27 f28 f29 f30
  have ar_0_1_1 : w_ar w1 (n_v vs 0) 1 = w_ar ws (n_v vs 0) 1 := congrArg v_ad (s1.2 _ _).symm
  have cr_0_1 := fdq_46 hD hth r0
  have ar_0_2_1 : w_ar w1 (n_v vs 0) 2 = w_ar ws (n_v vs 0) 2 := congrArg v_ad (s1.2 _ _).symm
  have cr_0_2 := fdq_12 hD hth r0
  have ar_0_3_1 : w_ar w1 (n_v vs 0) 3 = w_ar ws (n_v vs 0) 3 := congrArg v_ad (s1.2 _ _).symm
  have cr_0_3 := fdq_141 hD hth r0
  have ar_0_4_1 : w_ar w1 (n_v vs 0) 4 = w_ar ws (n_v vs 0) 4 := congrArg v_ad (s1.2 _ _).symm
  have cr_0_4 := fdq_142 hD hth r0
  have ad_12 : v_ad (n_v vs 12) = w_ar ws (n_v vs 0) 2 := (congrArg v_ad f20).trans ar_0_2_1
  simp only [ar_0_1_1] at f11
  have g14 : v_iv (n_v vs 10) = w_fi w1 (n_v vs 0) 15 := congrArg v_iv f14
  have g19 : v_iv (n_v vs 13) = w_fi w1 (n_v vs 0) 5 := congrArg v_iv f19
  have g23 : v_iv (n_v vs 9) = w_fi w1 (n_v vs 0) 11 := congrArg v_iv f23
  simp only [ar_0_2_1, ar_0_3_1, ar_0_4_1] at f28 f30
  have fe_0_5_1 : w_fi ws (n_v vs 0) 5 = w_fi w1 (n_v vs 0) 5 := congrArg v_iv (s1.2 _ _)
  have fe_0_10_1 : w_fi ws (n_v vs 0) 10 = w_fi w1 (n_v vs 0) 10 := congrArg v_iv (s1.2 _ _)
  have fe_0_11_1 : w_fi ws (n_v vs 0) 11 = w_fi w1 (n_v vs 0) 11 := congrArg v_iv (s1.2 _ _)
  have fe_0_12_1 : w_fi ws (n_v vs 0) 12 = w_fi w1 (n_v vs 0) 12 := congrArg v_iv (s1.2 _ _)
  have fe_0_15_1 : w_fi ws (n_v vs 0) 15 = w_fi w1 (n_v vs 0) 15 := congrArg v_iv (s1.2 _ _)
  have hE_0_1_1 : ∀ j : Int, w_ei ws (w_ar ws (n_v vs 0) 1) j = w_ei w1 (w_ar ws (n_v vs 0) 1) j := el_kp s1.1 r12 cr_0_1 (by decide)
  have hK_0_1 := elq_6 hD hth cr_0_1
  have hE_0_2_1 : ∀ j : Int, 0 ≤ j → (j = v_iv (n_v vs 19) → w_ei ws (w_ar ws (n_v vs 0) 2) j = v_iv (n_v vs 21)) ∧ (j ≠ v_iv (n_v vs 19) → w_ei ws (w_ar ws (n_v vs 0) 2) j = w_ei w1 (w_ar ws (n_v vs 0) 2) j) := fun j hj => ⟨fun h => by unfold w_ei; rw [s1.1, if_pos ⟨ad_12.symm, by rw [h]⟩], fun h => by unfold w_ei; rw [s1.1, if_neg (fun e => h (by have := e.2; omega))]⟩
  have hE_0_3_1 : ∀ j : Int, w_ei ws (w_ar ws (n_v vs 0) 3) j = w_ei w1 (w_ar ws (n_v vs 0) 3) j := el_kp s1.1 r12 cr_0_3 (by decide)
  have hK_0_3 := elq_77 hD hth cr_0_3
  have hE_0_4_1 : ∀ j : Int, w_ei ws (w_ar ws (n_v vs 0) 4) j = w_ei w1 (w_ar ws (n_v vs 0) 4) j := el_kp s1.1 r12 cr_0_4 (by decide)
  have hK_0_4 := elq_78 hD hth cr_0_4
  have kz_0_10 := fdq_50 hD hth r0
  have kz_0_11 := fdq_273 hD hth r0
  have kz_0_12 := fdq_186 hD hth r0
  have kz_0_15 := fdq_274 hD hth r0
  first | have hJ0 : w_ei w1 (w_ar ws (n_v vs 0) 2) ((w_fi w1 (n_v vs 0) 5 + 2)) = w_ei w1 (w_ar ws (n_v vs 0) 2) ((w_fi ws (n_v vs 0) 5 + 2)) := congrArg _ (show ((w_fi w1 (n_v vs 0) 5 + 2) : Int) = (w_fi ws (n_v vs 0) 5 + 2) from by omega) | skip
  have hI1 := hE_0_1_1 (v_iv (n_v vs 20))
  first | have hI2 := (hE_0_2_1 ((w_fi ws (n_v vs 0) 5 + 2)) (by omega)).2 (by omega) | have hI2 := (hE_0_2_1 ((w_fi ws (n_v vs 0) 5 + 2)) (by omega)).1 (by omega) | skip
  have nf0 : fc_1 PRD (20, [7, 4], [50, 1, 1, 1005, 1002, 0, 6, 4, 2, 1, 0, 0, 1, 3, 1, 2, 4, 3, 2, 1, 5, 0, 2]) ws (vs) := by
    refine ⟨nf_in hl rfl, sgq_981 ?_⟩
    · show (v_iv (n_v vs 7) + 1) ≤ w_ei ws (w_ar ws (n_v vs 4) 2) ((w_fi ws (n_v vs 4) 5 + 2))
      rw [q4]
      exact vc_Mo_groupItem_at_k2_14_0 (v_iv (n_v vs 7)) (v_iv (n_v vs 8)) (v_iv (n_v vs 13)) (v_iv (n_v vs 15)) (v_iv (n_v vs 17)) (v_iv (n_v vs 18)) (v_iv (n_v vs 19)) (v_iv (n_v vs 21)) (v_iv (n_v vs 22)) (w_ei ws (w_ar ws (n_v vs 0) 1)) (w_fi ws (n_v vs 0) 10) (w_fi ws (n_v vs 0) 15) (w_fi ws (n_v vs 0) 11) (w_fi ws (n_v vs 0) 12) (w_ei w1 (w_ar ws (n_v vs 0) 1)) (w_fi w1 (n_v vs 0) 10) (w_fi w1 (n_v vs 0) 15) (w_fi w1 (n_v vs 0) 5) (w_fi w1 (n_v vs 0) 11) (w_fi w1 (n_v vs 0) 12) (w_ei w1 (w_ar ws (n_v vs 0) 2)) (w_ei w1 (w_ar ws (n_v vs 0) 3)) (w_ei w1 (w_ar ws (n_v vs 0) 4)) (w_fi ws (n_v vs 0) 5) (w_ei ws (w_ar ws (n_v vs 0) 2)) (w_ei ws (w_ar ws (n_v vs 0) 3)) (w_ei ws (w_ar ws (n_v vs 0) 4)) k7 k8 k13 k15 k17 k18 k19 k21 k22 d0 d9 d14 f15 f16 f17 g19 f28 fe_0_5_1 fe_0_10_1 fe_0_11_1 fe_0_12_1 fe_0_15_1 hE_0_1_1 hE_0_2_1 hE_0_3_1 hE_0_4_1 kz_0_10 kz_0_11 kz_0_12 kz_0_15
  have nf1 : fc_1 PRD (20, [4], [60, 1, 3, 199, 5, 2, 3, 4]) ws (vs) := by
    refine ⟨nf_in hl rfl, sgq_952 ?_⟩
    · show RWS (w_fi ws (n_v vs 4) 5) (w_ei ws (w_ar ws (n_v vs 4) 2)) (w_ei ws (w_ar ws (n_v vs 4) 3)) (w_ei ws (w_ar ws (n_v vs 4) 4))
      rw [q4]
      exact vc_Mo_groupItem_at_k2_14_1 (v_iv (n_v vs 7)) (v_iv (n_v vs 8)) (v_iv (n_v vs 13)) (v_iv (n_v vs 15)) (v_iv (n_v vs 17)) (v_iv (n_v vs 18)) (v_iv (n_v vs 19)) (v_iv (n_v vs 21)) (v_iv (n_v vs 22)) (w_ei ws (w_ar ws (n_v vs 0) 1)) (w_fi ws (n_v vs 0) 10) (w_fi ws (n_v vs 0) 15) (w_fi ws (n_v vs 0) 11) (w_fi ws (n_v vs 0) 12) (w_ei w1 (w_ar ws (n_v vs 0) 1)) (w_fi w1 (n_v vs 0) 10) (w_fi w1 (n_v vs 0) 15) (w_fi w1 (n_v vs 0) 5) (w_fi w1 (n_v vs 0) 11) (w_fi w1 (n_v vs 0) 12) (w_ei w1 (w_ar ws (n_v vs 0) 2)) (w_ei w1 (w_ar ws (n_v vs 0) 3)) (w_ei w1 (w_ar ws (n_v vs 0) 4)) (w_fi ws (n_v vs 0) 5) (w_ei ws (w_ar ws (n_v vs 0) 2)) (w_ei ws (w_ar ws (n_v vs 0) 3)) (w_ei ws (w_ar ws (n_v vs 0) 4)) k7 k8 k13 k15 k17 k18 k19 k21 k22 d0 d9 d14 f15 f16 f17 g19 f30 fe_0_5_1 fe_0_10_1 fe_0_11_1 fe_0_12_1 fe_0_15_1 hE_0_1_1 hE_0_2_1 hE_0_3_1 hE_0_4_1 kz_0_10 kz_0_11 kz_0_12 kz_0_15
  refine ⟨(fun _ h => (by cases h)), [], trivial, ?_, (fun _ h => (by cases h))⟩
  rw [List.append_nil]
  exact List.forall_mem_cons.mpr ⟨⟨show (20 : Nat) < 100 from by decide, nf0⟩, List.forall_mem_cons.mpr ⟨⟨show (20 : Nat) < 100 from by decide, nf1⟩, (fun _ h => (by cases h))⟩⟩
def o_Mo_groupItem_at_k2_15 : or_T := (153, 22, [(7, (0, 0, 7, [])), (8, (0, 0, 7, [])), (13, (5, 0, 66297, [539])), (14, (0, 459, 459, [])), (15, (0, 459, 66756, [])), (16, (0, 8, 8, [])), (17, (0, 0, 56, [])), (18, (0, 459, 66812, [])), (19, (0, 459, 66819, [])), (21, (0, 0, 255, []))], [(1, [19, 18, 8], []), (1, [18, 15, 17], []), (3, [17, 16, 7], []), (1, [15, 13, 14], [])], [], [], [(18, [19, 21], [1])], [], [(19, 8, 459, 66812), (19, 18, 0, 7), (19, 17, 459, 66763), (19, 15, 0, 63), (19, 13, 459, 522), (18, 17, 459, 66756), (18, 15, 0, 56), (18, 13, 459, 515), (15, 13, 459, 459)])
theorem oo_Mo_groupItem_at_k2_15 {kA : Nat → ClassId} : or_ok PRD kA GG o_Mo_groupItem_at_k2_15 := by
  refine or_mk fun A ta ws vs hD hth hl => ?_
  intro t7 k7 t8 k8 t13 t14 k14 t15 k15 t16 k16 t17 k17 t18 k18 t19 k19 t21 k21 d0 d1 d2 d3 d4 d5 d6 d7 d8 f0 f1 f2 f3
  obtain ⟨k13, q13_⟩ : (0 ≤ v_iv (n_v vs 13) ∧ v_iv (n_v vs 13) ≤ 66297) ∧ ∃ q : Int, v_iv (n_v vs 13) = 539 * q := tv_dvk t13
  obtain ⟨q13, hq13⟩ := q13_
  replace f0 := shm_12 f0
  replace f1 := shm_12 f1
  replace f2 := shm_38 f2
  rw [show v_iv (n_v vs 16) = 8 from by omega] at f2
  replace f3 := shm_12 f3
  have nf0 : fc_1 PRD (18, [19, 21], [1]) ws (vs) := by
    refine ⟨nf_in hl rfl, sgq_1268 ?_⟩
    · show pl_ok 1 (v_iv (n_v vs 19)).toNat (v_iv (n_v vs 21))
      exact pl_in pl_M1 (lo := 459) (hi := 522) (a := 0) (b := 255) (by decide +kernel) (by omega) (by omega) (by omega) (by omega)
  refine ⟨(fun _ h => (by cases h)), [], trivial, ?_, (fun _ h => (by cases h))⟩
  rw [List.append_nil]
  exact List.forall_mem_cons.mpr ⟨⟨show (18 : Nat) < 100 from by decide, nf0⟩, (fun _ h => (by cases h))⟩
set_option maxHeartbeats 4000000 in
theorem vc_Mo_groupItem_at_k2_16_0 (x7 : Int) (x8 : Int) (x13 : Int) (x15 : Int) (x17 : Int) (x18 : Int) (x19 : Int) (x21 : Int) (x22 : Int) (tape_0 : Int → Int) (limit_0 : Int) (from_0 : Int) (pos_0 : Int) (kind_0 : Int) (tape_1 : Int → Int) (limit_1 : Int) (from_1 : Int) (r_1 : Int) (pos_1 : Int) (kind_1 : Int) (all_1 : Int → Int) (now_1 : Int → Int) (latest_1 : Int → Int) (r_0 : Int) (all_0 : Int → Int) (now_0 : Int → Int) (latest_0 : Int → Int) (k7 : 0 ≤ x7 ∧ x7 ≤ 7) (k8 : 0 ≤ x8 ∧ x8 ≤ 7) (k13 : 0 ≤ x13 ∧ x13 ≤ 66297) (k15 : 459 ≤ x15 ∧ x15 ≤ 66756) (k17 : 0 ≤ x17 ∧ x17 ≤ 56) (k18 : 459 ≤ x18 ∧ x18 ≤ 66812) (k19 : 459 ≤ x19 ∧ x19 ≤ 66819) (k21 : 0 ≤ x21 ∧ x21 ≤ 255) (k22 : 1 ≤ x22 ∧ x22 ≤ 8) (d0 : x8 + 1 ≤ x22 ∧ x22 ≤ x8 + 1) (d8 : x15 + 0 ≤ x19 ∧ x19 ≤ x15 + 63) (d13 : x13 + 459 ≤ x15 ∧ x15 ≤ x13 + 459) (f15 : x19 = x18 + x8) (f16 : x18 = x15 + x17) (f17 : x17 = 8 * x7) (g19 : x13 = r_1) (f28 : (x7 + 1) ≤ all_1 ((r_1 + 2))) (fe_0_5_1 : r_0 = r_1) (fe_0_10_1 : limit_0 = limit_1) (fe_0_11_1 : pos_0 = pos_1) (fe_0_12_1 : kind_0 = kind_1) (fe_0_15_1 : from_0 = from_1) (hE_0_1_1 : ∀ j : Int, tape_0 j = tape_1 j) (hE_0_2_1 : ∀ j : Int, 0 ≤ j → (j = x19 → all_0 j = x21) ∧ (j ≠ x19 → all_0 j = all_1 j)) (hE_0_3_1 : ∀ j : Int, now_0 j = now_1 j) (hE_0_4_1 : ∀ j : Int, latest_0 j = latest_1 j) (kz_0_10 : 0 ≤ limit_0 ∧ limit_0 ≤ 2000) (kz_0_11 : 0 ≤ pos_0 ∧ pos_0 ≤ 2000) (kz_0_12 : 0 ≤ kind_0 ∧ kind_0 ≤ 4) (kz_0_15 : 0 ≤ from_0 ∧ from_0 ≤ 2000) : (x7 + 1) ≤ all_0 ((r_0 + 2)) := by
  subst fe_0_5_1
  subst fe_0_10_1
  subst fe_0_11_1
  subst fe_0_12_1
  subst fe_0_15_1
  have e_hE_0_1_1 := funext hE_0_1_1; subst e_hE_0_1_1
  have e_hE_0_3_1 := funext hE_0_3_1; subst e_hE_0_3_1
  have e_hE_0_4_1 := funext hE_0_4_1; subst e_hE_0_4_1
  first
    | omega
    | (have q1 := (hE_0_2_1 (r_0 + 2) (by omega)).2 (by omega)
       have q2 := (hE_0_2_2 (r_0 + 2) (by omega)).2 (by omega)
       omega)
    | (have q1 := (hE_0_2_1 (r_0 + 1) (by omega)).2 (by omega)
       have q2 := (hE_0_2_2 (r_0 + 1) (by omega)).2 (by omega)
       omega)
    | (have q1 := (hE_0_2_1 (r_0 + 2) (by omega)).2 (by omega)
       omega)
    | (have q1 := (hE_0_2_1 (r_0 + 1) (by omega)).2 (by omega)
       omega)
    | (have q1 := (hE_0_2_1 (r_0 + 2) (by omega)).2 (by omega)
       have q2 := (hE_0_2_2 (r_0 + 2) (by omega)).2 (by omega)
       have q3 := (hE_0_2_3 (r_0 + 2) (by omega)).1 (by omega)
       omega)
    | (have q1 := (hE_0_2_1 (r_0 + 2) (by omega)).2 (by omega)
       have q2 := (hE_0_2_2 (r_0 + 2) (by omega)).2 (by omega)
       have q3 := (hE_0_2_3 (r_0 + 2) (by omega)).2 (by omega)
       omega)
    | (have q1 := (hE_0_2_1 (r_0 + 2) (by omega)).2 (by omega)
       have q2 := (hE_0_2_2 (r_0 + 2) (by omega)).2 (by omega)
       have q3 := (hE_0_2_3 (r_0 + 2) (by omega)).1 (by omega)
       have q4 : x13 = r_0 + 2 := by omega
       rw [q4] at h34
       omega)
set_option maxHeartbeats 4000000 in
theorem vc_Mo_groupItem_at_k2_16_1 (x7 : Int) (x8 : Int) (x13 : Int) (x15 : Int) (x17 : Int) (x18 : Int) (x19 : Int) (x21 : Int) (x22 : Int) (tape_0 : Int → Int) (limit_0 : Int) (from_0 : Int) (pos_0 : Int) (kind_0 : Int) (tape_1 : Int → Int) (limit_1 : Int) (from_1 : Int) (r_1 : Int) (pos_1 : Int) (kind_1 : Int) (all_1 : Int → Int) (now_1 : Int → Int) (latest_1 : Int → Int) (r_0 : Int) (all_0 : Int → Int) (now_0 : Int → Int) (latest_0 : Int → Int) (k7 : 0 ≤ x7 ∧ x7 ≤ 7) (k8 : 0 ≤ x8 ∧ x8 ≤ 7) (k13 : 0 ≤ x13 ∧ x13 ≤ 66297) (k15 : 459 ≤ x15 ∧ x15 ≤ 66756) (k17 : 0 ≤ x17 ∧ x17 ≤ 56) (k18 : 459 ≤ x18 ∧ x18 ≤ 66812) (k19 : 459 ≤ x19 ∧ x19 ≤ 66819) (k21 : 0 ≤ x21 ∧ x21 ≤ 255) (k22 : 1 ≤ x22 ∧ x22 ≤ 8) (d0 : x8 + 1 ≤ x22 ∧ x22 ≤ x8 + 1) (d8 : x15 + 0 ≤ x19 ∧ x19 ≤ x15 + 63) (d13 : x13 + 459 ≤ x15 ∧ x15 ≤ x13 + 459) (f15 : x19 = x18 + x8) (f16 : x18 = x15 + x17) (f17 : x17 = 8 * x7) (g19 : x13 = r_1) (f30 : RWS (r_1) (all_1) (now_1) (latest_1)) (fe_0_5_1 : r_0 = r_1) (fe_0_10_1 : limit_0 = limit_1) (fe_0_11_1 : pos_0 = pos_1) (fe_0_12_1 : kind_0 = kind_1) (fe_0_15_1 : from_0 = from_1) (hE_0_1_1 : ∀ j : Int, tape_0 j = tape_1 j) (hE_0_2_1 : ∀ j : Int, 0 ≤ j → (j = x19 → all_0 j = x21) ∧ (j ≠ x19 → all_0 j = all_1 j)) (hE_0_3_1 : ∀ j : Int, now_0 j = now_1 j) (hE_0_4_1 : ∀ j : Int, latest_0 j = latest_1 j) (kz_0_10 : 0 ≤ limit_0 ∧ limit_0 ≤ 2000) (kz_0_11 : 0 ≤ pos_0 ∧ pos_0 ≤ 2000) (kz_0_12 : 0 ≤ kind_0 ∧ kind_0 ≤ 4) (kz_0_15 : 0 ≤ from_0 ∧ from_0 ≤ 2000) : RWS (r_0) (all_0) (now_0) (latest_0) := by
  subst fe_0_5_1
  subst fe_0_10_1
  subst fe_0_11_1
  subst fe_0_12_1
  subst fe_0_15_1
  have e_hE_0_1_1 := funext hE_0_1_1; subst e_hE_0_1_1
  have e_hE_0_3_1 := funext hE_0_3_1; subst e_hE_0_3_1
  have e_hE_0_4_1 := funext hE_0_4_1; subst e_hE_0_4_1
  first
    | assumption
    | (have hr := rws_r ‹RWS _ _ _ _›
       exact rws_off (rws_off (rws_off ‹RWS _ _ _ _› (by assumption) (by omega)) (by assumption) (by omega)) (by assumption) (by omega))
    | (have hr := rws_r ‹RWS _ _ _ _›
       exact rws_off ‹RWS _ _ _ _› (by assumption) (by omega))
def o_Mo_groupItem_at_k2_16 : or_T := (108, 23, [(0, (2, 0, 0, [165])), (1, (0, 0, 7, [])), (3, (0, 0, 2000, [])), (4, (2, 0, 0, [165])), (5, (0, 0, 7, [])), (7, (0, 0, 7, [])), (8, (0, 0, 7, [])), (9, (0, 1, 2000, [])), (10, (0, 0, 1999, [])), (11, (0, 1, 2000, [])), (12, (2, 0, 0, [167])), (13, (0, 0, 66297, [])), (14, (0, 459, 459, [])), (15, (0, 459, 66756, [])), (16, (0, 8, 8, [])), (17, (0, 0, 56, [])), (18, (0, 459, 66812, [])), (19, (0, 459, 66819, [])), (20, (0, 0, 1999, [])), (21, (0, 0, 255, [])), (22, (0, 1, 8, []))], [(6, [22, 8], [1]), (20, [20, 4, 21], [50, 1, 1, 1010, 1001, 4, 11, 0, 6, 4, 2, 1, 0, 0, 1, 2, 1, 10, 1, 2, 1, 2, 9, 5, 3, 1, 1, 1, 0, 0, 256]), (20, [4, 20, 21], [50, 1, 0, 10, 4, 7, 0, 3, 2, 0, 10, 1, 1, 1, 2, 1, 2, 0, -1]), (20, [4, 4], [30, 0, 1, 1, 15, -1, 1, 11]), (20, [4], [50, 3, 0, 12, 11, 15, 2, 21, 4, 7, 1, 3, 2, 0, 12, 0, 1, 0, 3, 2, 0, 11, 4, 3, 2, 0, 15, 0, 8, 3, 7, 1, 3, 2, 0, 12, 0, 0, 0, 7, 4, 3, 2, 0, 15, 0, 1, 2, 0, 11]), (20, [3, 4], [30, -1, 1, 0, 0, -1, 1, 11]), (20, [4], [50, 1, 0, 12, 1, 3, 2, 0, 12, 0, 1]), (23, [5, 7], [-1, 1, -1]), (24, [0, 4], []), (24, [1, 5], []), (100, [12, 19, 21], []), (20, [20, 4, 21], [50, 1, 1, 1010, 1001, 4, 11, 0, 6, 4, 2, 1, 0, 0, 1, 2, 1, 10, 1, 2, 1, 2, 9, 5, 3, 1, 1, 1, 0, 0, 256]), (20, [4, 20, 21], [50, 1, 0, 10, 4, 7, 0, 3, 2, 0, 10, 1, 1, 1, 2, 1, 2, 0, -1]), (1, [20, 10, 8], []), (9, [10, 4], [15]), (1, [19, 18, 8], []), (1, [18, 15, 17], []), (3, [17, 16, 7], []), (1, [15, 13, 14], []), (9, [13, 4], [5]), (9, [12, 4], [2]), (7, [8, 11], [2]), (2, [11, 9, 10], []), (9, [9, 4], [11]), (20, [4, 4], [30, 0, 1, 1, 15, -1, 1, 11]), (20, [4], [50, 3, 0, 12, 11, 15, 2, 21, 4, 7, 1, 3, 2, 0, 12, 0, 1, 0, 3, 2, 0, 11, 4, 3, 2, 0, 15, 0, 8, 3, 7, 1, 3, 2, 0, 12, 0, 0, 0, 7, 4, 3, 2, 0, 15, 0, 1, 2, 0, 11]), (20, [3, 4], [30, -1, 1, 0, 0, -1, 1, 11]), (20, [4], [50, 1, 0, 12, 1, 3, 2, 0, 12, 0, 1]), (20, [7, 4], [50, 1, 1, 1005, 1002, 0, 6, 4, 2, 1, 0, 0, 1, 3, 1, 2, 4, 3, 2, 1, 5, 0, 2]), (23, [5, 7], [-1, 1, -1]), (20, [4], [60, 1, 3, 199, 5, 2, 3, 4])], [], [], [(20, [7, 4], [50, 1, 1, 1005, 1002, 0, 6, 4, 2, 1, 0, 0, 1, 3, 1, 2, 4, 3, 2, 1, 5, 0, 2]), (20, [4], [60, 1, 3, 199, 5, 2, 3, 4])], [], [(22, 8, 1, 1), (22, 11, -4294967296, 0), (20, 8, 0, 2000), (20, 10, 0, 7), (19, 8, 459, 66812), (19, 11, -4294967296, 66811), (19, 18, 0, 7), (19, 17, 459, 66763), (19, 15, 0, 63), (19, 13, 459, 522), (18, 17, 459, 66756), (18, 15, 0, 56), (18, 13, 459, 515), (15, 13, 459, 459), (8, 11, -4294967296, -1), (11, 9, -2000, 0), (1, 5, -4294967296, 0), (5, 1, -4294967296, 0)])
theorem oo_Mo_groupItem_at_k2_16 {kA : Nat → ClassId} : or_ok PRD kA GG o_Mo_groupItem_at_k2_16 := by
  refine or_mk fun A ta ws vs hD hth hl => ?_
  intro t0 r0 t1 k1 t3 k3 t4 r4 t5 k5 t7 k7 t8 k8 t9 k9 t10 k10 t11 k11 t12 r12 t13 k13 t14 k14 t15 k15 t16 k16 t17 k17 t18 k18 t19 k19 t20 k20 t21 k21 t22 k22 d0 d1 d2 d3 d4 d5 d6 d7 d8 d9 d10 d11 d12 d13 d14 d15 d16 d17 f0 f1 f2 f3 f4 f5 f6 f7 f8 f9 ta1 w1 le1 s1 f11 f12 f13 f14 f15 f16 f17 f18 f19 f20 f21 f22 f23 f24 f25 f26 f27 f28 f29 f30
  replace f0 := shm_4 f0
  replace f1 := shm_535 f1
  replace f2 := shm_536 f2
  replace f3 := shm_1397 f3
  replace f4 := shm_1398 f4
  replace f5 := shm_1891 f5
  replace f6 := shm_1791 f6
  replace f7 := shm_211 f7
  replace f8 := shm_5 f8
  replace f9 := shm_5 f9
  have s1 : (∀ b j, w_el ws b j = if b = v_ad (n_v vs 12) ∧ j = (v_iv (n_v vs 19)).toNat then v_iv (n_v vs 21) else w_el w1 b j) ∧ ∀ b k, w_fd ws b k = w_fd w1 b k := s1.2
  replace f11 := shm_535 f11
  replace f12 := shm_536 f12
  replace f13 := shm_12 f13
  replace f14 := shm_189 f14
  replace f15 := shm_12 f15
  replace f16 := shm_12 f16
  replace f17 := shm_38 f17
  rw [show v_iv (n_v vs 16) = 8 from by omega] at f17
  replace f18 := shm_12 f18
  replace f19 := shm_109 f19
  replace f20 := shm_129 f20
  replace f21 := shm_6 f21
  replace f22 := shm_14 f22
  replace f23 := shm_117 f23
  replace f24 := shm_1397 f24
  replace f25 := shm_1398 f25
  replace f26 := shm_1891 f26
  replace f27 := shm_1791 f27
  replace f28 := shm_981 f28
  replace f29 := shm_211 f29
  replace f30 := shm_952 f30
  have q4 : n_v vs 4 = n_v vs 0 := f8.symm
  have q5 : n_v vs 5 = n_v vs 1 := f9.symm
  simp only [q4, q5] at f1 f2 f3 f4 f5 f6 f7 f11 f12 f14 f19 f20 f23 f24 f25 f26 f27 f28 f29 f30
  have ar_0_1_1 : w_ar w1 (n_v vs 0) 1 = w_ar ws (n_v vs 0) 1 := congrArg v_ad (s1.2 _ _).symm
  have cr_0_1 := fdq_46 hD hth r0
  have ar_0_2_1 : w_ar w1 (n_v vs 0) 2 = w_ar ws (n_v vs 0) 2 := congrArg v_ad (s1.2 _ _).symm
  have cr_0_2 := fdq_12 hD hth r0
  have ar_0_3_1 : w_ar w1 (n_v vs 0) 3 = w_ar ws (n_v vs 0) 3 := congrArg v_ad (s1.2 _ _).symm
  have cr_0_3 := fdq_141 hD hth r0
  have ar_0_4_1 : w_ar w1 (n_v vs 0) 4 = w_ar ws (n_v vs 0) 4 := congrArg v_ad (s1.2 _ _).symm
  have cr_0_4 := fdq_142 hD hth r0
  have ad_12 : v_ad (n_v vs 12) = w_ar ws (n_v vs 0) 2 := (congrArg v_ad f20).trans ar_0_2_1
  simp only [ar_0_1_1] at f11
  have g14 : v_iv (n_v vs 10) = w_fi w1 (n_v vs 0) 15 := congrArg v_iv f14
  have g19 : v_iv (n_v vs 13) = w_fi w1 (n_v vs 0) 5 := congrArg v_iv f19
  have g23 : v_iv (n_v vs 9) = w_fi w1 (n_v vs 0) 11 := congrArg v_iv f23
  simp only [ar_0_2_1, ar_0_3_1, ar_0_4_1] at f28 f30
  have fe_0_5_1 : w_fi ws (n_v vs 0) 5 = w_fi w1 (n_v vs 0) 5 := congrArg v_iv (s1.2 _ _)
  have fe_0_10_1 : w_fi ws (n_v vs 0) 10 = w_fi w1 (n_v vs 0) 10 := congrArg v_iv (s1.2 _ _)
  have fe_0_11_1 : w_fi ws (n_v vs 0) 11 = w_fi w1 (n_v vs 0) 11 := congrArg v_iv (s1.2 _ _)
  have fe_0_12_1 : w_fi ws (n_v vs 0) 12 = w_fi w1 (n_v vs 0) 12 := congrArg v_iv (s1.2 _ _)
  have fe_0_15_1 : w_fi ws (n_v vs 0) 15 = w_fi w1 (n_v vs 0) 15 := congrArg v_iv (s1.2 _ _)
  have hE_0_1_1 : ∀ j : Int, w_ei ws (w_ar ws (n_v vs 0) 1) j = w_ei w1 (w_ar ws (n_v vs 0) 1) j := el_kp s1.1 r12 cr_0_1 (by decide)
  have hK_0_1 := elq_6 hD hth cr_0_1
  have hE_0_2_1 : ∀ j : Int, 0 ≤ j → (j = v_iv (n_v vs 19) → w_ei ws (w_ar ws (n_v vs 0) 2) j = v_iv (n_v vs 21)) ∧ (j ≠ v_iv (n_v vs 19) → w_ei ws (w_ar ws (n_v vs 0) 2) j = w_ei w1 (w_ar ws (n_v vs 0) 2) j) := fun j hj => ⟨fun h => by unfold w_ei; rw [s1.1, if_pos ⟨ad_12.symm, by rw [h]⟩], fun h => by unfold w_ei; rw [s1.1, if_neg (fun e => h (by have := e.2; omega))]⟩
  have hE_0_3_1 : ∀ j : Int, w_ei ws (w_ar ws (n_v vs 0) 3) j = w_ei w1 (w_ar ws (n_v vs 0) 3) j := el_kp s1.1 r12 cr_0_3 (by decide)
  have hK_0_3 := elq_77 hD hth cr_0_3
  have hE_0_4_1 : ∀ j : Int, w_ei ws (w_ar ws (n_v vs 0) 4) j = w_ei w1 (w_ar ws (n_v vs 0) 4) j := el_kp s1.1 r12 cr_0_4 (by decide)
  have hK_0_4 := elq_78 hD hth cr_0_4
  have kz_0_10 := fdq_50 hD hth r0
  have kz_0_11 := fdq_273 hD hth r0
  have kz_0_12 := fdq_186 hD hth r0
  have kz_0_15 := fdq_274 hD hth r0
  first | have hJ0 : w_ei w1 (w_ar ws (n_v vs 0) 2) ((w_fi w1 (n_v vs 0) 5 + 2)) = w_ei w1 (w_ar ws (n_v vs 0) 2) ((w_fi ws (n_v vs 0) 5 + 2)) := congrArg _ (show ((w_fi w1 (n_v vs 0) 5 + 2) : Int) = (w_fi ws (n_v vs 0) 5 + 2) from by omega) | skip
  have hI1 := hE_0_1_1 (v_iv (n_v vs 20))
  first | have hI2 := (hE_0_2_1 ((w_fi ws (n_v vs 0) 5 + 2)) (by omega)).2 (by omega) | have hI2 := (hE_0_2_1 ((w_fi ws (n_v vs 0) 5 + 2)) (by omega)).1 (by omega) | skip
  have nf0 : fc_1 PRD (20, [7, 4], [50, 1, 1, 1005, 1002, 0, 6, 4, 2, 1, 0, 0, 1, 3, 1, 2, 4, 3, 2, 1, 5, 0, 2]) ws (vs) := by
    refine ⟨nf_in hl rfl, sgq_981 ?_⟩
    · show (v_iv (n_v vs 7) + 1) ≤ w_ei ws (w_ar ws (n_v vs 4) 2) ((w_fi ws (n_v vs 4) 5 + 2))
      rw [q4]
      exact vc_Mo_groupItem_at_k2_16_0 (v_iv (n_v vs 7)) (v_iv (n_v vs 8)) (v_iv (n_v vs 13)) (v_iv (n_v vs 15)) (v_iv (n_v vs 17)) (v_iv (n_v vs 18)) (v_iv (n_v vs 19)) (v_iv (n_v vs 21)) (v_iv (n_v vs 22)) (w_ei ws (w_ar ws (n_v vs 0) 1)) (w_fi ws (n_v vs 0) 10) (w_fi ws (n_v vs 0) 15) (w_fi ws (n_v vs 0) 11) (w_fi ws (n_v vs 0) 12) (w_ei w1 (w_ar ws (n_v vs 0) 1)) (w_fi w1 (n_v vs 0) 10) (w_fi w1 (n_v vs 0) 15) (w_fi w1 (n_v vs 0) 5) (w_fi w1 (n_v vs 0) 11) (w_fi w1 (n_v vs 0) 12) (w_ei w1 (w_ar ws (n_v vs 0) 2)) (w_ei w1 (w_ar ws (n_v vs 0) 3)) (w_ei w1 (w_ar ws (n_v vs 0) 4)) (w_fi ws (n_v vs 0) 5) (w_ei ws (w_ar ws (n_v vs 0) 2)) (w_ei ws (w_ar ws (n_v vs 0) 3)) (w_ei ws (w_ar ws (n_v vs 0) 4)) k7 k8 k13 k15 k17 k18 k19 k21 k22 d0 d8 d13 f15 f16 f17 g19 f28 fe_0_5_1 fe_0_10_1 fe_0_11_1 fe_0_12_1 fe_0_15_1 hE_0_1_1 hE_0_2_1 hE_0_3_1 hE_0_4_1 kz_0_10 kz_0_11 kz_0_12 kz_0_15
  have nf1 : fc_1 PRD (20, [4], [60, 1, 3, 199, 5, 2, 3, 4]) ws (vs) := by
    refine ⟨nf_in hl rfl, sgq_952 ?_⟩
    · show RWS (w_fi ws (n_v vs 4) 5) (w_ei ws (w_ar ws (n_v vs 4) 2)) (w_ei ws (w_ar ws (n_v vs 4) 3)) (w_ei ws (w_ar ws (n_v vs 4) 4))
      rw [q4]
      exact vc_Mo_groupItem_at_k2_16_1 (v_iv (n_v vs 7)) (v_iv (n_v vs 8)) (v_iv (n_v vs 13)) (v_iv (n_v vs 15)) (v_iv (n_v vs 17)) (v_iv (n_v vs 18)) (v_iv (n_v vs 19)) (v_iv (n_v vs 21)) (v_iv (n_v vs 22)) (w_ei ws (w_ar ws (n_v vs 0) 1)) (w_fi ws (n_v vs 0) 10) (w_fi ws (n_v vs 0) 15) (w_fi ws (n_v vs 0) 11) (w_fi ws (n_v vs 0) 12) (w_ei w1 (w_ar ws (n_v vs 0) 1)) (w_fi w1 (n_v vs 0) 10) (w_fi w1 (n_v vs 0) 15) (w_fi w1 (n_v vs 0) 5) (w_fi w1 (n_v vs 0) 11) (w_fi w1 (n_v vs 0) 12) (w_ei w1 (w_ar ws (n_v vs 0) 2)) (w_ei w1 (w_ar ws (n_v vs 0) 3)) (w_ei w1 (w_ar ws (n_v vs 0) 4)) (w_fi ws (n_v vs 0) 5) (w_ei ws (w_ar ws (n_v vs 0) 2)) (w_ei ws (w_ar ws (n_v vs 0) 3)) (w_ei ws (w_ar ws (n_v vs 0) 4)) k7 k8 k13 k15 k17 k18 k19 k21 k22 d0 d8 d13 f15 f16 f17 g19 f30 fe_0_5_1 fe_0_10_1 fe_0_11_1 fe_0_12_1 fe_0_15_1 hE_0_1_1 hE_0_2_1 hE_0_3_1 hE_0_4_1 kz_0_10 kz_0_11 kz_0_12 kz_0_15
  refine ⟨(fun _ h => (by cases h)), [], trivial, ?_, (fun _ h => (by cases h))⟩
  rw [List.append_nil]
  exact List.forall_mem_cons.mpr ⟨⟨show (20 : Nat) < 100 from by decide, nf0⟩, List.forall_mem_cons.mpr ⟨⟨show (20 : Nat) < 100 from by decide, nf1⟩, (fun _ h => (by cases h))⟩⟩
set_option maxHeartbeats 4000000 in
theorem vc_Mo_groupItem_at_k2_17_0 (x3 : Int) (r_0 : Int) (gx : Int) (k3 : 0 ≤ x3 ∧ x3 ≤ 2000) (ex2 : gx = x3) : 1 * gx + ((-1) * x3 + 0) ≤ 0 := by
  first
    | omega
    | (have q1 := (hE_0_2_1 (r_0 + 2) (by omega)).2 (by omega)
       have q2 := (hE_0_2_2 (r_0 + 2) (by omega)).2 (by omega)
       omega)
    | (have q1 := (hE_0_2_1 (r_0 + 1) (by omega)).2 (by omega)
       have q2 := (hE_0_2_2 (r_0 + 1) (by omega)).2 (by omega)
       omega)
    | (have q1 := (hE_0_2_1 (r_0 + 2) (by omega)).2 (by omega)
       omega)
    | (have q1 := (hE_0_2_1 (r_0 + 1) (by omega)).2 (by omega)
       omega)
    | (have q1 := (hE_0_2_1 (r_0 + 2) (by omega)).2 (by omega)
       have q2 := (hE_0_2_2 (r_0 + 2) (by omega)).2 (by omega)
       have q3 := (hE_0_2_3 (r_0 + 2) (by omega)).1 (by omega)
       omega)
    | (have q1 := (hE_0_2_1 (r_0 + 2) (by omega)).2 (by omega)
       have q2 := (hE_0_2_2 (r_0 + 2) (by omega)).2 (by omega)
       have q3 := (hE_0_2_3 (r_0 + 2) (by omega)).2 (by omega)
       omega)
    | (have q1 := (hE_0_2_1 (r_0 + 2) (by omega)).2 (by omega)
       have q2 := (hE_0_2_2 (r_0 + 2) (by omega)).2 (by omega)
       have q3 := (hE_0_2_3 (r_0 + 2) (by omega)).1 (by omega)
       have q4 : x13 = r_0 + 2 := by omega
       rw [q4] at h34
       omega)
set_option maxHeartbeats 4000000 in
theorem vc_Mo_groupItem_at_k2_17_1 (x3 : Int) (r_0 : Int) (gx : Int) (k3 : 0 ≤ x3 ∧ x3 ≤ 2000) (ex2 : gx = x3) : (-1) * gx + (1 * x3 + 0) ≤ 0 := by
  first
    | omega
    | (have q1 := (hE_0_2_1 (r_0 + 2) (by omega)).2 (by omega)
       have q2 := (hE_0_2_2 (r_0 + 2) (by omega)).2 (by omega)
       omega)
    | (have q1 := (hE_0_2_1 (r_0 + 1) (by omega)).2 (by omega)
       have q2 := (hE_0_2_2 (r_0 + 1) (by omega)).2 (by omega)
       omega)
    | (have q1 := (hE_0_2_1 (r_0 + 2) (by omega)).2 (by omega)
       omega)
    | (have q1 := (hE_0_2_1 (r_0 + 1) (by omega)).2 (by omega)
       omega)
    | (have q1 := (hE_0_2_1 (r_0 + 2) (by omega)).2 (by omega)
       have q2 := (hE_0_2_2 (r_0 + 2) (by omega)).2 (by omega)
       have q3 := (hE_0_2_3 (r_0 + 2) (by omega)).1 (by omega)
       omega)
    | (have q1 := (hE_0_2_1 (r_0 + 2) (by omega)).2 (by omega)
       have q2 := (hE_0_2_2 (r_0 + 2) (by omega)).2 (by omega)
       have q3 := (hE_0_2_3 (r_0 + 2) (by omega)).2 (by omega)
       omega)
    | (have q1 := (hE_0_2_1 (r_0 + 2) (by omega)).2 (by omega)
       have q2 := (hE_0_2_2 (r_0 + 2) (by omega)).2 (by omega)
       have q3 := (hE_0_2_3 (r_0 + 2) (by omega)).1 (by omega)
       have q4 : x13 = r_0 + 2 := by omega
       rw [q4] at h34
       omega)
